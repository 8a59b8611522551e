set_option maxRecDepth 20000 in
theorem ggX4_init_X1_init : GoodIn wsX4_init wsX1_init := goodIn_r _ [22, 23, 2, 3, 24, 25, 26, 27, 28, 29, 30, 17, 31, 32, 33, 34, 35, 36, 37, 38, 39, 40, 94, 95, 96, 97, 98, 99, 100, 101, 102, 103] (by decide +kernel) (by decide +kernel)
set_option maxRecDepth 20000 in
theorem gX4_init_X1_init_n9 : GoodIn wsX4_init (wsX1_init) := ggX4_init_X1_init
set_option maxRecDepth 20000 in
theorem ggX4_init_X2_init : GoodIn wsX4_init wsX2_init := goodIn_r _ [42, 43, 2, 3, 17, 44, 45, 111, 112] (by decide +kernel) (by decide +kernel)
set_option maxRecDepth 20000 in
theorem gX4_init_X2_init_n18 : GoodIn wsX4_init (wsX2_init) := ggX4_init_X2_init
set_option maxRecDepth 20000 in
theorem ggX4_init_X3_init : GoodIn wsX4_init wsX3_init := goodIn_r _ [47, 48, 2, 3, 49, 50, 51, 52, 53, 17, 54, 55, 56, 57, 58, 59, 60, 61, 62, 63, 64, 65, 66, 67, 68, 69, 70, 71, 72, 73, 74, 75, 128, 129, 130, 131, 132, 113, 114, 115, 116, 117, 118, 119, 120, 121, 122, 123, 124, 125, 126, 127] (by decide +kernel) (by decide +kernel)
set_option maxRecDepth 20000 in
theorem gX4_init_X3_init_n25 : GoodIn wsX4_init (wsX3_init) := ggX4_init_X3_init
set_option maxRecDepth 20000 in
theorem ggX4_init_X1_lay : GoodIn wsX4_init wsX1_lay := goodIn_r _ [79, 39, 31, 33, 40, 38, 80, 81, 82, 83, 94, 95, 96, 97, 98, 99, 100, 101, 102, 103] (by decide +kernel) (by decide +kernel)
set_option maxRecDepth 20000 in
theorem gX4_init_X1_lay : GoodIn wsX4_init (wsV RX4 44 RX1 yX1_lay wsX1_lay) := goodIn_app (goodIn_of _ (by decide +kernel)) ggX4_init_X1_lay
set_option maxRecDepth 20000 in
theorem ggX4_init_X3_startAnew : GoodIn wsX4_init wsX3_startAnew := goodIn_r _ [87, 54, 55, 56, 52, 88, 53, 57, 58, 59, 89, 81, 82, 83, 90, 91, 92, 51, 93, 73, 74, 113, 114, 115, 116, 117, 118, 119, 120, 121, 122, 123, 124, 125, 126, 127, 128, 129, 130, 131, 132] (by decide +kernel) (by decide +kernel)
set_option maxRecDepth 20000 in
theorem gX4_init_X3_startAnew : GoodIn wsX4_init (wsV RX4 48 RX3 yX3_startAnew wsX3_startAnew) := goodIn_app (goodIn_of _ (by decide +kernel)) ggX4_init_X3_startAnew
theorem dX4_init_0 : decode cX4_init 0 = .ok (.aload_n 0, 1) := by decide +kernel
theorem dX4_init_1 : decode cX4_init 1 = .ok (.invokespecial 1, 3) := by decide +kernel
theorem dX4_init_4 : decode cX4_init 4 = .ok (.aload_n 0, 1) := by decide +kernel
theorem dX4_init_5 : decode cX4_init 5 = .ok (.new 7, 3) := by decide +kernel
theorem dX4_init_8 : decode cX4_init 8 = .ok (.dup, 1) := by decide +kernel
theorem dX4_init_9 : decode cX4_init 9 = .ok (.invokespecial 9, 3) := by decide +kernel
theorem dX4_init_12 : decode cX4_init 12 = .ok (.putfield 10, 3) := by decide +kernel
theorem dX4_init_15 : decode cX4_init 15 = .ok (.aload_n 0, 1) := by decide +kernel
theorem dX4_init_16 : decode cX4_init 16 = .ok (.new 16, 3) := by decide +kernel
theorem dX4_init_19 : decode cX4_init 19 = .ok (.dup, 1) := by decide +kernel
theorem dX4_init_20 : decode cX4_init 20 = .ok (.invokespecial 18, 3) := by decide +kernel
theorem dX4_init_23 : decode cX4_init 23 = .ok (.putfield 19, 3) := by decide +kernel
theorem dX4_init_26 : decode cX4_init 26 = .ok (.aload_n 0, 1) := by decide +kernel
theorem dX4_init_27 : decode cX4_init 27 = .ok (.new 23, 3) := by decide +kernel
theorem dX4_init_30 : decode cX4_init 30 = .ok (.dup, 1) := by decide +kernel
theorem dX4_init_31 : decode cX4_init 31 = .ok (.invokespecial 25, 3) := by decide +kernel
theorem dX4_init_34 : decode cX4_init 34 = .ok (.putfield 26, 3) := by decide +kernel
theorem dX4_init_37 : decode cX4_init 37 = .ok (.aload_n 0, 1) := by decide +kernel
theorem dX4_init_38 : decode cX4_init 38 = .ok (.new 23, 3) := by decide +kernel
theorem dX4_init_41 : decode cX4_init 41 = .ok (.dup, 1) := by decide +kernel
theorem dX4_init_42 : decode cX4_init 42 = .ok (.invokespecial 25, 3) := by decide +kernel
theorem dX4_init_45 : decode cX4_init 45 = .ok (.putfield 30, 3) := by decide +kernel
theorem dX4_init_48 : decode cX4_init 48 = .ok (.aload_n 0, 1) := by decide +kernel
theorem dX4_init_49 : decode cX4_init 49 = .ok (.bipush 8, 2) := by decide +kernel
theorem dX4_init_51 : decode cX4_init 51 = .ok (.newarray .int, 2) := by decide +kernel
theorem dX4_init_53 : decode cX4_init 53 = .ok (.putfield 33, 3) := by decide +kernel
theorem dX4_init_56 : decode cX4_init 56 = .ok (.aload_n 0, 1) := by decide +kernel
theorem dX4_init_57 : decode cX4_init 57 = .ok (.bipush 8, 2) := by decide +kernel
theorem dX4_init_59 : decode cX4_init 59 = .ok (.newarray .int, 2) := by decide +kernel
theorem dX4_init_61 : decode cX4_init 61 = .ok (.putfield 37, 3) := by decide +kernel
theorem dX4_init_64 : decode cX4_init 64 = .ok (.aload_n 0, 1) := by decide +kernel
theorem dX4_init_65 : decode cX4_init 65 = .ok (.iconst 0, 1) := by decide +kernel
theorem dX4_init_66 : decode cX4_init 66 = .ok (.putfield 40, 3) := by decide +kernel
theorem dX4_init_69 : decode cX4_init 69 = .ok (.aload_n 0, 1) := by decide +kernel
theorem dX4_init_70 : decode cX4_init 70 = .ok (.getfield 10, 3) := by decide +kernel
theorem dX4_init_73 : decode cX4_init 73 = .ok (.iconst 4, 1) := by decide +kernel
theorem dX4_init_74 : decode cX4_init 74 = .ok (.invokevirtual 44, 3) := by decide +kernel
theorem dX4_init_77 : decode cX4_init 77 = .ok (.aload_n 0, 1) := by decide +kernel
theorem dX4_init_78 : decode cX4_init 78 = .ok (.getfield 26, 3) := by decide +kernel
theorem dX4_init_81 : decode cX4_init 81 = .ok (.invokevirtual 48, 3) := by decide +kernel
theorem dX4_init_84 : decode cX4_init 84 = .ok (.return_, 1) := by decide +kernel
set_option maxRecDepth 20000 in
theorem ggX4_line_X1_lay : GoodIn wsX4_line wsX1_lay := goodIn_r _ [8, 9, 10, 11, 12, 13, 14, 15, 16, 17, 59, 60, 61, 62, 63, 64, 65, 66, 67, 68] (by decide +kernel) (by decide +kernel)
set_option maxRecDepth 20000 in
theorem gX4_line_X1_lay : GoodIn wsX4_line (wsV RX4 44 RX1 yX1_lay wsX1_lay) := goodIn_app (goodIn_of _ (by decide +kernel)) ggX4_line_X1_lay
set_option maxRecDepth 20000 in
theorem ggX4_line_X2_unbend : GoodIn wsX4_line wsX2_unbend := goodIn_r _ [22, 23, 24, 15, 16, 17, 69, 70] (by decide +kernel) (by decide +kernel)
set_option maxRecDepth 20000 in
theorem gX4_line_X2_unbend : GoodIn wsX4_line (wsV RX4 51 RX2 yX2_unbend wsX2_unbend) := goodIn_app (goodIn_of _ (by decide +kernel)) ggX4_line_X2_unbend
set_option maxRecDepth 20000 in
theorem ggX4_line_X2_mend : GoodIn wsX4_line wsX2_mend := goodIn_r _ [28, 29, 24, 15, 16, 17, 69, 70] (by decide +kernel) (by decide +kernel)
set_option maxRecDepth 20000 in
theorem gX4_line_X2_mend : GoodIn wsX4_line (wsV RX4 54 RX2 yX2_mend wsX2_mend) := goodIn_app (goodIn_of _ (by decide +kernel)) ggX4_line_X2_mend
set_option maxRecDepth 20000 in
theorem ggX4_line_X3_startAnew : GoodIn wsX4_line wsX3_startAnew := goodIn_r _ [34, 35, 36, 37, 38, 39, 40, 41, 42, 43, 44, 15, 16, 17, 45, 46, 47, 48, 49, 50, 51, 71, 72, 73, 74, 75, 76, 77, 78, 79, 80, 81, 82, 83, 84, 85, 86, 87, 88, 89, 90] (by decide +kernel) (by decide +kernel)
set_option maxRecDepth 20000 in
theorem gX4_line_X3_startAnew : GoodIn wsX4_line (wsV RX4 48 RX3 yX3_startAnew wsX3_startAnew) := goodIn_app (goodIn_of _ (by decide +kernel)) ggX4_line_X3_startAnew
theorem dX4_line_0 : decode cX4_line 0 = .ok (.iload_n 1, 1) := by decide +kernel
theorem dX4_line_1 : decode cX4_line 1 = .ok (.iconst 2, 1) := by decide +kernel
theorem dX4_line_2 : decode cX4_line 2 = .ok (.if_icmp .lt 15, 3) := by decide +kernel
theorem dX4_line_5 : decode cX4_line 5 = .ok (.iload_n 1, 1) := by decide +kernel
theorem dX4_line_6 : decode cX4_line 6 = .ok (.bipush 16, 2) := by decide +kernel
theorem dX4_line_8 : decode cX4_line 8 = .ok (.if_icmp .gt 9, 3) := by decide +kernel
theorem dX4_line_11 : decode cX4_line 11 = .ok (.iload_n 1, 1) := by decide +kernel
theorem dX4_line_12 : decode cX4_line 12 = .ok (.iconst 2, 1) := by decide +kernel
theorem dX4_line_13 : decode cX4_line 13 = .ok (.irem, 1) := by decide +kernel
theorem dX4_line_14 : decode cX4_line 14 = .ok (.ifCond .eq 5, 3) := by decide +kernel
theorem dX4_line_17 : decode cX4_line 17 = .ok (.iconst 0, 1) := by decide +kernel
theorem dX4_line_18 : decode cX4_line 18 = .ok (.ireturn, 1) := by decide +kernel
theorem dX4_line_19 : decode cX4_line 19 = .ok (.aload_n 0, 1) := by decide +kernel
theorem dX4_line_20 : decode cX4_line 20 = .ok (.getfield 10, 3) := by decide +kernel
theorem dX4_line_23 : decode cX4_line 23 = .ok (.iload_n 1, 1) := by decide +kernel
theorem dX4_line_24 : decode cX4_line 24 = .ok (.invokevirtual 44, 3) := by decide +kernel
theorem dX4_line_27 : decode cX4_line 27 = .ok (.aload_n 0, 1) := by decide +kernel
theorem dX4_line_28 : decode cX4_line 28 = .ok (.getfield 19, 3) := by decide +kernel
theorem dX4_line_31 : decode cX4_line 31 = .ok (.invokevirtual 51, 3) := by decide +kernel
theorem dX4_line_34 : decode cX4_line 34 = .ok (.aload_n 0, 1) := by decide +kernel
theorem dX4_line_35 : decode cX4_line 35 = .ok (.getfield 19, 3) := by decide +kernel
theorem dX4_line_38 : decode cX4_line 38 = .ok (.invokevirtual 54, 3) := by decide +kernel
theorem dX4_line_41 : decode cX4_line 41 = .ok (.aload_n 0, 1) := by decide +kernel
theorem dX4_line_42 : decode cX4_line 42 = .ok (.getfield 26, 3) := by decide +kernel
theorem dX4_line_45 : decode cX4_line 45 = .ok (.invokevirtual 48, 3) := by decide +kernel
theorem dX4_line_48 : decode cX4_line 48 = .ok (.iconst 1, 1) := by decide +kernel
theorem dX4_line_49 : decode cX4_line 49 = .ok (.ireturn, 1) := by decide +kernel
set_option maxRecDepth 20000 in
theorem ggX4_height_X1_hasPlace : GoodIn wsX4_height wsX1_hasPlace := goodIn_r _ [8, 9, 21, 22, 23, 24, 25, 26, 27, 28, 29, 30] (by decide +kernel) (by decide +kernel)
set_option maxRecDepth 20000 in
theorem gX4_height_X1_hasPlace : GoodIn wsX4_height (wsV RX4 57 RX1 yX1_hasPlace wsX1_hasPlace) := goodIn_app (goodIn_of _ (by decide +kernel)) ggX4_height_X1_hasPlace
set_option maxRecDepth 20000 in
theorem ggX4_height_X4_inRange : GoodIn wsX4_height wsX4_inRange := goodIn_r _ [13] (by decide +kernel) (by decide +kernel)
set_option maxRecDepth 20000 in
theorem gX4_height_X4_inRange : GoodIn wsX4_height (va_wsS RX4 61 yX4_inRange wsX4_inRange) := goodIn_app (goodIn_of _ (by decide +kernel)) ggX4_height_X4_inRange
theorem dX4_height_0 : decode cX4_height 0 = .ok (.aload_n 0, 1) := by decide +kernel
theorem dX4_height_1 : decode cX4_height 1 = .ok (.getfield 10, 3) := by decide +kernel
theorem dX4_height_4 : decode cX4_height 4 = .ok (.iload_n 1, 1) := by decide +kernel
theorem dX4_height_5 : decode cX4_height 5 = .ok (.invokevirtual 57, 3) := by decide +kernel
theorem dX4_height_8 : decode cX4_height 8 = .ok (.ifCond .eq 14, 3) := by decide +kernel
theorem dX4_height_11 : decode cX4_height 11 = .ok (.iload_n 2, 1) := by decide +kernel
theorem dX4_height_12 : decode cX4_height 12 = .ok (.iconst 0, 1) := by decide +kernel
theorem dX4_height_13 : decode cX4_height 13 = .ok (.sipush 999, 3) := by decide +kernel
theorem dX4_height_16 : decode cX4_height 16 = .ok (.invokestatic 61, 3) := by decide +kernel
theorem dX4_height_19 : decode cX4_height 19 = .ok (.ifCond .ne 5, 3) := by decide +kernel
theorem dX4_height_22 : decode cX4_height 22 = .ok (.iconst 0, 1) := by decide +kernel
theorem dX4_height_23 : decode cX4_height 23 = .ok (.ireturn, 1) := by decide +kernel
theorem dX4_height_24 : decode cX4_height 24 = .ok (.iload_n 1, 1) := by decide +kernel
theorem dX4_height_25 : decode cX4_height 25 = .ok (.ifCond .le 20, 3) := by decide +kernel
theorem dX4_height_28 : decode cX4_height 28 = .ok (.iload_n 2, 1) := by decide +kernel
theorem dX4_height_29 : decode cX4_height 29 = .ok (.aload_n 0, 1) := by decide +kernel
theorem dX4_height_30 : decode cX4_height 30 = .ok (.getfield 10, 3) := by decide +kernel
theorem dX4_height_33 : decode cX4_height 33 = .ok (.getfield 65, 3) := by decide +kernel
theorem dX4_height_36 : decode cX4_height 36 = .ok (.iload_n 1, 1) := by decide +kernel
theorem dX4_height_37 : decode cX4_height 37 = .ok (.iconst 1, 1) := by decide +kernel
theorem dX4_height_38 : decode cX4_height 38 = .ok (.isub, 1) := by decide +kernel
theorem dX4_height_39 : decode cX4_height 39 = .ok (.iaload, 1) := by decide +kernel
theorem dX4_height_40 : decode cX4_height 40 = .ok (.if_icmp .ge 5, 3) := by decide +kernel
theorem dX4_height_43 : decode cX4_height 43 = .ok (.iconst 0, 1) := by decide +kernel
theorem dX4_height_44 : decode cX4_height 44 = .ok (.ireturn, 1) := by decide +kernel
theorem dX4_height_45 : decode cX4_height 45 = .ok (.iload_n 1, 1) := by decide +kernel
theorem dX4_height_46 : decode cX4_height 46 = .ok (.aload_n 0, 1) := by decide +kernel
theorem dX4_height_47 : decode cX4_height 47 = .ok (.getfield 10, 3) := by decide +kernel
theorem dX4_height_50 : decode cX4_height 50 = .ok (.getfield 68, 3) := by decide +kernel
theorem dX4_height_53 : decode cX4_height 53 = .ok (.if_icmp .ge 20, 3) := by decide +kernel
theorem dX4_height_56 : decode cX4_height 56 = .ok (.iload_n 2, 1) := by decide +kernel
theorem dX4_height_57 : decode cX4_height 57 = .ok (.aload_n 0, 1) := by decide +kernel
theorem dX4_height_58 : decode cX4_height 58 = .ok (.getfield 10, 3) := by decide +kernel
theorem dX4_height_61 : decode cX4_height 61 = .ok (.getfield 65, 3) := by decide +kernel
theorem dX4_height_64 : decode cX4_height 64 = .ok (.iload_n 1, 1) := by decide +kernel
theorem dX4_height_65 : decode cX4_height 65 = .ok (.iconst 1, 1) := by decide +kernel
theorem dX4_height_66 : decode cX4_height 66 = .ok (.iadd, 1) := by decide +kernel
theorem dX4_height_67 : decode cX4_height 67 = .ok (.iaload, 1) := by decide +kernel
theorem dX4_height_68 : decode cX4_height 68 = .ok (.if_icmp .le 5, 3) := by decide +kernel
theorem dX4_height_71 : decode cX4_height 71 = .ok (.iconst 0, 1) := by decide +kernel
theorem dX4_height_72 : decode cX4_height 72 = .ok (.ireturn, 1) := by decide +kernel
theorem dX4_height_73 : decode cX4_height 73 = .ok (.aload_n 0, 1) := by decide +kernel
theorem dX4_height_74 : decode cX4_height 74 = .ok (.getfield 10, 3) := by decide +kernel
theorem dX4_height_77 : decode cX4_height 77 = .ok (.getfield 65, 3) := by decide +kernel
theorem dX4_height_80 : decode cX4_height 80 = .ok (.iload_n 1, 1) := by decide +kernel
theorem dX4_height_81 : decode cX4_height 81 = .ok (.iload_n 2, 1) := by decide +kernel
theorem dX4_height_82 : decode cX4_height 82 = .ok (.iastore, 1) := by decide +kernel
theorem dX4_height_83 : decode cX4_height 83 = .ok (.iconst 1, 1) := by decide +kernel
theorem dX4_height_84 : decode cX4_height 84 = .ok (.ireturn, 1) := by decide +kernel
set_option maxRecDepth 20000 in
theorem ggX4_halt_X4_inRange : GoodIn wsX4_halt wsX4_inRange := goodIn_r _ [7] (by decide +kernel) (by decide +kernel)
set_option maxRecDepth 20000 in
theorem gX4_halt_X4_inRange : GoodIn wsX4_halt (va_wsS RX4 61 yX4_inRange wsX4_inRange) := goodIn_app (goodIn_of _ (by decide +kernel)) ggX4_halt_X4_inRange
set_option maxRecDepth 20000 in
theorem ggX4_halt_X1_isWanted : GoodIn wsX4_halt wsX1_isWanted := goodIn_r _ [12, 13, 14, 15, 23, 24, 25, 26, 27, 28, 29, 30, 31, 32] (by decide +kernel) (by decide +kernel)
set_option maxRecDepth 20000 in
theorem gX4_halt_X1_isWanted : GoodIn wsX4_halt (wsV RX4 71 RX1 yX1_isWanted wsX1_isWanted) := goodIn_app (goodIn_of _ (by decide +kernel)) ggX4_halt_X1_isWanted
theorem dX4_halt_0 : decode cX4_halt 0 = .ok (.iload_n 1, 1) := by decide +kernel
theorem dX4_halt_1 : decode cX4_halt 1 = .ok (.iconst 1, 1) := by decide +kernel
theorem dX4_halt_2 : decode cX4_halt 2 = .ok (.aload_n 0, 1) := by decide +kernel
theorem dX4_halt_3 : decode cX4_halt 3 = .ok (.getfield 10, 3) := by decide +kernel
theorem dX4_halt_6 : decode cX4_halt 6 = .ok (.getfield 68, 3) := by decide +kernel
theorem dX4_halt_9 : decode cX4_halt 9 = .ok (.iconst 1, 1) := by decide +kernel
theorem dX4_halt_10 : decode cX4_halt 10 = .ok (.isub, 1) := by decide +kernel
theorem dX4_halt_11 : decode cX4_halt 11 = .ok (.invokestatic 61, 3) := by decide +kernel
theorem dX4_halt_14 : decode cX4_halt 14 = .ok (.ifCond .eq 14, 3) := by decide +kernel
theorem dX4_halt_17 : decode cX4_halt 17 = .ok (.aload_n 0, 1) := by decide +kernel
theorem dX4_halt_18 : decode cX4_halt 18 = .ok (.getfield 10, 3) := by decide +kernel
theorem dX4_halt_21 : decode cX4_halt 21 = .ok (.iload_n 1, 1) := by decide +kernel
theorem dX4_halt_22 : decode cX4_halt 22 = .ok (.invokevirtual 71, 3) := by decide +kernel
theorem dX4_halt_25 : decode cX4_halt 25 = .ok (.ifCond .eq 5, 3) := by decide +kernel
theorem dX4_halt_28 : decode cX4_halt 28 = .ok (.iconst 0, 1) := by decide +kernel
theorem dX4_halt_29 : decode cX4_halt 29 = .ok (.ireturn, 1) := by decide +kernel
theorem dX4_halt_30 : decode cX4_halt 30 = .ok (.aload_n 0, 1) := by decide +kernel
theorem dX4_halt_31 : decode cX4_halt 31 = .ok (.getfield 10, 3) := by decide +kernel
theorem dX4_halt_34 : decode cX4_halt 34 = .ok (.getfield 74, 3) := by decide +kernel
theorem dX4_halt_37 : decode cX4_halt 37 = .ok (.iload_n 1, 1) := by decide +kernel
theorem dX4_halt_38 : decode cX4_halt 38 = .ok (.iload_n 2, 1) := by decide +kernel
theorem dX4_halt_39 : decode cX4_halt 39 = .ok (.bastore, 1) := by decide +kernel
theorem dX4_halt_40 : decode cX4_halt 40 = .ok (.iconst 1, 1) := by decide +kernel
theorem dX4_halt_41 : decode cX4_halt 41 = .ok (.ireturn, 1) := by decide +kernel
set_option maxRecDepth 20000 in
theorem ggX4_set_X4_inRange : GoodIn wsX4_set wsX4_inRange := goodIn_r _ [12] (by decide +kernel) (by decide +kernel)
set_option maxRecDepth 20000 in
theorem gX4_set_X4_inRange : GoodIn wsX4_set (va_wsS RX4 61 yX4_inRange wsX4_inRange) := goodIn_app (goodIn_of _ (by decide +kernel)) ggX4_set_X4_inRange
set_option maxRecDepth 20000 in
theorem ggX4_set_X4_howMany : GoodIn wsX4_set wsX4_howMany := goodIn_r _ [16, 7, 17, 18, 19, 20, 21, 22, 23, 24, 25, 26, 27, 28, 29, 30, 31, 32, 33, 34, 35, 36, 37, 38, 39, 40, 41, 42, 43, 44, 45, 46, 47, 48, 49, 50, 51] (by decide +kernel) (by decide +kernel)
set_option maxRecDepth 20000 in
theorem gX4_set_X4_howMany : GoodIn wsX4_set (wsV RX4 84 RX4 yX4_howMany wsX4_howMany) := goodIn_app (goodIn_of _ (by decide +kernel)) ggX4_set_X4_howMany
theorem dX4_set_0 : decode cX4_set 0 = .ok (.iload_n 1, 1) := by decide +kernel
theorem dX4_set_1 : decode cX4_set 1 = .ok (.iconst 0, 1) := by decide +kernel
theorem dX4_set_2 : decode cX4_set 2 = .ok (.bipush 7, 2) := by decide +kernel
theorem dX4_set_4 : decode cX4_set 4 = .ok (.invokestatic 61, 3) := by decide +kernel
theorem dX4_set_7 : decode cX4_set 7 = .ok (.ifCond .eq 20, 3) := by decide +kernel
theorem dX4_set_10 : decode cX4_set 10 = .ok (.iload_n 2, 1) := by decide +kernel
theorem dX4_set_11 : decode cX4_set 11 = .ok (.getstatic 78, 3) := by decide +kernel
theorem dX4_set_14 : decode cX4_set 14 = .ok (.iload_n 1, 1) := by decide +kernel
theorem dX4_set_15 : decode cX4_set 15 = .ok (.iaload, 1) := by decide +kernel
theorem dX4_set_16 : decode cX4_set 16 = .ok (.getstatic 81, 3) := by decide +kernel
theorem dX4_set_19 : decode cX4_set 19 = .ok (.iload_n 1, 1) := by decide +kernel
theorem dX4_set_20 : decode cX4_set 20 = .ok (.iaload, 1) := by decide +kernel
theorem dX4_set_21 : decode cX4_set 21 = .ok (.invokestatic 61, 3) := by decide +kernel
theorem dX4_set_24 : decode cX4_set 24 = .ok (.ifCond .ne 5, 3) := by decide +kernel
theorem dX4_set_27 : decode cX4_set 27 = .ok (.iconst (-1), 1) := by decide +kernel
theorem dX4_set_28 : decode cX4_set 28 = .ok (.ireturn, 1) := by decide +kernel
theorem dX4_set_29 : decode cX4_set 29 = .ok (.iload_n 1, 1) := by decide +kernel
theorem dX4_set_30 : decode cX4_set 30 = .ok (.iconst 1, 1) := by decide +kernel
theorem dX4_set_31 : decode cX4_set 31 = .ok (.if_icmp .ne 22, 3) := by decide +kernel
theorem dX4_set_34 : decode cX4_set 34 = .ok (.iload_n 2, 1) := by decide +kernel
theorem dX4_set_35 : decode cX4_set 35 = .ok (.aload_n 0, 1) := by decide +kernel
theorem dX4_set_36 : decode cX4_set 36 = .ok (.iconst 1, 1) := by decide +kernel
theorem dX4_set_37 : decode cX4_set 37 = .ok (.invokevirtual 84, 3) := by decide +kernel
theorem dX4_set_40 : decode cX4_set 40 = .ok (.aload_n 0, 1) := by decide +kernel
theorem dX4_set_41 : decode cX4_set 41 = .ok (.iconst 2, 1) := by decide +kernel
theorem dX4_set_42 : decode cX4_set 42 = .ok (.invokevirtual 84, 3) := by decide +kernel
theorem dX4_set_45 : decode cX4_set 45 = .ok (.invokestatic 88, 3) := by decide +kernel
theorem dX4_set_48 : decode cX4_set 48 = .ok (.if_icmp .ge 5, 3) := by decide +kernel
theorem dX4_set_51 : decode cX4_set 51 = .ok (.iconst (-1), 1) := by decide +kernel
theorem dX4_set_52 : decode cX4_set 52 = .ok (.ireturn, 1) := by decide +kernel
theorem dX4_set_53 : decode cX4_set 53 = .ok (.aload_n 0, 1) := by decide +kernel
theorem dX4_set_54 : decode cX4_set 54 = .ok (.getfield 10, 3) := by decide +kernel
theorem dX4_set_57 : decode cX4_set 57 = .ok (.getfield 94, 3) := by decide +kernel
theorem dX4_set_60 : decode cX4_set 60 = .ok (.iload_n 1, 1) := by decide +kernel
theorem dX4_set_61 : decode cX4_set 61 = .ok (.iaload, 1) := by decide +kernel
theorem dX4_set_62 : decode cX4_set 62 = .ok (.istore_n 3, 1) := by decide +kernel
theorem dX4_set_63 : decode cX4_set 63 = .ok (.aload_n 0, 1) := by decide +kernel
theorem dX4_set_64 : decode cX4_set 64 = .ok (.getfield 10, 3) := by decide +kernel
theorem dX4_set_67 : decode cX4_set 67 = .ok (.getfield 94, 3) := by decide +kernel
theorem dX4_set_70 : decode cX4_set 70 = .ok (.iload_n 1, 1) := by decide +kernel
theorem dX4_set_71 : decode cX4_set 71 = .ok (.iload_n 2, 1) := by decide +kernel
theorem dX4_set_72 : decode cX4_set 72 = .ok (.iastore, 1) := by decide +kernel
theorem dX4_set_73 : decode cX4_set 73 = .ok (.iload_n 3, 1) := by decide +kernel
theorem dX4_set_74 : decode cX4_set 74 = .ok (.ireturn, 1) := by decide +kernel
set_option maxRecDepth 20000 in
theorem ggX4_person_X1_isHalt : GoodIn wsX4_person wsX1_isHalt := goodIn_r _ [7, 8, 9, 10, 11, 6, 12, 13, 43, 44, 45, 46, 47, 48, 49, 50, 51, 52] (by decide +kernel) (by decide +kernel)
set_option maxRecDepth 20000 in
theorem gX4_person_X1_isHalt : GoodIn wsX4_person (wsV RX4 97 RX1 yX1_isHalt wsX1_isHalt) := goodIn_app (goodIn_of _ (by decide +kernel)) ggX4_person_X1_isHalt
set_option maxRecDepth 20000 in
theorem ggX4_person_X4_inRange : GoodIn wsX4_person wsX4_inRange := goodIn_r _ [17] (by decide +kernel) (by decide +kernel)
set_option maxRecDepth 20000 in
theorem gX4_person_X4_inRange : GoodIn wsX4_person (va_wsS RX4 61 yX4_inRange wsX4_inRange) := goodIn_app (goodIn_of _ (by decide +kernel)) ggX4_person_X4_inRange
set_option maxRecDepth 20000 in
theorem ggX4_person_X1_add : GoodIn wsX4_person wsX1_add := goodIn_r _ [21, 22, 23, 24, 25, 26, 27, 28, 6, 29, 30, 31, 32, 33, 34, 35, 43, 44, 45, 46, 47, 48, 49, 50, 51, 52] (by decide +kernel) (by decide +kernel)
set_option maxRecDepth 20000 in
theorem gX4_person_X1_add : GoodIn wsX4_person (wsV RX4 103 RX1 yX1_add wsX1_add) := goodIn_app (goodIn_of _ (by decide +kernel)) ggX4_person_X1_add
theorem dX4_person_0 : decode cX4_person 0 = .ok (.aload_n 0, 1) := by decide +kernel
theorem dX4_person_1 : decode cX4_person 1 = .ok (.getfield 10, 3) := by decide +kernel
theorem dX4_person_4 : decode cX4_person 4 = .ok (.iload_n 1, 1) := by decide +kernel
theorem dX4_person_5 : decode cX4_person 5 = .ok (.invokevirtual 97, 3) := by decide +kernel
theorem dX4_person_8 : decode cX4_person 8 = .ok (.ifCond .eq 19, 3) := by decide +kernel
theorem dX4_person_11 : decode cX4_person 11 = .ok (.aload_n 0, 1) := by decide +kernel
theorem dX4_person_12 : decode cX4_person 12 = .ok (.getfield 10, 3) := by decide +kernel
theorem dX4_person_15 : decode cX4_person 15 = .ok (.iload_n 2, 1) := by decide +kernel
theorem dX4_person_16 : decode cX4_person 16 = .ok (.invokevirtual 97, 3) := by decide +kernel
theorem dX4_person_19 : decode cX4_person 19 = .ok (.ifCond .eq 8, 3) := by decide +kernel
theorem dX4_person_22 : decode cX4_person 22 = .ok (.iload_n 1, 1) := by decide +kernel
theorem dX4_person_23 : decode cX4_person 23 = .ok (.iload_n 2, 1) := by decide +kernel
theorem dX4_person_24 : decode cX4_person 24 = .ok (.if_icmp .ne 5, 3) := by decide +kernel
theorem dX4_person_27 : decode cX4_person 27 = .ok (.iconst (-1), 1) := by decide +kernel
theorem dX4_person_28 : decode cX4_person 28 = .ok (.ireturn, 1) := by decide +kernel
theorem dX4_person_29 : decode cX4_person 29 = .ok (.iload_n 3, 1) := by decide +kernel
theorem dX4_person_30 : decode cX4_person 30 = .ok (.iconst 0, 1) := by decide +kernel
theorem dX4_person_31 : decode cX4_person 31 = .ok (.sipush 999, 3) := by decide +kernel
theorem dX4_person_34 : decode cX4_person 34 = .ok (.invokestatic 61, 3) := by decide +kernel
theorem dX4_person_37 : decode cX4_person 37 = .ok (.ifCond .eq 15, 3) := by decide +kernel
theorem dX4_person_40 : decode cX4_person 40 = .ok (.aload_n 0, 1) := by decide +kernel
theorem dX4_person_41 : decode cX4_person 41 = .ok (.getfield 10, 3) := by decide +kernel
theorem dX4_person_44 : decode cX4_person 44 = .ok (.getfield 100, 3) := by decide +kernel
theorem dX4_person_47 : decode cX4_person 47 = .ok (.bipush 60, 2) := by decide +kernel
theorem dX4_person_49 : decode cX4_person 49 = .ok (.if_icmp .lt 5, 3) := by decide +kernel
theorem dX4_person_52 : decode cX4_person 52 = .ok (.iconst (-1), 1) := by decide +kernel
theorem dX4_person_53 : decode cX4_person 53 = .ok (.ireturn, 1) := by decide +kernel
theorem dX4_person_54 : decode cX4_person 54 = .ok (.aload_n 0, 1) := by decide +kernel
theorem dX4_person_55 : decode cX4_person 55 = .ok (.getfield 10, 3) := by decide +kernel
theorem dX4_person_58 : decode cX4_person 58 = .ok (.iload_n 1, 1) := by decide +kernel
theorem dX4_person_59 : decode cX4_person 59 = .ok (.iload_n 2, 1) := by decide +kernel
theorem dX4_person_60 : decode cX4_person 60 = .ok (.iload_n 3, 1) := by decide +kernel
theorem dX4_person_61 : decode cX4_person 61 = .ok (.invokevirtual 103, 3) := by decide +kernel
theorem dX4_person_64 : decode cX4_person 64 = .ok (.ireturn, 1) := by decide +kernel
set_option maxRecDepth 20000 in
theorem ggX4_ride_X3_travel : GoodIn wsX4_ride wsX3_travel := goodIn_r _ [10, 11, 12, 13, 14, 15, 16, 17, 18, 19, 20, 21, 22, 23, 24, 25, 26, 27, 28, 9, 29, 30, 31, 32, 33, 34, 35, 36, 37, 38, 39, 40, 41, 42, 43, 44, 45, 46, 47, 48, 49, 50, 51, 52, 53, 54, 55, 56, 57, 58, 59, 60, 61, 62, 63, 64, 65, 66, 67, 68, 69, 70, 71, 72, 73, 74, 75, 76, 77, 78, 79, 80, 81, 82, 83, 84, 85, 86, 87, 88, 89, 90, 91, 92, 93, 94, 95, 96, 97, 98, 99, 100, 101, 102, 103, 104, 105, 119, 120, 121, 122, 123, 124, 125, 126, 127, 128, 129, 130, 131, 132, 133, 144, 145, 146, 147, 148, 134, 135, 136, 137, 138, 139, 140, 141, 142, 143] (by decide +kernel) (by decide +kernel)
set_option maxRecDepth 20000 in
theorem gX4_ride_X3_travel : GoodIn wsX4_ride (wsV RX4 110 RX3 yX3_travel wsX3_travel) := goodIn_app (goodIn_of _ (by decide +kernel)) ggX4_ride_X3_travel
set_option maxRecDepth 20000 in
theorem ggX4_ride_X2_bendAll : GoodIn wsX4_ride wsX2_bendAll := goodIn_r _ [110, 111, 149, 150] (by decide +kernel) (by decide +kernel)
set_option maxRecDepth 20000 in
theorem gX4_ride_X2_bendAll : GoodIn wsX4_ride (wsV RX4 114 RX2 yX2_bendAll wsX2_bendAll) := goodIn_app (goodIn_of _ (by decide +kernel)) ggX4_ride_X2_bendAll
theorem dX4_ride_0 : decode cX4_ride 0 = .ok (.iload_n 1, 1) := by decide +kernel
theorem dX4_ride_1 : decode cX4_ride 1 = .ok (.aload_n 0, 1) := by decide +kernel
theorem dX4_ride_2 : decode cX4_ride 2 = .ok (.getfield 26, 3) := by decide +kernel
theorem dX4_ride_5 : decode cX4_ride 5 = .ok (.getfield 107, 3) := by decide +kernel
theorem dX4_ride_8 : decode cX4_ride 8 = .ok (.if_icmp .lt 10, 3) := by decide +kernel
theorem dX4_ride_11 : decode cX4_ride 11 = .ok (.iload_n 1, 1) := by decide +kernel
theorem dX4_ride_12 : decode cX4_ride 12 = .ok (.sipush 2000, 3) := by decide +kernel
theorem dX4_ride_15 : decode cX4_ride 15 = .ok (.if_icmp .le 5, 3) := by decide +kernel
theorem dX4_ride_18 : decode cX4_ride 18 = .ok (.iconst (-1), 1) := by decide +kernel
theorem dX4_ride_19 : decode cX4_ride 19 = .ok (.ireturn, 1) := by decide +kernel
theorem dX4_ride_20 : decode cX4_ride 20 = .ok (.aload_n 0, 1) := by decide +kernel
theorem dX4_ride_21 : decode cX4_ride 21 = .ok (.getfield 26, 3) := by decide +kernel
theorem dX4_ride_24 : decode cX4_ride 24 = .ok (.aload_n 0, 1) := by decide +kernel
theorem dX4_ride_25 : decode cX4_ride 25 = .ok (.getfield 10, 3) := by decide +kernel
theorem dX4_ride_28 : decode cX4_ride 28 = .ok (.iload_n 1, 1) := by decide +kernel
theorem dX4_ride_29 : decode cX4_ride 29 = .ok (.invokevirtual 110, 3) := by decide +kernel
theorem dX4_ride_32 : decode cX4_ride 32 = .ok (.aload_n 0, 1) := by decide +kernel
theorem dX4_ride_33 : decode cX4_ride 33 = .ok (.getfield 19, 3) := by decide +kernel
theorem dX4_ride_36 : decode cX4_ride 36 = .ok (.aload_n 0, 1) := by decide +kernel
theorem dX4_ride_37 : decode cX4_ride 37 = .ok (.getfield 10, 3) := by decide +kernel
theorem dX4_ride_40 : decode cX4_ride 40 = .ok (.getfield 68, 3) := by decide +kernel
theorem dX4_ride_43 : decode cX4_ride 43 = .ok (.invokevirtual 114, 3) := by decide +kernel
theorem dX4_ride_46 : decode cX4_ride 46 = .ok (.aload_n 0, 1) := by decide +kernel
theorem dX4_ride_47 : decode cX4_ride 47 = .ok (.getfield 26, 3) := by decide +kernel
theorem dX4_ride_50 : decode cX4_ride 50 = .ok (.getfield 107, 3) := by decide +kernel
theorem dX4_ride_53 : decode cX4_ride 53 = .ok (.ireturn, 1) := by decide +kernel
set_option maxRecDepth 20000 in
theorem ggX4_count_X4_howMany : GoodIn wsX4_count wsX4_howMany := goodIn_r _ [14, 1, 3, 4, 15, 16, 17, 18, 19, 20, 21, 22, 23, 24, 25, 26, 27, 28, 29, 30, 31, 32, 33, 34, 35, 36, 37, 38, 39, 40, 41, 42, 43, 44, 45, 46, 47] (by decide +kernel) (by decide +kernel)
set_option maxRecDepth 20000 in
theorem gX4_count_X4_howMany : GoodIn wsX4_count (wsV RX4 84 RX4 yX4_howMany wsX4_howMany) := goodIn_app (goodIn_of _ (by decide +kernel)) ggX4_count_X4_howMany
theorem dX4_count_0 : decode cX4_count 0 = .ok (.iload_n 1, 1) := by decide +kernel
theorem dX4_count_1 : decode cX4_count 1 = .ok (.tableswitch 130 0 9 #[55, 63, 71, 82, 90, 96, 102, 108, 114, 122], 55) := by decide +kernel
theorem dX4_count_56 : decode cX4_count 56 = .ok (.aload_n 0, 1) := by decide +kernel
theorem dX4_count_57 : decode cX4_count 57 = .ok (.getfield 10, 3) := by decide +kernel
theorem dX4_count_60 : decode cX4_count 60 = .ok (.getfield 68, 3) := by decide +kernel
theorem dX4_count_63 : decode cX4_count 63 = .ok (.ireturn, 1) := by decide +kernel
theorem dX4_count_64 : decode cX4_count 64 = .ok (.aload_n 0, 1) := by decide +kernel
theorem dX4_count_65 : decode cX4_count 65 = .ok (.getfield 10, 3) := by decide +kernel
theorem dX4_count_68 : decode cX4_count 68 = .ok (.getfield 100, 3) := by decide +kernel
theorem dX4_count_71 : decode cX4_count 71 = .ok (.ireturn, 1) := by decide +kernel
theorem dX4_count_72 : decode cX4_count 72 = .ok (.aload_n 0, 1) := by decide +kernel
theorem dX4_count_73 : decode cX4_count 73 = .ok (.getfield 26, 3) := by decide +kernel
theorem dX4_count_76 : decode cX4_count 76 = .ok (.getfield 117, 3) := by decide +kernel
theorem dX4_count_79 : decode cX4_count 79 = .ok (.getfield 121, 3) := by decide +kernel
theorem dX4_count_82 : decode cX4_count 82 = .ok (.ireturn, 1) := by decide +kernel
theorem dX4_count_83 : decode cX4_count 83 = .ok (.aload_n 0, 1) := by decide +kernel
theorem dX4_count_84 : decode cX4_count 84 = .ok (.getfield 26, 3) := by decide +kernel
theorem dX4_count_87 : decode cX4_count 87 = .ok (.getfield 107, 3) := by decide +kernel
theorem dX4_count_90 : decode cX4_count 90 = .ok (.ireturn, 1) := by decide +kernel
theorem dX4_count_91 : decode cX4_count 91 = .ok (.aload_n 0, 1) := by decide +kernel
theorem dX4_count_92 : decode cX4_count 92 = .ok (.iconst 0, 1) := by decide +kernel
theorem dX4_count_93 : decode cX4_count 93 = .ok (.invokevirtual 84, 3) := by decide +kernel
theorem dX4_count_96 : decode cX4_count 96 = .ok (.ireturn, 1) := by decide +kernel
theorem dX4_count_97 : decode cX4_count 97 = .ok (.aload_n 0, 1) := by decide +kernel
theorem dX4_count_98 : decode cX4_count 98 = .ok (.iconst 1, 1) := by decide +kernel
theorem dX4_count_99 : decode cX4_count 99 = .ok (.invokevirtual 84, 3) := by decide +kernel
theorem dX4_count_102 : decode cX4_count 102 = .ok (.ireturn, 1) := by decide +kernel
theorem dX4_count_103 : decode cX4_count 103 = .ok (.aload_n 0, 1) := by decide +kernel
theorem dX4_count_104 : decode cX4_count 104 = .ok (.iconst 2, 1) := by decide +kernel
theorem dX4_count_105 : decode cX4_count 105 = .ok (.invokevirtual 84, 3) := by decide +kernel
theorem dX4_count_108 : decode cX4_count 108 = .ok (.ireturn, 1) := by decide +kernel
theorem dX4_count_109 : decode cX4_count 109 = .ok (.aload_n 0, 1) := by decide +kernel
theorem dX4_count_110 : decode cX4_count 110 = .ok (.iconst 3, 1) := by decide +kernel
theorem dX4_count_111 : decode cX4_count 111 = .ok (.invokevirtual 84, 3) := by decide +kernel
theorem dX4_count_114 : decode cX4_count 114 = .ok (.ireturn, 1) := by decide +kernel
theorem dX4_count_115 : decode cX4_count 115 = .ok (.aload_n 0, 1) := by decide +kernel
theorem dX4_count_116 : decode cX4_count 116 = .ok (.getfield 26, 3) := by decide +kernel
theorem dX4_count_119 : decode cX4_count 119 = .ok (.getfield 126, 3) := by decide +kernel
theorem dX4_count_122 : decode cX4_count 122 = .ok (.ireturn, 1) := by decide +kernel
theorem dX4_count_123 : decode cX4_count 123 = .ok (.aload_n 0, 1) := by decide +kernel
theorem dX4_count_124 : decode cX4_count 124 = .ok (.getfield 26, 3) := by decide +kernel
theorem dX4_count_127 : decode cX4_count 127 = .ok (.getfield 129, 3) := by decide +kernel
theorem dX4_count_130 : decode cX4_count 130 = .ok (.ireturn, 1) := by decide +kernel
theorem dX4_count_131 : decode cX4_count 131 = .ok (.iconst (-1), 1) := by decide +kernel
theorem dX4_count_132 : decode cX4_count 132 = .ok (.ireturn, 1) := by decide +kernel
theorem dX4_of_0 : decode cX4_of 0 = .ok (.iload_n 1, 1) := by decide +kernel
theorem dX4_of_1 : decode cX4_of 1 = .ok (.ifCond .lt 14, 3) := by decide +kernel
theorem dX4_of_4 : decode cX4_of 4 = .ok (.iload_n 1, 1) := by decide +kernel
theorem dX4_of_5 : decode cX4_of 5 = .ok (.aload_n 0, 1) := by decide +kernel
theorem dX4_of_6 : decode cX4_of 6 = .ok (.getfield 10, 3) := by decide +kernel
theorem dX4_of_9 : decode cX4_of 9 = .ok (.getfield 100, 3) := by decide +kernel
theorem dX4_of_12 : decode cX4_of 12 = .ok (.if_icmp .lt 13, 3) := by decide +kernel
theorem dX4_of_15 : decode cX4_of 15 = .ok (.new 132, 3) := by decide +kernel
theorem dX4_of_18 : decode cX4_of 18 = .ok (.dup, 1) := by decide +kernel
theorem dX4_of_19 : decode cX4_of 19 = .ok (.ldc 134, 2) := by decide +kernel
theorem dX4_of_21 : decode cX4_of 21 = .ok (.invokespecial 136, 3) := by decide +kernel
theorem dX4_of_24 : decode cX4_of 24 = .ok (.athrow, 1) := by decide +kernel
theorem dX4_of_25 : decode cX4_of 25 = .ok (.iload_n 2, 1) := by decide +kernel
theorem dX4_of_26 : decode cX4_of 26 = .ok (.tableswitch 98 0 5 #[38, 48, 58, 68, 78, 88], 38) := by decide +kernel
theorem dX4_of_64 : decode cX4_of 64 = .ok (.aload_n 0, 1) := by decide +kernel
theorem dX4_of_65 : decode cX4_of 65 = .ok (.getfield 26, 3) := by decide +kernel
theorem dX4_of_68 : decode cX4_of 68 = .ok (.getfield 139, 3) := by decide +kernel
theorem dX4_of_71 : decode cX4_of 71 = .ok (.iload_n 1, 1) := by decide +kernel
theorem dX4_of_72 : decode cX4_of 72 = .ok (.iaload, 1) := by decide +kernel
theorem dX4_of_73 : decode cX4_of 73 = .ok (.ireturn, 1) := by decide +kernel
theorem dX4_of_74 : decode cX4_of 74 = .ok (.aload_n 0, 1) := by decide +kernel
theorem dX4_of_75 : decode cX4_of 75 = .ok (.getfield 10, 3) := by decide +kernel
theorem dX4_of_78 : decode cX4_of 78 = .ok (.getfield 142, 3) := by decide +kernel
theorem dX4_of_81 : decode cX4_of 81 = .ok (.iload_n 1, 1) := by decide +kernel
theorem dX4_of_82 : decode cX4_of 82 = .ok (.iaload, 1) := by decide +kernel
theorem dX4_of_83 : decode cX4_of 83 = .ok (.ireturn, 1) := by decide +kernel
theorem dX4_of_84 : decode cX4_of 84 = .ok (.aload_n 0, 1) := by decide +kernel
theorem dX4_of_85 : decode cX4_of 85 = .ok (.getfield 10, 3) := by decide +kernel
theorem dX4_of_88 : decode cX4_of 88 = .ok (.getfield 145, 3) := by decide +kernel
theorem dX4_of_91 : decode cX4_of 91 = .ok (.iload_n 1, 1) := by decide +kernel
theorem dX4_of_92 : decode cX4_of 92 = .ok (.iaload, 1) := by decide +kernel
theorem dX4_of_93 : decode cX4_of 93 = .ok (.ireturn, 1) := by decide +kernel
theorem dX4_of_94 : decode cX4_of 94 = .ok (.aload_n 0, 1) := by decide +kernel
theorem dX4_of_95 : decode cX4_of 95 = .ok (.getfield 10, 3) := by decide +kernel
theorem dX4_of_98 : decode cX4_of 98 = .ok (.getfield 148, 3) := by decide +kernel
theorem dX4_of_101 : decode cX4_of 101 = .ok (.iload_n 1, 1) := by decide +kernel
theorem dX4_of_102 : decode cX4_of 102 = .ok (.iaload, 1) := by decide +kernel
theorem dX4_of_103 : decode cX4_of 103 = .ok (.ireturn, 1) := by decide +kernel
theorem dX4_of_104 : decode cX4_of 104 = .ok (.aload_n 0, 1) := by decide +kernel
theorem dX4_of_105 : decode cX4_of 105 = .ok (.getfield 26, 3) := by decide +kernel
theorem dX4_of_108 : decode cX4_of 108 = .ok (.getfield 151, 3) := by decide +kernel
theorem dX4_of_111 : decode cX4_of 111 = .ok (.iload_n 1, 1) := by decide +kernel
theorem dX4_of_112 : decode cX4_of 112 = .ok (.iaload, 1) := by decide +kernel
theorem dX4_of_113 : decode cX4_of 113 = .ok (.ireturn, 1) := by decide +kernel
theorem dX4_of_114 : decode cX4_of 114 = .ok (.aload_n 0, 1) := by decide +kernel
theorem dX4_of_115 : decode cX4_of 115 = .ok (.getfield 26, 3) := by decide +kernel
theorem dX4_of_118 : decode cX4_of 118 = .ok (.getfield 154, 3) := by decide +kernel
theorem dX4_of_121 : decode cX4_of 121 = .ok (.iload_n 1, 1) := by decide +kernel
theorem dX4_of_122 : decode cX4_of 122 = .ok (.iaload, 1) := by decide +kernel
theorem dX4_of_123 : decode cX4_of 123 = .ok (.ireturn, 1) := by decide +kernel
theorem dX4_of_124 : decode cX4_of 124 = .ok (.new 132, 3) := by decide +kernel
theorem dX4_of_127 : decode cX4_of 127 = .ok (.dup, 1) := by decide +kernel
theorem dX4_of_128 : decode cX4_of 128 = .ok (.ldc 157, 2) := by decide +kernel
theorem dX4_of_130 : decode cX4_of 130 = .ok (.invokespecial 136, 3) := by decide +kernel
theorem dX4_of_133 : decode cX4_of 133 = .ok (.athrow, 1) := by decide +kernel
theorem dX4_rode_0 : decode cX4_rode 0 = .ok (.aload_n 0, 1) := by decide +kernel
theorem dX4_rode_1 : decode cX4_rode 1 = .ok (.getfield 26, 3) := by decide +kernel
theorem dX4_rode_4 : decode cX4_rode 4 = .ok (.getfield 126, 3) := by decide +kernel
theorem dX4_rode_7 : decode cX4_rode 7 = .ok (.ifCond .ne 5, 3) := by decide +kernel
theorem dX4_rode_10 : decode cX4_rode 10 = .ok (.iconst (-1), 1) := by decide +kernel
theorem dX4_rode_11 : decode cX4_rode 11 = .ok (.ireturn, 1) := by decide +kernel
theorem dX4_rode_12 : decode cX4_rode 12 = .ok (.iload_n 1, 1) := by decide +kernel
theorem dX4_rode_13 : decode cX4_rode 13 = .ok (.tableswitch 99 0 6 #[43, 51, 59, 67, 75, 83, 91], 43) := by decide +kernel
theorem dX4_rode_56 : decode cX4_rode 56 = .ok (.aload_n 0, 1) := by decide +kernel
theorem dX4_rode_57 : decode cX4_rode 57 = .ok (.getfield 26, 3) := by decide +kernel
theorem dX4_rode_60 : decode cX4_rode 60 = .ok (.getfield 159, 3) := by decide +kernel
theorem dX4_rode_63 : decode cX4_rode 63 = .ok (.ireturn, 1) := by decide +kernel
theorem dX4_rode_64 : decode cX4_rode 64 = .ok (.aload_n 0, 1) := by decide +kernel
theorem dX4_rode_65 : decode cX4_rode 65 = .ok (.getfield 26, 3) := by decide +kernel
theorem dX4_rode_68 : decode cX4_rode 68 = .ok (.getfield 162, 3) := by decide +kernel
theorem dX4_rode_71 : decode cX4_rode 71 = .ok (.ireturn, 1) := by decide +kernel
theorem dX4_rode_72 : decode cX4_rode 72 = .ok (.aload_n 0, 1) := by decide +kernel
theorem dX4_rode_73 : decode cX4_rode 73 = .ok (.getfield 26, 3) := by decide +kernel
theorem dX4_rode_76 : decode cX4_rode 76 = .ok (.getfield 165, 3) := by decide +kernel
theorem dX4_rode_79 : decode cX4_rode 79 = .ok (.ireturn, 1) := by decide +kernel
theorem dX4_rode_80 : decode cX4_rode 80 = .ok (.aload_n 0, 1) := by decide +kernel
theorem dX4_rode_81 : decode cX4_rode 81 = .ok (.getfield 26, 3) := by decide +kernel
theorem dX4_rode_84 : decode cX4_rode 84 = .ok (.getfield 168, 3) := by decide +kernel
theorem dX4_rode_87 : decode cX4_rode 87 = .ok (.ireturn, 1) := by decide +kernel
theorem dX4_rode_88 : decode cX4_rode 88 = .ok (.aload_n 0, 1) := by decide +kernel
theorem dX4_rode_89 : decode cX4_rode 89 = .ok (.getfield 26, 3) := by decide +kernel
theorem dX4_rode_92 : decode cX4_rode 92 = .ok (.getfield 171, 3) := by decide +kernel
theorem dX4_rode_95 : decode cX4_rode 95 = .ok (.ireturn, 1) := by decide +kernel
theorem dX4_rode_96 : decode cX4_rode 96 = .ok (.aload_n 0, 1) := by decide +kernel
theorem dX4_rode_97 : decode cX4_rode 97 = .ok (.getfield 26, 3) := by decide +kernel
theorem dX4_rode_100 : decode cX4_rode 100 = .ok (.getfield 174, 3) := by decide +kernel
theorem dX4_rode_103 : decode cX4_rode 103 = .ok (.ireturn, 1) := by decide +kernel
theorem dX4_rode_104 : decode cX4_rode 104 = .ok (.aload_n 0, 1) := by decide +kernel
theorem dX4_rode_105 : decode cX4_rode 105 = .ok (.getfield 26, 3) := by decide +kernel
theorem dX4_rode_108 : decode cX4_rode 108 = .ok (.getfield 177, 3) := by decide +kernel
theorem dX4_rode_111 : decode cX4_rode 111 = .ok (.ireturn, 1) := by decide +kernel
theorem dX4_rode_112 : decode cX4_rode 112 = .ok (.iconst (-1), 1) := by decide +kernel
theorem dX4_rode_113 : decode cX4_rode 113 = .ok (.ireturn, 1) := by decide +kernel
set_option maxRecDepth 20000 in
theorem ggX4_again_X2_unbend : GoodIn wsX4_again wsX2_unbend := goodIn_r _ [9, 10, 11, 12, 13, 14, 54, 55] (by decide +kernel) (by decide +kernel)
set_option maxRecDepth 20000 in
theorem gX4_again_X2_unbend : GoodIn wsX4_again (wsV RX4 51 RX2 yX2_unbend wsX2_unbend) := goodIn_app (goodIn_of _ (by decide +kernel)) ggX4_again_X2_unbend
set_option maxRecDepth 20000 in
theorem ggX4_again_X3_startAnew : GoodIn wsX4_again wsX3_startAnew := goodIn_r _ [19, 20, 21, 22, 23, 24, 25, 26, 27, 28, 29, 12, 13, 14, 30, 31, 32, 33, 34, 35, 36, 56, 57, 58, 59, 60, 61, 62, 63, 64, 65, 66, 67, 68, 69, 70, 71, 72, 73, 74, 75] (by decide +kernel) (by decide +kernel)
set_option maxRecDepth 20000 in
theorem gX4_again_X3_startAnew : GoodIn wsX4_again (wsV RX4 48 RX3 yX3_startAnew wsX3_startAnew) := goodIn_app (goodIn_of _ (by decide +kernel)) ggX4_again_X3_startAnew
theorem dX4_again_0 : decode cX4_again 0 = .ok (.aload_n 0, 1) := by decide +kernel
theorem dX4_again_1 : decode cX4_again 1 = .ok (.getfield 19, 3) := by decide +kernel
theorem dX4_again_4 : decode cX4_again 4 = .ok (.invokevirtual 51, 3) := by decide +kernel
theorem dX4_again_7 : decode cX4_again 7 = .ok (.aload_n 0, 1) := by decide +kernel
theorem dX4_again_8 : decode cX4_again 8 = .ok (.getfield 26, 3) := by decide +kernel
theorem dX4_again_11 : decode cX4_again 11 = .ok (.invokevirtual 48, 3) := by decide +kernel
theorem dX4_again_14 : decode cX4_again 14 = .ok (.aload_n 0, 1) := by decide +kernel
theorem dX4_again_15 : decode cX4_again 15 = .ok (.getfield 10, 3) := by decide +kernel
theorem dX4_again_18 : decode cX4_again 18 = .ok (.getfield 100, 3) := by decide +kernel
theorem dX4_again_21 : decode cX4_again 21 = .ok (.ireturn, 1) := by decide +kernel
set_option maxRecDepth 20000 in
theorem ggX4_at_X4_inRange : GoodIn wsX4_at wsX4_inRange := goodIn_r _ [6] (by decide +kernel) (by decide +kernel)
set_option maxRecDepth 20000 in
theorem gX4_at_X4_inRange : GoodIn wsX4_at (va_wsS RX4 61 yX4_inRange wsX4_inRange) := goodIn_app (goodIn_of _ (by decide +kernel)) ggX4_at_X4_inRange
theorem dX4_at_0 : decode cX4_at 0 = .ok (.iload_n 1, 1) := by decide +kernel
theorem dX4_at_1 : decode cX4_at 1 = .ok (.iconst 0, 1) := by decide +kernel
theorem dX4_at_2 : decode cX4_at 2 = .ok (.sipush 2000, 3) := by decide +kernel
theorem dX4_at_5 : decode cX4_at 5 = .ok (.invokestatic 61, 3) := by decide +kernel
theorem dX4_at_8 : decode cX4_at 8 = .ok (.ifCond .eq 12, 3) := by decide +kernel
theorem dX4_at_11 : decode cX4_at 11 = .ok (.aload_n 0, 1) := by decide +kernel
theorem dX4_at_12 : decode cX4_at 12 = .ok (.getfield 40, 3) := by decide +kernel
theorem dX4_at_15 : decode cX4_at 15 = .ok (.bipush 8, 2) := by decide +kernel
theorem dX4_at_17 : decode cX4_at 17 = .ok (.if_icmp .lt 5, 3) := by decide +kernel
theorem dX4_at_20 : decode cX4_at 20 = .ok (.iconst (-1), 1) := by decide +kernel
theorem dX4_at_21 : decode cX4_at 21 = .ok (.ireturn, 1) := by decide +kernel
theorem dX4_at_22 : decode cX4_at 22 = .ok (.aload_n 0, 1) := by decide +kernel
theorem dX4_at_23 : decode cX4_at 23 = .ok (.getfield 33, 3) := by decide +kernel
theorem dX4_at_26 : decode cX4_at 26 = .ok (.aload_n 0, 1) := by decide +kernel
theorem dX4_at_27 : decode cX4_at 27 = .ok (.getfield 40, 3) := by decide +kernel
theorem dX4_at_30 : decode cX4_at 30 = .ok (.iload_n 1, 1) := by decide +kernel
theorem dX4_at_31 : decode cX4_at 31 = .ok (.iastore, 1) := by decide +kernel
theorem dX4_at_32 : decode cX4_at 32 = .ok (.aload_n 0, 1) := by decide +kernel
theorem dX4_at_33 : decode cX4_at 33 = .ok (.dup, 1) := by decide +kernel
theorem dX4_at_34 : decode cX4_at 34 = .ok (.getfield 40, 3) := by decide +kernel
theorem dX4_at_37 : decode cX4_at 37 = .ok (.iconst 1, 1) := by decide +kernel
theorem dX4_at_38 : decode cX4_at 38 = .ok (.iadd, 1) := by decide +kernel
theorem dX4_at_39 : decode cX4_at 39 = .ok (.putfield 40, 3) := by decide +kernel
theorem dX4_at_42 : decode cX4_at 42 = .ok (.aload_n 0, 1) := by decide +kernel
theorem dX4_at_43 : decode cX4_at 43 = .ok (.getfield 40, 3) := by decide +kernel
theorem dX4_at_46 : decode cX4_at 46 = .ok (.ireturn, 1) := by decide +kernel
theorem dX4_clear_0 : decode cX4_clear 0 = .ok (.aload_n 0, 1) := by decide +kernel
theorem dX4_clear_1 : decode cX4_clear 1 = .ok (.getfield 40, 3) := by decide +kernel
theorem dX4_clear_4 : decode cX4_clear 4 = .ok (.istore_n 1, 1) := by decide +kernel
theorem dX4_clear_5 : decode cX4_clear 5 = .ok (.aload_n 0, 1) := by decide +kernel
theorem dX4_clear_6 : decode cX4_clear 6 = .ok (.iconst 0, 1) := by decide +kernel
theorem dX4_clear_7 : decode cX4_clear 7 = .ok (.putfield 40, 3) := by decide +kernel
theorem dX4_clear_10 : decode cX4_clear 10 = .ok (.iload_n 1, 1) := by decide +kernel
theorem dX4_clear_11 : decode cX4_clear 11 = .ok (.ireturn, 1) := by decide +kernel
set_option maxRecDepth 20000 in
theorem ggX4_day_X4_allBits : GoodIn wsX4_day wsX4_allBits := goodIn_r _ [5, 6, 141, 142, 143, 144, 145, 146, 147] (by decide +kernel) (by decide +kernel)
set_option maxRecDepth 20000 in
theorem gX4_day_X4_allBits : GoodIn wsX4_day (wsV RX4 180 RX4 yX4_allBits wsX4_allBits) := goodIn_app (goodIn_of _ (by decide +kernel)) ggX4_day_X4_allBits
set_option maxRecDepth 20000 in
theorem ggX4_day_X4_inRange : GoodIn wsX4_day wsX4_inRange := goodIn_r _ [9] (by decide +kernel) (by decide +kernel)
set_option maxRecDepth 20000 in
theorem gX4_day_X4_inRange : GoodIn wsX4_day (va_wsS RX4 61 yX4_inRange wsX4_inRange) := goodIn_app (goodIn_of _ (by decide +kernel)) ggX4_day_X4_inRange
set_option maxRecDepth 20000 in
theorem ggX4_day_X4_tryDay : GoodIn wsX4_day wsX4_tryDay := goodIn_r _ [13, 14, 15, 16, 17, 18, 19, 20, 21, 22, 23, 24, 25, 4, 26, 6, 27, 28, 29, 30, 31, 32, 33, 34, 35, 36, 37, 38, 39, 40, 41, 42, 43, 44, 45, 46, 47, 48, 49, 50, 51, 52, 53, 54, 55, 56, 57, 58, 59, 60, 61, 62, 63, 64, 65, 66, 67, 68, 69, 70, 71, 72, 73, 74, 75, 76, 77, 78, 79, 80, 81, 82, 83, 84, 85, 86, 87, 88, 89, 90, 91, 92, 93, 94, 95, 96, 97, 98, 99, 100, 101, 102, 103, 104, 105, 106, 107, 108, 109, 110, 111, 112, 113, 114, 115, 116, 117, 118, 119, 120, 121, 122, 123, 124, 125, 126, 127, 128, 129, 130, 131, 132, 133, 134, 135, 136, 137, 138, 139, 140, 141, 142, 143, 144, 145, 146, 147, 148, 149, 150, 151, 152, 153, 154, 155, 156, 157, 158, 159, 160, 161, 162, 163, 164, 165, 166, 167, 168, 169, 170, 171, 172, 173, 174, 175, 176, 177] (by decide +kernel) (by decide +kernel)
set_option maxRecDepth 20000 in
theorem gX4_day_X4_tryDay : GoodIn wsX4_day (wsV RX4 184 RX4 yX4_tryDay wsX4_tryDay) := goodIn_app (goodIn_of _ (by decide +kernel)) ggX4_day_X4_tryDay
theorem dX4_day_0 : decode cX4_day 0 = .ok (.iload_n 1, 1) := by decide +kernel
theorem dX4_day_1 : decode cX4_day 1 = .ok (.iconst 0, 1) := by decide +kernel
theorem dX4_day_2 : decode cX4_day 2 = .ok (.aload_n 0, 1) := by decide +kernel
theorem dX4_day_3 : decode cX4_day 3 = .ok (.invokevirtual 180, 3) := by decide +kernel
theorem dX4_day_6 : decode cX4_day 6 = .ok (.invokestatic 61, 3) := by decide +kernel
theorem dX4_day_9 : decode cX4_day 9 = .ok (.ifCond .ne 5, 3) := by decide +kernel
theorem dX4_day_12 : decode cX4_day 12 = .ok (.iconst (-1), 1) := by decide +kernel
theorem dX4_day_13 : decode cX4_day 13 = .ok (.ireturn, 1) := by decide +kernel
theorem dX4_day_14 : decode cX4_day 14 = .ok (.aload_n 0, 1) := by decide +kernel
theorem dX4_day_15 : decode cX4_day 15 = .ok (.iload_n 1, 1) := by decide +kernel
theorem dX4_day_16 : decode cX4_day 16 = .ok (.invokevirtual 184, 3) := by decide +kernel
theorem dX4_day_19 : decode cX4_day 19 = .ok (.ireturn, 1) := by decide +kernel
set_option maxRecDepth 20000 in
theorem ggX4_best_X4_inRange : GoodIn wsX4_best wsX4_inRange := goodIn_r _ [5] (by decide +kernel) (by decide +kernel)
set_option maxRecDepth 20000 in
theorem gX4_best_X4_inRange : GoodIn wsX4_best (va_wsS RX4 61 yX4_inRange wsX4_inRange) := goodIn_app (goodIn_of _ (by decide +kernel)) ggX4_best_X4_inRange
set_option maxRecDepth 20000 in
theorem ggX4_best_X4_allBits : GoodIn wsX4_best wsX4_allBits := goodIn_r _ [9, 1, 148, 149, 150, 151, 152, 153, 154] (by decide +kernel) (by decide +kernel)
set_option maxRecDepth 20000 in
theorem gX4_best_X4_allBits : GoodIn wsX4_best (wsV RX4 180 RX4 yX4_allBits wsX4_allBits) := goodIn_app (goodIn_of _ (by decide +kernel)) ggX4_best_X4_allBits
set_option maxRecDepth 20000 in
theorem ggX4_best_J6_bitCount_0f7a4 : GoodIn wsX4_best wsJ6_bitCount_0f7a4 := goodIn_r _ [13, 14, 15, 16] (by decide +kernel) (by decide +kernel)
set_option maxRecDepth 20000 in
theorem gX4_best_J6_bitCount_0f7a4 : GoodIn wsX4_best (va_wsS RX4 187 yJ6_bitCount_0f7a4 wsJ6_bitCount_0f7a4) := goodIn_app (goodIn_of _ (by decide +kernel)) ggX4_best_J6_bitCount_0f7a4
set_option maxRecDepth 20000 in
theorem ggX4_best_X4_tryDay : GoodIn wsX4_best wsX4_tryDay := goodIn_r _ [20, 21, 22, 23, 24, 25, 26, 27, 28, 29, 30, 31, 32, 4, 33, 1, 34, 35, 36, 37, 38, 39, 40, 41, 42, 43, 44, 45, 46, 47, 48, 49, 50, 51, 52, 53, 54, 55, 56, 57, 58, 59, 60, 61, 62, 63, 64, 65, 66, 67, 68, 69, 70, 71, 72, 73, 74, 75, 76, 77, 78, 79, 80, 81, 82, 83, 84, 85, 86, 87, 88, 89, 90, 91, 92, 93, 94, 95, 96, 97, 98, 99, 100, 101, 102, 103, 104, 105, 106, 107, 108, 109, 110, 111, 112, 113, 114, 115, 116, 117, 118, 119, 120, 121, 122, 123, 124, 125, 126, 127, 128, 129, 130, 131, 132, 133, 134, 135, 136, 137, 138, 139, 140, 141, 142, 143, 144, 145, 146, 147, 148, 149, 150, 151, 152, 153, 154, 155, 156, 157, 158, 159, 160, 161, 162, 163, 164, 165, 166, 167, 168, 169, 170, 171, 172, 173, 174, 175, 176, 177, 178, 179, 180, 181, 182, 183, 184] (by decide +kernel) (by decide +kernel)
set_option maxRecDepth 20000 in
theorem gX4_best_X4_tryDay : GoodIn wsX4_best (wsV RX4 184 RX4 yX4_tryDay wsX4_tryDay) := goodIn_app (goodIn_of _ (by decide +kernel)) ggX4_best_X4_tryDay
theorem dX4_best_0 : decode cX4_best 0 = .ok (.iload_n 1, 1) := by decide +kernel
theorem dX4_best_1 : decode cX4_best 1 = .ok (.iconst 0, 1) := by decide +kernel
theorem dX4_best_2 : decode cX4_best 2 = .ok (.aload_n 0, 1) := by decide +kernel
theorem dX4_best_3 : decode cX4_best 3 = .ok (.getfield 40, 3) := by decide +kernel
theorem dX4_best_6 : decode cX4_best 6 = .ok (.invokestatic 61, 3) := by decide +kernel
theorem dX4_best_9 : decode cX4_best 9 = .ok (.ifCond .ne 5, 3) := by decide +kernel
theorem dX4_best_12 : decode cX4_best 12 = .ok (.iconst (-1), 1) := by decide +kernel
theorem dX4_best_13 : decode cX4_best 13 = .ok (.ireturn, 1) := by decide +kernel
theorem dX4_best_14 : decode cX4_best 14 = .ok (.iconst (-1), 1) := by decide +kernel
theorem dX4_best_15 : decode cX4_best 15 = .ok (.istore_n 2, 1) := by decide +kernel
theorem dX4_best_16 : decode cX4_best 16 = .ok (.iconst 0, 1) := by decide +kernel
theorem dX4_best_17 : decode cX4_best 17 = .ok (.istore_n 3, 1) := by decide +kernel
theorem dX4_best_18 : decode cX4_best 18 = .ok (.iconst 0, 1) := by decide +kernel
theorem dX4_best_19 : decode cX4_best 19 = .ok (.istore 4, 2) := by decide +kernel
theorem dX4_best_21 : decode cX4_best 21 = .ok (.iload 4, 2) := by decide +kernel
theorem dX4_best_23 : decode cX4_best 23 = .ok (.aload_n 0, 1) := by decide +kernel
theorem dX4_best_24 : decode cX4_best 24 = .ok (.invokevirtual 180, 3) := by decide +kernel
theorem dX4_best_27 : decode cX4_best 27 = .ok (.if_icmp .gt 43, 3) := by decide +kernel
theorem dX4_best_30 : decode cX4_best 30 = .ok (.iload 4, 2) := by decide +kernel
theorem dX4_best_32 : decode cX4_best 32 = .ok (.invokestatic 187, 3) := by decide +kernel
theorem dX4_best_35 : decode cX4_best 35 = .ok (.iload_n 1, 1) := by decide +kernel
theorem dX4_best_36 : decode cX4_best 36 = .ok (.if_icmp .ne 28, 3) := by decide +kernel
theorem dX4_best_39 : decode cX4_best 39 = .ok (.aload_n 0, 1) := by decide +kernel
theorem dX4_best_40 : decode cX4_best 40 = .ok (.iload 4, 2) := by decide +kernel
theorem dX4_best_42 : decode cX4_best 42 = .ok (.invokevirtual 184, 3) := by decide +kernel
theorem dX4_best_45 : decode cX4_best 45 = .ok (.istore 5, 2) := by decide +kernel
theorem dX4_best_47 : decode cX4_best 47 = .ok (.iload_n 2, 1) := by decide +kernel
theorem dX4_best_48 : decode cX4_best 48 = .ok (.iconst (-1), 1) := by decide +kernel
theorem dX4_best_49 : decode cX4_best 49 = .ok (.if_icmp .eq 9, 3) := by decide +kernel
theorem dX4_best_52 : decode cX4_best 52 = .ok (.iload 5, 2) := by decide +kernel
theorem dX4_best_54 : decode cX4_best 54 = .ok (.iload_n 3, 1) := by decide +kernel
theorem dX4_best_55 : decode cX4_best 55 = .ok (.if_icmp .ge 9, 3) := by decide +kernel
theorem dX4_best_58 : decode cX4_best 58 = .ok (.iload 4, 2) := by decide +kernel
theorem dX4_best_60 : decode cX4_best 60 = .ok (.istore_n 2, 1) := by decide +kernel
theorem dX4_best_61 : decode cX4_best 61 = .ok (.iload 5, 2) := by decide +kernel
theorem dX4_best_63 : decode cX4_best 63 = .ok (.istore_n 3, 1) := by decide +kernel
theorem dX4_best_64 : decode cX4_best 64 = .ok (.iinc 4 1, 3) := by decide +kernel
theorem dX4_best_67 : decode cX4_best 67 = .ok (.goto (-46), 3) := by decide +kernel
theorem dX4_best_70 : decode cX4_best 70 = .ok (.iload_n 2, 1) := by decide +kernel
theorem dX4_best_71 : decode cX4_best 71 = .ok (.ireturn, 1) := by decide +kernel
set_option maxRecDepth 20000 in
theorem ggX4_broken_X1_hasPiece : GoodIn wsX4_broken wsX1_hasPiece := goodIn_r _ [8, 9, 23, 24, 25, 26, 27, 28, 29, 30, 31, 32] (by decide +kernel) (by decide +kernel)
set_option maxRecDepth 20000 in
theorem gX4_broken_X1_hasPiece : GoodIn wsX4_broken (wsV RX4 192 RX1 yX1_hasPiece wsX1_hasPiece) := goodIn_app (goodIn_of _ (by decide +kernel)) ggX4_broken_X1_hasPiece
set_option maxRecDepth 20000 in
theorem ggX4_broken_X4_inRange : GoodIn wsX4_broken wsX4_inRange := goodIn_r _ [13] (by decide +kernel) (by decide +kernel)
set_option maxRecDepth 20000 in
theorem gX4_broken_X4_inRange : GoodIn wsX4_broken (va_wsS RX4 61 yX4_inRange wsX4_inRange) := goodIn_app (goodIn_of _ (by decide +kernel)) ggX4_broken_X4_inRange
theorem dX4_broken_0 : decode cX4_broken 0 = .ok (.aload_n 0, 1) := by decide +kernel
theorem dX4_broken_1 : decode cX4_broken 1 = .ok (.getfield 10, 3) := by decide +kernel
theorem dX4_broken_4 : decode cX4_broken 4 = .ok (.iload_n 1, 1) := by decide +kernel
theorem dX4_broken_5 : decode cX4_broken 5 = .ok (.invokevirtual 192, 3) := by decide +kernel
theorem dX4_broken_8 : decode cX4_broken 8 = .ok (.ifCond .eq 13, 3) := by decide +kernel
theorem dX4_broken_11 : decode cX4_broken 11 = .ok (.iload_n 2, 1) := by decide +kernel
theorem dX4_broken_12 : decode cX4_broken 12 = .ok (.iconst 1, 1) := by decide +kernel
theorem dX4_broken_13 : decode cX4_broken 13 = .ok (.bipush 100, 2) := by decide +kernel
theorem dX4_broken_15 : decode cX4_broken 15 = .ok (.invokestatic 61, 3) := by decide +kernel
theorem dX4_broken_18 : decode cX4_broken 18 = .ok (.ifCond .ne 5, 3) := by decide +kernel
theorem dX4_broken_21 : decode cX4_broken 21 = .ok (.iconst (-1), 1) := by decide +kernel
theorem dX4_broken_22 : decode cX4_broken 22 = .ok (.ireturn, 1) := by decide +kernel
theorem dX4_broken_23 : decode cX4_broken 23 = .ok (.aload_n 0, 1) := by decide +kernel
theorem dX4_broken_24 : decode cX4_broken 24 = .ok (.getfield 19, 3) := by decide +kernel
theorem dX4_broken_27 : decode cX4_broken 27 = .ok (.getfield 195, 3) := by decide +kernel
theorem dX4_broken_30 : decode cX4_broken 30 = .ok (.iload_n 1, 1) := by decide +kernel
theorem dX4_broken_31 : decode cX4_broken 31 = .ok (.iaload, 1) := by decide +kernel
theorem dX4_broken_32 : decode cX4_broken 32 = .ok (.iload_n 2, 1) := by decide +kernel
theorem dX4_broken_33 : decode cX4_broken 33 = .ok (.iadd, 1) := by decide +kernel
theorem dX4_broken_34 : decode cX4_broken 34 = .ok (.sipush 1000, 3) := by decide +kernel
theorem dX4_broken_37 : decode cX4_broken 37 = .ok (.if_icmp .le 5, 3) := by decide +kernel
theorem dX4_broken_40 : decode cX4_broken 40 = .ok (.iconst (-1), 1) := by decide +kernel
theorem dX4_broken_41 : decode cX4_broken 41 = .ok (.ireturn, 1) := by decide +kernel
theorem dX4_broken_42 : decode cX4_broken 42 = .ok (.aload_n 0, 1) := by decide +kernel
theorem dX4_broken_43 : decode cX4_broken 43 = .ok (.getfield 19, 3) := by decide +kernel
theorem dX4_broken_46 : decode cX4_broken 46 = .ok (.getfield 195, 3) := by decide +kernel
theorem dX4_broken_49 : decode cX4_broken 49 = .ok (.iload_n 1, 1) := by decide +kernel
theorem dX4_broken_50 : decode cX4_broken 50 = .ok (.dup2, 1) := by decide +kernel
theorem dX4_broken_51 : decode cX4_broken 51 = .ok (.iaload, 1) := by decide +kernel
theorem dX4_broken_52 : decode cX4_broken 52 = .ok (.iload_n 2, 1) := by decide +kernel
theorem dX4_broken_53 : decode cX4_broken 53 = .ok (.iadd, 1) := by decide +kernel
theorem dX4_broken_54 : decode cX4_broken 54 = .ok (.iastore, 1) := by decide +kernel
theorem dX4_broken_55 : decode cX4_broken 55 = .ok (.aload_n 0, 1) := by decide +kernel
theorem dX4_broken_56 : decode cX4_broken 56 = .ok (.getfield 19, 3) := by decide +kernel
theorem dX4_broken_59 : decode cX4_broken 59 = .ok (.getfield 195, 3) := by decide +kernel
theorem dX4_broken_62 : decode cX4_broken 62 = .ok (.iload_n 1, 1) := by decide +kernel
theorem dX4_broken_63 : decode cX4_broken 63 = .ok (.iaload, 1) := by decide +kernel
theorem dX4_broken_64 : decode cX4_broken 64 = .ok (.ireturn, 1) := by decide +kernel
set_option maxRecDepth 20000 in
theorem ggX4_bent_X1_hasPiece : GoodIn wsX4_bent wsX1_hasPiece := goodIn_r _ [8, 9, 19, 20, 21, 22, 23, 24, 25, 26, 27, 28] (by decide +kernel) (by decide +kernel)
set_option maxRecDepth 20000 in
theorem gX4_bent_X1_hasPiece : GoodIn wsX4_bent (wsV RX4 192 RX1 yX1_hasPiece wsX1_hasPiece) := goodIn_app (goodIn_of _ (by decide +kernel)) ggX4_bent_X1_hasPiece
theorem dX4_bent_0 : decode cX4_bent 0 = .ok (.aload_n 0, 1) := by decide +kernel
theorem dX4_bent_1 : decode cX4_bent 1 = .ok (.getfield 10, 3) := by decide +kernel
theorem dX4_bent_4 : decode cX4_bent 4 = .ok (.iload_n 1, 1) := by decide +kernel
theorem dX4_bent_5 : decode cX4_bent 5 = .ok (.invokevirtual 192, 3) := by decide +kernel
theorem dX4_bent_8 : decode cX4_bent 8 = .ok (.ifCond .eq 15, 3) := by decide +kernel
theorem dX4_bent_11 : decode cX4_bent 11 = .ok (.aload_n 0, 1) := by decide +kernel
theorem dX4_bent_12 : decode cX4_bent 12 = .ok (.getfield 19, 3) := by decide +kernel
theorem dX4_bent_15 : decode cX4_bent 15 = .ok (.getfield 198, 3) := by decide +kernel
theorem dX4_bent_18 : decode cX4_bent 18 = .ok (.iload_n 1, 1) := by decide +kernel
theorem dX4_bent_19 : decode cX4_bent 19 = .ok (.iaload, 1) := by decide +kernel
theorem dX4_bent_20 : decode cX4_bent 20 = .ok (.goto 4, 3) := by decide +kernel
theorem dX4_bent_23 : decode cX4_bent 23 = .ok (.iconst (-1), 1) := by decide +kernel
theorem dX4_bent_24 : decode cX4_bent 24 = .ok (.ireturn, 1) := by decide +kernel
set_option maxRecDepth 20000 in
theorem ggX4_off_X2_firstWorn : GoodIn wsX4_off wsX2_firstWorn := goodIn_r _ [9, 10, 41, 42] (by decide +kernel) (by decide +kernel)
set_option maxRecDepth 20000 in
theorem gX4_off_X2_firstWorn : GoodIn wsX4_off (wsV RX4 201 RX2 yX2_firstWorn wsX2_firstWorn) := goodIn_app (goodIn_of _ (by decide +kernel)) ggX4_off_X2_firstWorn
set_option maxRecDepth 20000 in
theorem ggX4_off_X2_firstFrayed : GoodIn wsX4_off wsX2_firstFrayed := goodIn_r _ [14, 15, 16, 17, 18, 19, 20, 21, 8, 22, 23, 41, 42] (by decide +kernel) (by decide +kernel)
set_option maxRecDepth 20000 in
theorem gX4_off_X2_firstFrayed : GoodIn wsX4_off (wsV RX4 204 RX2 yX2_firstFrayed wsX2_firstFrayed) := goodIn_app (goodIn_of _ (by decide +kernel)) ggX4_off_X2_firstFrayed
theorem dX4_off_0 : decode cX4_off 0 = .ok (.aload_n 0, 1) := by decide +kernel
theorem dX4_off_1 : decode cX4_off 1 = .ok (.getfield 19, 3) := by decide +kernel
theorem dX4_off_4 : decode cX4_off 4 = .ok (.aload_n 0, 1) := by decide +kernel
theorem dX4_off_5 : decode cX4_off 5 = .ok (.getfield 10, 3) := by decide +kernel
theorem dX4_off_8 : decode cX4_off 8 = .ok (.getfield 68, 3) := by decide +kernel
theorem dX4_off_11 : decode cX4_off 11 = .ok (.aload_n 0, 1) := by decide +kernel
theorem dX4_off_12 : decode cX4_off 12 = .ok (.getfield 10, 3) := by decide +kernel
theorem dX4_off_15 : decode cX4_off 15 = .ok (.getfield 94, 3) := by decide +kernel
theorem dX4_off_18 : decode cX4_off 18 = .ok (.iconst 5, 1) := by decide +kernel
theorem dX4_off_19 : decode cX4_off 19 = .ok (.iaload, 1) := by decide +kernel
theorem dX4_off_20 : decode cX4_off 20 = .ok (.invokevirtual 201, 3) := by decide +kernel
theorem dX4_off_23 : decode cX4_off 23 = .ok (.istore_n 1, 1) := by decide +kernel
theorem dX4_off_24 : decode cX4_off 24 = .ok (.iload_n 1, 1) := by decide +kernel
theorem dX4_off_25 : decode cX4_off 25 = .ok (.iconst (-1), 1) := by decide +kernel
theorem dX4_off_26 : decode cX4_off 26 = .ok (.if_icmp .eq 7, 3) := by decide +kernel
theorem dX4_off_29 : decode cX4_off 29 = .ok (.iconst 1, 1) := by decide +kernel
theorem dX4_off_30 : decode cX4_off 30 = .ok (.iload_n 1, 1) := by decide +kernel
theorem dX4_off_31 : decode cX4_off 31 = .ok (.iadd, 1) := by decide +kernel
theorem dX4_off_32 : decode cX4_off 32 = .ok (.ireturn, 1) := by decide +kernel
theorem dX4_off_33 : decode cX4_off 33 = .ok (.aload_n 0, 1) := by decide +kernel
theorem dX4_off_34 : decode cX4_off 34 = .ok (.getfield 19, 3) := by decide +kernel
theorem dX4_off_37 : decode cX4_off 37 = .ok (.aload_n 0, 1) := by decide +kernel
theorem dX4_off_38 : decode cX4_off 38 = .ok (.getfield 10, 3) := by decide +kernel
theorem dX4_off_41 : decode cX4_off 41 = .ok (.getfield 68, 3) := by decide +kernel
theorem dX4_off_44 : decode cX4_off 44 = .ok (.aload_n 0, 1) := by decide +kernel
theorem dX4_off_45 : decode cX4_off 45 = .ok (.getfield 10, 3) := by decide +kernel
theorem dX4_off_48 : decode cX4_off 48 = .ok (.getfield 94, 3) := by decide +kernel
theorem dX4_off_51 : decode cX4_off 51 = .ok (.bipush 6, 2) := by decide +kernel
theorem dX4_off_53 : decode cX4_off 53 = .ok (.iaload, 1) := by decide +kernel
theorem dX4_off_54 : decode cX4_off 54 = .ok (.aload_n 0, 1) := by decide +kernel
theorem dX4_off_55 : decode cX4_off 55 = .ok (.getfield 10, 3) := by decide +kernel
theorem dX4_off_58 : decode cX4_off 58 = .ok (.getfield 94, 3) := by decide +kernel
theorem dX4_off_61 : decode cX4_off 61 = .ok (.bipush 7, 2) := by decide +kernel
theorem dX4_off_63 : decode cX4_off 63 = .ok (.iaload, 1) := by decide +kernel
theorem dX4_off_64 : decode cX4_off 64 = .ok (.invokevirtual 204, 3) := by decide +kernel
theorem dX4_off_67 : decode cX4_off 67 = .ok (.istore_n 2, 1) := by decide +kernel
theorem dX4_off_68 : decode cX4_off 68 = .ok (.iload_n 2, 1) := by decide +kernel
theorem dX4_off_69 : decode cX4_off 69 = .ok (.iconst (-1), 1) := by decide +kernel
theorem dX4_off_70 : decode cX4_off 70 = .ok (.if_icmp .eq 10, 3) := by decide +kernel
theorem dX4_off_73 : decode cX4_off 73 = .ok (.bipush 100, 2) := by decide +kernel
theorem dX4_off_75 : decode cX4_off 75 = .ok (.iload_n 2, 1) := by decide +kernel
theorem dX4_off_76 : decode cX4_off 76 = .ok (.iadd, 1) := by decide +kernel
theorem dX4_off_77 : decode cX4_off 77 = .ok (.goto 4, 3) := by decide +kernel
theorem dX4_off_80 : decode cX4_off 80 = .ok (.iconst 0, 1) := by decide +kernel
theorem dX4_off_81 : decode cX4_off 81 = .ok (.ireturn, 1) := by decide +kernel
theorem dX4_inRange_0 : decode cX4_inRange 0 = .ok (.iload_n 0, 1) := by decide +kernel
theorem dX4_inRange_1 : decode cX4_inRange 1 = .ok (.iload_n 1, 1) := by decide +kernel
theorem dX4_inRange_2 : decode cX4_inRange 2 = .ok (.if_icmp .lt 12, 3) := by decide +kernel
theorem dX4_inRange_5 : decode cX4_inRange 5 = .ok (.iload_n 0, 1) := by decide +kernel
theorem dX4_inRange_6 : decode cX4_inRange 6 = .ok (.iload_n 2, 1) := by decide +kernel
theorem dX4_inRange_7 : decode cX4_inRange 7 = .ok (.if_icmp .gt 7, 3) := by decide +kernel
theorem dX4_inRange_10 : decode cX4_inRange 10 = .ok (.iconst 1, 1) := by decide +kernel
theorem dX4_inRange_11 : decode cX4_inRange 11 = .ok (.goto 4, 3) := by decide +kernel
theorem dX4_inRange_14 : decode cX4_inRange 14 = .ok (.iconst 0, 1) := by decide +kernel
theorem dX4_inRange_15 : decode cX4_inRange 15 = .ok (.ireturn, 1) := by decide +kernel
theorem dX4_howMany_0 : decode cX4_howMany 0 = .ok (.iconst 0, 1) := by decide +kernel
theorem dX4_howMany_1 : decode cX4_howMany 1 = .ok (.istore_n 2, 1) := by decide +kernel
theorem dX4_howMany_2 : decode cX4_howMany 2 = .ok (.iconst 0, 1) := by decide +kernel
theorem dX4_howMany_3 : decode cX4_howMany 3 = .ok (.istore_n 3, 1) := by decide +kernel
theorem dX4_howMany_4 : decode cX4_howMany 4 = .ok (.iload_n 3, 1) := by decide +kernel
theorem dX4_howMany_5 : decode cX4_howMany 5 = .ok (.aload_n 0, 1) := by decide +kernel
theorem dX4_howMany_6 : decode cX4_howMany 6 = .ok (.getfield 10, 3) := by decide +kernel
theorem dX4_howMany_9 : decode cX4_howMany 9 = .ok (.getfield 100, 3) := by decide +kernel
theorem dX4_howMany_12 : decode cX4_howMany 12 = .ok (.if_icmp .ge 25, 3) := by decide +kernel
theorem dX4_howMany_15 : decode cX4_howMany 15 = .ok (.aload_n 0, 1) := by decide +kernel
theorem dX4_howMany_16 : decode cX4_howMany 16 = .ok (.getfield 26, 3) := by decide +kernel
theorem dX4_howMany_19 : decode cX4_howMany 19 = .ok (.getfield 139, 3) := by decide +kernel
theorem dX4_howMany_22 : decode cX4_howMany 22 = .ok (.iload_n 3, 1) := by decide +kernel
theorem dX4_howMany_23 : decode cX4_howMany 23 = .ok (.iaload, 1) := by decide +kernel
theorem dX4_howMany_24 : decode cX4_howMany 24 = .ok (.iload_n 1, 1) := by decide +kernel
theorem dX4_howMany_25 : decode cX4_howMany 25 = .ok (.if_icmp .ne 6, 3) := by decide +kernel
theorem dX4_howMany_28 : decode cX4_howMany 28 = .ok (.iinc 2 1, 3) := by decide +kernel
theorem dX4_howMany_31 : decode cX4_howMany 31 = .ok (.iinc 3 1, 3) := by decide +kernel
theorem dX4_howMany_34 : decode cX4_howMany 34 = .ok (.goto (-30), 3) := by decide +kernel
theorem dX4_howMany_37 : decode cX4_howMany 37 = .ok (.iload_n 2, 1) := by decide +kernel
theorem dX4_howMany_38 : decode cX4_howMany 38 = .ok (.ireturn, 1) := by decide +kernel
theorem dX4_allBits_0 : decode cX4_allBits 0 = .ok (.iconst 1, 1) := by decide +kernel
theorem dX4_allBits_1 : decode cX4_allBits 1 = .ok (.aload_n 0, 1) := by decide +kernel
theorem dX4_allBits_2 : decode cX4_allBits 2 = .ok (.getfield 40, 3) := by decide +kernel
theorem dX4_allBits_5 : decode cX4_allBits 5 = .ok (.ishl, 1) := by decide +kernel
theorem dX4_allBits_6 : decode cX4_allBits 6 = .ok (.iconst 1, 1) := by decide +kernel
theorem dX4_allBits_7 : decode cX4_allBits 7 = .ok (.isub, 1) := by decide +kernel
theorem dX4_allBits_8 : decode cX4_allBits 8 = .ok (.ireturn, 1) := by decide +kernel
set_option maxRecDepth 20000 in
theorem ggX4_tryDay_X4_sortStarts : GoodIn wsX4_tryDay wsX4_sortStarts := goodIn_r _ [14, 15, 3, 16, 130, 131, 132, 133, 134, 135, 136] (by decide +kernel) (by decide +kernel)
set_option maxRecDepth 20000 in
theorem gX4_tryDay_X4_sortStarts : GoodIn wsX4_tryDay (wsV RX4 207 RX4 yX4_sortStarts wsX4_sortStarts) := goodIn_app (goodIn_of _ (by decide +kernel)) ggX4_tryDay_X4_sortStarts
set_option maxRecDepth 20000 in
theorem ggX4_tryDay_X3_startAnew : GoodIn wsX4_tryDay wsX3_startAnew := goodIn_r _ [21, 22, 23, 24, 25, 26, 27, 28, 29, 30, 31, 32, 33, 34, 35, 36, 37, 38, 39, 40, 41, 137, 138, 139, 140, 141, 142, 143, 144, 145, 146, 147, 148, 149, 150, 151, 152, 153, 154, 155, 156] (by decide +kernel) (by decide +kernel)
set_option maxRecDepth 20000 in
theorem gX4_tryDay_X3_startAnew : GoodIn wsX4_tryDay (wsV RX4 48 RX3 yX3_startAnew wsX3_startAnew) := goodIn_app (goodIn_of _ (by decide +kernel)) ggX4_tryDay_X3_startAnew
set_option maxRecDepth 20000 in
theorem ggX4_tryDay_X3_travel : GoodIn wsX4_tryDay wsX3_travel := goodIn_r _ [45, 25, 46, 47, 27, 48, 49, 28, 29, 35, 36, 37, 38, 39, 40, 41, 50, 51, 52, 20, 53, 54, 55, 56, 57, 58, 59, 60, 61, 62, 63, 64, 65, 66, 67, 68, 69, 70, 71, 72, 26, 73, 74, 22, 24, 75, 76, 77, 78, 79, 80, 81, 23, 30, 82, 83, 84, 85, 86, 87, 88, 89, 90, 91, 92, 93, 94, 95, 96, 97, 98, 99, 100, 101, 102, 103, 104, 105, 106, 107, 108, 109, 110, 111, 112, 113, 114, 115, 116, 117, 7, 118, 119, 120, 121, 122, 123, 137, 138, 139, 140, 141, 142, 143, 144, 145, 146, 147, 148, 149, 150, 151, 152, 153, 154, 155, 156, 157, 158, 159, 160, 161, 162, 163, 164, 165, 166] (by decide +kernel) (by decide +kernel)
set_option maxRecDepth 20000 in
theorem gX4_tryDay_X3_travel : GoodIn wsX4_tryDay (wsV RX4 110 RX3 yX3_travel wsX3_travel) := goodIn_app (goodIn_of _ (by decide +kernel)) ggX4_tryDay_X3_travel
set_option maxRecDepth 20000 in
theorem ggX4_tryDay_X3_stillWaiting : GoodIn wsX4_tryDay wsX3_stillWaiting := goodIn_r _ [127, 128, 22, 28, 82, 129, 6, 7, 8, 157, 158, 159, 160, 161, 162, 163, 164, 165, 166, 137, 138, 139, 140, 141, 142, 143, 144, 145, 146, 147, 148, 149, 150, 151] (by decide +kernel) (by decide +kernel)
set_option maxRecDepth 20000 in
theorem gX4_tryDay_X3_stillWaiting : GoodIn wsX4_tryDay (wsV RX4 210 RX3 yX3_stillWaiting wsX3_stillWaiting) := goodIn_app (goodIn_of _ (by decide +kernel)) ggX4_tryDay_X3_stillWaiting
theorem dX4_tryDay_0 : decode cX4_tryDay 0 = .ok (.aload_n 0, 1) := by decide +kernel
theorem dX4_tryDay_1 : decode cX4_tryDay 1 = .ok (.iload_n 1, 1) := by decide +kernel
theorem dX4_tryDay_2 : decode cX4_tryDay 2 = .ok (.invokevirtual 207, 3) := by decide +kernel
theorem dX4_tryDay_5 : decode cX4_tryDay 5 = .ok (.istore_n 2, 1) := by decide +kernel
theorem dX4_tryDay_6 : decode cX4_tryDay 6 = .ok (.aload_n 0, 1) := by decide +kernel
theorem dX4_tryDay_7 : decode cX4_tryDay 7 = .ok (.getfield 30, 3) := by decide +kernel
theorem dX4_tryDay_10 : decode cX4_tryDay 10 = .ok (.invokevirtual 48, 3) := by decide +kernel
theorem dX4_tryDay_13 : decode cX4_tryDay 13 = .ok (.iconst 0, 1) := by decide +kernel
theorem dX4_tryDay_14 : decode cX4_tryDay 14 = .ok (.istore_n 3, 1) := by decide +kernel
theorem dX4_tryDay_15 : decode cX4_tryDay 15 = .ok (.iload_n 3, 1) := by decide +kernel
theorem dX4_tryDay_16 : decode cX4_tryDay 16 = .ok (.iload_n 2, 1) := by decide +kernel
theorem dX4_tryDay_17 : decode cX4_tryDay 17 = .ok (.if_icmp .ge 36, 3) := by decide +kernel
theorem dX4_tryDay_20 : decode cX4_tryDay 20 = .ok (.aload_n 0, 1) := by decide +kernel
theorem dX4_tryDay_21 : decode cX4_tryDay 21 = .ok (.getfield 30, 3) := by decide +kernel
theorem dX4_tryDay_24 : decode cX4_tryDay 24 = .ok (.aload_n 0, 1) := by decide +kernel
theorem dX4_tryDay_25 : decode cX4_tryDay 25 = .ok (.getfield 10, 3) := by decide +kernel
theorem dX4_tryDay_28 : decode cX4_tryDay 28 = .ok (.aload_n 0, 1) := by decide +kernel
theorem dX4_tryDay_29 : decode cX4_tryDay 29 = .ok (.getfield 37, 3) := by decide +kernel
theorem dX4_tryDay_32 : decode cX4_tryDay 32 = .ok (.iload_n 3, 1) := by decide +kernel
theorem dX4_tryDay_33 : decode cX4_tryDay 33 = .ok (.iaload, 1) := by decide +kernel
theorem dX4_tryDay_34 : decode cX4_tryDay 34 = .ok (.aload_n 0, 1) := by decide +kernel
theorem dX4_tryDay_35 : decode cX4_tryDay 35 = .ok (.getfield 30, 3) := by decide +kernel
theorem dX4_tryDay_38 : decode cX4_tryDay 38 = .ok (.getfield 107, 3) := by decide +kernel
theorem dX4_tryDay_41 : decode cX4_tryDay 41 = .ok (.invokestatic 88, 3) := by decide +kernel
theorem dX4_tryDay_44 : decode cX4_tryDay 44 = .ok (.invokevirtual 110, 3) := by decide +kernel
theorem dX4_tryDay_47 : decode cX4_tryDay 47 = .ok (.iinc 3 1, 3) := by decide +kernel
theorem dX4_tryDay_50 : decode cX4_tryDay 50 = .ok (.goto (-35), 3) := by decide +kernel
theorem dX4_tryDay_53 : decode cX4_tryDay 53 = .ok (.aload_n 0, 1) := by decide +kernel
theorem dX4_tryDay_54 : decode cX4_tryDay 54 = .ok (.getfield 30, 3) := by decide +kernel
theorem dX4_tryDay_57 : decode cX4_tryDay 57 = .ok (.getfield 129, 3) := by decide +kernel
theorem dX4_tryDay_60 : decode cX4_tryDay 60 = .ok (.aload_n 0, 1) := by decide +kernel
theorem dX4_tryDay_61 : decode cX4_tryDay 61 = .ok (.getfield 30, 3) := by decide +kernel
theorem dX4_tryDay_64 : decode cX4_tryDay 64 = .ok (.aload_n 0, 1) := by decide +kernel
theorem dX4_tryDay_65 : decode cX4_tryDay 65 = .ok (.getfield 10, 3) := by decide +kernel
theorem dX4_tryDay_68 : decode cX4_tryDay 68 = .ok (.invokevirtual 210, 3) := by decide +kernel
theorem dX4_tryDay_71 : decode cX4_tryDay 71 = .ok (.iadd, 1) := by decide +kernel
theorem dX4_tryDay_72 : decode cX4_tryDay 72 = .ok (.ireturn, 1) := by decide +kernel
theorem dX4_sortStarts_0 : decode cX4_sortStarts 0 = .ok (.iconst 0, 1) := by decide +kernel
theorem dX4_sortStarts_1 : decode cX4_sortStarts 1 = .ok (.istore_n 2, 1) := by decide +kernel
theorem dX4_sortStarts_2 : decode cX4_sortStarts 2 = .ok (.iconst 0, 1) := by decide +kernel
theorem dX4_sortStarts_3 : decode cX4_sortStarts 3 = .ok (.istore_n 3, 1) := by decide +kernel
theorem dX4_sortStarts_4 : decode cX4_sortStarts 4 = .ok (.iload_n 3, 1) := by decide +kernel
theorem dX4_sortStarts_5 : decode cX4_sortStarts 5 = .ok (.aload_n 0, 1) := by decide +kernel
theorem dX4_sortStarts_6 : decode cX4_sortStarts 6 = .ok (.getfield 40, 3) := by decide +kernel
theorem dX4_sortStarts_9 : decode cX4_sortStarts 9 = .ok (.if_icmp .ge 82, 3) := by decide +kernel
theorem dX4_sortStarts_12 : decode cX4_sortStarts 12 = .ok (.iload_n 1, 1) := by decide +kernel
theorem dX4_sortStarts_13 : decode cX4_sortStarts 13 = .ok (.iload_n 3, 1) := by decide +kernel
theorem dX4_sortStarts_14 : decode cX4_sortStarts 14 = .ok (.ishr, 1) := by decide +kernel
theorem dX4_sortStarts_15 : decode cX4_sortStarts 15 = .ok (.iconst 1, 1) := by decide +kernel
theorem dX4_sortStarts_16 : decode cX4_sortStarts 16 = .ok (.iand, 1) := by decide +kernel
theorem dX4_sortStarts_17 : decode cX4_sortStarts 17 = .ok (.iconst 1, 1) := by decide +kernel
theorem dX4_sortStarts_18 : decode cX4_sortStarts 18 = .ok (.if_icmp .ne 67, 3) := by decide +kernel
theorem dX4_sortStarts_21 : decode cX4_sortStarts 21 = .ok (.iload_n 2, 1) := by decide +kernel
theorem dX4_sortStarts_22 : decode cX4_sortStarts 22 = .ok (.istore 4, 2) := by decide +kernel
theorem dX4_sortStarts_24 : decode cX4_sortStarts 24 = .ok (.iload 4, 2) := by decide +kernel
theorem dX4_sortStarts_26 : decode cX4_sortStarts 26 = .ok (.ifCond .le 43, 3) := by decide +kernel
theorem dX4_sortStarts_29 : decode cX4_sortStarts 29 = .ok (.aload_n 0, 1) := by decide +kernel
theorem dX4_sortStarts_30 : decode cX4_sortStarts 30 = .ok (.getfield 37, 3) := by decide +kernel
theorem dX4_sortStarts_33 : decode cX4_sortStarts 33 = .ok (.iload 4, 2) := by decide +kernel
theorem dX4_sortStarts_35 : decode cX4_sortStarts 35 = .ok (.iconst 1, 1) := by decide +kernel
theorem dX4_sortStarts_36 : decode cX4_sortStarts 36 = .ok (.isub, 1) := by decide +kernel
theorem dX4_sortStarts_37 : decode cX4_sortStarts 37 = .ok (.iaload, 1) := by decide +kernel
theorem dX4_sortStarts_38 : decode cX4_sortStarts 38 = .ok (.aload_n 0, 1) := by decide +kernel
theorem dX4_sortStarts_39 : decode cX4_sortStarts 39 = .ok (.getfield 33, 3) := by decide +kernel
theorem dX4_sortStarts_42 : decode cX4_sortStarts 42 = .ok (.iload_n 3, 1) := by decide +kernel
theorem dX4_sortStarts_43 : decode cX4_sortStarts 43 = .ok (.iaload, 1) := by decide +kernel
theorem dX4_sortStarts_44 : decode cX4_sortStarts 44 = .ok (.if_icmp .le 25, 3) := by decide +kernel
theorem dX4_sortStarts_47 : decode cX4_sortStarts 47 = .ok (.aload_n 0, 1) := by decide +kernel
theorem dX4_sortStarts_48 : decode cX4_sortStarts 48 = .ok (.getfield 37, 3) := by decide +kernel
theorem dX4_sortStarts_51 : decode cX4_sortStarts 51 = .ok (.iload 4, 2) := by decide +kernel
theorem dX4_sortStarts_53 : decode cX4_sortStarts 53 = .ok (.aload_n 0, 1) := by decide +kernel
theorem dX4_sortStarts_54 : decode cX4_sortStarts 54 = .ok (.getfield 37, 3) := by decide +kernel
theorem dX4_sortStarts_57 : decode cX4_sortStarts 57 = .ok (.iload 4, 2) := by decide +kernel
theorem dX4_sortStarts_59 : decode cX4_sortStarts 59 = .ok (.iconst 1, 1) := by decide +kernel
theorem dX4_sortStarts_60 : decode cX4_sortStarts 60 = .ok (.isub, 1) := by decide +kernel
theorem dX4_sortStarts_61 : decode cX4_sortStarts 61 = .ok (.iaload, 1) := by decide +kernel
theorem dX4_sortStarts_62 : decode cX4_sortStarts 62 = .ok (.iastore, 1) := by decide +kernel
theorem dX4_sortStarts_63 : decode cX4_sortStarts 63 = .ok (.iinc 4 (-1), 3) := by decide +kernel
theorem dX4_sortStarts_66 : decode cX4_sortStarts 66 = .ok (.goto (-42), 3) := by decide +kernel
theorem dX4_sortStarts_69 : decode cX4_sortStarts 69 = .ok (.aload_n 0, 1) := by decide +kernel
theorem dX4_sortStarts_70 : decode cX4_sortStarts 70 = .ok (.getfield 37, 3) := by decide +kernel
theorem dX4_sortStarts_73 : decode cX4_sortStarts 73 = .ok (.iload 4, 2) := by decide +kernel
theorem dX4_sortStarts_75 : decode cX4_sortStarts 75 = .ok (.aload_n 0, 1) := by decide +kernel
theorem dX4_sortStarts_76 : decode cX4_sortStarts 76 = .ok (.getfield 33, 3) := by decide +kernel
theorem dX4_sortStarts_79 : decode cX4_sortStarts 79 = .ok (.iload_n 3, 1) := by decide +kernel
theorem dX4_sortStarts_80 : decode cX4_sortStarts 80 = .ok (.iaload, 1) := by decide +kernel
theorem dX4_sortStarts_81 : decode cX4_sortStarts 81 = .ok (.iastore, 1) := by decide +kernel
theorem dX4_sortStarts_82 : decode cX4_sortStarts 82 = .ok (.iinc 2 1, 3) := by decide +kernel
theorem dX4_sortStarts_85 : decode cX4_sortStarts 85 = .ok (.iinc 3 1, 3) := by decide +kernel
theorem dX4_sortStarts_88 : decode cX4_sortStarts 88 = .ok (.goto (-84), 3) := by decide +kernel
theorem dX4_sortStarts_91 : decode cX4_sortStarts 91 = .ok (.iload_n 2, 1) := by decide +kernel
theorem dX4_sortStarts_92 : decode cX4_sortStarts 92 = .ok (.ireturn, 1) := by decide +kernel
