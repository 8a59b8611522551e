theorem dX0_init_0 : decode cX0_init 0 = .ok (.aload_n 0, 1) := by decide +kernel
theorem dX0_init_1 : decode cX0_init 1 = .ok (.invokespecial 3, 3) := by decide +kernel
theorem dX0_init_4 : decode cX0_init 4 = .ok (.aload_n 0, 1) := by decide +kernel
theorem dX0_init_5 : decode cX0_init 5 = .ok (.bipush 20, 2) := by decide +kernel
theorem dX0_init_7 : decode cX0_init 7 = .ok (.newarray .int, 2) := by decide +kernel
theorem dX0_init_9 : decode cX0_init 9 = .ok (.putfield 9, 3) := by decide +kernel
theorem dX0_init_12 : decode cX0_init 12 = .ok (.aload_n 0, 1) := by decide +kernel
theorem dX0_init_13 : decode cX0_init 13 = .ok (.iconst 0, 1) := by decide +kernel
theorem dX0_init_14 : decode cX0_init 14 = .ok (.putfield 15, 3) := by decide +kernel
theorem dX0_init_17 : decode cX0_init 17 = .ok (.aload_n 0, 1) := by decide +kernel
theorem dX0_init_18 : decode cX0_init 18 = .ok (.iconst 0, 1) := by decide +kernel
theorem dX0_init_19 : decode cX0_init 19 = .ok (.putfield 19, 3) := by decide +kernel
theorem dX0_init_22 : decode cX0_init 22 = .ok (.aload_n 0, 1) := by decide +kernel
theorem dX0_init_23 : decode cX0_init 23 = .ok (.iconst 1, 1) := by decide +kernel
theorem dX0_init_24 : decode cX0_init 24 = .ok (.putfield 22, 3) := by decide +kernel
theorem dX0_init_27 : decode cX0_init 27 = .ok (.aload_n 0, 1) := by decide +kernel
theorem dX0_init_28 : decode cX0_init 28 = .ok (.iload_n 1, 1) := by decide +kernel
theorem dX0_init_29 : decode cX0_init 29 = .ok (.putfield 25, 3) := by decide +kernel
theorem dX0_init_32 : decode cX0_init 32 = .ok (.return_, 1) := by decide +kernel
theorem dX0_begin_0 : decode cX0_begin 0 = .ok (.aload_n 0, 1) := by decide +kernel
theorem dX0_begin_1 : decode cX0_begin 1 = .ok (.iload_n 1, 1) := by decide +kernel
theorem dX0_begin_2 : decode cX0_begin 2 = .ok (.putfield 19, 3) := by decide +kernel
theorem dX0_begin_5 : decode cX0_begin 5 = .ok (.aload_n 0, 1) := by decide +kernel
theorem dX0_begin_6 : decode cX0_begin 6 = .ok (.iload_n 2, 1) := by decide +kernel
theorem dX0_begin_7 : decode cX0_begin 7 = .ok (.putfield 22, 3) := by decide +kernel
theorem dX0_begin_10 : decode cX0_begin 10 = .ok (.return_, 1) := by decide +kernel
theorem dX0_carriesSomebodyHere_0 : decode cX0_carriesSomebodyHere 0 = .ok (.iconst 0, 1) := by decide +kernel
theorem dX0_carriesSomebodyHere_1 : decode cX0_carriesSomebodyHere 1 = .ok (.istore_n 2, 1) := by decide +kernel
theorem dX0_carriesSomebodyHere_2 : decode cX0_carriesSomebodyHere 2 = .ok (.iload_n 2, 1) := by decide +kernel
theorem dX0_carriesSomebodyHere_3 : decode cX0_carriesSomebodyHere 3 = .ok (.aload_n 0, 1) := by decide +kernel
theorem dX0_carriesSomebodyHere_4 : decode cX0_carriesSomebodyHere 4 = .ok (.getfield 15, 3) := by decide +kernel
theorem dX0_carriesSomebodyHere_7 : decode cX0_carriesSomebodyHere 7 = .ok (.if_icmp .ge 29, 3) := by decide +kernel
theorem dX0_carriesSomebodyHere_10 : decode cX0_carriesSomebodyHere 10 = .ok (.aload_n 1, 1) := by decide +kernel
theorem dX0_carriesSomebodyHere_11 : decode cX0_carriesSomebodyHere 11 = .ok (.getfield 28, 3) := by decide +kernel
theorem dX0_carriesSomebodyHere_14 : decode cX0_carriesSomebodyHere 14 = .ok (.aload_n 0, 1) := by decide +kernel
theorem dX0_carriesSomebodyHere_15 : decode cX0_carriesSomebodyHere 15 = .ok (.getfield 9, 3) := by decide +kernel
theorem dX0_carriesSomebodyHere_18 : decode cX0_carriesSomebodyHere 18 = .ok (.iload_n 2, 1) := by decide +kernel
theorem dX0_carriesSomebodyHere_19 : decode cX0_carriesSomebodyHere 19 = .ok (.iaload, 1) := by decide +kernel
theorem dX0_carriesSomebodyHere_20 : decode cX0_carriesSomebodyHere 20 = .ok (.iaload, 1) := by decide +kernel
theorem dX0_carriesSomebodyHere_21 : decode cX0_carriesSomebodyHere 21 = .ok (.aload_n 0, 1) := by decide +kernel
theorem dX0_carriesSomebodyHere_22 : decode cX0_carriesSomebodyHere 22 = .ok (.getfield 19, 3) := by decide +kernel
theorem dX0_carriesSomebodyHere_25 : decode cX0_carriesSomebodyHere 25 = .ok (.if_icmp .ne 5, 3) := by decide +kernel
theorem dX0_carriesSomebodyHere_28 : decode cX0_carriesSomebodyHere 28 = .ok (.iconst 1, 1) := by decide +kernel
theorem dX0_carriesSomebodyHere_29 : decode cX0_carriesSomebodyHere 29 = .ok (.ireturn, 1) := by decide +kernel
theorem dX0_carriesSomebodyHere_30 : decode cX0_carriesSomebodyHere 30 = .ok (.iinc 2 1, 3) := by decide +kernel
theorem dX0_carriesSomebodyHere_33 : decode cX0_carriesSomebodyHere 33 = .ok (.goto (-31), 3) := by decide +kernel
theorem dX0_carriesSomebodyHere_36 : decode cX0_carriesSomebodyHere 36 = .ok (.iconst 0, 1) := by decide +kernel
theorem dX0_carriesSomebodyHere_37 : decode cX0_carriesSomebodyHere 37 = .ok (.ireturn, 1) := by decide +kernel
theorem dX0_hasRoom_0 : decode cX0_hasRoom 0 = .ok (.aload_n 0, 1) := by decide +kernel
theorem dX0_hasRoom_1 : decode cX0_hasRoom 1 = .ok (.getfield 15, 3) := by decide +kernel
theorem dX0_hasRoom_4 : decode cX0_hasRoom 4 = .ok (.aload_n 1, 1) := by decide +kernel
theorem dX0_hasRoom_5 : decode cX0_hasRoom 5 = .ok (.getfield 33, 3) := by decide +kernel
theorem dX0_hasRoom_8 : decode cX0_hasRoom 8 = .ok (.iconst 1, 1) := by decide +kernel
theorem dX0_hasRoom_9 : decode cX0_hasRoom 9 = .ok (.iaload, 1) := by decide +kernel
theorem dX0_hasRoom_10 : decode cX0_hasRoom 10 = .ok (.if_icmp .ge 19, 3) := by decide +kernel
theorem dX0_hasRoom_13 : decode cX0_hasRoom 13 = .ok (.aload_n 0, 1) := by decide +kernel
theorem dX0_hasRoom_14 : decode cX0_hasRoom 14 = .ok (.getfield 15, 3) := by decide +kernel
theorem dX0_hasRoom_17 : decode cX0_hasRoom 17 = .ok (.aload_n 0, 1) := by decide +kernel
theorem dX0_hasRoom_18 : decode cX0_hasRoom 18 = .ok (.getfield 9, 3) := by decide +kernel
theorem dX0_hasRoom_21 : decode cX0_hasRoom 21 = .ok (.arraylength, 1) := by decide +kernel
theorem dX0_hasRoom_22 : decode cX0_hasRoom 22 = .ok (.if_icmp .ge 7, 3) := by decide +kernel
theorem dX0_hasRoom_25 : decode cX0_hasRoom 25 = .ok (.iconst 1, 1) := by decide +kernel
theorem dX0_hasRoom_26 : decode cX0_hasRoom 26 = .ok (.goto 4, 3) := by decide +kernel
theorem dX0_hasRoom_29 : decode cX0_hasRoom 29 = .ok (.iconst 0, 1) := by decide +kernel
theorem dX0_hasRoom_30 : decode cX0_hasRoom 30 = .ok (.ireturn, 1) := by decide +kernel
theorem dX0_pullOfNextStep_0 : decode cX0_pullOfNextStep 0 = .ok (.aload_n 1, 1) := by decide +kernel
theorem dX0_pullOfNextStep_1 : decode cX0_pullOfNextStep 1 = .ok (.getfield 33, 3) := by decide +kernel
theorem dX0_pullOfNextStep_4 : decode cX0_pullOfNextStep 4 = .ok (.iconst 2, 1) := by decide +kernel
theorem dX0_pullOfNextStep_5 : decode cX0_pullOfNextStep 5 = .ok (.iaload, 1) := by decide +kernel
theorem dX0_pullOfNextStep_6 : decode cX0_pullOfNextStep 6 = .ok (.aload_n 1, 1) := by decide +kernel
theorem dX0_pullOfNextStep_7 : decode cX0_pullOfNextStep 7 = .ok (.getfield 33, 3) := by decide +kernel
theorem dX0_pullOfNextStep_10 : decode cX0_pullOfNextStep 10 = .ok (.iconst 3, 1) := by decide +kernel
theorem dX0_pullOfNextStep_11 : decode cX0_pullOfNextStep 11 = .ok (.iaload, 1) := by decide +kernel
theorem dX0_pullOfNextStep_12 : decode cX0_pullOfNextStep 12 = .ok (.aload_n 0, 1) := by decide +kernel
theorem dX0_pullOfNextStep_13 : decode cX0_pullOfNextStep 13 = .ok (.getfield 15, 3) := by decide +kernel
theorem dX0_pullOfNextStep_16 : decode cX0_pullOfNextStep 16 = .ok (.imul, 1) := by decide +kernel
theorem dX0_pullOfNextStep_17 : decode cX0_pullOfNextStep 17 = .ok (.iadd, 1) := by decide +kernel
theorem dX0_pullOfNextStep_18 : decode cX0_pullOfNextStep 18 = .ok (.istore_n 2, 1) := by decide +kernel
theorem dX0_pullOfNextStep_19 : decode cX0_pullOfNextStep 19 = .ok (.iload_n 2, 1) := by decide +kernel
theorem dX0_pullOfNextStep_20 : decode cX0_pullOfNextStep 20 = .ok (.aload_n 1, 1) := by decide +kernel
theorem dX0_pullOfNextStep_21 : decode cX0_pullOfNextStep 21 = .ok (.getfield 36, 3) := by decide +kernel
theorem dX0_pullOfNextStep_24 : decode cX0_pullOfNextStep 24 = .ok (.aload_n 0, 1) := by decide +kernel
theorem dX0_pullOfNextStep_25 : decode cX0_pullOfNextStep 25 = .ok (.getfield 19, 3) := by decide +kernel
theorem dX0_pullOfNextStep_28 : decode cX0_pullOfNextStep 28 = .ok (.aload_n 0, 1) := by decide +kernel
theorem dX0_pullOfNextStep_29 : decode cX0_pullOfNextStep 29 = .ok (.getfield 22, 3) := by decide +kernel
theorem dX0_pullOfNextStep_32 : decode cX0_pullOfNextStep 32 = .ok (.iadd, 1) := by decide +kernel
theorem dX0_pullOfNextStep_33 : decode cX0_pullOfNextStep 33 = .ok (.iaload, 1) := by decide +kernel
theorem dX0_pullOfNextStep_34 : decode cX0_pullOfNextStep 34 = .ok (.aload_n 1, 1) := by decide +kernel
theorem dX0_pullOfNextStep_35 : decode cX0_pullOfNextStep 35 = .ok (.getfield 36, 3) := by decide +kernel
theorem dX0_pullOfNextStep_38 : decode cX0_pullOfNextStep 38 = .ok (.aload_n 0, 1) := by decide +kernel
theorem dX0_pullOfNextStep_39 : decode cX0_pullOfNextStep 39 = .ok (.getfield 19, 3) := by decide +kernel
theorem dX0_pullOfNextStep_42 : decode cX0_pullOfNextStep 42 = .ok (.iaload, 1) := by decide +kernel
theorem dX0_pullOfNextStep_43 : decode cX0_pullOfNextStep 43 = .ok (.isub, 1) := by decide +kernel
theorem dX0_pullOfNextStep_44 : decode cX0_pullOfNextStep 44 = .ok (.imul, 1) := by decide +kernel
theorem dX0_pullOfNextStep_45 : decode cX0_pullOfNextStep 45 = .ok (.ireturn, 1) := by decide +kernel
theorem dX1_init_0 : decode cX1_init 0 = .ok (.aload_n 0, 1) := by decide +kernel
theorem dX1_init_1 : decode cX1_init 1 = .ok (.invokespecial 3, 3) := by decide +kernel
theorem dX1_init_4 : decode cX1_init 4 = .ok (.aload_n 0, 1) := by decide +kernel
theorem dX1_init_5 : decode cX1_init 5 = .ok (.getstatic 9, 3) := by decide +kernel
theorem dX1_init_8 : decode cX1_init 8 = .ok (.invokevirtual 13, 3) := by decide +kernel
theorem dX1_init_11 : decode cX1_init 11 = .ok (.checkcast 14, 3) := by decide +kernel
theorem dX1_init_14 : decode cX1_init 14 = .ok (.putfield 18, 3) := by decide +kernel
theorem dX1_init_17 : decode cX1_init 17 = .ok (.aload_n 0, 1) := by decide +kernel
theorem dX1_init_18 : decode cX1_init 18 = .ok (.bipush 17, 2) := by decide +kernel
theorem dX1_init_20 : decode cX1_init 20 = .ok (.newarray .int, 2) := by decide +kernel
theorem dX1_init_22 : decode cX1_init 22 = .ok (.putfield 23, 3) := by decide +kernel
theorem dX1_init_25 : decode cX1_init 25 = .ok (.aload_n 0, 1) := by decide +kernel
theorem dX1_init_26 : decode cX1_init 26 = .ok (.bipush 17, 2) := by decide +kernel
theorem dX1_init_28 : decode cX1_init 28 = .ok (.newarray .boolean, 2) := by decide +kernel
theorem dX1_init_30 : decode cX1_init 30 = .ok (.putfield 26, 3) := by decide +kernel
theorem dX1_init_33 : decode cX1_init 33 = .ok (.aload_n 0, 1) := by decide +kernel
theorem dX1_init_34 : decode cX1_init 34 = .ok (.bipush 60, 2) := by decide +kernel
theorem dX1_init_36 : decode cX1_init 36 = .ok (.newarray .int, 2) := by decide +kernel
theorem dX1_init_38 : decode cX1_init 38 = .ok (.putfield 30, 3) := by decide +kernel
theorem dX1_init_41 : decode cX1_init 41 = .ok (.aload_n 0, 1) := by decide +kernel
theorem dX1_init_42 : decode cX1_init 42 = .ok (.bipush 60, 2) := by decide +kernel
theorem dX1_init_44 : decode cX1_init 44 = .ok (.newarray .int, 2) := by decide +kernel
theorem dX1_init_46 : decode cX1_init 46 = .ok (.putfield 33, 3) := by decide +kernel
theorem dX1_init_49 : decode cX1_init 49 = .ok (.aload_n 0, 1) := by decide +kernel
theorem dX1_init_50 : decode cX1_init 50 = .ok (.bipush 60, 2) := by decide +kernel
theorem dX1_init_52 : decode cX1_init 52 = .ok (.newarray .int, 2) := by decide +kernel
theorem dX1_init_54 : decode cX1_init 54 = .ok (.putfield 36, 3) := by decide +kernel
theorem dX1_init_57 : decode cX1_init 57 = .ok (.aload_n 0, 1) := by decide +kernel
theorem dX1_init_58 : decode cX1_init 58 = .ok (.bipush 60, 2) := by decide +kernel
theorem dX1_init_60 : decode cX1_init 60 = .ok (.newarray .int, 2) := by decide +kernel
theorem dX1_init_62 : decode cX1_init 62 = .ok (.putfield 39, 3) := by decide +kernel
theorem dX1_init_65 : decode cX1_init 65 = .ok (.aload_n 0, 1) := by decide +kernel
theorem dX1_init_66 : decode cX1_init 66 = .ok (.bipush 18, 2) := by decide +kernel
theorem dX1_init_68 : decode cX1_init 68 = .ok (.newarray .int, 2) := by decide +kernel
theorem dX1_init_70 : decode cX1_init 70 = .ok (.putfield 42, 3) := by decide +kernel
theorem dX1_init_73 : decode cX1_init 73 = .ok (.aload_n 0, 1) := by decide +kernel
theorem dX1_init_74 : decode cX1_init 74 = .ok (.iconst 4, 1) := by decide +kernel
theorem dX1_init_75 : decode cX1_init 75 = .ok (.putfield 45, 3) := by decide +kernel
theorem dX1_init_78 : decode cX1_init 78 = .ok (.aload_n 0, 1) := by decide +kernel
theorem dX1_init_79 : decode cX1_init 79 = .ok (.iconst 0, 1) := by decide +kernel
theorem dX1_init_80 : decode cX1_init 80 = .ok (.putfield 49, 3) := by decide +kernel
theorem dX1_init_83 : decode cX1_init 83 = .ok (.return_, 1) := by decide +kernel
set_option maxRecDepth 20000 in
theorem ggX1_lay_J7_fill_53178 : GoodIn wsX1_lay wsJ7_fill_53178 := goodIn_r _ [9] (by decide +kernel) (by decide +kernel)
set_option maxRecDepth 20000 in
theorem gX1_lay_J7_fill_53178 : GoodIn wsX1_lay (va_wsS RX1 52 yJ7_fill_53178 wsJ7_fill_53178) := goodIn_app (goodIn_of _ (by decide +kernel)) ggX1_lay_J7_fill_53178
theorem dX1_lay_0 : decode cX1_lay 0 = .ok (.aload_n 0, 1) := by decide +kernel
theorem dX1_lay_1 : decode cX1_lay 1 = .ok (.iload_n 1, 1) := by decide +kernel
theorem dX1_lay_2 : decode cX1_lay 2 = .ok (.putfield 45, 3) := by decide +kernel
theorem dX1_lay_5 : decode cX1_lay 5 = .ok (.iconst 0, 1) := by decide +kernel
theorem dX1_lay_6 : decode cX1_lay 6 = .ok (.istore_n 2, 1) := by decide +kernel
theorem dX1_lay_7 : decode cX1_lay 7 = .ok (.iload_n 2, 1) := by decide +kernel
theorem dX1_lay_8 : decode cX1_lay 8 = .ok (.bipush 16, 2) := by decide +kernel
theorem dX1_lay_10 : decode cX1_lay 10 = .ok (.if_icmp .gt 39, 3) := by decide +kernel
theorem dX1_lay_13 : decode cX1_lay 13 = .ok (.aload_n 0, 1) := by decide +kernel
theorem dX1_lay_14 : decode cX1_lay 14 = .ok (.getfield 23, 3) := by decide +kernel
theorem dX1_lay_17 : decode cX1_lay 17 = .ok (.iload_n 2, 1) := by decide +kernel
theorem dX1_lay_18 : decode cX1_lay 18 = .ok (.bipush 10, 2) := by decide +kernel
theorem dX1_lay_20 : decode cX1_lay 20 = .ok (.iload_n 2, 1) := by decide +kernel
theorem dX1_lay_21 : decode cX1_lay 21 = .ok (.imul, 1) := by decide +kernel
theorem dX1_lay_22 : decode cX1_lay 22 = .ok (.iastore, 1) := by decide +kernel
theorem dX1_lay_23 : decode cX1_lay 23 = .ok (.aload_n 0, 1) := by decide +kernel
theorem dX1_lay_24 : decode cX1_lay 24 = .ok (.getfield 26, 3) := by decide +kernel
theorem dX1_lay_27 : decode cX1_lay 27 = .ok (.iload_n 2, 1) := by decide +kernel
theorem dX1_lay_28 : decode cX1_lay 28 = .ok (.iload_n 2, 1) := by decide +kernel
theorem dX1_lay_29 : decode cX1_lay 29 = .ok (.ifCond .eq 8, 3) := by decide +kernel
theorem dX1_lay_32 : decode cX1_lay 32 = .ok (.iload_n 2, 1) := by decide +kernel
theorem dX1_lay_33 : decode cX1_lay 33 = .ok (.iload_n 1, 1) := by decide +kernel
theorem dX1_lay_34 : decode cX1_lay 34 = .ok (.if_icmp .ne 7, 3) := by decide +kernel
theorem dX1_lay_37 : decode cX1_lay 37 = .ok (.iconst 1, 1) := by decide +kernel
theorem dX1_lay_38 : decode cX1_lay 38 = .ok (.goto 4, 3) := by decide +kernel
theorem dX1_lay_41 : decode cX1_lay 41 = .ok (.iconst 0, 1) := by decide +kernel
theorem dX1_lay_42 : decode cX1_lay 42 = .ok (.bastore, 1) := by decide +kernel
theorem dX1_lay_43 : decode cX1_lay 43 = .ok (.iinc 2 1, 3) := by decide +kernel
theorem dX1_lay_46 : decode cX1_lay 46 = .ok (.goto (-39), 3) := by decide +kernel
theorem dX1_lay_49 : decode cX1_lay 49 = .ok (.aload_n 0, 1) := by decide +kernel
theorem dX1_lay_50 : decode cX1_lay 50 = .ok (.iconst 0, 1) := by decide +kernel
theorem dX1_lay_51 : decode cX1_lay 51 = .ok (.putfield 49, 3) := by decide +kernel
theorem dX1_lay_54 : decode cX1_lay 54 = .ok (.aload_n 0, 1) := by decide +kernel
theorem dX1_lay_55 : decode cX1_lay 55 = .ok (.getfield 42, 3) := by decide +kernel
theorem dX1_lay_58 : decode cX1_lay 58 = .ok (.iconst 0, 1) := by decide +kernel
theorem dX1_lay_59 : decode cX1_lay 59 = .ok (.invokestatic 52, 3) := by decide +kernel
theorem dX1_lay_62 : decode cX1_lay 62 = .ok (.return_, 1) := by decide +kernel
theorem dX1_hasPlace_0 : decode cX1_hasPlace 0 = .ok (.iload_n 1, 1) := by decide +kernel
theorem dX1_hasPlace_1 : decode cX1_hasPlace 1 = .ok (.ifCond .lt 15, 3) := by decide +kernel
theorem dX1_hasPlace_4 : decode cX1_hasPlace 4 = .ok (.iload_n 1, 1) := by decide +kernel
theorem dX1_hasPlace_5 : decode cX1_hasPlace 5 = .ok (.aload_n 0, 1) := by decide +kernel
theorem dX1_hasPlace_6 : decode cX1_hasPlace 6 = .ok (.getfield 45, 3) := by decide +kernel
theorem dX1_hasPlace_9 : decode cX1_hasPlace 9 = .ok (.if_icmp .gt 7, 3) := by decide +kernel
theorem dX1_hasPlace_12 : decode cX1_hasPlace 12 = .ok (.iconst 1, 1) := by decide +kernel
theorem dX1_hasPlace_13 : decode cX1_hasPlace 13 = .ok (.goto 4, 3) := by decide +kernel
theorem dX1_hasPlace_16 : decode cX1_hasPlace 16 = .ok (.iconst 0, 1) := by decide +kernel
theorem dX1_hasPlace_17 : decode cX1_hasPlace 17 = .ok (.ireturn, 1) := by decide +kernel
theorem dX1_hasPiece_0 : decode cX1_hasPiece 0 = .ok (.iload_n 1, 1) := by decide +kernel
theorem dX1_hasPiece_1 : decode cX1_hasPiece 1 = .ok (.ifCond .lt 15, 3) := by decide +kernel
theorem dX1_hasPiece_4 : decode cX1_hasPiece 4 = .ok (.iload_n 1, 1) := by decide +kernel
theorem dX1_hasPiece_5 : decode cX1_hasPiece 5 = .ok (.aload_n 0, 1) := by decide +kernel
theorem dX1_hasPiece_6 : decode cX1_hasPiece 6 = .ok (.getfield 45, 3) := by decide +kernel
theorem dX1_hasPiece_9 : decode cX1_hasPiece 9 = .ok (.if_icmp .ge 7, 3) := by decide +kernel
theorem dX1_hasPiece_12 : decode cX1_hasPiece 12 = .ok (.iconst 1, 1) := by decide +kernel
theorem dX1_hasPiece_13 : decode cX1_hasPiece 13 = .ok (.goto 4, 3) := by decide +kernel
theorem dX1_hasPiece_16 : decode cX1_hasPiece 16 = .ok (.iconst 0, 1) := by decide +kernel
theorem dX1_hasPiece_17 : decode cX1_hasPiece 17 = .ok (.ireturn, 1) := by decide +kernel
set_option maxRecDepth 20000 in
theorem ggX1_isHalt_X1_hasPlace : GoodIn wsX1_isHalt wsX1_hasPlace := goodIn_r _ [6, 7, 8, 9, 10, 11, 12, 13, 14, 15, 16, 17] (by decide +kernel) (by decide +kernel)
set_option maxRecDepth 20000 in
theorem gX1_isHalt_X1_hasPlace : GoodIn wsX1_isHalt (wsV RX1 58 RX1 yX1_hasPlace wsX1_hasPlace) := goodIn_app (goodIn_of _ (by decide +kernel)) ggX1_isHalt_X1_hasPlace
theorem dX1_isHalt_0 : decode cX1_isHalt 0 = .ok (.aload_n 0, 1) := by decide +kernel
theorem dX1_isHalt_1 : decode cX1_isHalt 1 = .ok (.iload_n 1, 1) := by decide +kernel
theorem dX1_isHalt_2 : decode cX1_isHalt 2 = .ok (.invokevirtual 58, 3) := by decide +kernel
theorem dX1_isHalt_5 : decode cX1_isHalt 5 = .ok (.ifCond .eq 16, 3) := by decide +kernel
theorem dX1_isHalt_8 : decode cX1_isHalt 8 = .ok (.aload_n 0, 1) := by decide +kernel
theorem dX1_isHalt_9 : decode cX1_isHalt 9 = .ok (.getfield 26, 3) := by decide +kernel
theorem dX1_isHalt_12 : decode cX1_isHalt 12 = .ok (.iload_n 1, 1) := by decide +kernel
theorem dX1_isHalt_13 : decode cX1_isHalt 13 = .ok (.baload, 1) := by decide +kernel
theorem dX1_isHalt_14 : decode cX1_isHalt 14 = .ok (.ifCond .eq 7, 3) := by decide +kernel
theorem dX1_isHalt_17 : decode cX1_isHalt 17 = .ok (.iconst 1, 1) := by decide +kernel
theorem dX1_isHalt_18 : decode cX1_isHalt 18 = .ok (.goto 4, 3) := by decide +kernel
theorem dX1_isHalt_21 : decode cX1_isHalt 21 = .ok (.iconst 0, 1) := by decide +kernel
theorem dX1_isHalt_22 : decode cX1_isHalt 22 = .ok (.ireturn, 1) := by decide +kernel
theorem dX1_isWanted_0 : decode cX1_isWanted 0 = .ok (.iconst 0, 1) := by decide +kernel
theorem dX1_isWanted_1 : decode cX1_isWanted 1 = .ok (.istore_n 2, 1) := by decide +kernel
theorem dX1_isWanted_2 : decode cX1_isWanted 2 = .ok (.iload_n 2, 1) := by decide +kernel
theorem dX1_isWanted_3 : decode cX1_isWanted 3 = .ok (.aload_n 0, 1) := by decide +kernel
theorem dX1_isWanted_4 : decode cX1_isWanted 4 = .ok (.getfield 49, 3) := by decide +kernel
theorem dX1_isWanted_7 : decode cX1_isWanted 7 = .ok (.if_icmp .ge 31, 3) := by decide +kernel
theorem dX1_isWanted_10 : decode cX1_isWanted 10 = .ok (.aload_n 0, 1) := by decide +kernel
theorem dX1_isWanted_11 : decode cX1_isWanted 11 = .ok (.getfield 30, 3) := by decide +kernel
theorem dX1_isWanted_14 : decode cX1_isWanted 14 = .ok (.iload_n 2, 1) := by decide +kernel
theorem dX1_isWanted_15 : decode cX1_isWanted 15 = .ok (.iaload, 1) := by decide +kernel
theorem dX1_isWanted_16 : decode cX1_isWanted 16 = .ok (.iload_n 1, 1) := by decide +kernel
theorem dX1_isWanted_17 : decode cX1_isWanted 17 = .ok (.if_icmp .eq 13, 3) := by decide +kernel
theorem dX1_isWanted_20 : decode cX1_isWanted 20 = .ok (.aload_n 0, 1) := by decide +kernel
theorem dX1_isWanted_21 : decode cX1_isWanted 21 = .ok (.getfield 33, 3) := by decide +kernel
theorem dX1_isWanted_24 : decode cX1_isWanted 24 = .ok (.iload_n 2, 1) := by decide +kernel
theorem dX1_isWanted_25 : decode cX1_isWanted 25 = .ok (.iaload, 1) := by decide +kernel
theorem dX1_isWanted_26 : decode cX1_isWanted 26 = .ok (.iload_n 1, 1) := by decide +kernel
theorem dX1_isWanted_27 : decode cX1_isWanted 27 = .ok (.if_icmp .ne 5, 3) := by decide +kernel
theorem dX1_isWanted_30 : decode cX1_isWanted 30 = .ok (.iconst 1, 1) := by decide +kernel
theorem dX1_isWanted_31 : decode cX1_isWanted 31 = .ok (.ireturn, 1) := by decide +kernel
theorem dX1_isWanted_32 : decode cX1_isWanted 32 = .ok (.iinc 2 1, 3) := by decide +kernel
theorem dX1_isWanted_35 : decode cX1_isWanted 35 = .ok (.goto (-33), 3) := by decide +kernel
theorem dX1_isWanted_38 : decode cX1_isWanted 38 = .ok (.iconst 0, 1) := by decide +kernel
theorem dX1_isWanted_39 : decode cX1_isWanted 39 = .ok (.ireturn, 1) := by decide +kernel
set_option maxRecDepth 20000 in
theorem ggX1_add_X1_enqueue : GoodIn wsX1_add wsX1_enqueue := goodIn_r _ [9, 2, 1, 10, 11, 12, 13, 14, 8, 15, 4, 16, 17, 18, 19, 20, 21, 22, 23, 24, 25] (by decide +kernel) (by decide +kernel)
set_option maxRecDepth 20000 in
theorem gX1_add_X1_enqueue : GoodIn wsX1_add (wsV RX1 62 RX1 yX1_enqueue wsX1_enqueue) := goodIn_app (goodIn_of _ (by decide +kernel)) ggX1_add_X1_enqueue
theorem dX1_add_0 : decode cX1_add 0 = .ok (.aload_n 0, 1) := by decide +kernel
theorem dX1_add_1 : decode cX1_add 1 = .ok (.getfield 49, 3) := by decide +kernel
theorem dX1_add_4 : decode cX1_add 4 = .ok (.istore 4, 2) := by decide +kernel
theorem dX1_add_6 : decode cX1_add 6 = .ok (.aload_n 0, 1) := by decide +kernel
theorem dX1_add_7 : decode cX1_add 7 = .ok (.getfield 30, 3) := by decide +kernel
theorem dX1_add_10 : decode cX1_add 10 = .ok (.iload 4, 2) := by decide +kernel
theorem dX1_add_12 : decode cX1_add 12 = .ok (.iload_n 1, 1) := by decide +kernel
theorem dX1_add_13 : decode cX1_add 13 = .ok (.iastore, 1) := by decide +kernel
theorem dX1_add_14 : decode cX1_add 14 = .ok (.aload_n 0, 1) := by decide +kernel
theorem dX1_add_15 : decode cX1_add 15 = .ok (.getfield 33, 3) := by decide +kernel
theorem dX1_add_18 : decode cX1_add 18 = .ok (.iload 4, 2) := by decide +kernel
theorem dX1_add_20 : decode cX1_add 20 = .ok (.iload_n 2, 1) := by decide +kernel
theorem dX1_add_21 : decode cX1_add 21 = .ok (.iastore, 1) := by decide +kernel
theorem dX1_add_22 : decode cX1_add 22 = .ok (.aload_n 0, 1) := by decide +kernel
theorem dX1_add_23 : decode cX1_add 23 = .ok (.getfield 36, 3) := by decide +kernel
theorem dX1_add_26 : decode cX1_add 26 = .ok (.iload 4, 2) := by decide +kernel
theorem dX1_add_28 : decode cX1_add 28 = .ok (.iload_n 3, 1) := by decide +kernel
theorem dX1_add_29 : decode cX1_add 29 = .ok (.iastore, 1) := by decide +kernel
theorem dX1_add_30 : decode cX1_add 30 = .ok (.aload_n 0, 1) := by decide +kernel
theorem dX1_add_31 : decode cX1_add 31 = .ok (.iload 4, 2) := by decide +kernel
theorem dX1_add_33 : decode cX1_add 33 = .ok (.invokevirtual 62, 3) := by decide +kernel
theorem dX1_add_36 : decode cX1_add 36 = .ok (.aload_n 0, 1) := by decide +kernel
theorem dX1_add_37 : decode cX1_add 37 = .ok (.dup, 1) := by decide +kernel
theorem dX1_add_38 : decode cX1_add 38 = .ok (.getfield 49, 3) := by decide +kernel
theorem dX1_add_41 : decode cX1_add 41 = .ok (.iconst 1, 1) := by decide +kernel
theorem dX1_add_42 : decode cX1_add 42 = .ok (.iadd, 1) := by decide +kernel
theorem dX1_add_43 : decode cX1_add 43 = .ok (.putfield 49, 3) := by decide +kernel
theorem dX1_add_46 : decode cX1_add 46 = .ok (.iload 4, 2) := by decide +kernel
theorem dX1_add_48 : decode cX1_add 48 = .ok (.ireturn, 1) := by decide +kernel
set_option maxRecDepth 20000 in
theorem ggX1_enqueue_X1_isBehind : GoodIn wsX1_enqueue wsX1_isBehind := goodIn_r _ [9, 1, 10, 11, 12, 13, 14, 15, 16, 17, 18, 19, 20] (by decide +kernel) (by decide +kernel)
set_option maxRecDepth 20000 in
theorem gX1_enqueue_X1_isBehind : GoodIn wsX1_enqueue (wsV RX1 66 RX1 yX1_isBehind wsX1_isBehind) := goodIn_app (goodIn_of _ (by decide +kernel)) ggX1_enqueue_X1_isBehind
theorem dX1_enqueue_0 : decode cX1_enqueue 0 = .ok (.aload_n 0, 1) := by decide +kernel
theorem dX1_enqueue_1 : decode cX1_enqueue 1 = .ok (.getfield 30, 3) := by decide +kernel
theorem dX1_enqueue_4 : decode cX1_enqueue 4 = .ok (.iload_n 1, 1) := by decide +kernel
theorem dX1_enqueue_5 : decode cX1_enqueue 5 = .ok (.iaload, 1) := by decide +kernel
theorem dX1_enqueue_6 : decode cX1_enqueue 6 = .ok (.istore_n 2, 1) := by decide +kernel
theorem dX1_enqueue_7 : decode cX1_enqueue 7 = .ok (.aload_n 0, 1) := by decide +kernel
theorem dX1_enqueue_8 : decode cX1_enqueue 8 = .ok (.getfield 49, 3) := by decide +kernel
theorem dX1_enqueue_11 : decode cX1_enqueue 11 = .ok (.istore_n 3, 1) := by decide +kernel
theorem dX1_enqueue_12 : decode cX1_enqueue 12 = .ok (.iload_n 3, 1) := by decide +kernel
theorem dX1_enqueue_13 : decode cX1_enqueue 13 = .ok (.aload_n 0, 1) := by decide +kernel
theorem dX1_enqueue_14 : decode cX1_enqueue 14 = .ok (.getfield 42, 3) := by decide +kernel
theorem dX1_enqueue_17 : decode cX1_enqueue 17 = .ok (.iload_n 2, 1) := by decide +kernel
theorem dX1_enqueue_18 : decode cX1_enqueue 18 = .ok (.iaload, 1) := by decide +kernel
theorem dX1_enqueue_19 : decode cX1_enqueue 19 = .ok (.if_icmp .le 39, 3) := by decide +kernel
theorem dX1_enqueue_22 : decode cX1_enqueue 22 = .ok (.aload_n 0, 1) := by decide +kernel
theorem dX1_enqueue_23 : decode cX1_enqueue 23 = .ok (.aload_n 0, 1) := by decide +kernel
theorem dX1_enqueue_24 : decode cX1_enqueue 24 = .ok (.getfield 39, 3) := by decide +kernel
theorem dX1_enqueue_27 : decode cX1_enqueue 27 = .ok (.iload_n 3, 1) := by decide +kernel
theorem dX1_enqueue_28 : decode cX1_enqueue 28 = .ok (.iconst 1, 1) := by decide +kernel
theorem dX1_enqueue_29 : decode cX1_enqueue 29 = .ok (.isub, 1) := by decide +kernel
theorem dX1_enqueue_30 : decode cX1_enqueue 30 = .ok (.iaload, 1) := by decide +kernel
theorem dX1_enqueue_31 : decode cX1_enqueue 31 = .ok (.iload_n 1, 1) := by decide +kernel
theorem dX1_enqueue_32 : decode cX1_enqueue 32 = .ok (.invokevirtual 66, 3) := by decide +kernel
theorem dX1_enqueue_35 : decode cX1_enqueue 35 = .ok (.ifCond .eq 23, 3) := by decide +kernel
theorem dX1_enqueue_38 : decode cX1_enqueue 38 = .ok (.aload_n 0, 1) := by decide +kernel
theorem dX1_enqueue_39 : decode cX1_enqueue 39 = .ok (.getfield 39, 3) := by decide +kernel
theorem dX1_enqueue_42 : decode cX1_enqueue 42 = .ok (.iload_n 3, 1) := by decide +kernel
theorem dX1_enqueue_43 : decode cX1_enqueue 43 = .ok (.aload_n 0, 1) := by decide +kernel
theorem dX1_enqueue_44 : decode cX1_enqueue 44 = .ok (.getfield 39, 3) := by decide +kernel
theorem dX1_enqueue_47 : decode cX1_enqueue 47 = .ok (.iload_n 3, 1) := by decide +kernel
theorem dX1_enqueue_48 : decode cX1_enqueue 48 = .ok (.iconst 1, 1) := by decide +kernel
theorem dX1_enqueue_49 : decode cX1_enqueue 49 = .ok (.isub, 1) := by decide +kernel
theorem dX1_enqueue_50 : decode cX1_enqueue 50 = .ok (.iaload, 1) := by decide +kernel
theorem dX1_enqueue_51 : decode cX1_enqueue 51 = .ok (.iastore, 1) := by decide +kernel
theorem dX1_enqueue_52 : decode cX1_enqueue 52 = .ok (.iinc 3 (-1), 3) := by decide +kernel
theorem dX1_enqueue_55 : decode cX1_enqueue 55 = .ok (.goto (-43), 3) := by decide +kernel
theorem dX1_enqueue_58 : decode cX1_enqueue 58 = .ok (.aload_n 0, 1) := by decide +kernel
theorem dX1_enqueue_59 : decode cX1_enqueue 59 = .ok (.getfield 39, 3) := by decide +kernel
theorem dX1_enqueue_62 : decode cX1_enqueue 62 = .ok (.iload_n 3, 1) := by decide +kernel
theorem dX1_enqueue_63 : decode cX1_enqueue 63 = .ok (.iload_n 1, 1) := by decide +kernel
theorem dX1_enqueue_64 : decode cX1_enqueue 64 = .ok (.iastore, 1) := by decide +kernel
theorem dX1_enqueue_65 : decode cX1_enqueue 65 = .ok (.iload_n 2, 1) := by decide +kernel
theorem dX1_enqueue_66 : decode cX1_enqueue 66 = .ok (.iconst 1, 1) := by decide +kernel
theorem dX1_enqueue_67 : decode cX1_enqueue 67 = .ok (.iadd, 1) := by decide +kernel
theorem dX1_enqueue_68 : decode cX1_enqueue 68 = .ok (.istore 4, 2) := by decide +kernel
theorem dX1_enqueue_70 : decode cX1_enqueue 70 = .ok (.iload 4, 2) := by decide +kernel
theorem dX1_enqueue_72 : decode cX1_enqueue 72 = .ok (.aload_n 0, 1) := by decide +kernel
theorem dX1_enqueue_73 : decode cX1_enqueue 73 = .ok (.getfield 42, 3) := by decide +kernel
theorem dX1_enqueue_76 : decode cX1_enqueue 76 = .ok (.arraylength, 1) := by decide +kernel
theorem dX1_enqueue_77 : decode cX1_enqueue 77 = .ok (.if_icmp .ge 20, 3) := by decide +kernel
theorem dX1_enqueue_80 : decode cX1_enqueue 80 = .ok (.aload_n 0, 1) := by decide +kernel
theorem dX1_enqueue_81 : decode cX1_enqueue 81 = .ok (.getfield 42, 3) := by decide +kernel
theorem dX1_enqueue_84 : decode cX1_enqueue 84 = .ok (.iload 4, 2) := by decide +kernel
theorem dX1_enqueue_86 : decode cX1_enqueue 86 = .ok (.dup2, 1) := by decide +kernel
theorem dX1_enqueue_87 : decode cX1_enqueue 87 = .ok (.iaload, 1) := by decide +kernel
theorem dX1_enqueue_88 : decode cX1_enqueue 88 = .ok (.iconst 1, 1) := by decide +kernel
theorem dX1_enqueue_89 : decode cX1_enqueue 89 = .ok (.iadd, 1) := by decide +kernel
theorem dX1_enqueue_90 : decode cX1_enqueue 90 = .ok (.iastore, 1) := by decide +kernel
theorem dX1_enqueue_91 : decode cX1_enqueue 91 = .ok (.iinc 4 1, 3) := by decide +kernel
theorem dX1_enqueue_94 : decode cX1_enqueue 94 = .ok (.goto (-24), 3) := by decide +kernel
theorem dX1_enqueue_97 : decode cX1_enqueue 97 = .ok (.return_, 1) := by decide +kernel
theorem dX1_isBehind_0 : decode cX1_isBehind 0 = .ok (.aload_n 0, 1) := by decide +kernel
theorem dX1_isBehind_1 : decode cX1_isBehind 1 = .ok (.getfield 30, 3) := by decide +kernel
theorem dX1_isBehind_4 : decode cX1_isBehind 4 = .ok (.iload_n 1, 1) := by decide +kernel
theorem dX1_isBehind_5 : decode cX1_isBehind 5 = .ok (.iaload, 1) := by decide +kernel
theorem dX1_isBehind_6 : decode cX1_isBehind 6 = .ok (.aload_n 0, 1) := by decide +kernel
theorem dX1_isBehind_7 : decode cX1_isBehind 7 = .ok (.getfield 30, 3) := by decide +kernel
theorem dX1_isBehind_10 : decode cX1_isBehind 10 = .ok (.iload_n 2, 1) := by decide +kernel
theorem dX1_isBehind_11 : decode cX1_isBehind 11 = .ok (.iaload, 1) := by decide +kernel
theorem dX1_isBehind_12 : decode cX1_isBehind 12 = .ok (.if_icmp .gt 18, 3) := by decide +kernel
theorem dX1_isBehind_15 : decode cX1_isBehind 15 = .ok (.aload_n 0, 1) := by decide +kernel
theorem dX1_isBehind_16 : decode cX1_isBehind 16 = .ok (.getfield 36, 3) := by decide +kernel
theorem dX1_isBehind_19 : decode cX1_isBehind 19 = .ok (.iload_n 1, 1) := by decide +kernel
theorem dX1_isBehind_20 : decode cX1_isBehind 20 = .ok (.iaload, 1) := by decide +kernel
theorem dX1_isBehind_21 : decode cX1_isBehind 21 = .ok (.aload_n 0, 1) := by decide +kernel
theorem dX1_isBehind_22 : decode cX1_isBehind 22 = .ok (.getfield 36, 3) := by decide +kernel
theorem dX1_isBehind_25 : decode cX1_isBehind 25 = .ok (.iload_n 2, 1) := by decide +kernel
theorem dX1_isBehind_26 : decode cX1_isBehind 26 = .ok (.iaload, 1) := by decide +kernel
theorem dX1_isBehind_27 : decode cX1_isBehind 27 = .ok (.if_icmp .le 7, 3) := by decide +kernel
theorem dX1_isBehind_30 : decode cX1_isBehind 30 = .ok (.iconst 1, 1) := by decide +kernel
theorem dX1_isBehind_31 : decode cX1_isBehind 31 = .ok (.goto 4, 3) := by decide +kernel
theorem dX1_isBehind_34 : decode cX1_isBehind 34 = .ok (.iconst 0, 1) := by decide +kernel
theorem dX1_isBehind_35 : decode cX1_isBehind 35 = .ok (.ireturn, 1) := by decide +kernel
theorem dX2_init_0 : decode cX2_init 0 = .ok (.aload_n 0, 1) := by decide +kernel
theorem dX2_init_1 : decode cX2_init 1 = .ok (.invokespecial 3, 3) := by decide +kernel
theorem dX2_init_4 : decode cX2_init 4 = .ok (.aload_n 0, 1) := by decide +kernel
theorem dX2_init_5 : decode cX2_init 5 = .ok (.bipush 16, 2) := by decide +kernel
theorem dX2_init_7 : decode cX2_init 7 = .ok (.newarray .int, 2) := by decide +kernel
theorem dX2_init_9 : decode cX2_init 9 = .ok (.putfield 9, 3) := by decide +kernel
theorem dX2_init_12 : decode cX2_init 12 = .ok (.aload_n 0, 1) := by decide +kernel
theorem dX2_init_13 : decode cX2_init 13 = .ok (.bipush 16, 2) := by decide +kernel
theorem dX2_init_15 : decode cX2_init 15 = .ok (.newarray .int, 2) := by decide +kernel
theorem dX2_init_17 : decode cX2_init 17 = .ok (.putfield 15, 3) := by decide +kernel
theorem dX2_init_20 : decode cX2_init 20 = .ok (.return_, 1) := by decide +kernel
set_option maxRecDepth 20000 in
theorem ggX2_unbend_J7_fill_53178 : GoodIn wsX2_unbend wsJ7_fill_53178 := goodIn_r _ [5] (by decide +kernel) (by decide +kernel)
set_option maxRecDepth 20000 in
theorem gX2_unbend_J7_fill_53178 : GoodIn wsX2_unbend (va_wsS RX2 18 yJ7_fill_53178 wsJ7_fill_53178) := goodIn_app (goodIn_of _ (by decide +kernel)) ggX2_unbend_J7_fill_53178
theorem dX2_unbend_0 : decode cX2_unbend 0 = .ok (.aload_n 0, 1) := by decide +kernel
theorem dX2_unbend_1 : decode cX2_unbend 1 = .ok (.getfield 9, 3) := by decide +kernel
theorem dX2_unbend_4 : decode cX2_unbend 4 = .ok (.iconst 0, 1) := by decide +kernel
theorem dX2_unbend_5 : decode cX2_unbend 5 = .ok (.invokestatic 18, 3) := by decide +kernel
theorem dX2_unbend_8 : decode cX2_unbend 8 = .ok (.return_, 1) := by decide +kernel
set_option maxRecDepth 20000 in
theorem ggX2_mend_J7_fill_53178 : GoodIn wsX2_mend wsJ7_fill_53178 := goodIn_r _ [5] (by decide +kernel) (by decide +kernel)
set_option maxRecDepth 20000 in
theorem gX2_mend_J7_fill_53178 : GoodIn wsX2_mend (va_wsS RX2 18 yJ7_fill_53178 wsJ7_fill_53178) := goodIn_app (goodIn_of _ (by decide +kernel)) ggX2_mend_J7_fill_53178
theorem dX2_mend_0 : decode cX2_mend 0 = .ok (.aload_n 0, 1) := by decide +kernel
theorem dX2_mend_1 : decode cX2_mend 1 = .ok (.getfield 15, 3) := by decide +kernel
theorem dX2_mend_4 : decode cX2_mend 4 = .ok (.iconst 0, 1) := by decide +kernel
theorem dX2_mend_5 : decode cX2_mend 5 = .ok (.invokestatic 18, 3) := by decide +kernel
theorem dX2_mend_8 : decode cX2_mend 8 = .ok (.return_, 1) := by decide +kernel
theorem dX2_bendAll_0 : decode cX2_bendAll 0 = .ok (.iconst 0, 1) := by decide +kernel
theorem dX2_bendAll_1 : decode cX2_bendAll 1 = .ok (.istore_n 2, 1) := by decide +kernel
theorem dX2_bendAll_2 : decode cX2_bendAll 2 = .ok (.iload_n 2, 1) := by decide +kernel
theorem dX2_bendAll_3 : decode cX2_bendAll 3 = .ok (.iload_n 1, 1) := by decide +kernel
theorem dX2_bendAll_4 : decode cX2_bendAll 4 = .ok (.if_icmp .ge 19, 3) := by decide +kernel
theorem dX2_bendAll_7 : decode cX2_bendAll 7 = .ok (.aload_n 0, 1) := by decide +kernel
theorem dX2_bendAll_8 : decode cX2_bendAll 8 = .ok (.getfield 9, 3) := by decide +kernel
theorem dX2_bendAll_11 : decode cX2_bendAll 11 = .ok (.iload_n 2, 1) := by decide +kernel
theorem dX2_bendAll_12 : decode cX2_bendAll 12 = .ok (.dup2, 1) := by decide +kernel
theorem dX2_bendAll_13 : decode cX2_bendAll 13 = .ok (.iaload, 1) := by decide +kernel
theorem dX2_bendAll_14 : decode cX2_bendAll 14 = .ok (.iconst 1, 1) := by decide +kernel
theorem dX2_bendAll_15 : decode cX2_bendAll 15 = .ok (.iadd, 1) := by decide +kernel
theorem dX2_bendAll_16 : decode cX2_bendAll 16 = .ok (.iastore, 1) := by decide +kernel
theorem dX2_bendAll_17 : decode cX2_bendAll 17 = .ok (.iinc 2 1, 3) := by decide +kernel
theorem dX2_bendAll_20 : decode cX2_bendAll 20 = .ok (.goto (-18), 3) := by decide +kernel
theorem dX2_bendAll_23 : decode cX2_bendAll 23 = .ok (.return_, 1) := by decide +kernel
theorem dX2_firstWorn_0 : decode cX2_firstWorn 0 = .ok (.iconst 0, 1) := by decide +kernel
theorem dX2_firstWorn_1 : decode cX2_firstWorn 1 = .ok (.istore_n 3, 1) := by decide +kernel
theorem dX2_firstWorn_2 : decode cX2_firstWorn 2 = .ok (.iload_n 3, 1) := by decide +kernel
theorem dX2_firstWorn_3 : decode cX2_firstWorn 3 = .ok (.iload_n 1, 1) := by decide +kernel
theorem dX2_firstWorn_4 : decode cX2_firstWorn 4 = .ok (.if_icmp .ge 21, 3) := by decide +kernel
theorem dX2_firstWorn_7 : decode cX2_firstWorn 7 = .ok (.aload_n 0, 1) := by decide +kernel
theorem dX2_firstWorn_8 : decode cX2_firstWorn 8 = .ok (.getfield 9, 3) := by decide +kernel
theorem dX2_firstWorn_11 : decode cX2_firstWorn 11 = .ok (.iload_n 3, 1) := by decide +kernel
theorem dX2_firstWorn_12 : decode cX2_firstWorn 12 = .ok (.iaload, 1) := by decide +kernel
theorem dX2_firstWorn_13 : decode cX2_firstWorn 13 = .ok (.iload_n 2, 1) := by decide +kernel
theorem dX2_firstWorn_14 : decode cX2_firstWorn 14 = .ok (.if_icmp .le 5, 3) := by decide +kernel
theorem dX2_firstWorn_17 : decode cX2_firstWorn 17 = .ok (.iload_n 3, 1) := by decide +kernel
theorem dX2_firstWorn_18 : decode cX2_firstWorn 18 = .ok (.ireturn, 1) := by decide +kernel
theorem dX2_firstWorn_19 : decode cX2_firstWorn 19 = .ok (.iinc 3 1, 3) := by decide +kernel
theorem dX2_firstWorn_22 : decode cX2_firstWorn 22 = .ok (.goto (-20), 3) := by decide +kernel
theorem dX2_firstWorn_25 : decode cX2_firstWorn 25 = .ok (.iconst (-1), 1) := by decide +kernel
theorem dX2_firstWorn_26 : decode cX2_firstWorn 26 = .ok (.ireturn, 1) := by decide +kernel
set_option maxRecDepth 20000 in
theorem ggX2_firstFrayed_X2_wiresFrom : GoodIn wsX2_firstFrayed wsX2_wiresFrom := goodIn_r _ [9, 10, 11, 12] (by decide +kernel) (by decide +kernel)
set_option maxRecDepth 20000 in
theorem gX2_firstFrayed_X2_wiresFrom : GoodIn wsX2_firstFrayed (wsV RX2 30 RX2 yX2_wiresFrom wsX2_wiresFrom) := goodIn_app (goodIn_of _ (by decide +kernel)) ggX2_firstFrayed_X2_wiresFrom
theorem dX2_firstFrayed_0 : decode cX2_firstFrayed 0 = .ok (.iconst 0, 1) := by decide +kernel
theorem dX2_firstFrayed_1 : decode cX2_firstFrayed 1 = .ok (.istore 4, 2) := by decide +kernel
theorem dX2_firstFrayed_3 : decode cX2_firstFrayed 3 = .ok (.iload 4, 2) := by decide +kernel
theorem dX2_firstFrayed_5 : decode cX2_firstFrayed 5 = .ok (.iload_n 1, 1) := by decide +kernel
theorem dX2_firstFrayed_6 : decode cX2_firstFrayed 6 = .ok (.if_icmp .ge 30, 3) := by decide +kernel
theorem dX2_firstFrayed_9 : decode cX2_firstFrayed 9 = .ok (.aload_n 0, 1) := by decide +kernel
theorem dX2_firstFrayed_10 : decode cX2_firstFrayed 10 = .ok (.iload 4, 2) := by decide +kernel
theorem dX2_firstFrayed_12 : decode cX2_firstFrayed 12 = .ok (.iload 4, 2) := by decide +kernel
theorem dX2_firstFrayed_14 : decode cX2_firstFrayed 14 = .ok (.iload_n 2, 1) := by decide +kernel
theorem dX2_firstFrayed_15 : decode cX2_firstFrayed 15 = .ok (.iadd, 1) := by decide +kernel
theorem dX2_firstFrayed_16 : decode cX2_firstFrayed 16 = .ok (.iload_n 1, 1) := by decide +kernel
theorem dX2_firstFrayed_17 : decode cX2_firstFrayed 17 = .ok (.invokestatic 24, 3) := by decide +kernel
theorem dX2_firstFrayed_20 : decode cX2_firstFrayed 20 = .ok (.invokevirtual 30, 3) := by decide +kernel
theorem dX2_firstFrayed_23 : decode cX2_firstFrayed 23 = .ok (.iload_n 3, 1) := by decide +kernel
theorem dX2_firstFrayed_24 : decode cX2_firstFrayed 24 = .ok (.if_icmp .lt 6, 3) := by decide +kernel
theorem dX2_firstFrayed_27 : decode cX2_firstFrayed 27 = .ok (.iload 4, 2) := by decide +kernel
theorem dX2_firstFrayed_29 : decode cX2_firstFrayed 29 = .ok (.ireturn, 1) := by decide +kernel
theorem dX2_firstFrayed_30 : decode cX2_firstFrayed 30 = .ok (.iinc 4 1, 3) := by decide +kernel
theorem dX2_firstFrayed_33 : decode cX2_firstFrayed 33 = .ok (.goto (-30), 3) := by decide +kernel
theorem dX2_firstFrayed_36 : decode cX2_firstFrayed 36 = .ok (.iconst (-1), 1) := by decide +kernel
theorem dX2_firstFrayed_37 : decode cX2_firstFrayed 37 = .ok (.ireturn, 1) := by decide +kernel
theorem dX2_wiresFrom_0 : decode cX2_wiresFrom 0 = .ok (.iconst 0, 1) := by decide +kernel
theorem dX2_wiresFrom_1 : decode cX2_wiresFrom 1 = .ok (.istore_n 3, 1) := by decide +kernel
theorem dX2_wiresFrom_2 : decode cX2_wiresFrom 2 = .ok (.iload_n 1, 1) := by decide +kernel
theorem dX2_wiresFrom_3 : decode cX2_wiresFrom 3 = .ok (.istore 4, 2) := by decide +kernel
theorem dX2_wiresFrom_5 : decode cX2_wiresFrom 5 = .ok (.iload 4, 2) := by decide +kernel
theorem dX2_wiresFrom_7 : decode cX2_wiresFrom 7 = .ok (.iload_n 2, 1) := by decide +kernel
theorem dX2_wiresFrom_8 : decode cX2_wiresFrom 8 = .ok (.if_icmp .ge 19, 3) := by decide +kernel
theorem dX2_wiresFrom_11 : decode cX2_wiresFrom 11 = .ok (.iload_n 3, 1) := by decide +kernel
theorem dX2_wiresFrom_12 : decode cX2_wiresFrom 12 = .ok (.aload_n 0, 1) := by decide +kernel
theorem dX2_wiresFrom_13 : decode cX2_wiresFrom 13 = .ok (.getfield 15, 3) := by decide +kernel
theorem dX2_wiresFrom_16 : decode cX2_wiresFrom 16 = .ok (.iload 4, 2) := by decide +kernel
theorem dX2_wiresFrom_18 : decode cX2_wiresFrom 18 = .ok (.iaload, 1) := by decide +kernel
theorem dX2_wiresFrom_19 : decode cX2_wiresFrom 19 = .ok (.iadd, 1) := by decide +kernel
theorem dX2_wiresFrom_20 : decode cX2_wiresFrom 20 = .ok (.istore_n 3, 1) := by decide +kernel
theorem dX2_wiresFrom_21 : decode cX2_wiresFrom 21 = .ok (.iinc 4 1, 3) := by decide +kernel
theorem dX2_wiresFrom_24 : decode cX2_wiresFrom 24 = .ok (.goto (-19), 3) := by decide +kernel
theorem dX2_wiresFrom_27 : decode cX2_wiresFrom 27 = .ok (.iload_n 3, 1) := by decide +kernel
theorem dX2_wiresFrom_28 : decode cX2_wiresFrom 28 = .ok (.ireturn, 1) := by decide +kernel
set_option maxRecDepth 20000 in
theorem ggX3_init_X0_init : GoodIn wsX3_init wsX0_init := goodIn_r _ [25, 26, 2, 3, 9, 27, 28, 29, 30, 31, 32, 33, 34, 35, 36] (by decide +kernel) (by decide +kernel)
set_option maxRecDepth 20000 in
theorem gX3_init_X0_init : GoodIn wsX3_init (wsX0_init) := ggX3_init_X0_init
theorem dX3_init_0 : decode cX3_init 0 = .ok (.aload_n 0, 1) := by decide +kernel
theorem dX3_init_1 : decode cX3_init 1 = .ok (.invokespecial 3, 3) := by decide +kernel
theorem dX3_init_4 : decode cX3_init 4 = .ok (.aload_n 0, 1) := by decide +kernel
theorem dX3_init_5 : decode cX3_init 5 = .ok (.new 9, 3) := by decide +kernel
theorem dX3_init_8 : decode cX3_init 8 = .ok (.dup, 1) := by decide +kernel
theorem dX3_init_9 : decode cX3_init 9 = .ok (.iconst 1, 1) := by decide +kernel
theorem dX3_init_10 : decode cX3_init 10 = .ok (.invokespecial 11, 3) := by decide +kernel
theorem dX3_init_13 : decode cX3_init 13 = .ok (.putfield 14, 3) := by decide +kernel
theorem dX3_init_16 : decode cX3_init 16 = .ok (.aload_n 0, 1) := by decide +kernel
theorem dX3_init_17 : decode cX3_init 17 = .ok (.new 9, 3) := by decide +kernel
theorem dX3_init_20 : decode cX3_init 20 = .ok (.dup, 1) := by decide +kernel
theorem dX3_init_21 : decode cX3_init 21 = .ok (.iconst 2, 1) := by decide +kernel
theorem dX3_init_22 : decode cX3_init 22 = .ok (.invokespecial 11, 3) := by decide +kernel
theorem dX3_init_25 : decode cX3_init 25 = .ok (.putfield 20, 3) := by decide +kernel
theorem dX3_init_28 : decode cX3_init 28 = .ok (.aload_n 0, 1) := by decide +kernel
theorem dX3_init_29 : decode cX3_init 29 = .ok (.bipush 60, 2) := by decide +kernel
theorem dX3_init_31 : decode cX3_init 31 = .ok (.newarray .int, 2) := by decide +kernel
theorem dX3_init_33 : decode cX3_init 33 = .ok (.putfield 23, 3) := by decide +kernel
theorem dX3_init_36 : decode cX3_init 36 = .ok (.aload_n 0, 1) := by decide +kernel
theorem dX3_init_37 : decode cX3_init 37 = .ok (.bipush 60, 2) := by decide +kernel
theorem dX3_init_39 : decode cX3_init 39 = .ok (.newarray .int, 2) := by decide +kernel
theorem dX3_init_41 : decode cX3_init 41 = .ok (.putfield 27, 3) := by decide +kernel
theorem dX3_init_44 : decode cX3_init 44 = .ok (.aload_n 0, 1) := by decide +kernel
theorem dX3_init_45 : decode cX3_init 45 = .ok (.bipush 60, 2) := by decide +kernel
theorem dX3_init_47 : decode cX3_init 47 = .ok (.newarray .int, 2) := by decide +kernel
theorem dX3_init_49 : decode cX3_init 49 = .ok (.putfield 30, 3) := by decide +kernel
theorem dX3_init_52 : decode cX3_init 52 = .ok (.aload_n 0, 1) := by decide +kernel
theorem dX3_init_53 : decode cX3_init 53 = .ok (.iconst 0, 1) := by decide +kernel
theorem dX3_init_54 : decode cX3_init 54 = .ok (.putfield 33, 3) := by decide +kernel
theorem dX3_init_57 : decode cX3_init 57 = .ok (.aload_n 0, 1) := by decide +kernel
theorem dX3_init_58 : decode cX3_init 58 = .ok (.iconst 0, 1) := by decide +kernel
theorem dX3_init_59 : decode cX3_init 59 = .ok (.putfield 37, 3) := by decide +kernel
theorem dX3_init_62 : decode cX3_init 62 = .ok (.aload_n 0, 1) := by decide +kernel
theorem dX3_init_63 : decode cX3_init 63 = .ok (.iconst 0, 1) := by decide +kernel
theorem dX3_init_64 : decode cX3_init 64 = .ok (.putfield 40, 3) := by decide +kernel
theorem dX3_init_67 : decode cX3_init 67 = .ok (.aload_n 0, 1) := by decide +kernel
theorem dX3_init_68 : decode cX3_init 68 = .ok (.iconst 0, 1) := by decide +kernel
theorem dX3_init_69 : decode cX3_init 69 = .ok (.putfield 43, 3) := by decide +kernel
theorem dX3_init_72 : decode cX3_init 72 = .ok (.aload_n 0, 1) := by decide +kernel
theorem dX3_init_73 : decode cX3_init 73 = .ok (.iconst 0, 1) := by decide +kernel
theorem dX3_init_74 : decode cX3_init 74 = .ok (.putfield 46, 3) := by decide +kernel
theorem dX3_init_77 : decode cX3_init 77 = .ok (.aload_n 0, 1) := by decide +kernel
theorem dX3_init_78 : decode cX3_init 78 = .ok (.iconst 0, 1) := by decide +kernel
theorem dX3_init_79 : decode cX3_init 79 = .ok (.putfield 49, 3) := by decide +kernel
theorem dX3_init_82 : decode cX3_init 82 = .ok (.aload_n 0, 1) := by decide +kernel
theorem dX3_init_83 : decode cX3_init 83 = .ok (.iconst 0, 1) := by decide +kernel
theorem dX3_init_84 : decode cX3_init 84 = .ok (.putfield 52, 3) := by decide +kernel
theorem dX3_init_87 : decode cX3_init 87 = .ok (.aload_n 0, 1) := by decide +kernel
theorem dX3_init_88 : decode cX3_init 88 = .ok (.iconst 0, 1) := by decide +kernel
theorem dX3_init_89 : decode cX3_init 89 = .ok (.putfield 55, 3) := by decide +kernel
theorem dX3_init_92 : decode cX3_init 92 = .ok (.aload_n 0, 1) := by decide +kernel
theorem dX3_init_93 : decode cX3_init 93 = .ok (.iconst 0, 1) := by decide +kernel
theorem dX3_init_94 : decode cX3_init 94 = .ok (.putfield 58, 3) := by decide +kernel
theorem dX3_init_97 : decode cX3_init 97 = .ok (.aload_n 0, 1) := by decide +kernel
theorem dX3_init_98 : decode cX3_init 98 = .ok (.iconst 0, 1) := by decide +kernel
theorem dX3_init_99 : decode cX3_init 99 = .ok (.putfield 61, 3) := by decide +kernel
theorem dX3_init_102 : decode cX3_init 102 = .ok (.return_, 1) := by decide +kernel
set_option maxRecDepth 20000 in
theorem ggX3_startAnew_J7_fill_53178 : GoodIn wsX3_startAnew wsJ7_fill_53178 := goodIn_r _ [13] (by decide +kernel) (by decide +kernel)
set_option maxRecDepth 20000 in
theorem gX3_startAnew_J7_fill_53178 : GoodIn wsX3_startAnew (va_wsS RX3 64 yJ7_fill_53178 wsJ7_fill_53178) := goodIn_app (goodIn_of _ (by decide +kernel)) ggX3_startAnew_J7_fill_53178
set_option maxRecDepth 20000 in
theorem ggX3_startAnew_X0_begin : GoodIn wsX3_startAnew wsX0_begin := goodIn_r _ [18, 19, 20, 36, 37, 38, 39, 40] (by decide +kernel) (by decide +kernel)
set_option maxRecDepth 20000 in
theorem gX3_startAnew_X0_begin : GoodIn wsX3_startAnew (wsV RX3 73 RX0 yX0_begin wsX0_begin) := goodIn_app (goodIn_of _ (by decide +kernel)) ggX3_startAnew_X0_begin
theorem dX3_startAnew_0 : decode cX3_startAnew 0 = .ok (.aload_n 0, 1) := by decide +kernel
theorem dX3_startAnew_1 : decode cX3_startAnew 1 = .ok (.getfield 23, 3) := by decide +kernel
theorem dX3_startAnew_4 : decode cX3_startAnew 4 = .ok (.iconst 0, 1) := by decide +kernel
theorem dX3_startAnew_5 : decode cX3_startAnew 5 = .ok (.invokestatic 64, 3) := by decide +kernel
theorem dX3_startAnew_8 : decode cX3_startAnew 8 = .ok (.aload_n 0, 1) := by decide +kernel
theorem dX3_startAnew_9 : decode cX3_startAnew 9 = .ok (.getfield 27, 3) := by decide +kernel
theorem dX3_startAnew_12 : decode cX3_startAnew 12 = .ok (.iconst (-1), 1) := by decide +kernel
theorem dX3_startAnew_13 : decode cX3_startAnew 13 = .ok (.invokestatic 64, 3) := by decide +kernel
theorem dX3_startAnew_16 : decode cX3_startAnew 16 = .ok (.aload_n 0, 1) := by decide +kernel
theorem dX3_startAnew_17 : decode cX3_startAnew 17 = .ok (.getfield 30, 3) := by decide +kernel
theorem dX3_startAnew_20 : decode cX3_startAnew 20 = .ok (.iconst (-1), 1) := by decide +kernel
theorem dX3_startAnew_21 : decode cX3_startAnew 21 = .ok (.invokestatic 64, 3) := by decide +kernel
theorem dX3_startAnew_24 : decode cX3_startAnew 24 = .ok (.aload_n 0, 1) := by decide +kernel
theorem dX3_startAnew_25 : decode cX3_startAnew 25 = .ok (.getfield 14, 3) := by decide +kernel
theorem dX3_startAnew_28 : decode cX3_startAnew 28 = .ok (.iconst 0, 1) := by decide +kernel
theorem dX3_startAnew_29 : decode cX3_startAnew 29 = .ok (.putfield 70, 3) := by decide +kernel
theorem dX3_startAnew_32 : decode cX3_startAnew 32 = .ok (.aload_n 0, 1) := by decide +kernel
theorem dX3_startAnew_33 : decode cX3_startAnew 33 = .ok (.getfield 20, 3) := by decide +kernel
theorem dX3_startAnew_36 : decode cX3_startAnew 36 = .ok (.iconst 0, 1) := by decide +kernel
theorem dX3_startAnew_37 : decode cX3_startAnew 37 = .ok (.putfield 70, 3) := by decide +kernel
theorem dX3_startAnew_40 : decode cX3_startAnew 40 = .ok (.aload_n 0, 1) := by decide +kernel
theorem dX3_startAnew_41 : decode cX3_startAnew 41 = .ok (.getfield 14, 3) := by decide +kernel
theorem dX3_startAnew_44 : decode cX3_startAnew 44 = .ok (.iconst 0, 1) := by decide +kernel
theorem dX3_startAnew_45 : decode cX3_startAnew 45 = .ok (.iconst 1, 1) := by decide +kernel
theorem dX3_startAnew_46 : decode cX3_startAnew 46 = .ok (.invokevirtual 73, 3) := by decide +kernel
theorem dX3_startAnew_49 : decode cX3_startAnew 49 = .ok (.aload_n 0, 1) := by decide +kernel
theorem dX3_startAnew_50 : decode cX3_startAnew 50 = .ok (.iconst 0, 1) := by decide +kernel
theorem dX3_startAnew_51 : decode cX3_startAnew 51 = .ok (.putfield 33, 3) := by decide +kernel
theorem dX3_startAnew_54 : decode cX3_startAnew 54 = .ok (.aload_n 0, 1) := by decide +kernel
theorem dX3_startAnew_55 : decode cX3_startAnew 55 = .ok (.iconst 0, 1) := by decide +kernel
theorem dX3_startAnew_56 : decode cX3_startAnew 56 = .ok (.putfield 37, 3) := by decide +kernel
theorem dX3_startAnew_59 : decode cX3_startAnew 59 = .ok (.aload_n 0, 1) := by decide +kernel
theorem dX3_startAnew_60 : decode cX3_startAnew 60 = .ok (.iconst 0, 1) := by decide +kernel
theorem dX3_startAnew_61 : decode cX3_startAnew 61 = .ok (.putfield 40, 3) := by decide +kernel
theorem dX3_startAnew_64 : decode cX3_startAnew 64 = .ok (.return_, 1) := by decide +kernel
set_option maxRecDepth 20000 in
theorem ggX3_travel_X0_begin : GoodIn wsX3_travel wsX0_begin := goodIn_r _ [13, 14, 15, 112, 113, 114, 115, 116] (by decide +kernel) (by decide +kernel)
set_option maxRecDepth 20000 in
theorem gX3_travel_X0_begin : GoodIn wsX3_travel (wsV RX3 73 RX0 yX0_begin wsX0_begin) := goodIn_app (goodIn_of _ (by decide +kernel)) ggX3_travel_X0_begin
set_option maxRecDepth 20000 in
theorem ggX3_travel_X3_forgetLatest : GoodIn wsX3_travel wsX3_forgetLatest := goodIn_r _ [20, 21, 22, 23, 24, 25, 26, 97, 98, 99, 100, 101, 102, 103, 104, 105, 106, 107, 108, 109, 110, 111] (by decide +kernel) (by decide +kernel)
set_option maxRecDepth 20000 in
theorem gX3_travel_X3_forgetLatest : GoodIn wsX3_travel (wsV RX3 85 RX3 yX3_forgetLatest wsX3_forgetLatest) := goodIn_app (goodIn_of _ (by decide +kernel)) ggX3_travel_X3_forgetLatest
set_option maxRecDepth 20000 in
theorem ggX3_travel_X3_serveBoth : GoodIn wsX3_travel wsX3_serveBoth := goodIn_r _ [30, 1, 4, 31, 32, 33, 19, 34, 35, 2, 36, 37, 38, 39, 40, 41, 42, 43, 44, 45, 46, 47, 48, 49, 50, 51, 52, 53, 54, 26, 55, 56, 57, 12, 58, 59, 60, 61, 62, 63, 64, 65, 66, 97, 98, 99, 100, 101, 102, 103, 104, 105, 106, 107, 108, 109, 110, 111, 117, 118, 119, 120, 121, 122, 123, 124, 125, 126, 112, 113, 114, 115, 116] (by decide +kernel) (by decide +kernel)
set_option maxRecDepth 20000 in
theorem gX3_travel_X3_serveBoth : GoodIn wsX3_travel (wsV RX3 88 RX3 yX3_serveBoth wsX3_serveBoth) := goodIn_app (goodIn_of _ (by decide +kernel)) ggX3_travel_X3_serveBoth
set_option maxRecDepth 20000 in
theorem ggX3_travel_X3_noteStop : GoodIn wsX3_travel wsX3_noteStop := goodIn_r _ [70, 1, 4, 21, 22, 71, 72, 73, 19, 74, 35, 2, 75, 76, 77, 12, 78, 59, 79, 61, 14, 55, 56, 57, 58, 60, 80, 81, 82, 83, 49, 50, 62, 63, 64, 65, 42, 66, 43, 54, 97, 98, 99, 100, 101, 102, 103, 104, 105, 106, 107, 108, 109, 110, 111, 117, 118, 119, 120, 121, 122, 123, 124, 125, 126, 112, 113, 114, 115, 116] (by decide +kernel) (by decide +kernel)
set_option maxRecDepth 20000 in
theorem gX3_travel_X3_noteStop : GoodIn wsX3_travel (wsV RX3 92 RX3 yX3_noteStop wsX3_noteStop) := goodIn_app (goodIn_of _ (by decide +kernel)) ggX3_travel_X3_noteStop
set_option maxRecDepth 20000 in
theorem ggX3_travel_X3_notePull : GoodIn wsX3_travel wsX3_notePull := goodIn_r _ [87, 1, 4, 88, 89, 90, 91, 5, 23, 24, 25, 92, 93, 94, 12, 95, 60, 59, 96, 14, 15, 97, 98, 99, 100, 101, 102, 103, 104, 105, 106, 107, 108, 109, 110, 111, 117, 118, 119, 120, 121, 122, 123, 124, 125, 126, 112, 113, 114, 115, 116] (by decide +kernel) (by decide +kernel)
set_option maxRecDepth 20000 in
theorem gX3_travel_X3_notePull : GoodIn wsX3_travel (wsV RX3 96 RX3 yX3_notePull wsX3_notePull) := goodIn_app (goodIn_of _ (by decide +kernel)) ggX3_travel_X3_notePull
theorem dX3_travel_0 : decode cX3_travel 0 = .ok (.aload_n 0, 1) := by decide +kernel
theorem dX3_travel_1 : decode cX3_travel 1 = .ok (.getfield 14, 3) := by decide +kernel
theorem dX3_travel_4 : decode cX3_travel 4 = .ok (.getfield 77, 3) := by decide +kernel
theorem dX3_travel_7 : decode cX3_travel 7 = .ok (.ifCond .ne 7, 3) := by decide +kernel
theorem dX3_travel_10 : decode cX3_travel 10 = .ok (.iconst 1, 1) := by decide +kernel
theorem dX3_travel_11 : decode cX3_travel 11 = .ok (.goto 4, 3) := by decide +kernel
theorem dX3_travel_14 : decode cX3_travel 14 = .ok (.iconst (-1), 1) := by decide +kernel
theorem dX3_travel_15 : decode cX3_travel 15 = .ok (.istore_n 3, 1) := by decide +kernel
theorem dX3_travel_16 : decode cX3_travel 16 = .ok (.aload_n 0, 1) := by decide +kernel
theorem dX3_travel_17 : decode cX3_travel 17 = .ok (.getfield 14, 3) := by decide +kernel
theorem dX3_travel_20 : decode cX3_travel 20 = .ok (.iload_n 3, 1) := by decide +kernel
theorem dX3_travel_21 : decode cX3_travel 21 = .ok (.ifCond .le 7, 3) := by decide +kernel
theorem dX3_travel_24 : decode cX3_travel 24 = .ok (.iconst 0, 1) := by decide +kernel
theorem dX3_travel_25 : decode cX3_travel 25 = .ok (.goto 7, 3) := by decide +kernel
theorem dX3_travel_28 : decode cX3_travel 28 = .ok (.aload_n 1, 1) := by decide +kernel
theorem dX3_travel_29 : decode cX3_travel 29 = .ok (.getfield 80, 3) := by decide +kernel
theorem dX3_travel_32 : decode cX3_travel 32 = .ok (.iload_n 3, 1) := by decide +kernel
theorem dX3_travel_33 : decode cX3_travel 33 = .ok (.invokevirtual 73, 3) := by decide +kernel
theorem dX3_travel_36 : decode cX3_travel 36 = .ok (.aload_n 0, 1) := by decide +kernel
theorem dX3_travel_37 : decode cX3_travel 37 = .ok (.getfield 20, 3) := by decide +kernel
theorem dX3_travel_40 : decode cX3_travel 40 = .ok (.aload_n 1, 1) := by decide +kernel
theorem dX3_travel_41 : decode cX3_travel 41 = .ok (.getfield 80, 3) := by decide +kernel
theorem dX3_travel_44 : decode cX3_travel 44 = .ok (.aload_n 0, 1) := by decide +kernel
theorem dX3_travel_45 : decode cX3_travel 45 = .ok (.getfield 14, 3) := by decide +kernel
theorem dX3_travel_48 : decode cX3_travel 48 = .ok (.getfield 77, 3) := by decide +kernel
theorem dX3_travel_51 : decode cX3_travel 51 = .ok (.isub, 1) := by decide +kernel
theorem dX3_travel_52 : decode cX3_travel 52 = .ok (.iload_n 3, 1) := by decide +kernel
theorem dX3_travel_53 : decode cX3_travel 53 = .ok (.ineg, 1) := by decide +kernel
theorem dX3_travel_54 : decode cX3_travel 54 = .ok (.invokevirtual 73, 3) := by decide +kernel
theorem dX3_travel_57 : decode cX3_travel 57 = .ok (.aload_n 0, 1) := by decide +kernel
theorem dX3_travel_58 : decode cX3_travel 58 = .ok (.invokevirtual 85, 3) := by decide +kernel
theorem dX3_travel_61 : decode cX3_travel 61 = .ok (.iload_n 2, 1) := by decide +kernel
theorem dX3_travel_62 : decode cX3_travel 62 = .ok (.istore 4, 2) := by decide +kernel
theorem dX3_travel_64 : decode cX3_travel 64 = .ok (.aload_n 0, 1) := by decide +kernel
theorem dX3_travel_65 : decode cX3_travel 65 = .ok (.aload_n 1, 1) := by decide +kernel
theorem dX3_travel_66 : decode cX3_travel 66 = .ok (.iload 4, 2) := by decide +kernel
theorem dX3_travel_68 : decode cX3_travel 68 = .ok (.invokevirtual 88, 3) := by decide +kernel
theorem dX3_travel_71 : decode cX3_travel 71 = .ok (.iconst 0, 1) := by decide +kernel
theorem dX3_travel_72 : decode cX3_travel 72 = .ok (.istore 5, 2) := by decide +kernel
theorem dX3_travel_74 : decode cX3_travel 74 = .ok (.iload 5, 2) := by decide +kernel
theorem dX3_travel_76 : decode cX3_travel 76 = .ok (.aload_n 1, 1) := by decide +kernel
theorem dX3_travel_77 : decode cX3_travel 77 = .ok (.getfield 80, 3) := by decide +kernel
theorem dX3_travel_80 : decode cX3_travel 80 = .ok (.if_icmp .ge 78, 3) := by decide +kernel
theorem dX3_travel_83 : decode cX3_travel 83 = .ok (.iload 5, 2) := by decide +kernel
theorem dX3_travel_85 : decode cX3_travel 85 = .ok (.ifCond .le 23, 3) := by decide +kernel
theorem dX3_travel_88 : decode cX3_travel 88 = .ok (.aload_n 0, 1) := by decide +kernel
theorem dX3_travel_89 : decode cX3_travel 89 = .ok (.aload_n 1, 1) := by decide +kernel
theorem dX3_travel_90 : decode cX3_travel 90 = .ok (.iload 4, 2) := by decide +kernel
theorem dX3_travel_92 : decode cX3_travel 92 = .ok (.invokevirtual 92, 3) := by decide +kernel
theorem dX3_travel_95 : decode cX3_travel 95 = .ok (.ifCond .eq 13, 3) := by decide +kernel
theorem dX3_travel_98 : decode cX3_travel 98 = .ok (.aload_n 0, 1) := by decide +kernel
theorem dX3_travel_99 : decode cX3_travel 99 = .ok (.aload_n 1, 1) := by decide +kernel
theorem dX3_travel_100 : decode cX3_travel 100 = .ok (.iload 4, 2) := by decide +kernel
theorem dX3_travel_102 : decode cX3_travel 102 = .ok (.invokevirtual 88, 3) := by decide +kernel
theorem dX3_travel_105 : decode cX3_travel 105 = .ok (.iinc 4 1, 3) := by decide +kernel
theorem dX3_travel_108 : decode cX3_travel 108 = .ok (.aload_n 0, 1) := by decide +kernel
theorem dX3_travel_109 : decode cX3_travel 109 = .ok (.aload_n 1, 1) := by decide +kernel
theorem dX3_travel_110 : decode cX3_travel 110 = .ok (.iload 5, 2) := by decide +kernel
theorem dX3_travel_112 : decode cX3_travel 112 = .ok (.invokevirtual 96, 3) := by decide +kernel
theorem dX3_travel_115 : decode cX3_travel 115 = .ok (.aload_n 0, 1) := by decide +kernel
theorem dX3_travel_116 : decode cX3_travel 116 = .ok (.getfield 14, 3) := by decide +kernel
theorem dX3_travel_119 : decode cX3_travel 119 = .ok (.dup, 1) := by decide +kernel
theorem dX3_travel_120 : decode cX3_travel 120 = .ok (.getfield 77, 3) := by decide +kernel
theorem dX3_travel_123 : decode cX3_travel 123 = .ok (.iload_n 3, 1) := by decide +kernel
theorem dX3_travel_124 : decode cX3_travel 124 = .ok (.iadd, 1) := by decide +kernel
theorem dX3_travel_125 : decode cX3_travel 125 = .ok (.putfield 77, 3) := by decide +kernel
theorem dX3_travel_128 : decode cX3_travel 128 = .ok (.aload_n 0, 1) := by decide +kernel
theorem dX3_travel_129 : decode cX3_travel 129 = .ok (.getfield 20, 3) := by decide +kernel
theorem dX3_travel_132 : decode cX3_travel 132 = .ok (.dup, 1) := by decide +kernel
theorem dX3_travel_133 : decode cX3_travel 133 = .ok (.getfield 77, 3) := by decide +kernel
theorem dX3_travel_136 : decode cX3_travel 136 = .ok (.iload_n 3, 1) := by decide +kernel
theorem dX3_travel_137 : decode cX3_travel 137 = .ok (.isub, 1) := by decide +kernel
theorem dX3_travel_138 : decode cX3_travel 138 = .ok (.putfield 77, 3) := by decide +kernel
theorem dX3_travel_141 : decode cX3_travel 141 = .ok (.iload 4, 2) := by decide +kernel
theorem dX3_travel_143 : decode cX3_travel 143 = .ok (.aload_n 1, 1) := by decide +kernel
theorem dX3_travel_144 : decode cX3_travel 144 = .ok (.getfield 99, 3) := by decide +kernel
theorem dX3_travel_147 : decode cX3_travel 147 = .ok (.iconst 0, 1) := by decide +kernel
theorem dX3_travel_148 : decode cX3_travel 148 = .ok (.iaload, 1) := by decide +kernel
theorem dX3_travel_149 : decode cX3_travel 149 = .ok (.iadd, 1) := by decide +kernel
theorem dX3_travel_150 : decode cX3_travel 150 = .ok (.istore 4, 2) := by decide +kernel
theorem dX3_travel_152 : decode cX3_travel 152 = .ok (.iinc 5 1, 3) := by decide +kernel
theorem dX3_travel_155 : decode cX3_travel 155 = .ok (.goto (-81), 3) := by decide +kernel
theorem dX3_travel_158 : decode cX3_travel 158 = .ok (.aload_n 0, 1) := by decide +kernel
theorem dX3_travel_159 : decode cX3_travel 159 = .ok (.aload_n 1, 1) := by decide +kernel
theorem dX3_travel_160 : decode cX3_travel 160 = .ok (.iload 4, 2) := by decide +kernel
theorem dX3_travel_162 : decode cX3_travel 162 = .ok (.invokevirtual 88, 3) := by decide +kernel
theorem dX3_travel_165 : decode cX3_travel 165 = .ok (.aload_n 0, 1) := by decide +kernel
theorem dX3_travel_166 : decode cX3_travel 166 = .ok (.iload 4, 2) := by decide +kernel
theorem dX3_travel_168 : decode cX3_travel 168 = .ok (.iload_n 2, 1) := by decide +kernel
theorem dX3_travel_169 : decode cX3_travel 169 = .ok (.isub, 1) := by decide +kernel
theorem dX3_travel_170 : decode cX3_travel 170 = .ok (.putfield 61, 3) := by decide +kernel
theorem dX3_travel_173 : decode cX3_travel 173 = .ok (.aload_n 0, 1) := by decide +kernel
theorem dX3_travel_174 : decode cX3_travel 174 = .ok (.iload 4, 2) := by decide +kernel
theorem dX3_travel_176 : decode cX3_travel 176 = .ok (.putfield 33, 3) := by decide +kernel
theorem dX3_travel_179 : decode cX3_travel 179 = .ok (.aload_n 0, 1) := by decide +kernel
theorem dX3_travel_180 : decode cX3_travel 180 = .ok (.dup, 1) := by decide +kernel
theorem dX3_travel_181 : decode cX3_travel 181 = .ok (.getfield 37, 3) := by decide +kernel
theorem dX3_travel_184 : decode cX3_travel 184 = .ok (.iconst 1, 1) := by decide +kernel
theorem dX3_travel_185 : decode cX3_travel 185 = .ok (.iadd, 1) := by decide +kernel
theorem dX3_travel_186 : decode cX3_travel 186 = .ok (.putfield 37, 3) := by decide +kernel
theorem dX3_travel_189 : decode cX3_travel 189 = .ok (.return_, 1) := by decide +kernel
theorem dX3_stillWaiting_0 : decode cX3_stillWaiting 0 = .ok (.iconst 0, 1) := by decide +kernel
theorem dX3_stillWaiting_1 : decode cX3_stillWaiting 1 = .ok (.istore_n 2, 1) := by decide +kernel
theorem dX3_stillWaiting_2 : decode cX3_stillWaiting 2 = .ok (.iconst 0, 1) := by decide +kernel
theorem dX3_stillWaiting_3 : decode cX3_stillWaiting 3 = .ok (.istore_n 3, 1) := by decide +kernel
theorem dX3_stillWaiting_4 : decode cX3_stillWaiting 4 = .ok (.iload_n 3, 1) := by decide +kernel
theorem dX3_stillWaiting_5 : decode cX3_stillWaiting 5 = .ok (.aload_n 1, 1) := by decide +kernel
theorem dX3_stillWaiting_6 : decode cX3_stillWaiting 6 = .ok (.getfield 102, 3) := by decide +kernel
theorem dX3_stillWaiting_9 : decode cX3_stillWaiting 9 = .ok (.if_icmp .ge 36, 3) := by decide +kernel
theorem dX3_stillWaiting_12 : decode cX3_stillWaiting 12 = .ok (.aload_n 0, 1) := by decide +kernel
theorem dX3_stillWaiting_13 : decode cX3_stillWaiting 13 = .ok (.getfield 23, 3) := by decide +kernel
theorem dX3_stillWaiting_16 : decode cX3_stillWaiting 16 = .ok (.iload_n 3, 1) := by decide +kernel
theorem dX3_stillWaiting_17 : decode cX3_stillWaiting 17 = .ok (.iaload, 1) := by decide +kernel
theorem dX3_stillWaiting_18 : decode cX3_stillWaiting 18 = .ok (.ifCond .ne 21, 3) := by decide +kernel
theorem dX3_stillWaiting_21 : decode cX3_stillWaiting 21 = .ok (.iload_n 2, 1) := by decide +kernel
theorem dX3_stillWaiting_22 : decode cX3_stillWaiting 22 = .ok (.iconst 0, 1) := by decide +kernel
theorem dX3_stillWaiting_23 : decode cX3_stillWaiting 23 = .ok (.aload_n 0, 1) := by decide +kernel
theorem dX3_stillWaiting_24 : decode cX3_stillWaiting 24 = .ok (.getfield 33, 3) := by decide +kernel
theorem dX3_stillWaiting_27 : decode cX3_stillWaiting 27 = .ok (.aload_n 1, 1) := by decide +kernel
theorem dX3_stillWaiting_28 : decode cX3_stillWaiting 28 = .ok (.getfield 105, 3) := by decide +kernel
theorem dX3_stillWaiting_31 : decode cX3_stillWaiting 31 = .ok (.iload_n 3, 1) := by decide +kernel
theorem dX3_stillWaiting_32 : decode cX3_stillWaiting 32 = .ok (.iaload, 1) := by decide +kernel
theorem dX3_stillWaiting_33 : decode cX3_stillWaiting 33 = .ok (.isub, 1) := by decide +kernel
theorem dX3_stillWaiting_34 : decode cX3_stillWaiting 34 = .ok (.invokestatic 108, 3) := by decide +kernel
theorem dX3_stillWaiting_37 : decode cX3_stillWaiting 37 = .ok (.iadd, 1) := by decide +kernel
theorem dX3_stillWaiting_38 : decode cX3_stillWaiting 38 = .ok (.istore_n 2, 1) := by decide +kernel
theorem dX3_stillWaiting_39 : decode cX3_stillWaiting 39 = .ok (.iinc 3 1, 3) := by decide +kernel
theorem dX3_stillWaiting_42 : decode cX3_stillWaiting 42 = .ok (.goto (-38), 3) := by decide +kernel
theorem dX3_stillWaiting_45 : decode cX3_stillWaiting 45 = .ok (.iload_n 2, 1) := by decide +kernel
theorem dX3_stillWaiting_46 : decode cX3_stillWaiting 46 = .ok (.ireturn, 1) := by decide +kernel
theorem dX3_forgetLatest_0 : decode cX3_forgetLatest 0 = .ok (.aload_n 0, 1) := by decide +kernel
theorem dX3_forgetLatest_1 : decode cX3_forgetLatest 1 = .ok (.iconst 0, 1) := by decide +kernel
theorem dX3_forgetLatest_2 : decode cX3_forgetLatest 2 = .ok (.putfield 43, 3) := by decide +kernel
theorem dX3_forgetLatest_5 : decode cX3_forgetLatest 5 = .ok (.aload_n 0, 1) := by decide +kernel
theorem dX3_forgetLatest_6 : decode cX3_forgetLatest 6 = .ok (.iconst 0, 1) := by decide +kernel
theorem dX3_forgetLatest_7 : decode cX3_forgetLatest 7 = .ok (.putfield 46, 3) := by decide +kernel
theorem dX3_forgetLatest_10 : decode cX3_forgetLatest 10 = .ok (.aload_n 0, 1) := by decide +kernel
theorem dX3_forgetLatest_11 : decode cX3_forgetLatest 11 = .ok (.iconst 0, 1) := by decide +kernel
theorem dX3_forgetLatest_12 : decode cX3_forgetLatest 12 = .ok (.putfield 49, 3) := by decide +kernel
theorem dX3_forgetLatest_15 : decode cX3_forgetLatest 15 = .ok (.aload_n 0, 1) := by decide +kernel
theorem dX3_forgetLatest_16 : decode cX3_forgetLatest 16 = .ok (.iconst 0, 1) := by decide +kernel
theorem dX3_forgetLatest_17 : decode cX3_forgetLatest 17 = .ok (.putfield 52, 3) := by decide +kernel
theorem dX3_forgetLatest_20 : decode cX3_forgetLatest 20 = .ok (.aload_n 0, 1) := by decide +kernel
theorem dX3_forgetLatest_21 : decode cX3_forgetLatest 21 = .ok (.iconst 0, 1) := by decide +kernel
theorem dX3_forgetLatest_22 : decode cX3_forgetLatest 22 = .ok (.putfield 55, 3) := by decide +kernel
theorem dX3_forgetLatest_25 : decode cX3_forgetLatest 25 = .ok (.aload_n 0, 1) := by decide +kernel
theorem dX3_forgetLatest_26 : decode cX3_forgetLatest 26 = .ok (.iconst 0, 1) := by decide +kernel
theorem dX3_forgetLatest_27 : decode cX3_forgetLatest 27 = .ok (.putfield 58, 3) := by decide +kernel
theorem dX3_forgetLatest_30 : decode cX3_forgetLatest 30 = .ok (.return_, 1) := by decide +kernel
set_option maxRecDepth 20000 in
theorem ggX3_noteStop_X3_hasUse : GoodIn wsX3_noteStop wsX3_hasUse := goodIn_r _ [9, 10, 11, 12, 13, 14, 15, 16, 17, 18, 19, 20, 21, 22, 23, 24, 25, 26, 27, 28, 8, 29, 30, 31, 32, 33, 34, 35, 36, 37, 38, 39, 55, 56, 57, 58, 59, 60, 61, 62, 63, 64, 65, 66, 67, 68, 69, 40, 41, 42, 43, 44, 45, 46, 47, 48, 49, 50, 51, 52, 53, 54] (by decide +kernel) (by decide +kernel)
set_option maxRecDepth 20000 in
theorem gX3_noteStop_X3_hasUse : GoodIn wsX3_noteStop (wsV RX3 114 RX3 yX3_hasUse wsX3_hasUse) := goodIn_app (goodIn_of _ (by decide +kernel)) ggX3_noteStop_X3_hasUse
theorem dX3_noteStop_0 : decode cX3_noteStop 0 = .ok (.aload_n 0, 1) := by decide +kernel
theorem dX3_noteStop_1 : decode cX3_noteStop 1 = .ok (.aload_n 1, 1) := by decide +kernel
theorem dX3_noteStop_2 : decode cX3_noteStop 2 = .ok (.aload_n 0, 1) := by decide +kernel
theorem dX3_noteStop_3 : decode cX3_noteStop 3 = .ok (.getfield 14, 3) := by decide +kernel
theorem dX3_noteStop_6 : decode cX3_noteStop 6 = .ok (.iload_n 2, 1) := by decide +kernel
theorem dX3_noteStop_7 : decode cX3_noteStop 7 = .ok (.invokevirtual 114, 3) := by decide +kernel
theorem dX3_noteStop_10 : decode cX3_noteStop 10 = .ok (.istore_n 3, 1) := by decide +kernel
theorem dX3_noteStop_11 : decode cX3_noteStop 11 = .ok (.aload_n 0, 1) := by decide +kernel
theorem dX3_noteStop_12 : decode cX3_noteStop 12 = .ok (.aload_n 1, 1) := by decide +kernel
theorem dX3_noteStop_13 : decode cX3_noteStop 13 = .ok (.aload_n 0, 1) := by decide +kernel
theorem dX3_noteStop_14 : decode cX3_noteStop 14 = .ok (.getfield 20, 3) := by decide +kernel
theorem dX3_noteStop_17 : decode cX3_noteStop 17 = .ok (.iload_n 2, 1) := by decide +kernel
theorem dX3_noteStop_18 : decode cX3_noteStop 18 = .ok (.invokevirtual 114, 3) := by decide +kernel
theorem dX3_noteStop_21 : decode cX3_noteStop 21 = .ok (.istore 4, 2) := by decide +kernel
theorem dX3_noteStop_23 : decode cX3_noteStop 23 = .ok (.iload_n 3, 1) := by decide +kernel
theorem dX3_noteStop_24 : decode cX3_noteStop 24 = .ok (.ifCond .ne 10, 3) := by decide +kernel
theorem dX3_noteStop_27 : decode cX3_noteStop 27 = .ok (.iload 4, 2) := by decide +kernel
theorem dX3_noteStop_29 : decode cX3_noteStop 29 = .ok (.ifCond .ne 5, 3) := by decide +kernel
theorem dX3_noteStop_32 : decode cX3_noteStop 32 = .ok (.iconst 0, 1) := by decide +kernel
theorem dX3_noteStop_33 : decode cX3_noteStop 33 = .ok (.ireturn, 1) := by decide +kernel
theorem dX3_noteStop_34 : decode cX3_noteStop 34 = .ok (.aload_n 0, 1) := by decide +kernel
theorem dX3_noteStop_35 : decode cX3_noteStop 35 = .ok (.dup, 1) := by decide +kernel
theorem dX3_noteStop_36 : decode cX3_noteStop 36 = .ok (.getfield 43, 3) := by decide +kernel
theorem dX3_noteStop_39 : decode cX3_noteStop 39 = .ok (.iconst 1, 1) := by decide +kernel
theorem dX3_noteStop_40 : decode cX3_noteStop 40 = .ok (.iadd, 1) := by decide +kernel
theorem dX3_noteStop_41 : decode cX3_noteStop 41 = .ok (.putfield 43, 3) := by decide +kernel
theorem dX3_noteStop_44 : decode cX3_noteStop 44 = .ok (.iload_n 3, 1) := by decide +kernel
theorem dX3_noteStop_45 : decode cX3_noteStop 45 = .ok (.ifCond .eq 8, 3) := by decide +kernel
theorem dX3_noteStop_48 : decode cX3_noteStop 48 = .ok (.iload 4, 2) := by decide +kernel
theorem dX3_noteStop_50 : decode cX3_noteStop 50 = .ok (.ifCond .ne 13, 3) := by decide +kernel
theorem dX3_noteStop_53 : decode cX3_noteStop 53 = .ok (.aload_n 0, 1) := by decide +kernel
theorem dX3_noteStop_54 : decode cX3_noteStop 54 = .ok (.dup, 1) := by decide +kernel
theorem dX3_noteStop_55 : decode cX3_noteStop 55 = .ok (.getfield 46, 3) := by decide +kernel
theorem dX3_noteStop_58 : decode cX3_noteStop 58 = .ok (.iconst 1, 1) := by decide +kernel
theorem dX3_noteStop_59 : decode cX3_noteStop 59 = .ok (.iadd, 1) := by decide +kernel
theorem dX3_noteStop_60 : decode cX3_noteStop 60 = .ok (.putfield 46, 3) := by decide +kernel
theorem dX3_noteStop_63 : decode cX3_noteStop 63 = .ok (.iconst 1, 1) := by decide +kernel
theorem dX3_noteStop_64 : decode cX3_noteStop 64 = .ok (.ireturn, 1) := by decide +kernel
set_option maxRecDepth 20000 in
theorem ggX3_notePull_X0_pullOfNextStep : GoodIn wsX3_notePull wsX0_pullOfNextStep := goodIn_r _ [15, 16, 17, 18, 19, 20, 36, 37, 38, 39, 40, 41, 42, 43, 44, 45, 46, 47, 48, 49, 50] (by decide +kernel) (by decide +kernel)
set_option maxRecDepth 20000 in
theorem gX3_notePull_X0_pullOfNextStep : GoodIn wsX3_notePull (wsV RX3 118 RX0 yX0_pullOfNextStep wsX0_pullOfNextStep) := goodIn_app (goodIn_of _ (by decide +kernel)) ggX3_notePull_X0_pullOfNextStep
theorem dX3_notePull_0 : decode cX3_notePull 0 = .ok (.aload_n 0, 1) := by decide +kernel
theorem dX3_notePull_1 : decode cX3_notePull 1 = .ok (.getfield 14, 3) := by decide +kernel
theorem dX3_notePull_4 : decode cX3_notePull 4 = .ok (.aload_n 1, 1) := by decide +kernel
theorem dX3_notePull_5 : decode cX3_notePull 5 = .ok (.invokevirtual 118, 3) := by decide +kernel
theorem dX3_notePull_8 : decode cX3_notePull 8 = .ok (.aload_n 0, 1) := by decide +kernel
theorem dX3_notePull_9 : decode cX3_notePull 9 = .ok (.getfield 20, 3) := by decide +kernel
theorem dX3_notePull_12 : decode cX3_notePull 12 = .ok (.aload_n 1, 1) := by decide +kernel
theorem dX3_notePull_13 : decode cX3_notePull 13 = .ok (.invokevirtual 118, 3) := by decide +kernel
theorem dX3_notePull_16 : decode cX3_notePull 16 = .ok (.iadd, 1) := by decide +kernel
theorem dX3_notePull_17 : decode cX3_notePull 17 = .ok (.invokestatic 122, 3) := by decide +kernel
theorem dX3_notePull_20 : decode cX3_notePull 20 = .ok (.istore_n 3, 1) := by decide +kernel
theorem dX3_notePull_21 : decode cX3_notePull 21 = .ok (.iload_n 3, 1) := by decide +kernel
theorem dX3_notePull_22 : decode cX3_notePull 22 = .ok (.aload_n 1, 1) := by decide +kernel
theorem dX3_notePull_23 : decode cX3_notePull 23 = .ok (.getfield 99, 3) := by decide +kernel
theorem dX3_notePull_26 : decode cX3_notePull 26 = .ok (.iconst 4, 1) := by decide +kernel
theorem dX3_notePull_27 : decode cX3_notePull 27 = .ok (.iaload, 1) := by decide +kernel
theorem dX3_notePull_28 : decode cX3_notePull 28 = .ok (.if_icmp .le 13, 3) := by decide +kernel
theorem dX3_notePull_31 : decode cX3_notePull 31 = .ok (.aload_n 0, 1) := by decide +kernel
theorem dX3_notePull_32 : decode cX3_notePull 32 = .ok (.dup, 1) := by decide +kernel
theorem dX3_notePull_33 : decode cX3_notePull 33 = .ok (.getfield 49, 3) := by decide +kernel
theorem dX3_notePull_36 : decode cX3_notePull 36 = .ok (.iconst 1, 1) := by decide +kernel
theorem dX3_notePull_37 : decode cX3_notePull 37 = .ok (.iadd, 1) := by decide +kernel
theorem dX3_notePull_38 : decode cX3_notePull 38 = .ok (.putfield 49, 3) := by decide +kernel
theorem dX3_notePull_41 : decode cX3_notePull 41 = .ok (.iload_n 3, 1) := by decide +kernel
theorem dX3_notePull_42 : decode cX3_notePull 42 = .ok (.aload_n 0, 1) := by decide +kernel
theorem dX3_notePull_43 : decode cX3_notePull 43 = .ok (.getfield 52, 3) := by decide +kernel
theorem dX3_notePull_46 : decode cX3_notePull 46 = .ok (.if_icmp .le 13, 3) := by decide +kernel
theorem dX3_notePull_49 : decode cX3_notePull 49 = .ok (.aload_n 0, 1) := by decide +kernel
theorem dX3_notePull_50 : decode cX3_notePull 50 = .ok (.iload_n 3, 1) := by decide +kernel
theorem dX3_notePull_51 : decode cX3_notePull 51 = .ok (.putfield 52, 3) := by decide +kernel
theorem dX3_notePull_54 : decode cX3_notePull 54 = .ok (.aload_n 0, 1) := by decide +kernel
theorem dX3_notePull_55 : decode cX3_notePull 55 = .ok (.iload_n 2, 1) := by decide +kernel
theorem dX3_notePull_56 : decode cX3_notePull 56 = .ok (.putfield 55, 3) := by decide +kernel
theorem dX3_notePull_59 : decode cX3_notePull 59 = .ok (.return_, 1) := by decide +kernel
set_option maxRecDepth 20000 in
theorem ggX3_hasUse_X0_carriesSomebodyHere : GoodIn wsX3_hasUse wsX0_carriesSomebodyHere := goodIn_r _ [7, 8, 9, 10, 11, 42, 43, 44, 45, 46, 32, 33, 34, 35, 36, 37, 38, 39, 40, 41] (by decide +kernel) (by decide +kernel)
set_option maxRecDepth 20000 in
theorem gX3_hasUse_X0_carriesSomebodyHere : GoodIn wsX3_hasUse (wsV RX3 130 RX0 yX0_carriesSomebodyHere wsX0_carriesSomebodyHere) := goodIn_app (goodIn_of _ (by decide +kernel)) ggX3_hasUse_X0_carriesSomebodyHere
set_option maxRecDepth 20000 in
theorem ggX3_hasUse_X0_hasRoom : GoodIn wsX3_hasUse wsX0_hasRoom := goodIn_r _ [15, 8, 16, 10, 42, 43, 44, 45, 46, 32, 33, 34, 35, 36, 37, 38, 39, 40, 41] (by decide +kernel) (by decide +kernel)
set_option maxRecDepth 20000 in
theorem gX3_hasUse_X0_hasRoom : GoodIn wsX3_hasUse (wsV RX3 134 RX0 yX0_hasRoom wsX0_hasRoom) := goodIn_app (goodIn_of _ (by decide +kernel)) ggX3_hasUse_X0_hasRoom
set_option maxRecDepth 20000 in
theorem ggX3_hasUse_X3_somebodyWaits : GoodIn wsX3_hasUse wsX3_somebodyWaits := goodIn_r _ [21, 22, 2, 23, 24, 25, 26, 20, 27, 28, 29, 30, 31, 32, 33, 34, 35, 36, 37, 38, 39, 40, 41, 42, 43, 44, 45, 46, 47, 48, 49, 50, 51, 52, 53, 54, 55, 56, 57, 58, 59, 60, 61] (by decide +kernel) (by decide +kernel)
set_option maxRecDepth 20000 in
theorem gX3_hasUse_X3_somebodyWaits : GoodIn wsX3_hasUse (wsV RX3 137 RX3 yX3_somebodyWaits wsX3_somebodyWaits) := goodIn_app (goodIn_of _ (by decide +kernel)) ggX3_hasUse_X3_somebodyWaits
theorem dX3_hasUse_0 : decode cX3_hasUse 0 = .ok (.aload_n 1, 1) := by decide +kernel
theorem dX3_hasUse_1 : decode cX3_hasUse 1 = .ok (.getfield 126, 3) := by decide +kernel
theorem dX3_hasUse_4 : decode cX3_hasUse 4 = .ok (.aload_n 2, 1) := by decide +kernel
theorem dX3_hasUse_5 : decode cX3_hasUse 5 = .ok (.getfield 77, 3) := by decide +kernel
theorem dX3_hasUse_8 : decode cX3_hasUse 8 = .ok (.baload, 1) := by decide +kernel
theorem dX3_hasUse_9 : decode cX3_hasUse 9 = .ok (.ifCond .ne 5, 3) := by decide +kernel
theorem dX3_hasUse_12 : decode cX3_hasUse 12 = .ok (.iconst 0, 1) := by decide +kernel
theorem dX3_hasUse_13 : decode cX3_hasUse 13 = .ok (.ireturn, 1) := by decide +kernel
theorem dX3_hasUse_14 : decode cX3_hasUse 14 = .ok (.aload_n 2, 1) := by decide +kernel
theorem dX3_hasUse_15 : decode cX3_hasUse 15 = .ok (.aload_n 1, 1) := by decide +kernel
theorem dX3_hasUse_16 : decode cX3_hasUse 16 = .ok (.invokevirtual 130, 3) := by decide +kernel
theorem dX3_hasUse_19 : decode cX3_hasUse 19 = .ok (.ifCond .eq 5, 3) := by decide +kernel
theorem dX3_hasUse_22 : decode cX3_hasUse 22 = .ok (.iconst 1, 1) := by decide +kernel
theorem dX3_hasUse_23 : decode cX3_hasUse 23 = .ok (.ireturn, 1) := by decide +kernel
theorem dX3_hasUse_24 : decode cX3_hasUse 24 = .ok (.aload_n 2, 1) := by decide +kernel
theorem dX3_hasUse_25 : decode cX3_hasUse 25 = .ok (.aload_n 1, 1) := by decide +kernel
theorem dX3_hasUse_26 : decode cX3_hasUse 26 = .ok (.invokevirtual 134, 3) := by decide +kernel
theorem dX3_hasUse_29 : decode cX3_hasUse 29 = .ok (.ifCond .eq 17, 3) := by decide +kernel
theorem dX3_hasUse_32 : decode cX3_hasUse 32 = .ok (.aload_n 0, 1) := by decide +kernel
theorem dX3_hasUse_33 : decode cX3_hasUse 33 = .ok (.aload_n 1, 1) := by decide +kernel
theorem dX3_hasUse_34 : decode cX3_hasUse 34 = .ok (.aload_n 2, 1) := by decide +kernel
theorem dX3_hasUse_35 : decode cX3_hasUse 35 = .ok (.iload_n 3, 1) := by decide +kernel
theorem dX3_hasUse_36 : decode cX3_hasUse 36 = .ok (.invokevirtual 137, 3) := by decide +kernel
theorem dX3_hasUse_39 : decode cX3_hasUse 39 = .ok (.ifCond .eq 7, 3) := by decide +kernel
theorem dX3_hasUse_42 : decode cX3_hasUse 42 = .ok (.iconst 1, 1) := by decide +kernel
theorem dX3_hasUse_43 : decode cX3_hasUse 43 = .ok (.goto 4, 3) := by decide +kernel
theorem dX3_hasUse_46 : decode cX3_hasUse 46 = .ok (.iconst 0, 1) := by decide +kernel
theorem dX3_hasUse_47 : decode cX3_hasUse 47 = .ok (.ireturn, 1) := by decide +kernel
set_option maxRecDepth 20000 in
theorem ggX3_somebodyWaits_X3_wouldBoard : GoodIn wsX3_somebodyWaits wsX3_wouldBoard := goodIn_r _ [8, 9, 2, 10, 11, 12, 13, 14, 15, 16, 17, 18, 19, 20, 21, 22, 23, 24, 25, 26, 27, 28, 29, 30, 31, 32, 33, 34, 35, 36, 37, 38, 39, 40, 41, 42] (by decide +kernel) (by decide +kernel)
set_option maxRecDepth 20000 in
theorem gX3_somebodyWaits_X3_wouldBoard : GoodIn wsX3_somebodyWaits (wsV RX3 146 RX3 yX3_wouldBoard wsX3_wouldBoard) := goodIn_app (goodIn_of _ (by decide +kernel)) ggX3_somebodyWaits_X3_wouldBoard
theorem dX3_somebodyWaits_0 : decode cX3_somebodyWaits 0 = .ok (.aload_n 1, 1) := by decide +kernel
theorem dX3_somebodyWaits_1 : decode cX3_somebodyWaits 1 = .ok (.getfield 140, 3) := by decide +kernel
theorem dX3_somebodyWaits_4 : decode cX3_somebodyWaits 4 = .ok (.aload_n 2, 1) := by decide +kernel
theorem dX3_somebodyWaits_5 : decode cX3_somebodyWaits 5 = .ok (.getfield 77, 3) := by decide +kernel
theorem dX3_somebodyWaits_8 : decode cX3_somebodyWaits 8 = .ok (.iaload, 1) := by decide +kernel
theorem dX3_somebodyWaits_9 : decode cX3_somebodyWaits 9 = .ok (.istore 4, 2) := by decide +kernel
theorem dX3_somebodyWaits_11 : decode cX3_somebodyWaits 11 = .ok (.iload 4, 2) := by decide +kernel
theorem dX3_somebodyWaits_13 : decode cX3_somebodyWaits 13 = .ok (.aload_n 1, 1) := by decide +kernel
theorem dX3_somebodyWaits_14 : decode cX3_somebodyWaits 14 = .ok (.getfield 140, 3) := by decide +kernel
theorem dX3_somebodyWaits_17 : decode cX3_somebodyWaits 17 = .ok (.aload_n 2, 1) := by decide +kernel
theorem dX3_somebodyWaits_18 : decode cX3_somebodyWaits 18 = .ok (.getfield 77, 3) := by decide +kernel
theorem dX3_somebodyWaits_21 : decode cX3_somebodyWaits 21 = .ok (.iconst 1, 1) := by decide +kernel
theorem dX3_somebodyWaits_22 : decode cX3_somebodyWaits 22 = .ok (.iadd, 1) := by decide +kernel
theorem dX3_somebodyWaits_23 : decode cX3_somebodyWaits 23 = .ok (.iaload, 1) := by decide +kernel
theorem dX3_somebodyWaits_24 : decode cX3_somebodyWaits 24 = .ok (.if_icmp .ge 28, 3) := by decide +kernel
theorem dX3_somebodyWaits_27 : decode cX3_somebodyWaits 27 = .ok (.aload_n 0, 1) := by decide +kernel
theorem dX3_somebodyWaits_28 : decode cX3_somebodyWaits 28 = .ok (.aload_n 1, 1) := by decide +kernel
theorem dX3_somebodyWaits_29 : decode cX3_somebodyWaits 29 = .ok (.aload_n 2, 1) := by decide +kernel
theorem dX3_somebodyWaits_30 : decode cX3_somebodyWaits 30 = .ok (.aload_n 1, 1) := by decide +kernel
theorem dX3_somebodyWaits_31 : decode cX3_somebodyWaits 31 = .ok (.getfield 143, 3) := by decide +kernel
theorem dX3_somebodyWaits_34 : decode cX3_somebodyWaits 34 = .ok (.iload 4, 2) := by decide +kernel
theorem dX3_somebodyWaits_36 : decode cX3_somebodyWaits 36 = .ok (.iaload, 1) := by decide +kernel
theorem dX3_somebodyWaits_37 : decode cX3_somebodyWaits 37 = .ok (.iload_n 3, 1) := by decide +kernel
theorem dX3_somebodyWaits_38 : decode cX3_somebodyWaits 38 = .ok (.invokevirtual 146, 3) := by decide +kernel
theorem dX3_somebodyWaits_41 : decode cX3_somebodyWaits 41 = .ok (.ifCond .eq 5, 3) := by decide +kernel
theorem dX3_somebodyWaits_44 : decode cX3_somebodyWaits 44 = .ok (.iconst 1, 1) := by decide +kernel
theorem dX3_somebodyWaits_45 : decode cX3_somebodyWaits 45 = .ok (.ireturn, 1) := by decide +kernel
theorem dX3_somebodyWaits_46 : decode cX3_somebodyWaits 46 = .ok (.iinc 4 1, 3) := by decide +kernel
theorem dX3_somebodyWaits_49 : decode cX3_somebodyWaits 49 = .ok (.goto (-38), 3) := by decide +kernel
theorem dX3_somebodyWaits_52 : decode cX3_somebodyWaits 52 = .ok (.iconst 0, 1) := by decide +kernel
theorem dX3_somebodyWaits_53 : decode cX3_somebodyWaits 53 = .ok (.ireturn, 1) := by decide +kernel
theorem dX3_wouldBoard_0 : decode cX3_wouldBoard 0 = .ok (.aload_n 1, 1) := by decide +kernel
theorem dX3_wouldBoard_1 : decode cX3_wouldBoard 1 = .ok (.getfield 150, 3) := by decide +kernel
theorem dX3_wouldBoard_4 : decode cX3_wouldBoard 4 = .ok (.iload_n 3, 1) := by decide +kernel
theorem dX3_wouldBoard_5 : decode cX3_wouldBoard 5 = .ok (.iaload, 1) := by decide +kernel
theorem dX3_wouldBoard_6 : decode cX3_wouldBoard 6 = .ok (.aload_n 2, 1) := by decide +kernel
theorem dX3_wouldBoard_7 : decode cX3_wouldBoard 7 = .ok (.getfield 77, 3) := by decide +kernel
theorem dX3_wouldBoard_10 : decode cX3_wouldBoard 10 = .ok (.isub, 1) := by decide +kernel
theorem dX3_wouldBoard_11 : decode cX3_wouldBoard 11 = .ok (.aload_n 2, 1) := by decide +kernel
theorem dX3_wouldBoard_12 : decode cX3_wouldBoard 12 = .ok (.getfield 153, 3) := by decide +kernel
theorem dX3_wouldBoard_15 : decode cX3_wouldBoard 15 = .ok (.imul, 1) := by decide +kernel
theorem dX3_wouldBoard_16 : decode cX3_wouldBoard 16 = .ok (.ifCond .le 7, 3) := by decide +kernel
theorem dX3_wouldBoard_19 : decode cX3_wouldBoard 19 = .ok (.iconst 1, 1) := by decide +kernel
theorem dX3_wouldBoard_20 : decode cX3_wouldBoard 20 = .ok (.goto 4, 3) := by decide +kernel
theorem dX3_wouldBoard_23 : decode cX3_wouldBoard 23 = .ok (.iconst 0, 1) := by decide +kernel
theorem dX3_wouldBoard_24 : decode cX3_wouldBoard 24 = .ok (.istore 5, 2) := by decide +kernel
theorem dX3_wouldBoard_26 : decode cX3_wouldBoard 26 = .ok (.iload 5, 2) := by decide +kernel
theorem dX3_wouldBoard_28 : decode cX3_wouldBoard 28 = .ok (.ifCond .eq 27, 3) := by decide +kernel
theorem dX3_wouldBoard_31 : decode cX3_wouldBoard 31 = .ok (.aload_n 0, 1) := by decide +kernel
theorem dX3_wouldBoard_32 : decode cX3_wouldBoard 32 = .ok (.getfield 23, 3) := by decide +kernel
theorem dX3_wouldBoard_35 : decode cX3_wouldBoard 35 = .ok (.iload_n 3, 1) := by decide +kernel
theorem dX3_wouldBoard_36 : decode cX3_wouldBoard 36 = .ok (.iaload, 1) := by decide +kernel
theorem dX3_wouldBoard_37 : decode cX3_wouldBoard 37 = .ok (.ifCond .ne 18, 3) := by decide +kernel
theorem dX3_wouldBoard_40 : decode cX3_wouldBoard 40 = .ok (.aload_n 1, 1) := by decide +kernel
theorem dX3_wouldBoard_41 : decode cX3_wouldBoard 41 = .ok (.getfield 105, 3) := by decide +kernel
theorem dX3_wouldBoard_44 : decode cX3_wouldBoard 44 = .ok (.iload_n 3, 1) := by decide +kernel
theorem dX3_wouldBoard_45 : decode cX3_wouldBoard 45 = .ok (.iaload, 1) := by decide +kernel
theorem dX3_wouldBoard_46 : decode cX3_wouldBoard 46 = .ok (.iload 4, 2) := by decide +kernel
theorem dX3_wouldBoard_48 : decode cX3_wouldBoard 48 = .ok (.if_icmp .gt 7, 3) := by decide +kernel
theorem dX3_wouldBoard_51 : decode cX3_wouldBoard 51 = .ok (.iconst 1, 1) := by decide +kernel
theorem dX3_wouldBoard_52 : decode cX3_wouldBoard 52 = .ok (.goto 4, 3) := by decide +kernel
theorem dX3_wouldBoard_55 : decode cX3_wouldBoard 55 = .ok (.iconst 0, 1) := by decide +kernel
theorem dX3_wouldBoard_56 : decode cX3_wouldBoard 56 = .ok (.ireturn, 1) := by decide +kernel
set_option maxRecDepth 20000 in
theorem ggX3_serveBoth_X3_serve : GoodIn wsX3_serveBoth wsX3_serve := goodIn_r _ [7, 8, 9, 10, 11, 12, 6, 13, 14, 15, 16, 17, 18, 19, 20, 21, 22, 23, 24, 25, 26, 27, 28, 29, 30, 31, 32, 33, 34, 35, 36, 37, 38, 39, 40, 41, 42, 58, 59, 60, 61, 62, 63, 64, 65, 66, 67, 68, 69, 70, 71, 72, 43, 44, 45, 46, 47, 48, 49, 50, 51, 52, 53, 54, 55, 56, 57] (by decide +kernel) (by decide +kernel)
set_option maxRecDepth 20000 in
theorem gX3_serveBoth_X3_serve : GoodIn wsX3_serveBoth (wsV RX3 156 RX3 yX3_serve wsX3_serve) := goodIn_app (goodIn_of _ (by decide +kernel)) ggX3_serveBoth_X3_serve
theorem dX3_serveBoth_0 : decode cX3_serveBoth 0 = .ok (.aload_n 0, 1) := by decide +kernel
theorem dX3_serveBoth_1 : decode cX3_serveBoth 1 = .ok (.aload_n 1, 1) := by decide +kernel
theorem dX3_serveBoth_2 : decode cX3_serveBoth 2 = .ok (.aload_n 0, 1) := by decide +kernel
theorem dX3_serveBoth_3 : decode cX3_serveBoth 3 = .ok (.getfield 14, 3) := by decide +kernel
theorem dX3_serveBoth_6 : decode cX3_serveBoth 6 = .ok (.iload_n 2, 1) := by decide +kernel
theorem dX3_serveBoth_7 : decode cX3_serveBoth 7 = .ok (.invokevirtual 156, 3) := by decide +kernel
theorem dX3_serveBoth_10 : decode cX3_serveBoth 10 = .ok (.aload_n 0, 1) := by decide +kernel
theorem dX3_serveBoth_11 : decode cX3_serveBoth 11 = .ok (.aload_n 1, 1) := by decide +kernel
theorem dX3_serveBoth_12 : decode cX3_serveBoth 12 = .ok (.aload_n 0, 1) := by decide +kernel
theorem dX3_serveBoth_13 : decode cX3_serveBoth 13 = .ok (.getfield 20, 3) := by decide +kernel
theorem dX3_serveBoth_16 : decode cX3_serveBoth 16 = .ok (.iload_n 2, 1) := by decide +kernel
theorem dX3_serveBoth_17 : decode cX3_serveBoth 17 = .ok (.invokevirtual 156, 3) := by decide +kernel
theorem dX3_serveBoth_20 : decode cX3_serveBoth 20 = .ok (.return_, 1) := by decide +kernel
set_option maxRecDepth 20000 in
theorem ggX3_serve_X3_letOff : GoodIn wsX3_serve wsX3_letOff := goodIn_r _ [7, 8, 9, 10, 2, 11, 12, 47, 48, 49, 50, 51, 37, 38, 39, 40, 41, 42, 43, 44, 45, 46, 52, 53, 54, 55, 56, 57, 58, 59, 60, 61, 62, 63, 64, 65, 66] (by decide +kernel) (by decide +kernel)
set_option maxRecDepth 20000 in
theorem gX3_serve_X3_letOff : GoodIn wsX3_serve (wsV RX3 160 RX3 yX3_letOff wsX3_letOff) := goodIn_app (goodIn_of _ (by decide +kernel)) ggX3_serve_X3_letOff
set_option maxRecDepth 20000 in
theorem ggX3_serve_X3_letOn : GoodIn wsX3_serve wsX3_letOn := goodIn_r _ [16, 17, 2, 18, 11, 19, 20, 21, 22, 23, 9, 8, 24, 25, 26, 27, 28, 29, 30, 31, 32, 33, 34, 6, 35, 10, 36, 37, 38, 39, 40, 41, 42, 43, 44, 45, 46, 47, 48, 49, 50, 51, 52, 53, 54, 55, 56, 57, 58, 59, 60, 61, 62, 63, 64, 65, 66] (by decide +kernel) (by decide +kernel)
set_option maxRecDepth 20000 in
theorem gX3_serve_X3_letOn : GoodIn wsX3_serve (wsV RX3 163 RX3 yX3_letOn wsX3_letOn) := goodIn_app (goodIn_of _ (by decide +kernel)) ggX3_serve_X3_letOn
theorem dX3_serve_0 : decode cX3_serve 0 = .ok (.aload_n 1, 1) := by decide +kernel
theorem dX3_serve_1 : decode cX3_serve 1 = .ok (.getfield 126, 3) := by decide +kernel
theorem dX3_serve_4 : decode cX3_serve 4 = .ok (.aload_n 2, 1) := by decide +kernel
theorem dX3_serve_5 : decode cX3_serve 5 = .ok (.getfield 77, 3) := by decide +kernel
theorem dX3_serve_8 : decode cX3_serve 8 = .ok (.baload, 1) := by decide +kernel
theorem dX3_serve_9 : decode cX3_serve 9 = .ok (.ifCond .eq 17, 3) := by decide +kernel
theorem dX3_serve_12 : decode cX3_serve 12 = .ok (.aload_n 0, 1) := by decide +kernel
theorem dX3_serve_13 : decode cX3_serve 13 = .ok (.aload_n 1, 1) := by decide +kernel
theorem dX3_serve_14 : decode cX3_serve 14 = .ok (.aload_n 2, 1) := by decide +kernel
theorem dX3_serve_15 : decode cX3_serve 15 = .ok (.iload_n 3, 1) := by decide +kernel
theorem dX3_serve_16 : decode cX3_serve 16 = .ok (.invokevirtual 160, 3) := by decide +kernel
theorem dX3_serve_19 : decode cX3_serve 19 = .ok (.aload_n 0, 1) := by decide +kernel
theorem dX3_serve_20 : decode cX3_serve 20 = .ok (.aload_n 1, 1) := by decide +kernel
theorem dX3_serve_21 : decode cX3_serve 21 = .ok (.aload_n 2, 1) := by decide +kernel
theorem dX3_serve_22 : decode cX3_serve 22 = .ok (.iload_n 3, 1) := by decide +kernel
theorem dX3_serve_23 : decode cX3_serve 23 = .ok (.invokevirtual 163, 3) := by decide +kernel
theorem dX3_serve_26 : decode cX3_serve 26 = .ok (.return_, 1) := by decide +kernel
theorem dX3_letOff_0 : decode cX3_letOff 0 = .ok (.iconst 0, 1) := by decide +kernel
theorem dX3_letOff_1 : decode cX3_letOff 1 = .ok (.istore 4, 2) := by decide +kernel
theorem dX3_letOff_3 : decode cX3_letOff 3 = .ok (.iconst 0, 1) := by decide +kernel
theorem dX3_letOff_4 : decode cX3_letOff 4 = .ok (.istore 5, 2) := by decide +kernel
theorem dX3_letOff_6 : decode cX3_letOff 6 = .ok (.iload 5, 2) := by decide +kernel
theorem dX3_letOff_8 : decode cX3_letOff 8 = .ok (.aload_n 2, 1) := by decide +kernel
theorem dX3_letOff_9 : decode cX3_letOff 9 = .ok (.getfield 70, 3) := by decide +kernel
theorem dX3_letOff_12 : decode cX3_letOff 12 = .ok (.if_icmp .ge 63, 3) := by decide +kernel
theorem dX3_letOff_15 : decode cX3_letOff 15 = .ok (.aload_n 2, 1) := by decide +kernel
theorem dX3_letOff_16 : decode cX3_letOff 16 = .ok (.getfield 166, 3) := by decide +kernel
theorem dX3_letOff_19 : decode cX3_letOff 19 = .ok (.iload 5, 2) := by decide +kernel
theorem dX3_letOff_21 : decode cX3_letOff 21 = .ok (.iaload, 1) := by decide +kernel
theorem dX3_letOff_22 : decode cX3_letOff 22 = .ok (.istore 6, 2) := by decide +kernel
theorem dX3_letOff_24 : decode cX3_letOff 24 = .ok (.aload_n 1, 1) := by decide +kernel
theorem dX3_letOff_25 : decode cX3_letOff 25 = .ok (.getfield 150, 3) := by decide +kernel
theorem dX3_letOff_28 : decode cX3_letOff 28 = .ok (.iload 6, 2) := by decide +kernel
theorem dX3_letOff_30 : decode cX3_letOff 30 = .ok (.iaload, 1) := by decide +kernel
theorem dX3_letOff_31 : decode cX3_letOff 31 = .ok (.aload_n 2, 1) := by decide +kernel
theorem dX3_letOff_32 : decode cX3_letOff 32 = .ok (.getfield 77, 3) := by decide +kernel
theorem dX3_letOff_35 : decode cX3_letOff 35 = .ok (.if_icmp .ne 22, 3) := by decide +kernel
theorem dX3_letOff_38 : decode cX3_letOff 38 = .ok (.aload_n 0, 1) := by decide +kernel
theorem dX3_letOff_39 : decode cX3_letOff 39 = .ok (.getfield 23, 3) := by decide +kernel
theorem dX3_letOff_42 : decode cX3_letOff 42 = .ok (.iload 6, 2) := by decide +kernel
theorem dX3_letOff_44 : decode cX3_letOff 44 = .ok (.iconst 3, 1) := by decide +kernel
theorem dX3_letOff_45 : decode cX3_letOff 45 = .ok (.iastore, 1) := by decide +kernel
theorem dX3_letOff_46 : decode cX3_letOff 46 = .ok (.aload_n 0, 1) := by decide +kernel
theorem dX3_letOff_47 : decode cX3_letOff 47 = .ok (.getfield 30, 3) := by decide +kernel
theorem dX3_letOff_50 : decode cX3_letOff 50 = .ok (.iload 6, 2) := by decide +kernel
theorem dX3_letOff_52 : decode cX3_letOff 52 = .ok (.iload_n 3, 1) := by decide +kernel
theorem dX3_letOff_53 : decode cX3_letOff 53 = .ok (.iastore, 1) := by decide +kernel
theorem dX3_letOff_54 : decode cX3_letOff 54 = .ok (.goto 15, 3) := by decide +kernel
theorem dX3_letOff_57 : decode cX3_letOff 57 = .ok (.aload_n 2, 1) := by decide +kernel
theorem dX3_letOff_58 : decode cX3_letOff 58 = .ok (.getfield 166, 3) := by decide +kernel
theorem dX3_letOff_61 : decode cX3_letOff 61 = .ok (.iload 4, 2) := by decide +kernel
theorem dX3_letOff_63 : decode cX3_letOff 63 = .ok (.iload 6, 2) := by decide +kernel
theorem dX3_letOff_65 : decode cX3_letOff 65 = .ok (.iastore, 1) := by decide +kernel
theorem dX3_letOff_66 : decode cX3_letOff 66 = .ok (.iinc 4 1, 3) := by decide +kernel
theorem dX3_letOff_69 : decode cX3_letOff 69 = .ok (.iinc 5 1, 3) := by decide +kernel
theorem dX3_letOff_72 : decode cX3_letOff 72 = .ok (.goto (-66), 3) := by decide +kernel
theorem dX3_letOff_75 : decode cX3_letOff 75 = .ok (.aload_n 2, 1) := by decide +kernel
theorem dX3_letOff_76 : decode cX3_letOff 76 = .ok (.iload 4, 2) := by decide +kernel
theorem dX3_letOff_78 : decode cX3_letOff 78 = .ok (.putfield 70, 3) := by decide +kernel
theorem dX3_letOff_81 : decode cX3_letOff 81 = .ok (.return_, 1) := by decide +kernel
set_option maxRecDepth 20000 in
theorem ggX3_letOn_X0_hasRoom : GoodIn wsX3_letOn wsX0_hasRoom := goodIn_r _ [16, 17, 18, 19, 37, 38, 39, 40, 41, 27, 28, 29, 30, 31, 32, 33, 34, 35, 36] (by decide +kernel) (by decide +kernel)
set_option maxRecDepth 20000 in
theorem gX3_letOn_X0_hasRoom : GoodIn wsX3_letOn (wsV RX3 134 RX0 yX0_hasRoom wsX0_hasRoom) := goodIn_app (goodIn_of _ (by decide +kernel)) ggX3_letOn_X0_hasRoom
set_option maxRecDepth 20000 in
theorem ggX3_letOn_X3_wouldBoard : GoodIn wsX3_letOn wsX3_wouldBoard := goodIn_r _ [24, 25, 2, 26, 4, 8, 27, 28, 29, 30, 31, 32, 33, 34, 35, 36, 37, 38, 39, 40, 41, 42, 43, 44, 45, 46, 47, 48, 49, 50, 51, 52, 53, 54, 55, 56] (by decide +kernel) (by decide +kernel)
set_option maxRecDepth 20000 in
theorem gX3_letOn_X3_wouldBoard : GoodIn wsX3_letOn (wsV RX3 146 RX3 yX3_wouldBoard wsX3_wouldBoard) := goodIn_app (goodIn_of _ (by decide +kernel)) ggX3_letOn_X3_wouldBoard
theorem dX3_letOn_0 : decode cX3_letOn 0 = .ok (.aload_n 1, 1) := by decide +kernel
theorem dX3_letOn_1 : decode cX3_letOn 1 = .ok (.getfield 140, 3) := by decide +kernel
theorem dX3_letOn_4 : decode cX3_letOn 4 = .ok (.aload_n 2, 1) := by decide +kernel
theorem dX3_letOn_5 : decode cX3_letOn 5 = .ok (.getfield 77, 3) := by decide +kernel
theorem dX3_letOn_8 : decode cX3_letOn 8 = .ok (.iconst 1, 1) := by decide +kernel
theorem dX3_letOn_9 : decode cX3_letOn 9 = .ok (.iadd, 1) := by decide +kernel
theorem dX3_letOn_10 : decode cX3_letOn 10 = .ok (.iaload, 1) := by decide +kernel
theorem dX3_letOn_11 : decode cX3_letOn 11 = .ok (.istore 4, 2) := by decide +kernel
theorem dX3_letOn_13 : decode cX3_letOn 13 = .ok (.aload_n 1, 1) := by decide +kernel
theorem dX3_letOn_14 : decode cX3_letOn 14 = .ok (.getfield 140, 3) := by decide +kernel
theorem dX3_letOn_17 : decode cX3_letOn 17 = .ok (.aload_n 2, 1) := by decide +kernel
theorem dX3_letOn_18 : decode cX3_letOn 18 = .ok (.getfield 77, 3) := by decide +kernel
theorem dX3_letOn_21 : decode cX3_letOn 21 = .ok (.iaload, 1) := by decide +kernel
theorem dX3_letOn_22 : decode cX3_letOn 22 = .ok (.istore 5, 2) := by decide +kernel
theorem dX3_letOn_24 : decode cX3_letOn 24 = .ok (.iload 5, 2) := by decide +kernel
theorem dX3_letOn_26 : decode cX3_letOn 26 = .ok (.iload 4, 2) := by decide +kernel
theorem dX3_letOn_28 : decode cX3_letOn 28 = .ok (.if_icmp .ge 106, 3) := by decide +kernel
theorem dX3_letOn_31 : decode cX3_letOn 31 = .ok (.aload_n 2, 1) := by decide +kernel
theorem dX3_letOn_32 : decode cX3_letOn 32 = .ok (.aload_n 1, 1) := by decide +kernel
theorem dX3_letOn_33 : decode cX3_letOn 33 = .ok (.invokevirtual 134, 3) := by decide +kernel
theorem dX3_letOn_36 : decode cX3_letOn 36 = .ok (.ifCond .eq 98, 3) := by decide +kernel
theorem dX3_letOn_39 : decode cX3_letOn 39 = .ok (.aload_n 1, 1) := by decide +kernel
theorem dX3_letOn_40 : decode cX3_letOn 40 = .ok (.getfield 143, 3) := by decide +kernel
theorem dX3_letOn_43 : decode cX3_letOn 43 = .ok (.iload 5, 2) := by decide +kernel
theorem dX3_letOn_45 : decode cX3_letOn 45 = .ok (.iaload, 1) := by decide +kernel
theorem dX3_letOn_46 : decode cX3_letOn 46 = .ok (.istore 6, 2) := by decide +kernel
theorem dX3_letOn_48 : decode cX3_letOn 48 = .ok (.aload_n 0, 1) := by decide +kernel
theorem dX3_letOn_49 : decode cX3_letOn 49 = .ok (.aload_n 1, 1) := by decide +kernel
theorem dX3_letOn_50 : decode cX3_letOn 50 = .ok (.aload_n 2, 1) := by decide +kernel
theorem dX3_letOn_51 : decode cX3_letOn 51 = .ok (.iload 6, 2) := by decide +kernel
theorem dX3_letOn_53 : decode cX3_letOn 53 = .ok (.iload_n 3, 1) := by decide +kernel
theorem dX3_letOn_54 : decode cX3_letOn 54 = .ok (.invokevirtual 146, 3) := by decide +kernel
theorem dX3_letOn_57 : decode cX3_letOn 57 = .ok (.ifCond .eq 71, 3) := by decide +kernel
theorem dX3_letOn_60 : decode cX3_letOn 60 = .ok (.aload_n 0, 1) := by decide +kernel
theorem dX3_letOn_61 : decode cX3_letOn 61 = .ok (.getfield 23, 3) := by decide +kernel
theorem dX3_letOn_64 : decode cX3_letOn 64 = .ok (.iload 6, 2) := by decide +kernel
theorem dX3_letOn_66 : decode cX3_letOn 66 = .ok (.aload_n 2, 1) := by decide +kernel
theorem dX3_letOn_67 : decode cX3_letOn 67 = .ok (.getfield 169, 3) := by decide +kernel
theorem dX3_letOn_70 : decode cX3_letOn 70 = .ok (.iastore, 1) := by decide +kernel
theorem dX3_letOn_71 : decode cX3_letOn 71 = .ok (.aload_n 0, 1) := by decide +kernel
theorem dX3_letOn_72 : decode cX3_letOn 72 = .ok (.getfield 27, 3) := by decide +kernel
theorem dX3_letOn_75 : decode cX3_letOn 75 = .ok (.iload 6, 2) := by decide +kernel
theorem dX3_letOn_77 : decode cX3_letOn 77 = .ok (.iload_n 3, 1) := by decide +kernel
theorem dX3_letOn_78 : decode cX3_letOn 78 = .ok (.iastore, 1) := by decide +kernel
theorem dX3_letOn_79 : decode cX3_letOn 79 = .ok (.aload_n 0, 1) := by decide +kernel
theorem dX3_letOn_80 : decode cX3_letOn 80 = .ok (.dup, 1) := by decide +kernel
theorem dX3_letOn_81 : decode cX3_letOn 81 = .ok (.getfield 40, 3) := by decide +kernel
theorem dX3_letOn_84 : decode cX3_letOn 84 = .ok (.iload_n 3, 1) := by decide +kernel
theorem dX3_letOn_85 : decode cX3_letOn 85 = .ok (.aload_n 1, 1) := by decide +kernel
theorem dX3_letOn_86 : decode cX3_letOn 86 = .ok (.getfield 105, 3) := by decide +kernel
theorem dX3_letOn_89 : decode cX3_letOn 89 = .ok (.iload 6, 2) := by decide +kernel
theorem dX3_letOn_91 : decode cX3_letOn 91 = .ok (.iaload, 1) := by decide +kernel
theorem dX3_letOn_92 : decode cX3_letOn 92 = .ok (.isub, 1) := by decide +kernel
theorem dX3_letOn_93 : decode cX3_letOn 93 = .ok (.iadd, 1) := by decide +kernel
theorem dX3_letOn_94 : decode cX3_letOn 94 = .ok (.putfield 40, 3) := by decide +kernel
theorem dX3_letOn_97 : decode cX3_letOn 97 = .ok (.aload_n 0, 1) := by decide +kernel
theorem dX3_letOn_98 : decode cX3_letOn 98 = .ok (.dup, 1) := by decide +kernel
theorem dX3_letOn_99 : decode cX3_letOn 99 = .ok (.getfield 58, 3) := by decide +kernel
theorem dX3_letOn_102 : decode cX3_letOn 102 = .ok (.iconst 1, 1) := by decide +kernel
theorem dX3_letOn_103 : decode cX3_letOn 103 = .ok (.iadd, 1) := by decide +kernel
theorem dX3_letOn_104 : decode cX3_letOn 104 = .ok (.putfield 58, 3) := by decide +kernel
theorem dX3_letOn_107 : decode cX3_letOn 107 = .ok (.aload_n 2, 1) := by decide +kernel
theorem dX3_letOn_108 : decode cX3_letOn 108 = .ok (.getfield 166, 3) := by decide +kernel
theorem dX3_letOn_111 : decode cX3_letOn 111 = .ok (.aload_n 2, 1) := by decide +kernel
theorem dX3_letOn_112 : decode cX3_letOn 112 = .ok (.getfield 70, 3) := by decide +kernel
theorem dX3_letOn_115 : decode cX3_letOn 115 = .ok (.iload 6, 2) := by decide +kernel
theorem dX3_letOn_117 : decode cX3_letOn 117 = .ok (.iastore, 1) := by decide +kernel
theorem dX3_letOn_118 : decode cX3_letOn 118 = .ok (.aload_n 2, 1) := by decide +kernel
theorem dX3_letOn_119 : decode cX3_letOn 119 = .ok (.dup, 1) := by decide +kernel
theorem dX3_letOn_120 : decode cX3_letOn 120 = .ok (.getfield 70, 3) := by decide +kernel
theorem dX3_letOn_123 : decode cX3_letOn 123 = .ok (.iconst 1, 1) := by decide +kernel
theorem dX3_letOn_124 : decode cX3_letOn 124 = .ok (.iadd, 1) := by decide +kernel
theorem dX3_letOn_125 : decode cX3_letOn 125 = .ok (.putfield 70, 3) := by decide +kernel
theorem dX3_letOn_128 : decode cX3_letOn 128 = .ok (.iinc 5 1, 3) := by decide +kernel
theorem dX3_letOn_131 : decode cX3_letOn 131 = .ok (.goto (-107), 3) := by decide +kernel
theorem dX3_letOn_134 : decode cX3_letOn 134 = .ok (.return_, 1) := by decide +kernel
