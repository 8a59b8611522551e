set_option maxRecDepth 20000 in
theorem ggX5_init_X5_begin : GoodIn wsX5_init wsX5_begin := goodIn_r _ [28, 4, 6, 8, 16, 17, 29, 30, 31, 32, 27, 33, 34, 35, 36, 37, 38, 39, 40, 41, 13, 14, 15, 42, 43, 44, 45, 46, 47, 48, 49, 50, 51, 52, 53, 54, 55, 56, 57, 58, 59, 60, 61, 62, 63, 64, 65, 66] (by decide +kernel) (by decide +kernel)
set_option maxRecDepth 20000 in
theorem gX5_init_X5_begin : GoodIn wsX5_init (wsV RX5 66 RX5 yX5_begin wsX5_begin) := goodIn_app (goodIn_of _ (by decide +kernel)) ggX5_init_X5_begin
theorem dX5_init_0 : decode cX5_init 0 = .ok (.aload_n 0, 1) := by decide +kernel
theorem dX5_init_1 : decode cX5_init 1 = .ok (.invokespecial 1, 3) := by decide +kernel
theorem dX5_init_4 : decode cX5_init 4 = .ok (.aload_n 0, 1) := by decide +kernel
theorem dX5_init_5 : decode cX5_init 5 = .ok (.iconst 4, 1) := by decide +kernel
theorem dX5_init_6 : decode cX5_init 6 = .ok (.putfield 7, 3) := by decide +kernel
theorem dX5_init_9 : decode cX5_init 9 = .ok (.aload_n 0, 1) := by decide +kernel
theorem dX5_init_10 : decode cX5_init 10 = .ok (.bipush 17, 2) := by decide +kernel
theorem dX5_init_12 : decode cX5_init 12 = .ok (.newarray .int, 2) := by decide +kernel
theorem dX5_init_14 : decode cX5_init 14 = .ok (.putfield 13, 3) := by decide +kernel
theorem dX5_init_17 : decode cX5_init 17 = .ok (.aload_n 0, 1) := by decide +kernel
theorem dX5_init_18 : decode cX5_init 18 = .ok (.bipush 17, 2) := by decide +kernel
theorem dX5_init_20 : decode cX5_init 20 = .ok (.newarray .boolean, 2) := by decide +kernel
theorem dX5_init_22 : decode cX5_init 22 = .ok (.putfield 17, 3) := by decide +kernel
theorem dX5_init_25 : decode cX5_init 25 = .ok (.aload_n 0, 1) := by decide +kernel
theorem dX5_init_26 : decode cX5_init 26 = .ok (.bipush 8, 2) := by decide +kernel
theorem dX5_init_28 : decode cX5_init 28 = .ok (.newarray .int, 2) := by decide +kernel
theorem dX5_init_30 : decode cX5_init 30 = .ok (.dup, 1) := by decide +kernel
theorem dX5_init_31 : decode cX5_init 31 = .ok (.iconst 0, 1) := by decide +kernel
theorem dX5_init_32 : decode cX5_init 32 = .ok (.iconst 1, 1) := by decide +kernel
theorem dX5_init_33 : decode cX5_init 33 = .ok (.iastore, 1) := by decide +kernel
theorem dX5_init_34 : decode cX5_init 34 = .ok (.dup, 1) := by decide +kernel
theorem dX5_init_35 : decode cX5_init 35 = .ok (.iconst 1, 1) := by decide +kernel
theorem dX5_init_36 : decode cX5_init 36 = .ok (.iconst 4, 1) := by decide +kernel
theorem dX5_init_37 : decode cX5_init 37 = .ok (.iastore, 1) := by decide +kernel
theorem dX5_init_38 : decode cX5_init 38 = .ok (.dup, 1) := by decide +kernel
theorem dX5_init_39 : decode cX5_init 39 = .ok (.iconst 2, 1) := by decide +kernel
theorem dX5_init_40 : decode cX5_init 40 = .ok (.bipush 100, 2) := by decide +kernel
theorem dX5_init_42 : decode cX5_init 42 = .ok (.iastore, 1) := by decide +kernel
theorem dX5_init_43 : decode cX5_init 43 = .ok (.dup, 1) := by decide +kernel
theorem dX5_init_44 : decode cX5_init 44 = .ok (.iconst 3, 1) := by decide +kernel
theorem dX5_init_45 : decode cX5_init 45 = .ok (.bipush 8, 2) := by decide +kernel
theorem dX5_init_47 : decode cX5_init 47 = .ok (.iastore, 1) := by decide +kernel
theorem dX5_init_48 : decode cX5_init 48 = .ok (.dup, 1) := by decide +kernel
theorem dX5_init_49 : decode cX5_init 49 = .ok (.iconst 4, 1) := by decide +kernel
theorem dX5_init_50 : decode cX5_init 50 = .ok (.sipush 2000, 3) := by decide +kernel
theorem dX5_init_53 : decode cX5_init 53 = .ok (.iastore, 1) := by decide +kernel
theorem dX5_init_54 : decode cX5_init 54 = .ok (.dup, 1) := by decide +kernel
theorem dX5_init_55 : decode cX5_init 55 = .ok (.iconst 5, 1) := by decide +kernel
theorem dX5_init_56 : decode cX5_init 56 = .ok (.sipush 500, 3) := by decide +kernel
theorem dX5_init_59 : decode cX5_init 59 = .ok (.iastore, 1) := by decide +kernel
theorem dX5_init_60 : decode cX5_init 60 = .ok (.dup, 1) := by decide +kernel
theorem dX5_init_61 : decode cX5_init 61 = .ok (.bipush 6, 2) := by decide +kernel
theorem dX5_init_63 : decode cX5_init 63 = .ok (.iconst 3, 1) := by decide +kernel
theorem dX5_init_64 : decode cX5_init 64 = .ok (.iastore, 1) := by decide +kernel
theorem dX5_init_65 : decode cX5_init 65 = .ok (.dup, 1) := by decide +kernel
theorem dX5_init_66 : decode cX5_init 66 = .ok (.bipush 7, 2) := by decide +kernel
theorem dX5_init_68 : decode cX5_init 68 = .ok (.bipush 6, 2) := by decide +kernel
theorem dX5_init_70 : decode cX5_init 70 = .ok (.iastore, 1) := by decide +kernel
theorem dX5_init_71 : decode cX5_init 71 = .ok (.putfield 21, 3) := by decide +kernel
theorem dX5_init_74 : decode cX5_init 74 = .ok (.aload_n 0, 1) := by decide +kernel
theorem dX5_init_75 : decode cX5_init 75 = .ok (.bipush 60, 2) := by decide +kernel
theorem dX5_init_77 : decode cX5_init 77 = .ok (.newarray .int, 2) := by decide +kernel
theorem dX5_init_79 : decode cX5_init 79 = .ok (.putfield 24, 3) := by decide +kernel
theorem dX5_init_82 : decode cX5_init 82 = .ok (.aload_n 0, 1) := by decide +kernel
theorem dX5_init_83 : decode cX5_init 83 = .ok (.bipush 60, 2) := by decide +kernel
theorem dX5_init_85 : decode cX5_init 85 = .ok (.newarray .int, 2) := by decide +kernel
theorem dX5_init_87 : decode cX5_init 87 = .ok (.putfield 27, 3) := by decide +kernel
theorem dX5_init_90 : decode cX5_init 90 = .ok (.aload_n 0, 1) := by decide +kernel
theorem dX5_init_91 : decode cX5_init 91 = .ok (.bipush 60, 2) := by decide +kernel
theorem dX5_init_93 : decode cX5_init 93 = .ok (.newarray .int, 2) := by decide +kernel
theorem dX5_init_95 : decode cX5_init 95 = .ok (.putfield 30, 3) := by decide +kernel
theorem dX5_init_98 : decode cX5_init 98 = .ok (.aload_n 0, 1) := by decide +kernel
theorem dX5_init_99 : decode cX5_init 99 = .ok (.bipush 60, 2) := by decide +kernel
theorem dX5_init_101 : decode cX5_init 101 = .ok (.newarray .int, 2) := by decide +kernel
theorem dX5_init_103 : decode cX5_init 103 = .ok (.putfield 33, 3) := by decide +kernel
theorem dX5_init_106 : decode cX5_init 106 = .ok (.aload_n 0, 1) := by decide +kernel
theorem dX5_init_107 : decode cX5_init 107 = .ok (.bipush 60, 2) := by decide +kernel
theorem dX5_init_109 : decode cX5_init 109 = .ok (.newarray .int, 2) := by decide +kernel
theorem dX5_init_111 : decode cX5_init 111 = .ok (.putfield 36, 3) := by decide +kernel
theorem dX5_init_114 : decode cX5_init 114 = .ok (.aload_n 0, 1) := by decide +kernel
theorem dX5_init_115 : decode cX5_init 115 = .ok (.bipush 60, 2) := by decide +kernel
theorem dX5_init_117 : decode cX5_init 117 = .ok (.newarray .int, 2) := by decide +kernel
theorem dX5_init_119 : decode cX5_init 119 = .ok (.putfield 39, 3) := by decide +kernel
theorem dX5_init_122 : decode cX5_init 122 = .ok (.aload_n 0, 1) := by decide +kernel
theorem dX5_init_123 : decode cX5_init 123 = .ok (.bipush 17, 2) := by decide +kernel
theorem dX5_init_125 : decode cX5_init 125 = .ok (.newarray .int, 2) := by decide +kernel
theorem dX5_init_127 : decode cX5_init 127 = .ok (.putfield 42, 3) := by decide +kernel
theorem dX5_init_130 : decode cX5_init 130 = .ok (.aload_n 0, 1) := by decide +kernel
theorem dX5_init_131 : decode cX5_init 131 = .ok (.bipush 17, 2) := by decide +kernel
theorem dX5_init_133 : decode cX5_init 133 = .ok (.newarray .int, 2) := by decide +kernel
theorem dX5_init_135 : decode cX5_init 135 = .ok (.putfield 45, 3) := by decide +kernel
theorem dX5_init_138 : decode cX5_init 138 = .ok (.aload_n 0, 1) := by decide +kernel
theorem dX5_init_139 : decode cX5_init 139 = .ok (.bipush 7, 2) := by decide +kernel
theorem dX5_init_141 : decode cX5_init 141 = .ok (.newarray .int, 2) := by decide +kernel
theorem dX5_init_143 : decode cX5_init 143 = .ok (.putfield 48, 3) := by decide +kernel
theorem dX5_init_146 : decode cX5_init 146 = .ok (.aload_n 0, 1) := by decide +kernel
theorem dX5_init_147 : decode cX5_init 147 = .ok (.bipush 8, 2) := by decide +kernel
theorem dX5_init_149 : decode cX5_init 149 = .ok (.newarray .int, 2) := by decide +kernel
theorem dX5_init_151 : decode cX5_init 151 = .ok (.putfield 51, 3) := by decide +kernel
theorem dX5_init_154 : decode cX5_init 154 = .ok (.aload_n 0, 1) := by decide +kernel
theorem dX5_init_155 : decode cX5_init 155 = .ok (.sipush 180, 3) := by decide +kernel
theorem dX5_init_158 : decode cX5_init 158 = .ok (.newarray .int, 2) := by decide +kernel
theorem dX5_init_160 : decode cX5_init 160 = .ok (.putfield 54, 3) := by decide +kernel
theorem dX5_init_163 : decode cX5_init 163 = .ok (.aload_n 0, 1) := by decide +kernel
theorem dX5_init_164 : decode cX5_init 164 = .ok (.bipush 17, 2) := by decide +kernel
theorem dX5_init_166 : decode cX5_init 166 = .ok (.newarray .int, 2) := by decide +kernel
theorem dX5_init_168 : decode cX5_init 168 = .ok (.putfield 57, 3) := by decide +kernel
theorem dX5_init_171 : decode cX5_init 171 = .ok (.aload_n 0, 1) := by decide +kernel
theorem dX5_init_172 : decode cX5_init 172 = .ok (.bipush 7, 2) := by decide +kernel
theorem dX5_init_174 : decode cX5_init 174 = .ok (.newarray .int, 2) := by decide +kernel
theorem dX5_init_176 : decode cX5_init 176 = .ok (.putfield 60, 3) := by decide +kernel
theorem dX5_init_179 : decode cX5_init 179 = .ok (.aload_n 0, 1) := by decide +kernel
theorem dX5_init_180 : decode cX5_init 180 = .ok (.iconst 4, 1) := by decide +kernel
theorem dX5_init_181 : decode cX5_init 181 = .ok (.newarray .int, 2) := by decide +kernel
theorem dX5_init_183 : decode cX5_init 183 = .ok (.putfield 63, 3) := by decide +kernel
theorem dX5_init_186 : decode cX5_init 186 = .ok (.aload_n 0, 1) := by decide +kernel
theorem dX5_init_187 : decode cX5_init 187 = .ok (.iconst 4, 1) := by decide +kernel
theorem dX5_init_188 : decode cX5_init 188 = .ok (.invokevirtual 66, 3) := by decide +kernel
theorem dX5_init_191 : decode cX5_init 191 = .ok (.return_, 1) := by decide +kernel
theorem dX5_thrown_0 : decode cX5_thrown 0 = .ok (.aload_n 0, 1) := by decide +kernel
theorem dX5_thrown_1 : decode cX5_thrown 1 = .ok (.getfield 70, 3) := by decide +kernel
theorem dX5_thrown_4 : decode cX5_thrown 4 = .ok (.ireturn, 1) := by decide +kernel
theorem dX5_in_0 : decode cX5_in 0 = .ok (.iload_n 0, 1) := by decide +kernel
theorem dX5_in_1 : decode cX5_in 1 = .ok (.iload_n 1, 1) := by decide +kernel
theorem dX5_in_2 : decode cX5_in 2 = .ok (.if_icmp .lt 12, 3) := by decide +kernel
theorem dX5_in_5 : decode cX5_in 5 = .ok (.iload_n 0, 1) := by decide +kernel
theorem dX5_in_6 : decode cX5_in 6 = .ok (.iload_n 2, 1) := by decide +kernel
theorem dX5_in_7 : decode cX5_in 7 = .ok (.if_icmp .gt 7, 3) := by decide +kernel
theorem dX5_in_10 : decode cX5_in 10 = .ok (.iconst 1, 1) := by decide +kernel
theorem dX5_in_11 : decode cX5_in 11 = .ok (.goto 4, 3) := by decide +kernel
theorem dX5_in_14 : decode cX5_in 14 = .ok (.iconst 0, 1) := by decide +kernel
theorem dX5_in_15 : decode cX5_in 15 = .ok (.ireturn, 1) := by decide +kernel
set_option maxRecDepth 20000 in
theorem ggX5_begin_X5_rest : GoodIn wsX5_begin wsX5_rest := goodIn_r _ [11, 12, 13, 14, 15, 6, 4, 16, 17, 18, 10, 19, 20, 21, 22, 23, 24, 25, 26, 27, 28, 29, 30, 31, 32, 33, 34, 35, 36, 37, 38, 39, 40, 41, 42, 43, 44, 45, 46, 47] (by decide +kernel) (by decide +kernel)
set_option maxRecDepth 20000 in
theorem gX5_begin_X5_rest : GoodIn wsX5_begin (wsV RX5 76 RX5 yX5_rest wsX5_rest) := goodIn_app (goodIn_of _ (by decide +kernel)) ggX5_begin_X5_rest
theorem dX5_begin_0 : decode cX5_begin 0 = .ok (.aload_n 0, 1) := by decide +kernel
theorem dX5_begin_1 : decode cX5_begin 1 = .ok (.iload_n 1, 1) := by decide +kernel
theorem dX5_begin_2 : decode cX5_begin 2 = .ok (.putfield 7, 3) := by decide +kernel
theorem dX5_begin_5 : decode cX5_begin 5 = .ok (.iconst 0, 1) := by decide +kernel
theorem dX5_begin_6 : decode cX5_begin 6 = .ok (.istore_n 2, 1) := by decide +kernel
theorem dX5_begin_7 : decode cX5_begin 7 = .ok (.iload_n 2, 1) := by decide +kernel
theorem dX5_begin_8 : decode cX5_begin 8 = .ok (.bipush 17, 2) := by decide +kernel
theorem dX5_begin_10 : decode cX5_begin 10 = .ok (.if_icmp .ge 53, 3) := by decide +kernel
theorem dX5_begin_13 : decode cX5_begin 13 = .ok (.aload_n 0, 1) := by decide +kernel
theorem dX5_begin_14 : decode cX5_begin 14 = .ok (.getfield 13, 3) := by decide +kernel
theorem dX5_begin_17 : decode cX5_begin 17 = .ok (.iload_n 2, 1) := by decide +kernel
theorem dX5_begin_18 : decode cX5_begin 18 = .ok (.bipush 10, 2) := by decide +kernel
theorem dX5_begin_20 : decode cX5_begin 20 = .ok (.iload_n 2, 1) := by decide +kernel
theorem dX5_begin_21 : decode cX5_begin 21 = .ok (.imul, 1) := by decide +kernel
theorem dX5_begin_22 : decode cX5_begin 22 = .ok (.iastore, 1) := by decide +kernel
theorem dX5_begin_23 : decode cX5_begin 23 = .ok (.aload_n 0, 1) := by decide +kernel
theorem dX5_begin_24 : decode cX5_begin 24 = .ok (.getfield 17, 3) := by decide +kernel
theorem dX5_begin_27 : decode cX5_begin 27 = .ok (.iload_n 2, 1) := by decide +kernel
theorem dX5_begin_28 : decode cX5_begin 28 = .ok (.iload_n 2, 1) := by decide +kernel
theorem dX5_begin_29 : decode cX5_begin 29 = .ok (.ifCond .eq 8, 3) := by decide +kernel
theorem dX5_begin_32 : decode cX5_begin 32 = .ok (.iload_n 2, 1) := by decide +kernel
theorem dX5_begin_33 : decode cX5_begin 33 = .ok (.iload_n 1, 1) := by decide +kernel
theorem dX5_begin_34 : decode cX5_begin 34 = .ok (.if_icmp .ne 7, 3) := by decide +kernel
theorem dX5_begin_37 : decode cX5_begin 37 = .ok (.iconst 1, 1) := by decide +kernel
theorem dX5_begin_38 : decode cX5_begin 38 = .ok (.goto 4, 3) := by decide +kernel
theorem dX5_begin_41 : decode cX5_begin 41 = .ok (.iconst 0, 1) := by decide +kernel
theorem dX5_begin_42 : decode cX5_begin 42 = .ok (.bastore, 1) := by decide +kernel
theorem dX5_begin_43 : decode cX5_begin 43 = .ok (.aload_n 0, 1) := by decide +kernel
theorem dX5_begin_44 : decode cX5_begin 44 = .ok (.getfield 42, 3) := by decide +kernel
theorem dX5_begin_47 : decode cX5_begin 47 = .ok (.iload_n 2, 1) := by decide +kernel
theorem dX5_begin_48 : decode cX5_begin 48 = .ok (.iconst 0, 1) := by decide +kernel
theorem dX5_begin_49 : decode cX5_begin 49 = .ok (.iastore, 1) := by decide +kernel
theorem dX5_begin_50 : decode cX5_begin 50 = .ok (.aload_n 0, 1) := by decide +kernel
theorem dX5_begin_51 : decode cX5_begin 51 = .ok (.getfield 45, 3) := by decide +kernel
theorem dX5_begin_54 : decode cX5_begin 54 = .ok (.iload_n 2, 1) := by decide +kernel
theorem dX5_begin_55 : decode cX5_begin 55 = .ok (.iconst 0, 1) := by decide +kernel
theorem dX5_begin_56 : decode cX5_begin 56 = .ok (.iastore, 1) := by decide +kernel
theorem dX5_begin_57 : decode cX5_begin 57 = .ok (.iinc 2 1, 3) := by decide +kernel
theorem dX5_begin_60 : decode cX5_begin 60 = .ok (.goto (-53), 3) := by decide +kernel
theorem dX5_begin_63 : decode cX5_begin 63 = .ok (.aload_n 0, 1) := by decide +kernel
theorem dX5_begin_64 : decode cX5_begin 64 = .ok (.iconst 0, 1) := by decide +kernel
theorem dX5_begin_65 : decode cX5_begin 65 = .ok (.putfield 73, 3) := by decide +kernel
theorem dX5_begin_68 : decode cX5_begin 68 = .ok (.aload_n 0, 1) := by decide +kernel
theorem dX5_begin_69 : decode cX5_begin 69 = .ok (.invokevirtual 76, 3) := by decide +kernel
theorem dX5_begin_72 : decode cX5_begin 72 = .ok (.return_, 1) := by decide +kernel
set_option maxRecDepth 20000 in
theorem ggX5_rest_X5_wait : GoodIn wsX5_rest wsX5_wait := goodIn_r _ [11, 12, 13, 14, 15, 16, 17, 18, 19, 20, 21, 22, 23, 24, 25, 26, 27, 28, 29, 30, 31, 32, 33, 34, 35, 36, 37, 38, 39] (by decide +kernel) (by decide +kernel)
set_option maxRecDepth 20000 in
theorem gX5_rest_X5_wait : GoodIn wsX5_rest (wsV RX5 92 RX5 yX5_wait wsX5_wait) := goodIn_app (goodIn_of _ (by decide +kernel)) ggX5_rest_X5_wait
theorem dX5_rest_0 : decode cX5_rest 0 = .ok (.aload_n 0, 1) := by decide +kernel
theorem dX5_rest_1 : decode cX5_rest 1 = .ok (.iconst 0, 1) := by decide +kernel
theorem dX5_rest_2 : decode cX5_rest 2 = .ok (.putfield 79, 3) := by decide +kernel
theorem dX5_rest_5 : decode cX5_rest 5 = .ok (.aload_n 0, 1) := by decide +kernel
theorem dX5_rest_6 : decode cX5_rest 6 = .ok (.iconst 0, 1) := by decide +kernel
theorem dX5_rest_7 : decode cX5_rest 7 = .ok (.putfield 82, 3) := by decide +kernel
theorem dX5_rest_10 : decode cX5_rest 10 = .ok (.aload_n 0, 1) := by decide +kernel
theorem dX5_rest_11 : decode cX5_rest 11 = .ok (.iconst 0, 1) := by decide +kernel
theorem dX5_rest_12 : decode cX5_rest 12 = .ok (.putfield 85, 3) := by decide +kernel
theorem dX5_rest_15 : decode cX5_rest 15 = .ok (.aload_n 0, 1) := by decide +kernel
theorem dX5_rest_16 : decode cX5_rest 16 = .ok (.iconst 0, 1) := by decide +kernel
theorem dX5_rest_17 : decode cX5_rest 17 = .ok (.putfield 88, 3) := by decide +kernel
theorem dX5_rest_20 : decode cX5_rest 20 = .ok (.iconst 0, 1) := by decide +kernel
theorem dX5_rest_21 : decode cX5_rest 21 = .ok (.istore_n 1, 1) := by decide +kernel
theorem dX5_rest_22 : decode cX5_rest 22 = .ok (.iload_n 1, 1) := by decide +kernel
theorem dX5_rest_23 : decode cX5_rest 23 = .ok (.aload_n 0, 1) := by decide +kernel
theorem dX5_rest_24 : decode cX5_rest 24 = .ok (.getfield 73, 3) := by decide +kernel
theorem dX5_rest_27 : decode cX5_rest 27 = .ok (.if_icmp .ge 14, 3) := by decide +kernel
theorem dX5_rest_30 : decode cX5_rest 30 = .ok (.aload_n 0, 1) := by decide +kernel
theorem dX5_rest_31 : decode cX5_rest 31 = .ok (.iload_n 1, 1) := by decide +kernel
theorem dX5_rest_32 : decode cX5_rest 32 = .ok (.invokevirtual 92, 3) := by decide +kernel
theorem dX5_rest_35 : decode cX5_rest 35 = .ok (.iinc 1 1, 3) := by decide +kernel
theorem dX5_rest_38 : decode cX5_rest 38 = .ok (.goto (-16), 3) := by decide +kernel
theorem dX5_rest_41 : decode cX5_rest 41 = .ok (.iconst 0, 1) := by decide +kernel
theorem dX5_rest_42 : decode cX5_rest 42 = .ok (.istore_n 1, 1) := by decide +kernel
theorem dX5_rest_43 : decode cX5_rest 43 = .ok (.iload_n 1, 1) := by decide +kernel
theorem dX5_rest_44 : decode cX5_rest 44 = .ok (.bipush 17, 2) := by decide +kernel
theorem dX5_rest_46 : decode cX5_rest 46 = .ok (.if_icmp .ge 16, 3) := by decide +kernel
theorem dX5_rest_49 : decode cX5_rest 49 = .ok (.aload_n 0, 1) := by decide +kernel
theorem dX5_rest_50 : decode cX5_rest 50 = .ok (.getfield 42, 3) := by decide +kernel
theorem dX5_rest_53 : decode cX5_rest 53 = .ok (.iload_n 1, 1) := by decide +kernel
theorem dX5_rest_54 : decode cX5_rest 54 = .ok (.iconst 0, 1) := by decide +kernel
theorem dX5_rest_55 : decode cX5_rest 55 = .ok (.iastore, 1) := by decide +kernel
theorem dX5_rest_56 : decode cX5_rest 56 = .ok (.iinc 1 1, 3) := by decide +kernel
theorem dX5_rest_59 : decode cX5_rest 59 = .ok (.goto (-16), 3) := by decide +kernel
theorem dX5_rest_62 : decode cX5_rest 62 = .ok (.return_, 1) := by decide +kernel
theorem dX5_wait_0 : decode cX5_wait 0 = .ok (.aload_n 0, 1) := by decide +kernel
theorem dX5_wait_1 : decode cX5_wait 1 = .ok (.getfield 33, 3) := by decide +kernel
theorem dX5_wait_4 : decode cX5_wait 4 = .ok (.iload_n 1, 1) := by decide +kernel
theorem dX5_wait_5 : decode cX5_wait 5 = .ok (.iconst 0, 1) := by decide +kernel
theorem dX5_wait_6 : decode cX5_wait 6 = .ok (.iastore, 1) := by decide +kernel
theorem dX5_wait_7 : decode cX5_wait 7 = .ok (.aload_n 0, 1) := by decide +kernel
theorem dX5_wait_8 : decode cX5_wait 8 = .ok (.getfield 36, 3) := by decide +kernel
theorem dX5_wait_11 : decode cX5_wait 11 = .ok (.iload_n 1, 1) := by decide +kernel
theorem dX5_wait_12 : decode cX5_wait 12 = .ok (.iconst (-1), 1) := by decide +kernel
theorem dX5_wait_13 : decode cX5_wait 13 = .ok (.iastore, 1) := by decide +kernel
theorem dX5_wait_14 : decode cX5_wait 14 = .ok (.aload_n 0, 1) := by decide +kernel
theorem dX5_wait_15 : decode cX5_wait 15 = .ok (.getfield 39, 3) := by decide +kernel
theorem dX5_wait_18 : decode cX5_wait 18 = .ok (.iload_n 1, 1) := by decide +kernel
theorem dX5_wait_19 : decode cX5_wait 19 = .ok (.iconst (-1), 1) := by decide +kernel
theorem dX5_wait_20 : decode cX5_wait 20 = .ok (.iastore, 1) := by decide +kernel
theorem dX5_wait_21 : decode cX5_wait 21 = .ok (.return_, 1) := by decide +kernel
set_option maxRecDepth 20000 in
theorem ggX5_line_X5_in : GoodIn wsX5_line wsX5_in := goodIn_r _ [5] (by decide +kernel) (by decide +kernel)
set_option maxRecDepth 20000 in
theorem gX5_line_X5_in : GoodIn wsX5_line (va_wsS RX5 95 yX5_in wsX5_in) := goodIn_app (goodIn_of _ (by decide +kernel)) ggX5_line_X5_in
set_option maxRecDepth 20000 in
theorem ggX5_line_X5_begin : GoodIn wsX5_line wsX5_begin := goodIn_r _ [9, 10, 11, 12, 13, 14, 15, 16, 17, 18, 4, 19, 20, 21, 22, 23, 24, 25, 26, 27, 28, 29, 30, 31, 32, 33, 34, 35, 36, 37, 38, 39, 40, 41, 42, 43, 44, 45, 46, 47, 48, 49, 50, 51, 52, 53, 54, 55] (by decide +kernel) (by decide +kernel)
set_option maxRecDepth 20000 in
theorem gX5_line_X5_begin : GoodIn wsX5_line (wsV RX5 66 RX5 yX5_begin wsX5_begin) := goodIn_app (goodIn_of _ (by decide +kernel)) ggX5_line_X5_begin
theorem dX5_line_0 : decode cX5_line 0 = .ok (.aload_n 0, 1) := by decide +kernel
theorem dX5_line_1 : decode cX5_line 1 = .ok (.iconst 0, 1) := by decide +kernel
theorem dX5_line_2 : decode cX5_line 2 = .ok (.putfield 70, 3) := by decide +kernel
theorem dX5_line_5 : decode cX5_line 5 = .ok (.iload_n 1, 1) := by decide +kernel
theorem dX5_line_6 : decode cX5_line 6 = .ok (.iconst 2, 1) := by decide +kernel
theorem dX5_line_7 : decode cX5_line 7 = .ok (.bipush 16, 2) := by decide +kernel
theorem dX5_line_9 : decode cX5_line 9 = .ok (.invokestatic 95, 3) := by decide +kernel
theorem dX5_line_12 : decode cX5_line 12 = .ok (.ifCond .eq 9, 3) := by decide +kernel
theorem dX5_line_15 : decode cX5_line 15 = .ok (.iload_n 1, 1) := by decide +kernel
theorem dX5_line_16 : decode cX5_line 16 = .ok (.iconst 2, 1) := by decide +kernel
theorem dX5_line_17 : decode cX5_line 17 = .ok (.irem, 1) := by decide +kernel
theorem dX5_line_18 : decode cX5_line 18 = .ok (.ifCond .eq 5, 3) := by decide +kernel
theorem dX5_line_21 : decode cX5_line 21 = .ok (.iconst 0, 1) := by decide +kernel
theorem dX5_line_22 : decode cX5_line 22 = .ok (.ireturn, 1) := by decide +kernel
theorem dX5_line_23 : decode cX5_line 23 = .ok (.aload_n 0, 1) := by decide +kernel
theorem dX5_line_24 : decode cX5_line 24 = .ok (.iload_n 1, 1) := by decide +kernel
theorem dX5_line_25 : decode cX5_line 25 = .ok (.invokevirtual 66, 3) := by decide +kernel
theorem dX5_line_28 : decode cX5_line 28 = .ok (.iconst 1, 1) := by decide +kernel
theorem dX5_line_29 : decode cX5_line 29 = .ok (.ireturn, 1) := by decide +kernel
set_option maxRecDepth 20000 in
theorem ggX5_isPlace_X5_in : GoodIn wsX5_isPlace wsX5_in := goodIn_r _ [5] (by decide +kernel) (by decide +kernel)
set_option maxRecDepth 20000 in
theorem gX5_isPlace_X5_in : GoodIn wsX5_isPlace (va_wsS RX5 95 yX5_in wsX5_in) := goodIn_app (goodIn_of _ (by decide +kernel)) ggX5_isPlace_X5_in
theorem dX5_isPlace_0 : decode cX5_isPlace 0 = .ok (.iload_n 1, 1) := by decide +kernel
theorem dX5_isPlace_1 : decode cX5_isPlace 1 = .ok (.iconst 0, 1) := by decide +kernel
theorem dX5_isPlace_2 : decode cX5_isPlace 2 = .ok (.aload_n 0, 1) := by decide +kernel
theorem dX5_isPlace_3 : decode cX5_isPlace 3 = .ok (.getfield 7, 3) := by decide +kernel
theorem dX5_isPlace_6 : decode cX5_isPlace 6 = .ok (.invokestatic 95, 3) := by decide +kernel
theorem dX5_isPlace_9 : decode cX5_isPlace 9 = .ok (.ireturn, 1) := by decide +kernel
set_option maxRecDepth 20000 in
theorem ggX5_height_X5_isPlace : GoodIn wsX5_height wsX5_isPlace := goodIn_r _ [8, 3, 9, 10, 7, 11, 12, 13, 14, 15, 16, 17, 18, 19, 20, 21, 22, 23, 24, 25, 26, 27, 28, 29, 30, 31, 32, 33, 34, 35, 36] (by decide +kernel) (by decide +kernel)
set_option maxRecDepth 20000 in
theorem gX5_height_X5_isPlace : GoodIn wsX5_height (wsV RX5 99 RX5 yX5_isPlace wsX5_isPlace) := goodIn_app (goodIn_of _ (by decide +kernel)) ggX5_height_X5_isPlace
set_option maxRecDepth 20000 in
theorem ggX5_height_X5_in : GoodIn wsX5_height wsX5_in := goodIn_r _ [11] (by decide +kernel) (by decide +kernel)
set_option maxRecDepth 20000 in
theorem gX5_height_X5_in : GoodIn wsX5_height (va_wsS RX5 95 yX5_in wsX5_in) := goodIn_app (goodIn_of _ (by decide +kernel)) ggX5_height_X5_in
theorem dX5_height_0 : decode cX5_height 0 = .ok (.aload_n 0, 1) := by decide +kernel
theorem dX5_height_1 : decode cX5_height 1 = .ok (.iconst 0, 1) := by decide +kernel
theorem dX5_height_2 : decode cX5_height 2 = .ok (.putfield 70, 3) := by decide +kernel
theorem dX5_height_5 : decode cX5_height 5 = .ok (.aload_n 0, 1) := by decide +kernel
theorem dX5_height_6 : decode cX5_height 6 = .ok (.iload_n 1, 1) := by decide +kernel
theorem dX5_height_7 : decode cX5_height 7 = .ok (.invokevirtual 99, 3) := by decide +kernel
theorem dX5_height_10 : decode cX5_height 10 = .ok (.ifCond .eq 50, 3) := by decide +kernel
theorem dX5_height_13 : decode cX5_height 13 = .ok (.iload_n 2, 1) := by decide +kernel
theorem dX5_height_14 : decode cX5_height 14 = .ok (.iconst 0, 1) := by decide +kernel
theorem dX5_height_15 : decode cX5_height 15 = .ok (.sipush 999, 3) := by decide +kernel
theorem dX5_height_18 : decode cX5_height 18 = .ok (.invokestatic 95, 3) := by decide +kernel
theorem dX5_height_21 : decode cX5_height 21 = .ok (.ifCond .eq 39, 3) := by decide +kernel
theorem dX5_height_24 : decode cX5_height 24 = .ok (.iload_n 1, 1) := by decide +kernel
theorem dX5_height_25 : decode cX5_height 25 = .ok (.ifCond .le 15, 3) := by decide +kernel
theorem dX5_height_28 : decode cX5_height 28 = .ok (.iload_n 2, 1) := by decide +kernel
theorem dX5_height_29 : decode cX5_height 29 = .ok (.aload_n 0, 1) := by decide +kernel
theorem dX5_height_30 : decode cX5_height 30 = .ok (.getfield 13, 3) := by decide +kernel
theorem dX5_height_33 : decode cX5_height 33 = .ok (.iload_n 1, 1) := by decide +kernel
theorem dX5_height_34 : decode cX5_height 34 = .ok (.iconst 1, 1) := by decide +kernel
theorem dX5_height_35 : decode cX5_height 35 = .ok (.isub, 1) := by decide +kernel
theorem dX5_height_36 : decode cX5_height 36 = .ok (.iaload, 1) := by decide +kernel
theorem dX5_height_37 : decode cX5_height 37 = .ok (.if_icmp .lt 23, 3) := by decide +kernel
theorem dX5_height_40 : decode cX5_height 40 = .ok (.iload_n 1, 1) := by decide +kernel
theorem dX5_height_41 : decode cX5_height 41 = .ok (.aload_n 0, 1) := by decide +kernel
theorem dX5_height_42 : decode cX5_height 42 = .ok (.getfield 7, 3) := by decide +kernel
theorem dX5_height_45 : decode cX5_height 45 = .ok (.if_icmp .ge 17, 3) := by decide +kernel
theorem dX5_height_48 : decode cX5_height 48 = .ok (.iload_n 2, 1) := by decide +kernel
theorem dX5_height_49 : decode cX5_height 49 = .ok (.aload_n 0, 1) := by decide +kernel
theorem dX5_height_50 : decode cX5_height 50 = .ok (.getfield 13, 3) := by decide +kernel
theorem dX5_height_53 : decode cX5_height 53 = .ok (.iload_n 1, 1) := by decide +kernel
theorem dX5_height_54 : decode cX5_height 54 = .ok (.iconst 1, 1) := by decide +kernel
theorem dX5_height_55 : decode cX5_height 55 = .ok (.iadd, 1) := by decide +kernel
theorem dX5_height_56 : decode cX5_height 56 = .ok (.iaload, 1) := by decide +kernel
theorem dX5_height_57 : decode cX5_height 57 = .ok (.if_icmp .le 5, 3) := by decide +kernel
theorem dX5_height_60 : decode cX5_height 60 = .ok (.iconst 0, 1) := by decide +kernel
theorem dX5_height_61 : decode cX5_height 61 = .ok (.ireturn, 1) := by decide +kernel
theorem dX5_height_62 : decode cX5_height 62 = .ok (.aload_n 0, 1) := by decide +kernel
theorem dX5_height_63 : decode cX5_height 63 = .ok (.getfield 13, 3) := by decide +kernel
theorem dX5_height_66 : decode cX5_height 66 = .ok (.iload_n 1, 1) := by decide +kernel
theorem dX5_height_67 : decode cX5_height 67 = .ok (.iload_n 2, 1) := by decide +kernel
theorem dX5_height_68 : decode cX5_height 68 = .ok (.iastore, 1) := by decide +kernel
theorem dX5_height_69 : decode cX5_height 69 = .ok (.iconst 1, 1) := by decide +kernel
theorem dX5_height_70 : decode cX5_height 70 = .ok (.ireturn, 1) := by decide +kernel
set_option maxRecDepth 20000 in
theorem ggX5_halt_X5_in : GoodIn wsX5_halt wsX5_in := goodIn_r _ [10] (by decide +kernel) (by decide +kernel)
set_option maxRecDepth 20000 in
theorem gX5_halt_X5_in : GoodIn wsX5_halt (va_wsS RX5 95 yX5_in wsX5_in) := goodIn_app (goodIn_of _ (by decide +kernel)) ggX5_halt_X5_in
theorem dX5_halt_0 : decode cX5_halt 0 = .ok (.aload_n 0, 1) := by decide +kernel
theorem dX5_halt_1 : decode cX5_halt 1 = .ok (.iconst 0, 1) := by decide +kernel
theorem dX5_halt_2 : decode cX5_halt 2 = .ok (.putfield 70, 3) := by decide +kernel
theorem dX5_halt_5 : decode cX5_halt 5 = .ok (.iload_n 1, 1) := by decide +kernel
theorem dX5_halt_6 : decode cX5_halt 6 = .ok (.iconst 1, 1) := by decide +kernel
theorem dX5_halt_7 : decode cX5_halt 7 = .ok (.aload_n 0, 1) := by decide +kernel
theorem dX5_halt_8 : decode cX5_halt 8 = .ok (.getfield 7, 3) := by decide +kernel
theorem dX5_halt_11 : decode cX5_halt 11 = .ok (.iconst 1, 1) := by decide +kernel
theorem dX5_halt_12 : decode cX5_halt 12 = .ok (.isub, 1) := by decide +kernel
theorem dX5_halt_13 : decode cX5_halt 13 = .ok (.invokestatic 95, 3) := by decide +kernel
theorem dX5_halt_16 : decode cX5_halt 16 = .ok (.ifCond .ne 5, 3) := by decide +kernel
theorem dX5_halt_19 : decode cX5_halt 19 = .ok (.iconst 0, 1) := by decide +kernel
theorem dX5_halt_20 : decode cX5_halt 20 = .ok (.ireturn, 1) := by decide +kernel
theorem dX5_halt_21 : decode cX5_halt 21 = .ok (.iconst 0, 1) := by decide +kernel
theorem dX5_halt_22 : decode cX5_halt 22 = .ok (.istore_n 3, 1) := by decide +kernel
theorem dX5_halt_23 : decode cX5_halt 23 = .ok (.iload_n 3, 1) := by decide +kernel
theorem dX5_halt_24 : decode cX5_halt 24 = .ok (.aload_n 0, 1) := by decide +kernel
theorem dX5_halt_25 : decode cX5_halt 25 = .ok (.getfield 73, 3) := by decide +kernel
theorem dX5_halt_28 : decode cX5_halt 28 = .ok (.if_icmp .ge 31, 3) := by decide +kernel
theorem dX5_halt_31 : decode cX5_halt 31 = .ok (.aload_n 0, 1) := by decide +kernel
theorem dX5_halt_32 : decode cX5_halt 32 = .ok (.getfield 24, 3) := by decide +kernel
theorem dX5_halt_35 : decode cX5_halt 35 = .ok (.iload_n 3, 1) := by decide +kernel
theorem dX5_halt_36 : decode cX5_halt 36 = .ok (.iaload, 1) := by decide +kernel
theorem dX5_halt_37 : decode cX5_halt 37 = .ok (.iload_n 1, 1) := by decide +kernel
theorem dX5_halt_38 : decode cX5_halt 38 = .ok (.if_icmp .eq 13, 3) := by decide +kernel
theorem dX5_halt_41 : decode cX5_halt 41 = .ok (.aload_n 0, 1) := by decide +kernel
theorem dX5_halt_42 : decode cX5_halt 42 = .ok (.getfield 27, 3) := by decide +kernel
theorem dX5_halt_45 : decode cX5_halt 45 = .ok (.iload_n 3, 1) := by decide +kernel
theorem dX5_halt_46 : decode cX5_halt 46 = .ok (.iaload, 1) := by decide +kernel
theorem dX5_halt_47 : decode cX5_halt 47 = .ok (.iload_n 1, 1) := by decide +kernel
theorem dX5_halt_48 : decode cX5_halt 48 = .ok (.if_icmp .ne 5, 3) := by decide +kernel
theorem dX5_halt_51 : decode cX5_halt 51 = .ok (.iconst 0, 1) := by decide +kernel
theorem dX5_halt_52 : decode cX5_halt 52 = .ok (.ireturn, 1) := by decide +kernel
theorem dX5_halt_53 : decode cX5_halt 53 = .ok (.iinc 3 1, 3) := by decide +kernel
theorem dX5_halt_56 : decode cX5_halt 56 = .ok (.goto (-33), 3) := by decide +kernel
theorem dX5_halt_59 : decode cX5_halt 59 = .ok (.aload_n 0, 1) := by decide +kernel
theorem dX5_halt_60 : decode cX5_halt 60 = .ok (.getfield 17, 3) := by decide +kernel
theorem dX5_halt_63 : decode cX5_halt 63 = .ok (.iload_n 1, 1) := by decide +kernel
theorem dX5_halt_64 : decode cX5_halt 64 = .ok (.iload_n 2, 1) := by decide +kernel
theorem dX5_halt_65 : decode cX5_halt 65 = .ok (.bastore, 1) := by decide +kernel
theorem dX5_halt_66 : decode cX5_halt 66 = .ok (.iconst 1, 1) := by decide +kernel
theorem dX5_halt_67 : decode cX5_halt 67 = .ok (.ireturn, 1) := by decide +kernel
theorem dX5_mostOf_0 : decode cX5_mostOf 0 = .ok (.iload_n 0, 1) := by decide +kernel
theorem dX5_mostOf_1 : decode cX5_mostOf 1 = .ok (.tableswitch 63 0 6 #[43, 46, 49, 49, 53, 56, 60], 43) := by decide +kernel
theorem dX5_mostOf_44 : decode cX5_mostOf 44 = .ok (.bipush 9, 2) := by decide +kernel
theorem dX5_mostOf_46 : decode cX5_mostOf 46 = .ok (.ireturn, 1) := by decide +kernel
theorem dX5_mostOf_47 : decode cX5_mostOf 47 = .ok (.bipush 20, 2) := by decide +kernel
theorem dX5_mostOf_49 : decode cX5_mostOf 49 = .ok (.ireturn, 1) := by decide +kernel
theorem dX5_mostOf_50 : decode cX5_mostOf 50 = .ok (.sipush 500, 3) := by decide +kernel
theorem dX5_mostOf_53 : decode cX5_mostOf 53 = .ok (.ireturn, 1) := by decide +kernel
theorem dX5_mostOf_54 : decode cX5_mostOf 54 = .ok (.ldc 103, 2) := by decide +kernel
theorem dX5_mostOf_56 : decode cX5_mostOf 56 = .ok (.ireturn, 1) := by decide +kernel
theorem dX5_mostOf_57 : decode cX5_mostOf 57 = .ok (.sipush 10000, 3) := by decide +kernel
theorem dX5_mostOf_60 : decode cX5_mostOf 60 = .ok (.ireturn, 1) := by decide +kernel
theorem dX5_mostOf_61 : decode cX5_mostOf 61 = .ok (.bipush 16, 2) := by decide +kernel
theorem dX5_mostOf_63 : decode cX5_mostOf 63 = .ok (.ireturn, 1) := by decide +kernel
theorem dX5_mostOf_64 : decode cX5_mostOf 64 = .ok (.bipush 100, 2) := by decide +kernel
theorem dX5_mostOf_66 : decode cX5_mostOf 66 = .ok (.ireturn, 1) := by decide +kernel
set_option maxRecDepth 20000 in
theorem ggX5_set_X5_in : GoodIn wsX5_set wsX5_in := goodIn_r _ [6] (by decide +kernel) (by decide +kernel)
set_option maxRecDepth 20000 in
theorem gX5_set_X5_in : GoodIn wsX5_set (va_wsS RX5 95 yX5_in wsX5_in) := goodIn_app (goodIn_of _ (by decide +kernel)) ggX5_set_X5_in
set_option maxRecDepth 20000 in
theorem ggX5_set_X5_mostOf : GoodIn wsX5_set wsX5_mostOf := goodIn_r _ [9, 10] (by decide +kernel) (by decide +kernel)
set_option maxRecDepth 20000 in
theorem gX5_set_X5_mostOf : GoodIn wsX5_set (va_wsS RX5 104 yX5_mostOf wsX5_mostOf) := goodIn_app (goodIn_of _ (by decide +kernel)) ggX5_set_X5_mostOf
theorem dX5_set_0 : decode cX5_set 0 = .ok (.aload_n 0, 1) := by decide +kernel
theorem dX5_set_1 : decode cX5_set 1 = .ok (.iconst 0, 1) := by decide +kernel
theorem dX5_set_2 : decode cX5_set 2 = .ok (.putfield 70, 3) := by decide +kernel
theorem dX5_set_5 : decode cX5_set 5 = .ok (.iload_n 1, 1) := by decide +kernel
theorem dX5_set_6 : decode cX5_set 6 = .ok (.iconst 0, 1) := by decide +kernel
theorem dX5_set_7 : decode cX5_set 7 = .ok (.bipush 7, 2) := by decide +kernel
theorem dX5_set_9 : decode cX5_set 9 = .ok (.invokestatic 95, 3) := by decide +kernel
theorem dX5_set_12 : decode cX5_set 12 = .ok (.ifCond .ne 5, 3) := by decide +kernel
theorem dX5_set_15 : decode cX5_set 15 = .ok (.iconst (-1), 1) := by decide +kernel
theorem dX5_set_16 : decode cX5_set 16 = .ok (.ireturn, 1) := by decide +kernel
theorem dX5_set_17 : decode cX5_set 17 = .ok (.iload_n 1, 1) := by decide +kernel
theorem dX5_set_18 : decode cX5_set 18 = .ok (.iconst 2, 1) := by decide +kernel
theorem dX5_set_19 : decode cX5_set 19 = .ok (.if_icmp .lt 12, 3) := by decide +kernel
theorem dX5_set_22 : decode cX5_set 22 = .ok (.iload_n 1, 1) := by decide +kernel
theorem dX5_set_23 : decode cX5_set 23 = .ok (.iconst 4, 1) := by decide +kernel
theorem dX5_set_24 : decode cX5_set 24 = .ok (.if_icmp .gt 7, 3) := by decide +kernel
theorem dX5_set_27 : decode cX5_set 27 = .ok (.iconst 0, 1) := by decide +kernel
theorem dX5_set_28 : decode cX5_set 28 = .ok (.goto 4, 3) := by decide +kernel
theorem dX5_set_31 : decode cX5_set 31 = .ok (.iconst 1, 1) := by decide +kernel
theorem dX5_set_32 : decode cX5_set 32 = .ok (.istore_n 3, 1) := by decide +kernel
theorem dX5_set_33 : decode cX5_set 33 = .ok (.iload_n 2, 1) := by decide +kernel
theorem dX5_set_34 : decode cX5_set 34 = .ok (.iload_n 3, 1) := by decide +kernel
theorem dX5_set_35 : decode cX5_set 35 = .ok (.iload_n 1, 1) := by decide +kernel
theorem dX5_set_36 : decode cX5_set 36 = .ok (.invokestatic 104, 3) := by decide +kernel
theorem dX5_set_39 : decode cX5_set 39 = .ok (.invokestatic 95, 3) := by decide +kernel
theorem dX5_set_42 : decode cX5_set 42 = .ok (.ifCond .ne 5, 3) := by decide +kernel
theorem dX5_set_45 : decode cX5_set 45 = .ok (.iconst (-1), 1) := by decide +kernel
theorem dX5_set_46 : decode cX5_set 46 = .ok (.ireturn, 1) := by decide +kernel
theorem dX5_set_47 : decode cX5_set 47 = .ok (.aload_n 0, 1) := by decide +kernel
theorem dX5_set_48 : decode cX5_set 48 = .ok (.getfield 21, 3) := by decide +kernel
theorem dX5_set_51 : decode cX5_set 51 = .ok (.iload_n 1, 1) := by decide +kernel
theorem dX5_set_52 : decode cX5_set 52 = .ok (.iaload, 1) := by decide +kernel
theorem dX5_set_53 : decode cX5_set 53 = .ok (.istore 4, 2) := by decide +kernel
theorem dX5_set_55 : decode cX5_set 55 = .ok (.aload_n 0, 1) := by decide +kernel
theorem dX5_set_56 : decode cX5_set 56 = .ok (.getfield 21, 3) := by decide +kernel
theorem dX5_set_59 : decode cX5_set 59 = .ok (.iload_n 1, 1) := by decide +kernel
theorem dX5_set_60 : decode cX5_set 60 = .ok (.iload_n 2, 1) := by decide +kernel
theorem dX5_set_61 : decode cX5_set 61 = .ok (.iastore, 1) := by decide +kernel
theorem dX5_set_62 : decode cX5_set 62 = .ok (.iload 4, 2) := by decide +kernel
theorem dX5_set_64 : decode cX5_set 64 = .ok (.ireturn, 1) := by decide +kernel
set_option maxRecDepth 20000 in
theorem ggX5_person_X5_isPlace : GoodIn wsX5_person wsX5_isPlace := goodIn_r _ [11, 12, 13, 14, 10, 15, 23, 24, 25, 26, 27, 28, 29, 30, 31, 32, 33, 34, 35, 36, 37, 38, 39, 40, 41, 42, 43, 44, 45, 46, 47] (by decide +kernel) (by decide +kernel)
set_option maxRecDepth 20000 in
theorem gX5_person_X5_isPlace : GoodIn wsX5_person (wsV RX5 99 RX5 yX5_isPlace wsX5_isPlace) := goodIn_app (goodIn_of _ (by decide +kernel)) ggX5_person_X5_isPlace
set_option maxRecDepth 20000 in
theorem ggX5_person_X5_in : GoodIn wsX5_person wsX5_in := goodIn_r _ [15] (by decide +kernel) (by decide +kernel)
set_option maxRecDepth 20000 in
theorem gX5_person_X5_in : GoodIn wsX5_person (va_wsS RX5 95 yX5_in wsX5_in) := goodIn_app (goodIn_of _ (by decide +kernel)) ggX5_person_X5_in
set_option maxRecDepth 20000 in
theorem ggX5_person_X5_wait : GoodIn wsX5_person wsX5_wait := goodIn_r _ [19, 20, 21, 22, 23, 24, 25, 26, 27, 28, 29, 30, 31, 32, 33, 34, 35, 36, 37, 38, 39, 40, 41, 42, 43, 44, 45, 46, 47] (by decide +kernel) (by decide +kernel)
set_option maxRecDepth 20000 in
theorem gX5_person_X5_wait : GoodIn wsX5_person (wsV RX5 92 RX5 yX5_wait wsX5_wait) := goodIn_app (goodIn_of _ (by decide +kernel)) ggX5_person_X5_wait
theorem dX5_person_0 : decode cX5_person 0 = .ok (.aload_n 0, 1) := by decide +kernel
theorem dX5_person_1 : decode cX5_person 1 = .ok (.iconst 0, 1) := by decide +kernel
theorem dX5_person_2 : decode cX5_person 2 = .ok (.putfield 70, 3) := by decide +kernel
theorem dX5_person_5 : decode cX5_person 5 = .ok (.aload_n 0, 1) := by decide +kernel
theorem dX5_person_6 : decode cX5_person 6 = .ok (.iload_n 1, 1) := by decide +kernel
theorem dX5_person_7 : decode cX5_person 7 = .ok (.invokevirtual 99, 3) := by decide +kernel
theorem dX5_person_10 : decode cX5_person 10 = .ok (.ifCond .eq 54, 3) := by decide +kernel
theorem dX5_person_13 : decode cX5_person 13 = .ok (.aload_n 0, 1) := by decide +kernel
theorem dX5_person_14 : decode cX5_person 14 = .ok (.iload_n 2, 1) := by decide +kernel
theorem dX5_person_15 : decode cX5_person 15 = .ok (.invokevirtual 99, 3) := by decide +kernel
theorem dX5_person_18 : decode cX5_person 18 = .ok (.ifCond .eq 46, 3) := by decide +kernel
theorem dX5_person_21 : decode cX5_person 21 = .ok (.aload_n 0, 1) := by decide +kernel
theorem dX5_person_22 : decode cX5_person 22 = .ok (.getfield 17, 3) := by decide +kernel
theorem dX5_person_25 : decode cX5_person 25 = .ok (.iload_n 1, 1) := by decide +kernel
theorem dX5_person_26 : decode cX5_person 26 = .ok (.baload, 1) := by decide +kernel
theorem dX5_person_27 : decode cX5_person 27 = .ok (.ifCond .eq 37, 3) := by decide +kernel
theorem dX5_person_30 : decode cX5_person 30 = .ok (.aload_n 0, 1) := by decide +kernel
theorem dX5_person_31 : decode cX5_person 31 = .ok (.getfield 17, 3) := by decide +kernel
theorem dX5_person_34 : decode cX5_person 34 = .ok (.iload_n 2, 1) := by decide +kernel
theorem dX5_person_35 : decode cX5_person 35 = .ok (.baload, 1) := by decide +kernel
theorem dX5_person_36 : decode cX5_person 36 = .ok (.ifCond .eq 28, 3) := by decide +kernel
theorem dX5_person_39 : decode cX5_person 39 = .ok (.iload_n 1, 1) := by decide +kernel
theorem dX5_person_40 : decode cX5_person 40 = .ok (.iload_n 2, 1) := by decide +kernel
theorem dX5_person_41 : decode cX5_person 41 = .ok (.if_icmp .eq 23, 3) := by decide +kernel
theorem dX5_person_44 : decode cX5_person 44 = .ok (.iload_n 3, 1) := by decide +kernel
theorem dX5_person_45 : decode cX5_person 45 = .ok (.iconst 0, 1) := by decide +kernel
theorem dX5_person_46 : decode cX5_person 46 = .ok (.sipush 999, 3) := by decide +kernel
theorem dX5_person_49 : decode cX5_person 49 = .ok (.invokestatic 95, 3) := by decide +kernel
theorem dX5_person_52 : decode cX5_person 52 = .ok (.ifCond .eq 12, 3) := by decide +kernel
theorem dX5_person_55 : decode cX5_person 55 = .ok (.aload_n 0, 1) := by decide +kernel
theorem dX5_person_56 : decode cX5_person 56 = .ok (.getfield 73, 3) := by decide +kernel
theorem dX5_person_59 : decode cX5_person 59 = .ok (.bipush 60, 2) := by decide +kernel
theorem dX5_person_61 : decode cX5_person 61 = .ok (.if_icmp .ne 5, 3) := by decide +kernel
theorem dX5_person_64 : decode cX5_person 64 = .ok (.iconst (-1), 1) := by decide +kernel
theorem dX5_person_65 : decode cX5_person 65 = .ok (.ireturn, 1) := by decide +kernel
theorem dX5_person_66 : decode cX5_person 66 = .ok (.aload_n 0, 1) := by decide +kernel
theorem dX5_person_67 : decode cX5_person 67 = .ok (.getfield 24, 3) := by decide +kernel
theorem dX5_person_70 : decode cX5_person 70 = .ok (.aload_n 0, 1) := by decide +kernel
theorem dX5_person_71 : decode cX5_person 71 = .ok (.getfield 73, 3) := by decide +kernel
theorem dX5_person_74 : decode cX5_person 74 = .ok (.iload_n 1, 1) := by decide +kernel
theorem dX5_person_75 : decode cX5_person 75 = .ok (.iastore, 1) := by decide +kernel
theorem dX5_person_76 : decode cX5_person 76 = .ok (.aload_n 0, 1) := by decide +kernel
theorem dX5_person_77 : decode cX5_person 77 = .ok (.getfield 27, 3) := by decide +kernel
theorem dX5_person_80 : decode cX5_person 80 = .ok (.aload_n 0, 1) := by decide +kernel
theorem dX5_person_81 : decode cX5_person 81 = .ok (.getfield 73, 3) := by decide +kernel
theorem dX5_person_84 : decode cX5_person 84 = .ok (.iload_n 2, 1) := by decide +kernel
theorem dX5_person_85 : decode cX5_person 85 = .ok (.iastore, 1) := by decide +kernel
theorem dX5_person_86 : decode cX5_person 86 = .ok (.aload_n 0, 1) := by decide +kernel
theorem dX5_person_87 : decode cX5_person 87 = .ok (.getfield 30, 3) := by decide +kernel
theorem dX5_person_90 : decode cX5_person 90 = .ok (.aload_n 0, 1) := by decide +kernel
theorem dX5_person_91 : decode cX5_person 91 = .ok (.getfield 73, 3) := by decide +kernel
theorem dX5_person_94 : decode cX5_person 94 = .ok (.iload_n 3, 1) := by decide +kernel
theorem dX5_person_95 : decode cX5_person 95 = .ok (.iastore, 1) := by decide +kernel
theorem dX5_person_96 : decode cX5_person 96 = .ok (.aload_n 0, 1) := by decide +kernel
theorem dX5_person_97 : decode cX5_person 97 = .ok (.aload_n 0, 1) := by decide +kernel
theorem dX5_person_98 : decode cX5_person 98 = .ok (.getfield 73, 3) := by decide +kernel
theorem dX5_person_101 : decode cX5_person 101 = .ok (.invokevirtual 92, 3) := by decide +kernel
theorem dX5_person_104 : decode cX5_person 104 = .ok (.aload_n 0, 1) := by decide +kernel
theorem dX5_person_105 : decode cX5_person 105 = .ok (.dup, 1) := by decide +kernel
theorem dX5_person_106 : decode cX5_person 106 = .ok (.getfield 73, 3) := by decide +kernel
theorem dX5_person_109 : decode cX5_person 109 = .ok (.iconst 1, 1) := by decide +kernel
theorem dX5_person_110 : decode cX5_person 110 = .ok (.iadd, 1) := by decide +kernel
theorem dX5_person_111 : decode cX5_person 111 = .ok (.putfield 73, 3) := by decide +kernel
theorem dX5_person_114 : decode cX5_person 114 = .ok (.aload_n 0, 1) := by decide +kernel
theorem dX5_person_115 : decode cX5_person 115 = .ok (.getfield 73, 3) := by decide +kernel
theorem dX5_person_118 : decode cX5_person 118 = .ok (.iconst 1, 1) := by decide +kernel
theorem dX5_person_119 : decode cX5_person 119 = .ok (.isub, 1) := by decide +kernel
theorem dX5_person_120 : decode cX5_person 120 = .ok (.ireturn, 1) := by decide +kernel
theorem dX5_inCar_0 : decode cX5_inCar 0 = .ok (.iconst 0, 1) := by decide +kernel
theorem dX5_inCar_1 : decode cX5_inCar 1 = .ok (.istore_n 2, 1) := by decide +kernel
theorem dX5_inCar_2 : decode cX5_inCar 2 = .ok (.iconst 0, 1) := by decide +kernel
theorem dX5_inCar_3 : decode cX5_inCar 3 = .ok (.istore_n 3, 1) := by decide +kernel
theorem dX5_inCar_4 : decode cX5_inCar 4 = .ok (.iload_n 3, 1) := by decide +kernel
theorem dX5_inCar_5 : decode cX5_inCar 5 = .ok (.aload_n 0, 1) := by decide +kernel
theorem dX5_inCar_6 : decode cX5_inCar 6 = .ok (.getfield 73, 3) := by decide +kernel
theorem dX5_inCar_9 : decode cX5_inCar 9 = .ok (.if_icmp .ge 22, 3) := by decide +kernel
theorem dX5_inCar_12 : decode cX5_inCar 12 = .ok (.aload_n 0, 1) := by decide +kernel
theorem dX5_inCar_13 : decode cX5_inCar 13 = .ok (.getfield 33, 3) := by decide +kernel
theorem dX5_inCar_16 : decode cX5_inCar 16 = .ok (.iload_n 3, 1) := by decide +kernel
theorem dX5_inCar_17 : decode cX5_inCar 17 = .ok (.iaload, 1) := by decide +kernel
theorem dX5_inCar_18 : decode cX5_inCar 18 = .ok (.iload_n 1, 1) := by decide +kernel
theorem dX5_inCar_19 : decode cX5_inCar 19 = .ok (.if_icmp .ne 6, 3) := by decide +kernel
theorem dX5_inCar_22 : decode cX5_inCar 22 = .ok (.iinc 2 1, 3) := by decide +kernel
theorem dX5_inCar_25 : decode cX5_inCar 25 = .ok (.iinc 3 1, 3) := by decide +kernel
theorem dX5_inCar_28 : decode cX5_inCar 28 = .ok (.goto (-24), 3) := by decide +kernel
theorem dX5_inCar_31 : decode cX5_inCar 31 = .ok (.iload_n 2, 1) := by decide +kernel
theorem dX5_inCar_32 : decode cX5_inCar 32 = .ok (.ireturn, 1) := by decide +kernel
theorem dX5_wants_0 : decode cX5_wants 0 = .ok (.aload_n 0, 1) := by decide +kernel
theorem dX5_wants_1 : decode cX5_wants 1 = .ok (.getfield 33, 3) := by decide +kernel
theorem dX5_wants_4 : decode cX5_wants 4 = .ok (.iload_n 1, 1) := by decide +kernel
theorem dX5_wants_5 : decode cX5_wants 5 = .ok (.iaload, 1) := by decide +kernel
theorem dX5_wants_6 : decode cX5_wants 6 = .ok (.ifCond .ne 55, 3) := by decide +kernel
theorem dX5_wants_9 : decode cX5_wants 9 = .ok (.aload_n 0, 1) := by decide +kernel
theorem dX5_wants_10 : decode cX5_wants 10 = .ok (.getfield 24, 3) := by decide +kernel
theorem dX5_wants_13 : decode cX5_wants 13 = .ok (.iload_n 1, 1) := by decide +kernel
theorem dX5_wants_14 : decode cX5_wants 14 = .ok (.iaload, 1) := by decide +kernel
theorem dX5_wants_15 : decode cX5_wants 15 = .ok (.iload_n 2, 1) := by decide +kernel
theorem dX5_wants_16 : decode cX5_wants 16 = .ok (.if_icmp .ne 45, 3) := by decide +kernel
theorem dX5_wants_19 : decode cX5_wants 19 = .ok (.aload_n 0, 1) := by decide +kernel
theorem dX5_wants_20 : decode cX5_wants 20 = .ok (.getfield 30, 3) := by decide +kernel
theorem dX5_wants_23 : decode cX5_wants 23 = .ok (.iload_n 1, 1) := by decide +kernel
theorem dX5_wants_24 : decode cX5_wants 24 = .ok (.iaload, 1) := by decide +kernel
theorem dX5_wants_25 : decode cX5_wants 25 = .ok (.iload 4, 2) := by decide +kernel
theorem dX5_wants_27 : decode cX5_wants 27 = .ok (.if_icmp .gt 34, 3) := by decide +kernel
theorem dX5_wants_30 : decode cX5_wants 30 = .ok (.iload_n 3, 1) := by decide +kernel
theorem dX5_wants_31 : decode cX5_wants 31 = .ok (.ifCond .le 16, 3) := by decide +kernel
theorem dX5_wants_34 : decode cX5_wants 34 = .ok (.aload_n 0, 1) := by decide +kernel
theorem dX5_wants_35 : decode cX5_wants 35 = .ok (.getfield 27, 3) := by decide +kernel
theorem dX5_wants_38 : decode cX5_wants 38 = .ok (.iload_n 1, 1) := by decide +kernel
theorem dX5_wants_39 : decode cX5_wants 39 = .ok (.iaload, 1) := by decide +kernel
theorem dX5_wants_40 : decode cX5_wants 40 = .ok (.iload_n 2, 1) := by decide +kernel
theorem dX5_wants_41 : decode cX5_wants 41 = .ok (.if_icmp .le 20, 3) := by decide +kernel
theorem dX5_wants_44 : decode cX5_wants 44 = .ok (.goto 13, 3) := by decide +kernel
theorem dX5_wants_47 : decode cX5_wants 47 = .ok (.aload_n 0, 1) := by decide +kernel
theorem dX5_wants_48 : decode cX5_wants 48 = .ok (.getfield 27, 3) := by decide +kernel
theorem dX5_wants_51 : decode cX5_wants 51 = .ok (.iload_n 1, 1) := by decide +kernel
theorem dX5_wants_52 : decode cX5_wants 52 = .ok (.iaload, 1) := by decide +kernel
theorem dX5_wants_53 : decode cX5_wants 53 = .ok (.iload_n 2, 1) := by decide +kernel
theorem dX5_wants_54 : decode cX5_wants 54 = .ok (.if_icmp .ge 7, 3) := by decide +kernel
theorem dX5_wants_57 : decode cX5_wants 57 = .ok (.iconst 1, 1) := by decide +kernel
theorem dX5_wants_58 : decode cX5_wants 58 = .ok (.goto 4, 3) := by decide +kernel
theorem dX5_wants_61 : decode cX5_wants 61 = .ok (.iconst 0, 1) := by decide +kernel
theorem dX5_wants_62 : decode cX5_wants 62 = .ok (.ireturn, 1) := by decide +kernel
set_option maxRecDepth 20000 in
theorem ggX5_hasUse_X5_wants : GoodIn wsX5_hasUse wsX5_wants := goodIn_r _ [10, 3, 11, 12, 4, 13, 14, 15, 16, 17, 18, 19, 20, 21, 22, 23, 24, 25, 26, 27, 28, 29, 30, 31, 32, 33, 34, 35, 36, 37] (by decide +kernel) (by decide +kernel)
set_option maxRecDepth 20000 in
theorem gX5_hasUse_X5_wants : GoodIn wsX5_hasUse (wsV RX5 108 RX5 yX5_wants wsX5_wants) := goodIn_app (goodIn_of _ (by decide +kernel)) ggX5_hasUse_X5_wants
theorem dX5_hasUse_0 : decode cX5_hasUse 0 = .ok (.aload_n 0, 1) := by decide +kernel
theorem dX5_hasUse_1 : decode cX5_hasUse 1 = .ok (.getfield 17, 3) := by decide +kernel
theorem dX5_hasUse_4 : decode cX5_hasUse 4 = .ok (.iload_n 2, 1) := by decide +kernel
theorem dX5_hasUse_5 : decode cX5_hasUse 5 = .ok (.baload, 1) := by decide +kernel
theorem dX5_hasUse_6 : decode cX5_hasUse 6 = .ok (.ifCond .ne 5, 3) := by decide +kernel
theorem dX5_hasUse_9 : decode cX5_hasUse 9 = .ok (.iconst 0, 1) := by decide +kernel
theorem dX5_hasUse_10 : decode cX5_hasUse 10 = .ok (.ireturn, 1) := by decide +kernel
theorem dX5_hasUse_11 : decode cX5_hasUse 11 = .ok (.iconst 0, 1) := by decide +kernel
theorem dX5_hasUse_12 : decode cX5_hasUse 12 = .ok (.istore 5, 2) := by decide +kernel
theorem dX5_hasUse_14 : decode cX5_hasUse 14 = .ok (.iconst 0, 1) := by decide +kernel
theorem dX5_hasUse_15 : decode cX5_hasUse 15 = .ok (.istore 6, 2) := by decide +kernel
theorem dX5_hasUse_17 : decode cX5_hasUse 17 = .ok (.iconst 0, 1) := by decide +kernel
theorem dX5_hasUse_18 : decode cX5_hasUse 18 = .ok (.istore 7, 2) := by decide +kernel
theorem dX5_hasUse_20 : decode cX5_hasUse 20 = .ok (.iconst 0, 1) := by decide +kernel
theorem dX5_hasUse_21 : decode cX5_hasUse 21 = .ok (.istore 8, 2) := by decide +kernel
theorem dX5_hasUse_23 : decode cX5_hasUse 23 = .ok (.iload 8, 2) := by decide +kernel
theorem dX5_hasUse_25 : decode cX5_hasUse 25 = .ok (.aload_n 0, 1) := by decide +kernel
theorem dX5_hasUse_26 : decode cX5_hasUse 26 = .ok (.getfield 73, 3) := by decide +kernel
theorem dX5_hasUse_29 : decode cX5_hasUse 29 = .ok (.if_icmp .ge 75, 3) := by decide +kernel
theorem dX5_hasUse_32 : decode cX5_hasUse 32 = .ok (.aload_n 0, 1) := by decide +kernel
theorem dX5_hasUse_33 : decode cX5_hasUse 33 = .ok (.getfield 33, 3) := by decide +kernel
theorem dX5_hasUse_36 : decode cX5_hasUse 36 = .ok (.iload 8, 2) := by decide +kernel
theorem dX5_hasUse_38 : decode cX5_hasUse 38 = .ok (.iaload, 1) := by decide +kernel
theorem dX5_hasUse_39 : decode cX5_hasUse 39 = .ok (.iload_n 1, 1) := by decide +kernel
theorem dX5_hasUse_40 : decode cX5_hasUse 40 = .ok (.if_icmp .ne 17, 3) := by decide +kernel
theorem dX5_hasUse_43 : decode cX5_hasUse 43 = .ok (.aload_n 0, 1) := by decide +kernel
theorem dX5_hasUse_44 : decode cX5_hasUse 44 = .ok (.getfield 27, 3) := by decide +kernel
theorem dX5_hasUse_47 : decode cX5_hasUse 47 = .ok (.iload 8, 2) := by decide +kernel
theorem dX5_hasUse_49 : decode cX5_hasUse 49 = .ok (.iaload, 1) := by decide +kernel
theorem dX5_hasUse_50 : decode cX5_hasUse 50 = .ok (.iload_n 2, 1) := by decide +kernel
theorem dX5_hasUse_51 : decode cX5_hasUse 51 = .ok (.if_icmp .ne 6, 3) := by decide +kernel
theorem dX5_hasUse_54 : decode cX5_hasUse 54 = .ok (.iconst 1, 1) := by decide +kernel
theorem dX5_hasUse_55 : decode cX5_hasUse 55 = .ok (.istore 6, 2) := by decide +kernel
theorem dX5_hasUse_57 : decode cX5_hasUse 57 = .ok (.aload_n 0, 1) := by decide +kernel
theorem dX5_hasUse_58 : decode cX5_hasUse 58 = .ok (.getfield 33, 3) := by decide +kernel
theorem dX5_hasUse_61 : decode cX5_hasUse 61 = .ok (.iload 8, 2) := by decide +kernel
theorem dX5_hasUse_63 : decode cX5_hasUse 63 = .ok (.iaload, 1) := by decide +kernel
theorem dX5_hasUse_64 : decode cX5_hasUse 64 = .ok (.iload_n 1, 1) := by decide +kernel
theorem dX5_hasUse_65 : decode cX5_hasUse 65 = .ok (.if_icmp .ne 17, 3) := by decide +kernel
theorem dX5_hasUse_68 : decode cX5_hasUse 68 = .ok (.aload_n 0, 1) := by decide +kernel
theorem dX5_hasUse_69 : decode cX5_hasUse 69 = .ok (.getfield 27, 3) := by decide +kernel
theorem dX5_hasUse_72 : decode cX5_hasUse 72 = .ok (.iload 8, 2) := by decide +kernel
theorem dX5_hasUse_74 : decode cX5_hasUse 74 = .ok (.iaload, 1) := by decide +kernel
theorem dX5_hasUse_75 : decode cX5_hasUse 75 = .ok (.iload_n 2, 1) := by decide +kernel
theorem dX5_hasUse_76 : decode cX5_hasUse 76 = .ok (.if_icmp .eq 6, 3) := by decide +kernel
theorem dX5_hasUse_79 : decode cX5_hasUse 79 = .ok (.iinc 5 1, 3) := by decide +kernel
theorem dX5_hasUse_82 : decode cX5_hasUse 82 = .ok (.aload_n 0, 1) := by decide +kernel
theorem dX5_hasUse_83 : decode cX5_hasUse 83 = .ok (.iload 8, 2) := by decide +kernel
theorem dX5_hasUse_85 : decode cX5_hasUse 85 = .ok (.iload_n 2, 1) := by decide +kernel
theorem dX5_hasUse_86 : decode cX5_hasUse 86 = .ok (.iload_n 3, 1) := by decide +kernel
theorem dX5_hasUse_87 : decode cX5_hasUse 87 = .ok (.iload 4, 2) := by decide +kernel
theorem dX5_hasUse_89 : decode cX5_hasUse 89 = .ok (.invokevirtual 108, 3) := by decide +kernel
theorem dX5_hasUse_92 : decode cX5_hasUse 92 = .ok (.ifCond .eq 6, 3) := by decide +kernel
theorem dX5_hasUse_95 : decode cX5_hasUse 95 = .ok (.iconst 1, 1) := by decide +kernel
theorem dX5_hasUse_96 : decode cX5_hasUse 96 = .ok (.istore 7, 2) := by decide +kernel
theorem dX5_hasUse_98 : decode cX5_hasUse 98 = .ok (.iinc 8 1, 3) := by decide +kernel
theorem dX5_hasUse_101 : decode cX5_hasUse 101 = .ok (.goto (-78), 3) := by decide +kernel
theorem dX5_hasUse_104 : decode cX5_hasUse 104 = .ok (.iload 6, 2) := by decide +kernel
theorem dX5_hasUse_106 : decode cX5_hasUse 106 = .ok (.ifCond .ne 19, 3) := by decide +kernel
theorem dX5_hasUse_109 : decode cX5_hasUse 109 = .ok (.iload 7, 2) := by decide +kernel
theorem dX5_hasUse_111 : decode cX5_hasUse 111 = .ok (.ifCond .eq 18, 3) := by decide +kernel
theorem dX5_hasUse_114 : decode cX5_hasUse 114 = .ok (.iload 5, 2) := by decide +kernel
theorem dX5_hasUse_116 : decode cX5_hasUse 116 = .ok (.aload_n 0, 1) := by decide +kernel
theorem dX5_hasUse_117 : decode cX5_hasUse 117 = .ok (.getfield 21, 3) := by decide +kernel
theorem dX5_hasUse_120 : decode cX5_hasUse 120 = .ok (.iconst 1, 1) := by decide +kernel
theorem dX5_hasUse_121 : decode cX5_hasUse 121 = .ok (.iaload, 1) := by decide +kernel
theorem dX5_hasUse_122 : decode cX5_hasUse 122 = .ok (.if_icmp .ge 7, 3) := by decide +kernel
theorem dX5_hasUse_125 : decode cX5_hasUse 125 = .ok (.iconst 1, 1) := by decide +kernel
theorem dX5_hasUse_126 : decode cX5_hasUse 126 = .ok (.goto 4, 3) := by decide +kernel
theorem dX5_hasUse_129 : decode cX5_hasUse 129 = .ok (.iconst 0, 1) := by decide +kernel
theorem dX5_hasUse_130 : decode cX5_hasUse 130 = .ok (.ireturn, 1) := by decide +kernel
theorem dX5_getOff_0 : decode cX5_getOff 0 = .ok (.iconst 0, 1) := by decide +kernel
theorem dX5_getOff_1 : decode cX5_getOff 1 = .ok (.istore 4, 2) := by decide +kernel
theorem dX5_getOff_3 : decode cX5_getOff 3 = .ok (.iload 4, 2) := by decide +kernel
theorem dX5_getOff_5 : decode cX5_getOff 5 = .ok (.aload_n 0, 1) := by decide +kernel
theorem dX5_getOff_6 : decode cX5_getOff 6 = .ok (.getfield 73, 3) := by decide +kernel
theorem dX5_getOff_9 : decode cX5_getOff 9 = .ok (.if_icmp .ge 50, 3) := by decide +kernel
theorem dX5_getOff_12 : decode cX5_getOff 12 = .ok (.aload_n 0, 1) := by decide +kernel
theorem dX5_getOff_13 : decode cX5_getOff 13 = .ok (.getfield 33, 3) := by decide +kernel
theorem dX5_getOff_16 : decode cX5_getOff 16 = .ok (.iload 4, 2) := by decide +kernel
theorem dX5_getOff_18 : decode cX5_getOff 18 = .ok (.iaload, 1) := by decide +kernel
theorem dX5_getOff_19 : decode cX5_getOff 19 = .ok (.iload_n 1, 1) := by decide +kernel
theorem dX5_getOff_20 : decode cX5_getOff 20 = .ok (.if_icmp .ne 33, 3) := by decide +kernel
theorem dX5_getOff_23 : decode cX5_getOff 23 = .ok (.aload_n 0, 1) := by decide +kernel
theorem dX5_getOff_24 : decode cX5_getOff 24 = .ok (.getfield 27, 3) := by decide +kernel
theorem dX5_getOff_27 : decode cX5_getOff 27 = .ok (.iload 4, 2) := by decide +kernel
theorem dX5_getOff_29 : decode cX5_getOff 29 = .ok (.iaload, 1) := by decide +kernel
theorem dX5_getOff_30 : decode cX5_getOff 30 = .ok (.iload_n 2, 1) := by decide +kernel
theorem dX5_getOff_31 : decode cX5_getOff 31 = .ok (.if_icmp .eq 6, 3) := by decide +kernel
theorem dX5_getOff_34 : decode cX5_getOff 34 = .ok (.goto 19, 3) := by decide +kernel
theorem dX5_getOff_37 : decode cX5_getOff 37 = .ok (.aload_n 0, 1) := by decide +kernel
theorem dX5_getOff_38 : decode cX5_getOff 38 = .ok (.getfield 33, 3) := by decide +kernel
theorem dX5_getOff_41 : decode cX5_getOff 41 = .ok (.iload 4, 2) := by decide +kernel
theorem dX5_getOff_43 : decode cX5_getOff 43 = .ok (.iconst 3, 1) := by decide +kernel
theorem dX5_getOff_44 : decode cX5_getOff 44 = .ok (.iastore, 1) := by decide +kernel
theorem dX5_getOff_45 : decode cX5_getOff 45 = .ok (.aload_n 0, 1) := by decide +kernel
theorem dX5_getOff_46 : decode cX5_getOff 46 = .ok (.getfield 39, 3) := by decide +kernel
theorem dX5_getOff_49 : decode cX5_getOff 49 = .ok (.iload 4, 2) := by decide +kernel
theorem dX5_getOff_51 : decode cX5_getOff 51 = .ok (.iload_n 3, 1) := by decide +kernel
theorem dX5_getOff_52 : decode cX5_getOff 52 = .ok (.iastore, 1) := by decide +kernel
theorem dX5_getOff_53 : decode cX5_getOff 53 = .ok (.iinc 4 1, 3) := by decide +kernel
theorem dX5_getOff_56 : decode cX5_getOff 56 = .ok (.goto (-53), 3) := by decide +kernel
theorem dX5_getOff_59 : decode cX5_getOff 59 = .ok (.return_, 1) := by decide +kernel
set_option maxRecDepth 20000 in
theorem ggX5_board_X5_inCar : GoodIn wsX5_board wsX5_inCar := goodIn_r _ [11, 2, 4, 18, 19, 20, 21, 22, 23, 24, 25, 26, 27, 28, 29, 30, 31, 32, 33, 34, 35, 36, 37, 38, 39, 40, 41, 42] (by decide +kernel) (by decide +kernel)
set_option maxRecDepth 20000 in
theorem gX5_board_X5_inCar : GoodIn wsX5_board (wsV RX5 112 RX5 yX5_inCar wsX5_inCar) := goodIn_app (goodIn_of _ (by decide +kernel)) ggX5_board_X5_inCar
set_option maxRecDepth 20000 in
theorem ggX5_board_X5_wants : GoodIn wsX5_board wsX5_wants := goodIn_r _ [15, 4, 16, 3, 17, 18, 19, 20, 21, 22, 23, 24, 25, 26, 27, 28, 29, 30, 31, 32, 33, 34, 35, 36, 37, 38, 39, 40, 41, 42] (by decide +kernel) (by decide +kernel)
set_option maxRecDepth 20000 in
theorem gX5_board_X5_wants : GoodIn wsX5_board (wsV RX5 108 RX5 yX5_wants wsX5_wants) := goodIn_app (goodIn_of _ (by decide +kernel)) ggX5_board_X5_wants
theorem dX5_board_0 : decode cX5_board 0 = .ok (.aload_n 0, 1) := by decide +kernel
theorem dX5_board_1 : decode cX5_board 1 = .ok (.iload_n 1, 1) := by decide +kernel
theorem dX5_board_2 : decode cX5_board 2 = .ok (.invokevirtual 112, 3) := by decide +kernel
theorem dX5_board_5 : decode cX5_board 5 = .ok (.aload_n 0, 1) := by decide +kernel
theorem dX5_board_6 : decode cX5_board 6 = .ok (.getfield 21, 3) := by decide +kernel
theorem dX5_board_9 : decode cX5_board 9 = .ok (.iconst 1, 1) := by decide +kernel
theorem dX5_board_10 : decode cX5_board 10 = .ok (.iaload, 1) := by decide +kernel
theorem dX5_board_11 : decode cX5_board 11 = .ok (.if_icmp .ge 101, 3) := by decide +kernel
theorem dX5_board_14 : decode cX5_board 14 = .ok (.iconst (-1), 1) := by decide +kernel
theorem dX5_board_15 : decode cX5_board 15 = .ok (.istore 5, 2) := by decide +kernel
theorem dX5_board_17 : decode cX5_board 17 = .ok (.iconst 0, 1) := by decide +kernel
theorem dX5_board_18 : decode cX5_board 18 = .ok (.istore 6, 2) := by decide +kernel
theorem dX5_board_20 : decode cX5_board 20 = .ok (.iload 6, 2) := by decide +kernel
theorem dX5_board_22 : decode cX5_board 22 = .ok (.aload_n 0, 1) := by decide +kernel
theorem dX5_board_23 : decode cX5_board 23 = .ok (.getfield 73, 3) := by decide +kernel
theorem dX5_board_26 : decode cX5_board 26 = .ok (.if_icmp .ge 49, 3) := by decide +kernel
theorem dX5_board_29 : decode cX5_board 29 = .ok (.aload_n 0, 1) := by decide +kernel
theorem dX5_board_30 : decode cX5_board 30 = .ok (.iload 6, 2) := by decide +kernel
theorem dX5_board_32 : decode cX5_board 32 = .ok (.iload_n 2, 1) := by decide +kernel
theorem dX5_board_33 : decode cX5_board 33 = .ok (.iload_n 3, 1) := by decide +kernel
theorem dX5_board_34 : decode cX5_board 34 = .ok (.iload 4, 2) := by decide +kernel
theorem dX5_board_36 : decode cX5_board 36 = .ok (.invokevirtual 108, 3) := by decide +kernel
theorem dX5_board_39 : decode cX5_board 39 = .ok (.ifCond .eq 30, 3) := by decide +kernel
theorem dX5_board_42 : decode cX5_board 42 = .ok (.iload 5, 2) := by decide +kernel
theorem dX5_board_44 : decode cX5_board 44 = .ok (.iconst (-1), 1) := by decide +kernel
theorem dX5_board_45 : decode cX5_board 45 = .ok (.if_icmp .eq 20, 3) := by decide +kernel
theorem dX5_board_48 : decode cX5_board 48 = .ok (.aload_n 0, 1) := by decide +kernel
theorem dX5_board_49 : decode cX5_board 49 = .ok (.getfield 30, 3) := by decide +kernel
theorem dX5_board_52 : decode cX5_board 52 = .ok (.iload 6, 2) := by decide +kernel
theorem dX5_board_54 : decode cX5_board 54 = .ok (.iaload, 1) := by decide +kernel
theorem dX5_board_55 : decode cX5_board 55 = .ok (.aload_n 0, 1) := by decide +kernel
theorem dX5_board_56 : decode cX5_board 56 = .ok (.getfield 30, 3) := by decide +kernel
theorem dX5_board_59 : decode cX5_board 59 = .ok (.iload 5, 2) := by decide +kernel
theorem dX5_board_61 : decode cX5_board 61 = .ok (.iaload, 1) := by decide +kernel
theorem dX5_board_62 : decode cX5_board 62 = .ok (.if_icmp .ge 7, 3) := by decide +kernel
theorem dX5_board_65 : decode cX5_board 65 = .ok (.iload 6, 2) := by decide +kernel
theorem dX5_board_67 : decode cX5_board 67 = .ok (.istore 5, 2) := by decide +kernel
theorem dX5_board_69 : decode cX5_board 69 = .ok (.iinc 6 1, 3) := by decide +kernel
theorem dX5_board_72 : decode cX5_board 72 = .ok (.goto (-52), 3) := by decide +kernel
theorem dX5_board_75 : decode cX5_board 75 = .ok (.iload 5, 2) := by decide +kernel
theorem dX5_board_77 : decode cX5_board 77 = .ok (.iconst (-1), 1) := by decide +kernel
theorem dX5_board_78 : decode cX5_board 78 = .ok (.if_icmp .ne 4, 3) := by decide +kernel
theorem dX5_board_81 : decode cX5_board 81 = .ok (.return_, 1) := by decide +kernel
theorem dX5_board_82 : decode cX5_board 82 = .ok (.aload_n 0, 1) := by decide +kernel
theorem dX5_board_83 : decode cX5_board 83 = .ok (.getfield 33, 3) := by decide +kernel
theorem dX5_board_86 : decode cX5_board 86 = .ok (.iload 5, 2) := by decide +kernel
theorem dX5_board_88 : decode cX5_board 88 = .ok (.iload_n 1, 1) := by decide +kernel
theorem dX5_board_89 : decode cX5_board 89 = .ok (.iastore, 1) := by decide +kernel
theorem dX5_board_90 : decode cX5_board 90 = .ok (.aload_n 0, 1) := by decide +kernel
theorem dX5_board_91 : decode cX5_board 91 = .ok (.getfield 36, 3) := by decide +kernel
theorem dX5_board_94 : decode cX5_board 94 = .ok (.iload 5, 2) := by decide +kernel
theorem dX5_board_96 : decode cX5_board 96 = .ok (.iload 4, 2) := by decide +kernel
theorem dX5_board_98 : decode cX5_board 98 = .ok (.iastore, 1) := by decide +kernel
theorem dX5_board_99 : decode cX5_board 99 = .ok (.aload_n 0, 1) := by decide +kernel
theorem dX5_board_100 : decode cX5_board 100 = .ok (.getfield 48, 3) := by decide +kernel
theorem dX5_board_103 : decode cX5_board 103 = .ok (.iconst 5, 1) := by decide +kernel
theorem dX5_board_104 : decode cX5_board 104 = .ok (.dup2, 1) := by decide +kernel
theorem dX5_board_105 : decode cX5_board 105 = .ok (.iaload, 1) := by decide +kernel
theorem dX5_board_106 : decode cX5_board 106 = .ok (.iconst 1, 1) := by decide +kernel
theorem dX5_board_107 : decode cX5_board 107 = .ok (.iadd, 1) := by decide +kernel
theorem dX5_board_108 : decode cX5_board 108 = .ok (.iastore, 1) := by decide +kernel
theorem dX5_board_109 : decode cX5_board 109 = .ok (.goto (-109), 3) := by decide +kernel
theorem dX5_board_112 : decode cX5_board 112 = .ok (.return_, 1) := by decide +kernel
set_option maxRecDepth 20000 in
theorem ggX5_stop_X5_getOff : GoodIn wsX5_stop wsX5_getOff := goodIn_r _ [6, 7, 8, 9, 10, 28, 29, 30, 31, 32, 33, 34, 35, 36, 37, 38, 39, 40, 41, 42, 43, 44, 45, 46, 47, 48, 49, 50, 51, 52] (by decide +kernel) (by decide +kernel)
set_option maxRecDepth 20000 in
theorem gX5_stop_X5_getOff : GoodIn wsX5_stop (wsV RX5 115 RX5 yX5_getOff wsX5_getOff) := goodIn_app (goodIn_of _ (by decide +kernel)) ggX5_stop_X5_getOff
set_option maxRecDepth 20000 in
theorem ggX5_stop_X5_board : GoodIn wsX5_stop wsX5_board := goodIn_r _ [14, 15, 7, 16, 8, 17, 18, 19, 20, 21, 5, 22, 23, 24, 25, 26, 27, 9, 28, 29, 30, 31, 32, 33, 34, 35, 36, 37, 38, 39, 40, 41, 42, 43, 44, 45, 46, 47, 48, 49, 50, 51, 52] (by decide +kernel) (by decide +kernel)
set_option maxRecDepth 20000 in
theorem gX5_stop_X5_board : GoodIn wsX5_stop (wsV RX5 119 RX5 yX5_board wsX5_board) := goodIn_app (goodIn_of _ (by decide +kernel)) ggX5_stop_X5_board
theorem dX5_stop_0 : decode cX5_stop 0 = .ok (.aload_n 0, 1) := by decide +kernel
theorem dX5_stop_1 : decode cX5_stop 1 = .ok (.getfield 17, 3) := by decide +kernel
theorem dX5_stop_4 : decode cX5_stop 4 = .ok (.iload_n 2, 1) := by decide +kernel
theorem dX5_stop_5 : decode cX5_stop 5 = .ok (.baload, 1) := by decide +kernel
theorem dX5_stop_6 : decode cX5_stop 6 = .ok (.ifCond .ne 4, 3) := by decide +kernel
theorem dX5_stop_9 : decode cX5_stop 9 = .ok (.return_, 1) := by decide +kernel
theorem dX5_stop_10 : decode cX5_stop 10 = .ok (.aload_n 0, 1) := by decide +kernel
theorem dX5_stop_11 : decode cX5_stop 11 = .ok (.iload_n 1, 1) := by decide +kernel
theorem dX5_stop_12 : decode cX5_stop 12 = .ok (.iload_n 2, 1) := by decide +kernel
theorem dX5_stop_13 : decode cX5_stop 13 = .ok (.iload 4, 2) := by decide +kernel
theorem dX5_stop_15 : decode cX5_stop 15 = .ok (.invokevirtual 115, 3) := by decide +kernel
theorem dX5_stop_18 : decode cX5_stop 18 = .ok (.aload_n 0, 1) := by decide +kernel
theorem dX5_stop_19 : decode cX5_stop 19 = .ok (.iload_n 1, 1) := by decide +kernel
theorem dX5_stop_20 : decode cX5_stop 20 = .ok (.iload_n 2, 1) := by decide +kernel
theorem dX5_stop_21 : decode cX5_stop 21 = .ok (.iload_n 3, 1) := by decide +kernel
theorem dX5_stop_22 : decode cX5_stop 22 = .ok (.iload 4, 2) := by decide +kernel
theorem dX5_stop_24 : decode cX5_stop 24 = .ok (.invokevirtual 119, 3) := by decide +kernel
theorem dX5_stop_27 : decode cX5_stop 27 = .ok (.return_, 1) := by decide +kernel
set_option maxRecDepth 20000 in
theorem ggX5_weight_X5_inCar : GoodIn wsX5_weight wsX5_inCar := goodIn_r _ [6, 7, 8, 9, 10, 11, 12, 13, 14, 15, 16, 17, 18, 19, 20, 21, 22, 23, 24, 25, 26, 27, 28, 29, 30, 31, 32, 33] (by decide +kernel) (by decide +kernel)
set_option maxRecDepth 20000 in
theorem gX5_weight_X5_inCar : GoodIn wsX5_weight (wsV RX5 112 RX5 yX5_inCar wsX5_inCar) := goodIn_app (goodIn_of _ (by decide +kernel)) ggX5_weight_X5_inCar
theorem dX5_weight_0 : decode cX5_weight 0 = .ok (.aload_n 0, 1) := by decide +kernel
theorem dX5_weight_1 : decode cX5_weight 1 = .ok (.getfield 21, 3) := by decide +kernel
theorem dX5_weight_4 : decode cX5_weight 4 = .ok (.iconst 2, 1) := by decide +kernel
theorem dX5_weight_5 : decode cX5_weight 5 = .ok (.iaload, 1) := by decide +kernel
theorem dX5_weight_6 : decode cX5_weight 6 = .ok (.aload_n 0, 1) := by decide +kernel
theorem dX5_weight_7 : decode cX5_weight 7 = .ok (.getfield 21, 3) := by decide +kernel
theorem dX5_weight_10 : decode cX5_weight 10 = .ok (.iconst 3, 1) := by decide +kernel
theorem dX5_weight_11 : decode cX5_weight 11 = .ok (.iaload, 1) := by decide +kernel
theorem dX5_weight_12 : decode cX5_weight 12 = .ok (.aload_n 0, 1) := by decide +kernel
theorem dX5_weight_13 : decode cX5_weight 13 = .ok (.iload_n 1, 1) := by decide +kernel
theorem dX5_weight_14 : decode cX5_weight 14 = .ok (.invokevirtual 112, 3) := by decide +kernel
theorem dX5_weight_17 : decode cX5_weight 17 = .ok (.imul, 1) := by decide +kernel
theorem dX5_weight_18 : decode cX5_weight 18 = .ok (.iadd, 1) := by decide +kernel
theorem dX5_weight_19 : decode cX5_weight 19 = .ok (.ireturn, 1) := by decide +kernel
set_option maxRecDepth 20000 in
theorem ggX5_goFrom_X5_stop : GoodIn wsX5_goFrom wsX5_stop := goodIn_r _ [14, 15, 16, 17, 18, 13, 19, 20, 21, 22, 23, 24, 25, 26, 27, 6, 28, 29, 3, 30, 31, 32, 33, 34, 35, 36, 37, 38, 47, 48, 49, 50, 51, 52, 53, 54, 55, 56, 57, 58, 59, 60, 61, 62, 63, 64, 65, 66, 67, 68, 69, 70, 71] (by decide +kernel) (by decide +kernel)
set_option maxRecDepth 20000 in
theorem gX5_goFrom_X5_stop : GoodIn wsX5_goFrom (wsV RX5 123 RX5 yX5_stop wsX5_stop) := goodIn_app (goodIn_of _ (by decide +kernel)) ggX5_goFrom_X5_stop
set_option maxRecDepth 20000 in
theorem ggX5_goFrom_X5_weight : GoodIn wsX5_goFrom wsX5_weight := goodIn_r _ [42, 6, 30, 31, 32, 13, 33, 20, 21, 47, 48, 49, 50, 51, 52, 53, 54, 55, 56, 57, 58, 59, 60, 61, 62, 63, 64, 65, 66, 67, 68, 69, 70, 71] (by decide +kernel) (by decide +kernel)
set_option maxRecDepth 20000 in
theorem gX5_goFrom_X5_weight : GoodIn wsX5_goFrom (wsV RX5 126 RX5 yX5_weight wsX5_weight) := goodIn_app (goodIn_of _ (by decide +kernel)) ggX5_goFrom_X5_weight
set_option maxRecDepth 20000 in
theorem ggX5_goFrom_X5_getOff : GoodIn wsX5_goFrom wsX5_getOff := goodIn_r _ [19, 20, 21, 22, 23, 47, 48, 49, 50, 51, 52, 53, 54, 55, 56, 57, 58, 59, 60, 61, 62, 63, 64, 65, 66, 67, 68, 69, 70, 71] (by decide +kernel) (by decide +kernel)
set_option maxRecDepth 20000 in
theorem gX5_goFrom_X5_getOff : GoodIn wsX5_goFrom (wsV RX5 115 RX5 yX5_getOff wsX5_getOff) := goodIn_app (goodIn_of _ (by decide +kernel)) ggX5_goFrom_X5_getOff
set_option maxRecDepth 20000 in
theorem ggX5_goFrom_X5_hasUse : GoodIn wsX5_goFrom wsX5_hasUse := goodIn_r _ [46, 15, 20, 21, 22, 6, 34, 35, 36, 13, 37, 38, 28, 47, 48, 49, 50, 51, 52, 53, 54, 55, 56, 57, 58, 59, 60, 61, 62, 63, 64, 65, 66, 67, 68, 69, 70, 71] (by decide +kernel) (by decide +kernel)
set_option maxRecDepth 20000 in
theorem gX5_goFrom_X5_hasUse : GoodIn wsX5_goFrom (wsV RX5 129 RX5 yX5_hasUse wsX5_hasUse) := goodIn_app (goodIn_of _ (by decide +kernel)) ggX5_goFrom_X5_hasUse
theorem dX5_goFrom_0 : decode cX5_goFrom 0 = .ok (.aload_n 0, 1) := by decide +kernel
theorem dX5_goFrom_1 : decode cX5_goFrom 1 = .ok (.getfield 79, 3) := by decide +kernel
theorem dX5_goFrom_4 : decode cX5_goFrom 4 = .ok (.ifCond .ne 7, 3) := by decide +kernel
theorem dX5_goFrom_7 : decode cX5_goFrom 7 = .ok (.iconst 1, 1) := by decide +kernel
theorem dX5_goFrom_8 : decode cX5_goFrom 8 = .ok (.goto 4, 3) := by decide +kernel
theorem dX5_goFrom_11 : decode cX5_goFrom 11 = .ok (.iconst (-1), 1) := by decide +kernel
theorem dX5_goFrom_12 : decode cX5_goFrom 12 = .ok (.istore_n 2, 1) := by decide +kernel
theorem dX5_goFrom_13 : decode cX5_goFrom 13 = .ok (.aload_n 0, 1) := by decide +kernel
theorem dX5_goFrom_14 : decode cX5_goFrom 14 = .ok (.getfield 79, 3) := by decide +kernel
theorem dX5_goFrom_17 : decode cX5_goFrom 17 = .ok (.istore_n 3, 1) := by decide +kernel
theorem dX5_goFrom_18 : decode cX5_goFrom 18 = .ok (.iload_n 1, 1) := by decide +kernel
theorem dX5_goFrom_19 : decode cX5_goFrom 19 = .ok (.istore 4, 2) := by decide +kernel
theorem dX5_goFrom_21 : decode cX5_goFrom 21 = .ok (.aload_n 0, 1) := by decide +kernel
theorem dX5_goFrom_22 : decode cX5_goFrom 22 = .ok (.iconst 1, 1) := by decide +kernel
theorem dX5_goFrom_23 : decode cX5_goFrom 23 = .ok (.putfield 88, 3) := by decide +kernel
theorem dX5_goFrom_26 : decode cX5_goFrom 26 = .ok (.iconst 0, 1) := by decide +kernel
theorem dX5_goFrom_27 : decode cX5_goFrom 27 = .ok (.istore 5, 2) := by decide +kernel
theorem dX5_goFrom_29 : decode cX5_goFrom 29 = .ok (.iload 5, 2) := by decide +kernel
theorem dX5_goFrom_31 : decode cX5_goFrom 31 = .ok (.bipush 7, 2) := by decide +kernel
theorem dX5_goFrom_33 : decode cX5_goFrom 33 = .ok (.if_icmp .ge 17, 3) := by decide +kernel
theorem dX5_goFrom_36 : decode cX5_goFrom 36 = .ok (.aload_n 0, 1) := by decide +kernel
theorem dX5_goFrom_37 : decode cX5_goFrom 37 = .ok (.getfield 48, 3) := by decide +kernel
theorem dX5_goFrom_40 : decode cX5_goFrom 40 = .ok (.iload 5, 2) := by decide +kernel
theorem dX5_goFrom_42 : decode cX5_goFrom 42 = .ok (.iconst 0, 1) := by decide +kernel
theorem dX5_goFrom_43 : decode cX5_goFrom 43 = .ok (.iastore, 1) := by decide +kernel
theorem dX5_goFrom_44 : decode cX5_goFrom 44 = .ok (.iinc 5 1, 3) := by decide +kernel
theorem dX5_goFrom_47 : decode cX5_goFrom 47 = .ok (.goto (-18), 3) := by decide +kernel
theorem dX5_goFrom_50 : decode cX5_goFrom 50 = .ok (.aload_n 0, 1) := by decide +kernel
theorem dX5_goFrom_51 : decode cX5_goFrom 51 = .ok (.getfield 48, 3) := by decide +kernel
theorem dX5_goFrom_54 : decode cX5_goFrom 54 = .ok (.iconst 3, 1) := by decide +kernel
theorem dX5_goFrom_55 : decode cX5_goFrom 55 = .ok (.iconst (-1), 1) := by decide +kernel
theorem dX5_goFrom_56 : decode cX5_goFrom 56 = .ok (.iastore, 1) := by decide +kernel
theorem dX5_goFrom_57 : decode cX5_goFrom 57 = .ok (.aload_n 0, 1) := by decide +kernel
theorem dX5_goFrom_58 : decode cX5_goFrom 58 = .ok (.iconst 1, 1) := by decide +kernel
theorem dX5_goFrom_59 : decode cX5_goFrom 59 = .ok (.iload_n 3, 1) := by decide +kernel
theorem dX5_goFrom_60 : decode cX5_goFrom 60 = .ok (.iload_n 2, 1) := by decide +kernel
theorem dX5_goFrom_61 : decode cX5_goFrom 61 = .ok (.iload 4, 2) := by decide +kernel
theorem dX5_goFrom_63 : decode cX5_goFrom 63 = .ok (.invokevirtual 123, 3) := by decide +kernel
theorem dX5_goFrom_66 : decode cX5_goFrom 66 = .ok (.aload_n 0, 1) := by decide +kernel
theorem dX5_goFrom_67 : decode cX5_goFrom 67 = .ok (.iconst 2, 1) := by decide +kernel
theorem dX5_goFrom_68 : decode cX5_goFrom 68 = .ok (.aload_n 0, 1) := by decide +kernel
theorem dX5_goFrom_69 : decode cX5_goFrom 69 = .ok (.getfield 7, 3) := by decide +kernel
theorem dX5_goFrom_72 : decode cX5_goFrom 72 = .ok (.iload_n 3, 1) := by decide +kernel
theorem dX5_goFrom_73 : decode cX5_goFrom 73 = .ok (.isub, 1) := by decide +kernel
theorem dX5_goFrom_74 : decode cX5_goFrom 74 = .ok (.iload_n 2, 1) := by decide +kernel
theorem dX5_goFrom_75 : decode cX5_goFrom 75 = .ok (.ineg, 1) := by decide +kernel
theorem dX5_goFrom_76 : decode cX5_goFrom 76 = .ok (.iload 4, 2) := by decide +kernel
theorem dX5_goFrom_78 : decode cX5_goFrom 78 = .ok (.invokevirtual 123, 3) := by decide +kernel
theorem dX5_goFrom_81 : decode cX5_goFrom 81 = .ok (.iconst 0, 1) := by decide +kernel
theorem dX5_goFrom_82 : decode cX5_goFrom 82 = .ok (.istore 5, 2) := by decide +kernel
theorem dX5_goFrom_84 : decode cX5_goFrom 84 = .ok (.iload 5, 2) := by decide +kernel
theorem dX5_goFrom_86 : decode cX5_goFrom 86 = .ok (.aload_n 0, 1) := by decide +kernel
theorem dX5_goFrom_87 : decode cX5_goFrom 87 = .ok (.getfield 7, 3) := by decide +kernel
theorem dX5_goFrom_90 : decode cX5_goFrom 90 = .ok (.if_icmp .ge 295, 3) := by decide +kernel
theorem dX5_goFrom_93 : decode cX5_goFrom 93 = .ok (.aload_n 0, 1) := by decide +kernel
theorem dX5_goFrom_94 : decode cX5_goFrom 94 = .ok (.iconst 1, 1) := by decide +kernel
theorem dX5_goFrom_95 : decode cX5_goFrom 95 = .ok (.invokevirtual 126, 3) := by decide +kernel
theorem dX5_goFrom_98 : decode cX5_goFrom 98 = .ok (.aload_n 0, 1) := by decide +kernel
theorem dX5_goFrom_99 : decode cX5_goFrom 99 = .ok (.getfield 13, 3) := by decide +kernel
theorem dX5_goFrom_102 : decode cX5_goFrom 102 = .ok (.iload_n 3, 1) := by decide +kernel
theorem dX5_goFrom_103 : decode cX5_goFrom 103 = .ok (.iload_n 2, 1) := by decide +kernel
theorem dX5_goFrom_104 : decode cX5_goFrom 104 = .ok (.iadd, 1) := by decide +kernel
theorem dX5_goFrom_105 : decode cX5_goFrom 105 = .ok (.iaload, 1) := by decide +kernel
theorem dX5_goFrom_106 : decode cX5_goFrom 106 = .ok (.aload_n 0, 1) := by decide +kernel
theorem dX5_goFrom_107 : decode cX5_goFrom 107 = .ok (.getfield 13, 3) := by decide +kernel
theorem dX5_goFrom_110 : decode cX5_goFrom 110 = .ok (.iload_n 3, 1) := by decide +kernel
theorem dX5_goFrom_111 : decode cX5_goFrom 111 = .ok (.iaload, 1) := by decide +kernel
theorem dX5_goFrom_112 : decode cX5_goFrom 112 = .ok (.isub, 1) := by decide +kernel
theorem dX5_goFrom_113 : decode cX5_goFrom 113 = .ok (.imul, 1) := by decide +kernel
theorem dX5_goFrom_114 : decode cX5_goFrom 114 = .ok (.aload_n 0, 1) := by decide +kernel
theorem dX5_goFrom_115 : decode cX5_goFrom 115 = .ok (.iconst 2, 1) := by decide +kernel
theorem dX5_goFrom_116 : decode cX5_goFrom 116 = .ok (.invokevirtual 126, 3) := by decide +kernel
theorem dX5_goFrom_119 : decode cX5_goFrom 119 = .ok (.aload_n 0, 1) := by decide +kernel
theorem dX5_goFrom_120 : decode cX5_goFrom 120 = .ok (.getfield 13, 3) := by decide +kernel
theorem dX5_goFrom_123 : decode cX5_goFrom 123 = .ok (.aload_n 0, 1) := by decide +kernel
theorem dX5_goFrom_124 : decode cX5_goFrom 124 = .ok (.getfield 7, 3) := by decide +kernel
theorem dX5_goFrom_127 : decode cX5_goFrom 127 = .ok (.iload_n 3, 1) := by decide +kernel
theorem dX5_goFrom_128 : decode cX5_goFrom 128 = .ok (.isub, 1) := by decide +kernel
theorem dX5_goFrom_129 : decode cX5_goFrom 129 = .ok (.iload_n 2, 1) := by decide +kernel
theorem dX5_goFrom_130 : decode cX5_goFrom 130 = .ok (.isub, 1) := by decide +kernel
theorem dX5_goFrom_131 : decode cX5_goFrom 131 = .ok (.iaload, 1) := by decide +kernel
theorem dX5_goFrom_132 : decode cX5_goFrom 132 = .ok (.aload_n 0, 1) := by decide +kernel
theorem dX5_goFrom_133 : decode cX5_goFrom 133 = .ok (.getfield 13, 3) := by decide +kernel
theorem dX5_goFrom_136 : decode cX5_goFrom 136 = .ok (.aload_n 0, 1) := by decide +kernel
theorem dX5_goFrom_137 : decode cX5_goFrom 137 = .ok (.getfield 7, 3) := by decide +kernel
theorem dX5_goFrom_140 : decode cX5_goFrom 140 = .ok (.iload_n 3, 1) := by decide +kernel
theorem dX5_goFrom_141 : decode cX5_goFrom 141 = .ok (.isub, 1) := by decide +kernel
theorem dX5_goFrom_142 : decode cX5_goFrom 142 = .ok (.iaload, 1) := by decide +kernel
theorem dX5_goFrom_143 : decode cX5_goFrom 143 = .ok (.isub, 1) := by decide +kernel
theorem dX5_goFrom_144 : decode cX5_goFrom 144 = .ok (.imul, 1) := by decide +kernel
theorem dX5_goFrom_145 : decode cX5_goFrom 145 = .ok (.iadd, 1) := by decide +kernel
theorem dX5_goFrom_146 : decode cX5_goFrom 146 = .ok (.istore 6, 2) := by decide +kernel
theorem dX5_goFrom_148 : decode cX5_goFrom 148 = .ok (.iload 6, 2) := by decide +kernel
theorem dX5_goFrom_150 : decode cX5_goFrom 150 = .ok (.ifCond .ge 9, 3) := by decide +kernel
theorem dX5_goFrom_153 : decode cX5_goFrom 153 = .ok (.iload 6, 2) := by decide +kernel
theorem dX5_goFrom_155 : decode cX5_goFrom 155 = .ok (.ineg, 1) := by decide +kernel
theorem dX5_goFrom_156 : decode cX5_goFrom 156 = .ok (.goto 5, 3) := by decide +kernel
theorem dX5_goFrom_159 : decode cX5_goFrom 159 = .ok (.iload 6, 2) := by decide +kernel
theorem dX5_goFrom_161 : decode cX5_goFrom 161 = .ok (.istore 7, 2) := by decide +kernel
theorem dX5_goFrom_163 : decode cX5_goFrom 163 = .ok (.iload 7, 2) := by decide +kernel
theorem dX5_goFrom_165 : decode cX5_goFrom 165 = .ok (.aload_n 0, 1) := by decide +kernel
theorem dX5_goFrom_166 : decode cX5_goFrom 166 = .ok (.getfield 21, 3) := by decide +kernel
theorem dX5_goFrom_169 : decode cX5_goFrom 169 = .ok (.iconst 4, 1) := by decide +kernel
theorem dX5_goFrom_170 : decode cX5_goFrom 170 = .ok (.iaload, 1) := by decide +kernel
theorem dX5_goFrom_171 : decode cX5_goFrom 171 = .ok (.if_icmp .le 13, 3) := by decide +kernel
theorem dX5_goFrom_174 : decode cX5_goFrom 174 = .ok (.aload_n 0, 1) := by decide +kernel
theorem dX5_goFrom_175 : decode cX5_goFrom 175 = .ok (.getfield 48, 3) := by decide +kernel
theorem dX5_goFrom_178 : decode cX5_goFrom 178 = .ok (.iconst 2, 1) := by decide +kernel
theorem dX5_goFrom_179 : decode cX5_goFrom 179 = .ok (.dup2, 1) := by decide +kernel
theorem dX5_goFrom_180 : decode cX5_goFrom 180 = .ok (.iaload, 1) := by decide +kernel
theorem dX5_goFrom_181 : decode cX5_goFrom 181 = .ok (.iconst 1, 1) := by decide +kernel
theorem dX5_goFrom_182 : decode cX5_goFrom 182 = .ok (.iadd, 1) := by decide +kernel
theorem dX5_goFrom_183 : decode cX5_goFrom 183 = .ok (.iastore, 1) := by decide +kernel
theorem dX5_goFrom_184 : decode cX5_goFrom 184 = .ok (.iload 7, 2) := by decide +kernel
theorem dX5_goFrom_186 : decode cX5_goFrom 186 = .ok (.aload_n 0, 1) := by decide +kernel
theorem dX5_goFrom_187 : decode cX5_goFrom 187 = .ok (.getfield 48, 3) := by decide +kernel
theorem dX5_goFrom_190 : decode cX5_goFrom 190 = .ok (.iconst 3, 1) := by decide +kernel
theorem dX5_goFrom_191 : decode cX5_goFrom 191 = .ok (.iaload, 1) := by decide +kernel
theorem dX5_goFrom_192 : decode cX5_goFrom 192 = .ok (.if_icmp .le 19, 3) := by decide +kernel
theorem dX5_goFrom_195 : decode cX5_goFrom 195 = .ok (.aload_n 0, 1) := by decide +kernel
theorem dX5_goFrom_196 : decode cX5_goFrom 196 = .ok (.getfield 48, 3) := by decide +kernel
theorem dX5_goFrom_199 : decode cX5_goFrom 199 = .ok (.iconst 3, 1) := by decide +kernel
theorem dX5_goFrom_200 : decode cX5_goFrom 200 = .ok (.iload 7, 2) := by decide +kernel
theorem dX5_goFrom_202 : decode cX5_goFrom 202 = .ok (.iastore, 1) := by decide +kernel
theorem dX5_goFrom_203 : decode cX5_goFrom 203 = .ok (.aload_n 0, 1) := by decide +kernel
theorem dX5_goFrom_204 : decode cX5_goFrom 204 = .ok (.getfield 48, 3) := by decide +kernel
theorem dX5_goFrom_207 : decode cX5_goFrom 207 = .ok (.iconst 4, 1) := by decide +kernel
theorem dX5_goFrom_208 : decode cX5_goFrom 208 = .ok (.iload 5, 2) := by decide +kernel
theorem dX5_goFrom_210 : decode cX5_goFrom 210 = .ok (.iastore, 1) := by decide +kernel
theorem dX5_goFrom_211 : decode cX5_goFrom 211 = .ok (.aload_n 0, 1) := by decide +kernel
theorem dX5_goFrom_212 : decode cX5_goFrom 212 = .ok (.getfield 42, 3) := by decide +kernel
theorem dX5_goFrom_215 : decode cX5_goFrom 215 = .ok (.iload_n 2, 1) := by decide +kernel
theorem dX5_goFrom_216 : decode cX5_goFrom 216 = .ok (.ifCond .le 7, 3) := by decide +kernel
theorem dX5_goFrom_219 : decode cX5_goFrom 219 = .ok (.iload_n 3, 1) := by decide +kernel
theorem dX5_goFrom_220 : decode cX5_goFrom 220 = .ok (.goto 6, 3) := by decide +kernel
theorem dX5_goFrom_223 : decode cX5_goFrom 223 = .ok (.iload_n 3, 1) := by decide +kernel
theorem dX5_goFrom_224 : decode cX5_goFrom 224 = .ok (.iconst 1, 1) := by decide +kernel
theorem dX5_goFrom_225 : decode cX5_goFrom 225 = .ok (.isub, 1) := by decide +kernel
theorem dX5_goFrom_226 : decode cX5_goFrom 226 = .ok (.dup2, 1) := by decide +kernel
theorem dX5_goFrom_227 : decode cX5_goFrom 227 = .ok (.iaload, 1) := by decide +kernel
theorem dX5_goFrom_228 : decode cX5_goFrom 228 = .ok (.iconst 1, 1) := by decide +kernel
theorem dX5_goFrom_229 : decode cX5_goFrom 229 = .ok (.iadd, 1) := by decide +kernel
theorem dX5_goFrom_230 : decode cX5_goFrom 230 = .ok (.iastore, 1) := by decide +kernel
theorem dX5_goFrom_231 : decode cX5_goFrom 231 = .ok (.iload_n 3, 1) := by decide +kernel
theorem dX5_goFrom_232 : decode cX5_goFrom 232 = .ok (.iload_n 2, 1) := by decide +kernel
theorem dX5_goFrom_233 : decode cX5_goFrom 233 = .ok (.iadd, 1) := by decide +kernel
theorem dX5_goFrom_234 : decode cX5_goFrom 234 = .ok (.istore_n 3, 1) := by decide +kernel
theorem dX5_goFrom_235 : decode cX5_goFrom 235 = .ok (.iload 4, 2) := by decide +kernel
theorem dX5_goFrom_237 : decode cX5_goFrom 237 = .ok (.aload_n 0, 1) := by decide +kernel
theorem dX5_goFrom_238 : decode cX5_goFrom 238 = .ok (.getfield 21, 3) := by decide +kernel
theorem dX5_goFrom_241 : decode cX5_goFrom 241 = .ok (.iconst 0, 1) := by decide +kernel
theorem dX5_goFrom_242 : decode cX5_goFrom 242 = .ok (.iaload, 1) := by decide +kernel
theorem dX5_goFrom_243 : decode cX5_goFrom 243 = .ok (.iadd, 1) := by decide +kernel
theorem dX5_goFrom_244 : decode cX5_goFrom 244 = .ok (.istore 4, 2) := by decide +kernel
theorem dX5_goFrom_246 : decode cX5_goFrom 246 = .ok (.iload 5, 2) := by decide +kernel
theorem dX5_goFrom_248 : decode cX5_goFrom 248 = .ok (.aload_n 0, 1) := by decide +kernel
theorem dX5_goFrom_249 : decode cX5_goFrom 249 = .ok (.getfield 7, 3) := by decide +kernel
theorem dX5_goFrom_252 : decode cX5_goFrom 252 = .ok (.iconst 1, 1) := by decide +kernel
theorem dX5_goFrom_253 : decode cX5_goFrom 253 = .ok (.isub, 1) := by decide +kernel
theorem dX5_goFrom_254 : decode cX5_goFrom 254 = .ok (.if_icmp .ne 27, 3) := by decide +kernel
theorem dX5_goFrom_257 : decode cX5_goFrom 257 = .ok (.aload_n 0, 1) := by decide +kernel
theorem dX5_goFrom_258 : decode cX5_goFrom 258 = .ok (.iconst 1, 1) := by decide +kernel
theorem dX5_goFrom_259 : decode cX5_goFrom 259 = .ok (.iload_n 3, 1) := by decide +kernel
theorem dX5_goFrom_260 : decode cX5_goFrom 260 = .ok (.iload 4, 2) := by decide +kernel
