set_option maxRecDepth 20000 in
theorem ggX6_init_X4_init : GoodIn wsX6_init wsX4_init := goodIn_r _ [38, 39, 2, 3, 40, 41, 76, 77, 78, 79] rfl (by decide +kernel)
set_option maxRecDepth 20000 in
theorem gX6_init_X4_init : GoodIn wsX6_init (wsX4_init) := ggX6_init_X4_init
set_option maxRecDepth 20000 in
theorem ggX6_init_X1_init : GoodIn wsX6_init wsX1_init := goodIn_r _ [44, 45, 2, 3, 46, 40, 47, 48, 49, 93, 94, 95, 96, 97] rfl (by decide +kernel)
set_option maxRecDepth 20000 in
theorem gX6_init_X1_init : GoodIn wsX6_init (wsX1_init) := ggX6_init_X1_init
set_option maxRecDepth 20000 in
theorem ggX6_init_X2_init : GoodIn wsX6_init wsX2_init := goodIn_r _ [52, 53, 2, 3, 40, 54, 55, 56, 98, 99, 100, 101] rfl (by decide +kernel)
set_option maxRecDepth 20000 in
theorem gX6_init_X2_init : GoodIn wsX6_init (wsX2_init) := ggX6_init_X2_init
set_option maxRecDepth 20000 in
theorem ggX6_init_X0_init : GoodIn wsX6_init wsX0_init := goodIn_r _ [59, 60, 2, 3, 61, 14, 62, 40, 63, 102, 103, 104] rfl (by decide +kernel)
set_option maxRecDepth 20000 in
theorem gX6_init_X0_init : GoodIn wsX6_init (wsX0_init) := ggX6_init_X0_init
set_option maxRecDepth 20000 in
theorem ggX6_init_X5_init : GoodIn wsX6_init wsX5_init := goodIn_r _ [66, 67, 2, 3, 14, 68, 69, 105, 106] rfl (by decide +kernel)
set_option maxRecDepth 20000 in
theorem gX6_init_X5_init : GoodIn wsX6_init (wsX5_init) := ggX6_init_X5_init
set_option maxRecDepth 20000 in
theorem ggX6_init_X3_init : GoodIn wsX6_init wsX3_init := goodIn_r _ [72, 73, 2, 3, 14, 74, 75, 107, 108, 109] rfl (by decide +kernel)
set_option maxRecDepth 20000 in
theorem gX6_init_X3_init : GoodIn wsX6_init (wsX3_init) := ggX6_init_X3_init
theorem dX6_init_0 : decode cX6_init 0 = .ok (.aload_n 0, 1) := by decide +kernel
theorem dX6_init_1 : decode cX6_init 1 = .ok (.invokespecial 1, 3) := by decide +kernel
theorem dX6_init_4 : decode cX6_init 4 = .ok (.aload_n 0, 1) := by decide +kernel
theorem dX6_init_5 : decode cX6_init 5 = .ok (.new 7, 3) := by decide +kernel
theorem dX6_init_8 : decode cX6_init 8 = .ok (.dup, 1) := by decide +kernel
theorem dX6_init_9 : decode cX6_init 9 = .ok (.invokespecial 9, 3) := by decide +kernel
theorem dX6_init_12 : decode cX6_init 12 = .ok (.putfield 10, 3) := by decide +kernel
theorem dX6_init_15 : decode cX6_init 15 = .ok (.aload_n 0, 1) := by decide +kernel
theorem dX6_init_16 : decode cX6_init 16 = .ok (.new 16, 3) := by decide +kernel
theorem dX6_init_19 : decode cX6_init 19 = .ok (.dup, 1) := by decide +kernel
theorem dX6_init_20 : decode cX6_init 20 = .ok (.invokespecial 18, 3) := by decide +kernel
theorem dX6_init_23 : decode cX6_init 23 = .ok (.putfield 19, 3) := by decide +kernel
theorem dX6_init_26 : decode cX6_init 26 = .ok (.aload_n 0, 1) := by decide +kernel
theorem dX6_init_27 : decode cX6_init 27 = .ok (.new 16, 3) := by decide +kernel
theorem dX6_init_30 : decode cX6_init 30 = .ok (.dup, 1) := by decide +kernel
theorem dX6_init_31 : decode cX6_init 31 = .ok (.invokespecial 18, 3) := by decide +kernel
theorem dX6_init_34 : decode cX6_init 34 = .ok (.putfield 23, 3) := by decide +kernel
theorem dX6_init_37 : decode cX6_init 37 = .ok (.aload_n 0, 1) := by decide +kernel
theorem dX6_init_38 : decode cX6_init 38 = .ok (.new 16, 3) := by decide +kernel
theorem dX6_init_41 : decode cX6_init 41 = .ok (.dup, 1) := by decide +kernel
theorem dX6_init_42 : decode cX6_init 42 = .ok (.invokespecial 18, 3) := by decide +kernel
theorem dX6_init_45 : decode cX6_init 45 = .ok (.putfield 26, 3) := by decide +kernel
theorem dX6_init_48 : decode cX6_init 48 = .ok (.aload_n 0, 1) := by decide +kernel
theorem dX6_init_49 : decode cX6_init 49 = .ok (.bipush 10, 2) := by decide +kernel
theorem dX6_init_51 : decode cX6_init 51 = .ok (.newarray .long, 2) := by decide +kernel
theorem dX6_init_53 : decode cX6_init 53 = .ok (.putfield 29, 3) := by decide +kernel
theorem dX6_init_56 : decode cX6_init 56 = .ok (.aload_n 0, 1) := by decide +kernel
theorem dX6_init_57 : decode cX6_init 57 = .ok (.new 33, 3) := by decide +kernel
theorem dX6_init_60 : decode cX6_init 60 = .ok (.dup, 1) := by decide +kernel
theorem dX6_init_61 : decode cX6_init 61 = .ok (.invokespecial 35, 3) := by decide +kernel
theorem dX6_init_64 : decode cX6_init 64 = .ok (.putfield 36, 3) := by decide +kernel
theorem dX6_init_67 : decode cX6_init 67 = .ok (.aload_n 0, 1) := by decide +kernel
theorem dX6_init_68 : decode cX6_init 68 = .ok (.new 40, 3) := by decide +kernel
theorem dX6_init_71 : decode cX6_init 71 = .ok (.dup, 1) := by decide +kernel
theorem dX6_init_72 : decode cX6_init 72 = .ok (.invokespecial 42, 3) := by decide +kernel
theorem dX6_init_75 : decode cX6_init 75 = .ok (.putfield 43, 3) := by decide +kernel
theorem dX6_init_78 : decode cX6_init 78 = .ok (.aload_n 0, 1) := by decide +kernel
theorem dX6_init_79 : decode cX6_init 79 = .ok (.new 47, 3) := by decide +kernel
theorem dX6_init_82 : decode cX6_init 82 = .ok (.dup, 1) := by decide +kernel
theorem dX6_init_83 : decode cX6_init 83 = .ok (.invokespecial 49, 3) := by decide +kernel
theorem dX6_init_86 : decode cX6_init 86 = .ok (.putfield 50, 3) := by decide +kernel
theorem dX6_init_89 : decode cX6_init 89 = .ok (.aload_n 0, 1) := by decide +kernel
theorem dX6_init_90 : decode cX6_init 90 = .ok (.new 54, 3) := by decide +kernel
theorem dX6_init_93 : decode cX6_init 93 = .ok (.dup, 1) := by decide +kernel
theorem dX6_init_94 : decode cX6_init 94 = .ok (.invokespecial 56, 3) := by decide +kernel
theorem dX6_init_97 : decode cX6_init 97 = .ok (.putfield 57, 3) := by decide +kernel
theorem dX6_init_100 : decode cX6_init 100 = .ok (.aload_n 0, 1) := by decide +kernel
theorem dX6_init_101 : decode cX6_init 101 = .ok (.bipush 6, 2) := by decide +kernel
theorem dX6_init_103 : decode cX6_init 103 = .ok (.newarray .long, 2) := by decide +kernel
theorem dX6_init_105 : decode cX6_init 105 = .ok (.putfield 61, 3) := by decide +kernel
theorem dX6_init_108 : decode cX6_init 108 = .ok (.aload_n 0, 1) := by decide +kernel
theorem dX6_init_109 : decode cX6_init 109 = .ok (.iconst 2, 1) := by decide +kernel
theorem dX6_init_110 : decode cX6_init 110 = .ok (.anewarray 16, 3) := by decide +kernel
theorem dX6_init_113 : decode cX6_init 113 = .ok (.putfield 64, 3) := by decide +kernel
theorem dX6_init_116 : decode cX6_init 116 = .ok (.aload_n 0, 1) := by decide +kernel
theorem dX6_init_117 : decode cX6_init 117 = .ok (.iconst 2, 1) := by decide +kernel
theorem dX6_init_118 : decode cX6_init 118 = .ok (.newarray .boolean, 2) := by decide +kernel
theorem dX6_init_120 : decode cX6_init 120 = .ok (.putfield 68, 3) := by decide +kernel
theorem dX6_init_123 : decode cX6_init 123 = .ok (.iconst 0, 1) := by decide +kernel
theorem dX6_init_124 : decode cX6_init 124 = .ok (.istore_n 1, 1) := by decide +kernel
theorem dX6_init_125 : decode cX6_init 125 = .ok (.iload_n 1, 1) := by decide +kernel
theorem dX6_init_126 : decode cX6_init 126 = .ok (.iconst 2, 1) := by decide +kernel
theorem dX6_init_127 : decode cX6_init 127 = .ok (.if_icmp .ge 22, 3) := by decide +kernel
theorem dX6_init_130 : decode cX6_init 130 = .ok (.aload_n 0, 1) := by decide +kernel
theorem dX6_init_131 : decode cX6_init 131 = .ok (.getfield 64, 3) := by decide +kernel
theorem dX6_init_134 : decode cX6_init 134 = .ok (.iload_n 1, 1) := by decide +kernel
theorem dX6_init_135 : decode cX6_init 135 = .ok (.new 16, 3) := by decide +kernel
theorem dX6_init_138 : decode cX6_init 138 = .ok (.dup, 1) := by decide +kernel
theorem dX6_init_139 : decode cX6_init 139 = .ok (.invokespecial 18, 3) := by decide +kernel
theorem dX6_init_142 : decode cX6_init 142 = .ok (.aastore, 1) := by decide +kernel
theorem dX6_init_143 : decode cX6_init 143 = .ok (.iinc 1 1, 3) := by decide +kernel
theorem dX6_init_146 : decode cX6_init 146 = .ok (.goto (-21), 3) := by decide +kernel
theorem dX6_init_149 : decode cX6_init 149 = .ok (.return_, 1) := by decide +kernel
set_option maxRecDepth 20000 in
theorem ggX6_type_X4_takes : GoodIn wsX6_type wsX4_takes := goodIn_r _ [7, 8, 9, 23, 24, 25, 26] rfl (by decide +kernel)
set_option maxRecDepth 20000 in
theorem gX6_type_X4_takes : GoodIn wsX6_type (wsV RX6 72 RX4 yX4_takes wsX4_takes) := goodIn_app (goodIn_of _ (by decide +kernel)) ggX6_type_X4_takes
theorem dX6_type_0 : decode cX6_type 0 = .ok (.iload_n 1, 1) := by decide +kernel
theorem dX6_type_1 : decode cX6_type 1 = .ok (.ifCond .lt 10, 3) := by decide +kernel
theorem dX6_type_4 : decode cX6_type 4 = .ok (.iload_n 1, 1) := by decide +kernel
theorem dX6_type_5 : decode cX6_type 5 = .ok (.sipush 255, 3) := by decide +kernel
theorem dX6_type_8 : decode cX6_type 8 = .ok (.if_icmp .le 5, 3) := by decide +kernel
theorem dX6_type_11 : decode cX6_type 11 = .ok (.iconst (-1), 1) := by decide +kernel
theorem dX6_type_12 : decode cX6_type 12 = .ok (.ireturn, 1) := by decide +kernel
theorem dX6_type_13 : decode cX6_type 13 = .ok (.aload_n 0, 1) := by decide +kernel
theorem dX6_type_14 : decode cX6_type 14 = .ok (.getfield 10, 3) := by decide +kernel
theorem dX6_type_17 : decode cX6_type 17 = .ok (.iload_n 1, 1) := by decide +kernel
theorem dX6_type_18 : decode cX6_type 18 = .ok (.invokevirtual 72, 3) := by decide +kernel
theorem dX6_type_21 : decode cX6_type 21 = .ok (.ifCond .eq 13, 3) := by decide +kernel
theorem dX6_type_24 : decode cX6_type 24 = .ok (.aload_n 0, 1) := by decide +kernel
theorem dX6_type_25 : decode cX6_type 25 = .ok (.getfield 10, 3) := by decide +kernel
theorem dX6_type_28 : decode cX6_type 28 = .ok (.getfield 76, 3) := by decide +kernel
theorem dX6_type_31 : decode cX6_type 31 = .ok (.goto 5, 3) := by decide +kernel
theorem dX6_type_34 : decode cX6_type 34 = .ok (.bipush (-3), 2) := by decide +kernel
theorem dX6_type_36 : decode cX6_type 36 = .ok (.ireturn, 1) := by decide +kernel
theorem dX6_clear_0 : decode cX6_clear 0 = .ok (.aload_n 0, 1) := by decide +kernel
theorem dX6_clear_1 : decode cX6_clear 1 = .ok (.getfield 10, 3) := by decide +kernel
theorem dX6_clear_4 : decode cX6_clear 4 = .ok (.getfield 76, 3) := by decide +kernel
theorem dX6_clear_7 : decode cX6_clear 7 = .ok (.istore_n 1, 1) := by decide +kernel
theorem dX6_clear_8 : decode cX6_clear 8 = .ok (.aload_n 0, 1) := by decide +kernel
theorem dX6_clear_9 : decode cX6_clear 9 = .ok (.getfield 10, 3) := by decide +kernel
theorem dX6_clear_12 : decode cX6_clear 12 = .ok (.iconst 0, 1) := by decide +kernel
theorem dX6_clear_13 : decode cX6_clear 13 = .ok (.putfield 76, 3) := by decide +kernel
theorem dX6_clear_16 : decode cX6_clear 16 = .ok (.iload_n 1, 1) := by decide +kernel
theorem dX6_clear_17 : decode cX6_clear 17 = .ok (.ireturn, 1) := by decide +kernel
set_option maxRecDepth 20000 in
theorem ggX6_net_X4_tells : GoodIn wsX6_net wsX4_tells := goodIn_r _ [15, 16, 17, 18, 19, 20, 21, 22, 23, 24, 25, 26, 27, 28, 29, 30, 31, 32, 33, 34, 35, 36, 37, 38, 39, 40, 14, 41, 42, 43, 44, 45, 46, 47, 48, 49, 50, 51, 52, 53, 54, 55, 56, 57, 58, 59, 60, 61, 62, 63, 64, 65, 66, 67, 68, 69, 70, 71, 72, 73, 74, 75, 76, 77, 78, 79, 80, 81, 82, 83, 84, 85, 86, 87, 88, 89, 111, 112, 113, 114, 119, 120, 121, 122, 123] rfl (by decide +kernel)
set_option maxRecDepth 20000 in
theorem gX6_net_X4_tells : GoodIn wsX6_net (wsV RX6 80 RX4 yX4_tells wsX4_tells) := goodIn_app (goodIn_of _ (by decide +kernel)) ggX6_net_X4_tells
set_option maxRecDepth 20000 in
theorem ggX6_net_X1_copyFrom : GoodIn wsX6_net wsX1_copyFrom := goodIn_r _ [93, 31, 33, 94, 95, 96, 97, 84, 85, 86, 22, 87, 32, 88, 89, 119, 120, 121, 122, 123] rfl (by decide +kernel)
set_option maxRecDepth 20000 in
theorem gX6_net_X1_copyFrom : GoodIn wsX6_net (wsV RX6 87 RX1 yX1_copyFrom wsX1_copyFrom) := goodIn_app (goodIn_of _ (by decide +kernel)) ggX6_net_X1_copyFrom
theorem dX6_net_0 : decode cX6_net 0 = .ok (.aload_n 0, 1) := by decide +kernel
theorem dX6_net_1 : decode cX6_net 1 = .ok (.getfield 10, 3) := by decide +kernel
theorem dX6_net_4 : decode cX6_net 4 = .ok (.aload_n 0, 1) := by decide +kernel
theorem dX6_net_5 : decode cX6_net 5 = .ok (.getfield 23, 3) := by decide +kernel
theorem dX6_net_8 : decode cX6_net 8 = .ok (.invokevirtual 80, 3) := by decide +kernel
theorem dX6_net_11 : decode cX6_net 11 = .ok (.ifCond .ne 14, 3) := by decide +kernel
theorem dX6_net_14 : decode cX6_net 14 = .ok (.bipush (-10), 2) := by decide +kernel
theorem dX6_net_16 : decode cX6_net 16 = .ok (.aload_n 0, 1) := by decide +kernel
theorem dX6_net_17 : decode cX6_net 17 = .ok (.getfield 10, 3) := by decide +kernel
theorem dX6_net_20 : decode cX6_net 20 = .ok (.getfield 84, 3) := by decide +kernel
theorem dX6_net_23 : decode cX6_net 23 = .ok (.isub, 1) := by decide +kernel
theorem dX6_net_24 : decode cX6_net 24 = .ok (.ireturn, 1) := by decide +kernel
theorem dX6_net_25 : decode cX6_net 25 = .ok (.aload_n 0, 1) := by decide +kernel
theorem dX6_net_26 : decode cX6_net 26 = .ok (.getfield 19, 3) := by decide +kernel
theorem dX6_net_29 : decode cX6_net 29 = .ok (.aload_n 0, 1) := by decide +kernel
theorem dX6_net_30 : decode cX6_net 30 = .ok (.getfield 23, 3) := by decide +kernel
theorem dX6_net_33 : decode cX6_net 33 = .ok (.invokevirtual 87, 3) := by decide +kernel
theorem dX6_net_36 : decode cX6_net 36 = .ok (.aload_n 0, 1) := by decide +kernel
theorem dX6_net_37 : decode cX6_net 37 = .ok (.getfield 36, 3) := by decide +kernel
theorem dX6_net_40 : decode cX6_net 40 = .ok (.iconst 0, 1) := by decide +kernel
theorem dX6_net_41 : decode cX6_net 41 = .ok (.putfield 91, 3) := by decide +kernel
theorem dX6_net_44 : decode cX6_net 44 = .ok (.aload_n 0, 1) := by decide +kernel
theorem dX6_net_45 : decode cX6_net 45 = .ok (.iconst 0, 1) := by decide +kernel
theorem dX6_net_46 : decode cX6_net 46 = .ok (.putfield 94, 3) := by decide +kernel
theorem dX6_net_49 : decode cX6_net 49 = .ok (.iconst 0, 1) := by decide +kernel
theorem dX6_net_50 : decode cX6_net 50 = .ok (.istore_n 1, 1) := by decide +kernel
theorem dX6_net_51 : decode cX6_net 51 = .ok (.iload_n 1, 1) := by decide +kernel
theorem dX6_net_52 : decode cX6_net 52 = .ok (.iconst 2, 1) := by decide +kernel
theorem dX6_net_53 : decode cX6_net 53 = .ok (.if_icmp .ge 16, 3) := by decide +kernel
theorem dX6_net_56 : decode cX6_net 56 = .ok (.aload_n 0, 1) := by decide +kernel
theorem dX6_net_57 : decode cX6_net 57 = .ok (.getfield 68, 3) := by decide +kernel
theorem dX6_net_60 : decode cX6_net 60 = .ok (.iload_n 1, 1) := by decide +kernel
theorem dX6_net_61 : decode cX6_net 61 = .ok (.iconst 0, 1) := by decide +kernel
theorem dX6_net_62 : decode cX6_net 62 = .ok (.bastore, 1) := by decide +kernel
theorem dX6_net_63 : decode cX6_net 63 = .ok (.iinc 1 1, 3) := by decide +kernel
theorem dX6_net_66 : decode cX6_net 66 = .ok (.goto (-15), 3) := by decide +kernel
theorem dX6_net_69 : decode cX6_net 69 = .ok (.aload_n 0, 1) := by decide +kernel
theorem dX6_net_70 : decode cX6_net 70 = .ok (.getfield 10, 3) := by decide +kernel
theorem dX6_net_73 : decode cX6_net 73 = .ok (.iconst 0, 1) := by decide +kernel
theorem dX6_net_74 : decode cX6_net 74 = .ok (.putfield 76, 3) := by decide +kernel
theorem dX6_net_77 : decode cX6_net 77 = .ok (.aload_n 0, 1) := by decide +kernel
theorem dX6_net_78 : decode cX6_net 78 = .ok (.getfield 10, 3) := by decide +kernel
theorem dX6_net_81 : decode cX6_net 81 = .ok (.getfield 97, 3) := by decide +kernel
theorem dX6_net_84 : decode cX6_net 84 = .ok (.ireturn, 1) := by decide +kernel
set_option maxRecDepth 20000 in
theorem ggX6_line_X1_hasLine : GoodIn wsX6_line wsX1_hasLine := goodIn_r _ [6, 7, 48, 49, 50, 51, 52] rfl (by decide +kernel)
set_option maxRecDepth 20000 in
theorem gX6_line_X1_hasLine : GoodIn wsX6_line (wsV RX6 100 RX1 yX1_hasLine wsX1_hasLine) := goodIn_app (goodIn_of _ (by decide +kernel)) ggX6_line_X1_hasLine
set_option maxRecDepth 20000 in
theorem ggX6_line_X1_lowOf : GoodIn wsX6_line wsX1_lowOf := goodIn_r _ [11, 12, 13, 3, 4, 5, 6, 7, 48, 49, 50, 51, 52] rfl (by decide +kernel)
set_option maxRecDepth 20000 in
theorem gX6_line_X1_lowOf : GoodIn wsX6_line (wsV RX6 103 RX1 yX1_lowOf wsX1_lowOf) := goodIn_app (goodIn_of _ (by decide +kernel)) ggX6_line_X1_lowOf
set_option maxRecDepth 20000 in
theorem ggX6_line_X1_highOf : GoodIn wsX6_line wsX1_highOf := goodIn_r _ [17, 18, 13, 3, 4, 5, 6, 7, 48, 49, 50, 51, 52] rfl (by decide +kernel)
set_option maxRecDepth 20000 in
theorem gX6_line_X1_highOf : GoodIn wsX6_line (wsV RX6 107 RX1 yX1_highOf wsX1_highOf) := goodIn_app (goodIn_of _ (by decide +kernel)) ggX6_line_X1_highOf
set_option maxRecDepth 20000 in
theorem ggX6_line_X1_widthOf : GoodIn wsX6_line wsX1_widthOf := goodIn_r _ [22, 23, 9, 10, 5, 11, 12, 13, 3, 4, 6, 7, 24, 15, 16, 17, 18, 25, 26, 27, 28, 29, 30, 31, 32, 33, 34, 48, 49, 50, 51, 52] rfl (by decide +kernel)
set_option maxRecDepth 20000 in
theorem gX6_line_X1_widthOf : GoodIn wsX6_line (wsV RX6 110 RX1 yX1_widthOf wsX1_widthOf) := goodIn_app (goodIn_of _ (by decide +kernel)) ggX6_line_X1_widthOf
theorem dX6_line_0 : decode cX6_line 0 = .ok (.aload_n 0, 1) := by decide +kernel
theorem dX6_line_1 : decode cX6_line 1 = .ok (.getfield 19, 3) := by decide +kernel
theorem dX6_line_4 : decode cX6_line 4 = .ok (.iload_n 1, 1) := by decide +kernel
theorem dX6_line_5 : decode cX6_line 5 = .ok (.invokevirtual 100, 3) := by decide +kernel
theorem dX6_line_8 : decode cX6_line 8 = .ok (.ifCond .eq 12, 3) := by decide +kernel
theorem dX6_line_11 : decode cX6_line 11 = .ok (.iload_n 2, 1) := by decide +kernel
theorem dX6_line_12 : decode cX6_line 12 = .ok (.ifCond .lt 8, 3) := by decide +kernel
theorem dX6_line_15 : decode cX6_line 15 = .ok (.iload_n 2, 1) := by decide +kernel
theorem dX6_line_16 : decode cX6_line 16 = .ok (.iconst 2, 1) := by decide +kernel
theorem dX6_line_17 : decode cX6_line 17 = .ok (.if_icmp .le 5, 3) := by decide +kernel
theorem dX6_line_20 : decode cX6_line 20 = .ok (.iconst (-1), 1) := by decide +kernel
theorem dX6_line_21 : decode cX6_line 21 = .ok (.ireturn, 1) := by decide +kernel
theorem dX6_line_22 : decode cX6_line 22 = .ok (.iload_n 2, 1) := by decide +kernel
theorem dX6_line_23 : decode cX6_line 23 = .ok (.ifCond .ne 12, 3) := by decide +kernel
theorem dX6_line_26 : decode cX6_line 26 = .ok (.aload_n 0, 1) := by decide +kernel
theorem dX6_line_27 : decode cX6_line 27 = .ok (.getfield 19, 3) := by decide +kernel
theorem dX6_line_30 : decode cX6_line 30 = .ok (.iload_n 1, 1) := by decide +kernel
theorem dX6_line_31 : decode cX6_line 31 = .ok (.invokevirtual 103, 3) := by decide +kernel
theorem dX6_line_34 : decode cX6_line 34 = .ok (.ireturn, 1) := by decide +kernel
theorem dX6_line_35 : decode cX6_line 35 = .ok (.iload_n 2, 1) := by decide +kernel
theorem dX6_line_36 : decode cX6_line 36 = .ok (.iconst 1, 1) := by decide +kernel
theorem dX6_line_37 : decode cX6_line 37 = .ok (.if_icmp .ne 14, 3) := by decide +kernel
theorem dX6_line_40 : decode cX6_line 40 = .ok (.aload_n 0, 1) := by decide +kernel
theorem dX6_line_41 : decode cX6_line 41 = .ok (.getfield 19, 3) := by decide +kernel
theorem dX6_line_44 : decode cX6_line 44 = .ok (.iload_n 1, 1) := by decide +kernel
theorem dX6_line_45 : decode cX6_line 45 = .ok (.invokevirtual 107, 3) := by decide +kernel
theorem dX6_line_48 : decode cX6_line 48 = .ok (.goto 11, 3) := by decide +kernel
theorem dX6_line_51 : decode cX6_line 51 = .ok (.aload_n 0, 1) := by decide +kernel
theorem dX6_line_52 : decode cX6_line 52 = .ok (.getfield 19, 3) := by decide +kernel
theorem dX6_line_55 : decode cX6_line 55 = .ok (.iload_n 1, 1) := by decide +kernel
theorem dX6_line_56 : decode cX6_line 56 = .ok (.invokevirtual 110, 3) := by decide +kernel
theorem dX6_line_59 : decode cX6_line 59 = .ok (.ireturn, 1) := by decide +kernel
set_option maxRecDepth 20000 in
theorem ggX6_width_X1_hasNode : GoodIn wsX6_width wsX1_hasNode := goodIn_r _ [6, 7, 31, 32, 33, 34, 35] rfl (by decide +kernel)
set_option maxRecDepth 20000 in
theorem gX6_width_X1_hasNode : GoodIn wsX6_width (wsV RX6 113 RX1 yX1_hasNode wsX1_hasNode) := goodIn_app (goodIn_of _ (by decide +kernel)) ggX6_width_X1_hasNode
set_option maxRecDepth 20000 in
theorem ggX6_width_X1_degree : GoodIn wsX6_width wsX1_degree := goodIn_r _ [11, 7, 12, 13, 3, 4, 5, 6, 31, 32, 33, 34, 35] rfl (by decide +kernel)
set_option maxRecDepth 20000 in
theorem gX6_width_X1_degree : GoodIn wsX6_width (wsV RX6 116 RX1 yX1_degree wsX1_degree) := goodIn_app (goodIn_of _ (by decide +kernel)) ggX6_width_X1_degree
set_option maxRecDepth 20000 in
theorem ggX6_width_X1_widthAt : GoodIn wsX6_width wsX1_widthAt := goodIn_r _ [17, 12, 13, 3, 4, 5, 6, 7, 31, 32, 33, 34, 35] rfl (by decide +kernel)
set_option maxRecDepth 20000 in
theorem gX6_width_X1_widthAt : GoodIn wsX6_width (wsV RX6 119 RX1 yX1_widthAt wsX1_widthAt) := goodIn_app (goodIn_of _ (by decide +kernel)) ggX6_width_X1_widthAt
theorem dX6_width_0 : decode cX6_width 0 = .ok (.aload_n 0, 1) := by decide +kernel
theorem dX6_width_1 : decode cX6_width 1 = .ok (.getfield 19, 3) := by decide +kernel
theorem dX6_width_4 : decode cX6_width 4 = .ok (.iload_n 1, 1) := by decide +kernel
theorem dX6_width_5 : decode cX6_width 5 = .ok (.invokevirtual 113, 3) := by decide +kernel
theorem dX6_width_8 : decode cX6_width 8 = .ok (.ifCond .eq 14, 3) := by decide +kernel
theorem dX6_width_11 : decode cX6_width 11 = .ok (.aload_n 0, 1) := by decide +kernel
theorem dX6_width_12 : decode cX6_width 12 = .ok (.getfield 19, 3) := by decide +kernel
theorem dX6_width_15 : decode cX6_width 15 = .ok (.iload_n 2, 1) := by decide +kernel
theorem dX6_width_16 : decode cX6_width 16 = .ok (.invokevirtual 113, 3) := by decide +kernel
theorem dX6_width_19 : decode cX6_width 19 = .ok (.ifCond .ne 5, 3) := by decide +kernel
theorem dX6_width_22 : decode cX6_width 22 = .ok (.iconst (-1), 1) := by decide +kernel
theorem dX6_width_23 : decode cX6_width 23 = .ok (.ireturn, 1) := by decide +kernel
theorem dX6_width_24 : decode cX6_width 24 = .ok (.iload_n 1, 1) := by decide +kernel
theorem dX6_width_25 : decode cX6_width 25 = .ok (.iload_n 2, 1) := by decide +kernel
theorem dX6_width_26 : decode cX6_width 26 = .ok (.if_icmp .ne 14, 3) := by decide +kernel
theorem dX6_width_29 : decode cX6_width 29 = .ok (.aload_n 0, 1) := by decide +kernel
theorem dX6_width_30 : decode cX6_width 30 = .ok (.getfield 19, 3) := by decide +kernel
theorem dX6_width_33 : decode cX6_width 33 = .ok (.iload_n 1, 1) := by decide +kernel
theorem dX6_width_34 : decode cX6_width 34 = .ok (.invokevirtual 116, 3) := by decide +kernel
theorem dX6_width_37 : decode cX6_width 37 = .ok (.goto 12, 3) := by decide +kernel
theorem dX6_width_40 : decode cX6_width 40 = .ok (.aload_n 0, 1) := by decide +kernel
theorem dX6_width_41 : decode cX6_width 41 = .ok (.getfield 19, 3) := by decide +kernel
theorem dX6_width_44 : decode cX6_width 44 = .ok (.iload_n 1, 1) := by decide +kernel
theorem dX6_width_45 : decode cX6_width 45 = .ok (.iload_n 2, 1) := by decide +kernel
theorem dX6_width_46 : decode cX6_width 46 = .ok (.invokevirtual 119, 3) := by decide +kernel
theorem dX6_width_49 : decode cX6_width 49 = .ok (.ireturn, 1) := by decide +kernel
set_option maxRecDepth 20000 in
theorem ggX6_lays_X6_areTwoNodes : GoodIn wsX6_lays wsX6_areTwoNodes := goodIn_r _ [7, 1, 8, 9, 10, 11, 12, 13, 56, 57, 58, 59, 60, 61, 62, 63, 64, 65, 66, 67, 68, 69, 70, 71, 72, 73] rfl (by decide +kernel)
set_option maxRecDepth 20000 in
theorem gX6_lays_X6_areTwoNodes : GoodIn wsX6_lays (wsV RX6 123 RX6 yX6_areTwoNodes wsX6_areTwoNodes) := goodIn_app (goodIn_of _ (by decide +kernel)) ggX6_lays_X6_areTwoNodes
set_option maxRecDepth 20000 in
theorem ggX6_lays_X6_isWidth : GoodIn wsX6_lays wsX6_isWidth := goodIn_r _ [16] rfl (by decide +kernel)
set_option maxRecDepth 20000 in
theorem gX6_lays_X6_isWidth : GoodIn wsX6_lays (va_wsS RX6 127 yX6_isWidth wsX6_isWidth) := goodIn_app (goodIn_of _ (by decide +kernel)) ggX6_lays_X6_isWidth
set_option maxRecDepth 20000 in
theorem ggX6_lays_X1_widthAt : GoodIn wsX6_lays wsX1_widthAt := goodIn_r _ [20, 21, 22, 9, 10, 11, 12, 13, 69, 70, 71, 72, 73] rfl (by decide +kernel)
set_option maxRecDepth 20000 in
theorem gX6_lays_X1_widthAt : GoodIn wsX6_lays (wsV RX6 119 RX1 yX1_widthAt wsX1_widthAt) := goodIn_app (goodIn_of _ (by decide +kernel)) ggX6_lays_X1_widthAt
set_option maxRecDepth 20000 in
theorem ggX6_lays_X6_change : GoodIn wsX6_lays wsX6_change := goodIn_r _ [26, 27, 1, 17, 18, 19, 11, 20, 21, 22, 9, 10, 12, 13, 28, 29, 30, 31, 32, 33, 34, 35, 36, 37, 38, 39, 40, 41, 42, 43, 44, 45, 46, 47, 48, 49, 50, 51, 52, 53, 54, 55, 56, 57, 58, 59, 60, 61, 62, 63, 64, 65, 66, 67, 68, 69, 70, 71, 72, 73, 74, 75, 76, 77] rfl (by decide +kernel)
set_option maxRecDepth 20000 in
theorem gX6_lays_X6_change : GoodIn wsX6_lays (wsV RX6 133 RX6 yX6_change wsX6_change) := goodIn_app (goodIn_of _ (by decide +kernel)) ggX6_lays_X6_change
theorem dX6_lays_0 : decode cX6_lays 0 = .ok (.aload_n 0, 1) := by decide +kernel
theorem dX6_lays_1 : decode cX6_lays 1 = .ok (.iload_n 1, 1) := by decide +kernel
theorem dX6_lays_2 : decode cX6_lays 2 = .ok (.iload_n 2, 1) := by decide +kernel
theorem dX6_lays_3 : decode cX6_lays 3 = .ok (.invokevirtual 123, 3) := by decide +kernel
theorem dX6_lays_6 : decode cX6_lays 6 = .ok (.ifCond .eq 10, 3) := by decide +kernel
theorem dX6_lays_9 : decode cX6_lays 9 = .ok (.iload_n 3, 1) := by decide +kernel
theorem dX6_lays_10 : decode cX6_lays 10 = .ok (.invokestatic 127, 3) := by decide +kernel
theorem dX6_lays_13 : decode cX6_lays 13 = .ok (.ifCond .ne 5, 3) := by decide +kernel
theorem dX6_lays_16 : decode cX6_lays 16 = .ok (.iconst (-1), 1) := by decide +kernel
theorem dX6_lays_17 : decode cX6_lays 17 = .ok (.ireturn, 1) := by decide +kernel
theorem dX6_lays_18 : decode cX6_lays 18 = .ok (.aload_n 0, 1) := by decide +kernel
theorem dX6_lays_19 : decode cX6_lays 19 = .ok (.getfield 19, 3) := by decide +kernel
theorem dX6_lays_22 : decode cX6_lays 22 = .ok (.iload_n 1, 1) := by decide +kernel
theorem dX6_lays_23 : decode cX6_lays 23 = .ok (.iload_n 2, 1) := by decide +kernel
theorem dX6_lays_24 : decode cX6_lays 24 = .ok (.invokevirtual 119, 3) := by decide +kernel
theorem dX6_lays_27 : decode cX6_lays 27 = .ok (.ifCond .eq 6, 3) := by decide +kernel
theorem dX6_lays_30 : decode cX6_lays 30 = .ok (.bipush (-2), 2) := by decide +kernel
theorem dX6_lays_32 : decode cX6_lays 32 = .ok (.ireturn, 1) := by decide +kernel
theorem dX6_lays_33 : decode cX6_lays 33 = .ok (.aload_n 0, 1) := by decide +kernel
theorem dX6_lays_34 : decode cX6_lays 34 = .ok (.getfield 19, 3) := by decide +kernel
theorem dX6_lays_37 : decode cX6_lays 37 = .ok (.getfield 130, 3) := by decide +kernel
theorem dX6_lays_40 : decode cX6_lays 40 = .ok (.bipush 10, 2) := by decide +kernel
theorem dX6_lays_42 : decode cX6_lays 42 = .ok (.if_icmp .lt 6, 3) := by decide +kernel
theorem dX6_lays_45 : decode cX6_lays 45 = .ok (.bipush (-3), 2) := by decide +kernel
theorem dX6_lays_47 : decode cX6_lays 47 = .ok (.ireturn, 1) := by decide +kernel
theorem dX6_lays_48 : decode cX6_lays 48 = .ok (.aload_n 0, 1) := by decide +kernel
theorem dX6_lays_49 : decode cX6_lays 49 = .ok (.iload_n 1, 1) := by decide +kernel
theorem dX6_lays_50 : decode cX6_lays 50 = .ok (.iload_n 2, 1) := by decide +kernel
theorem dX6_lays_51 : decode cX6_lays 51 = .ok (.iload_n 3, 1) := by decide +kernel
theorem dX6_lays_52 : decode cX6_lays 52 = .ok (.invokevirtual 133, 3) := by decide +kernel
theorem dX6_lays_55 : decode cX6_lays 55 = .ok (.aload_n 0, 1) := by decide +kernel
theorem dX6_lays_56 : decode cX6_lays 56 = .ok (.getfield 19, 3) := by decide +kernel
theorem dX6_lays_59 : decode cX6_lays 59 = .ok (.getfield 130, 3) := by decide +kernel
theorem dX6_lays_62 : decode cX6_lays 62 = .ok (.ireturn, 1) := by decide +kernel
set_option maxRecDepth 20000 in
theorem ggX6_widens_X1_hasLine : GoodIn wsX6_widens wsX1_hasLine := goodIn_r _ [6, 7, 83, 84, 85, 86, 87] rfl (by decide +kernel)
set_option maxRecDepth 20000 in
theorem gX6_widens_X1_hasLine : GoodIn wsX6_widens (wsV RX6 100 RX1 yX1_hasLine wsX1_hasLine) := goodIn_app (goodIn_of _ (by decide +kernel)) ggX6_widens_X1_hasLine
set_option maxRecDepth 20000 in
theorem ggX6_widens_X6_isWidth : GoodIn wsX6_widens wsX6_isWidth := goodIn_r _ [11] rfl (by decide +kernel)
set_option maxRecDepth 20000 in
theorem gX6_widens_X6_isWidth : GoodIn wsX6_widens (va_wsS RX6 127 yX6_isWidth wsX6_isWidth) := goodIn_app (goodIn_of _ (by decide +kernel)) ggX6_widens_X6_isWidth
set_option maxRecDepth 20000 in
theorem ggX6_widens_X1_widthOf : GoodIn wsX6_widens wsX1_widthOf := goodIn_r _ [15, 16, 17, 18, 5, 19, 20, 21, 3, 4, 6, 7, 22, 23, 24, 25, 26, 27, 28, 29, 30, 31, 32, 33, 34, 35, 36, 83, 84, 85, 86, 87] rfl (by decide +kernel)
set_option maxRecDepth 20000 in
theorem gX6_widens_X1_widthOf : GoodIn wsX6_widens (wsV RX6 110 RX1 yX1_widthOf wsX1_widthOf) := goodIn_app (goodIn_of _ (by decide +kernel)) ggX6_widens_X1_widthOf
set_option maxRecDepth 20000 in
theorem ggX6_widens_X1_lowOf : GoodIn wsX6_widens wsX1_lowOf := goodIn_r _ [19, 20, 21, 3, 4, 5, 6, 7, 83, 84, 85, 86, 87] rfl (by decide +kernel)
set_option maxRecDepth 20000 in
theorem gX6_widens_X1_lowOf : GoodIn wsX6_widens (wsV RX6 103 RX1 yX1_lowOf wsX1_lowOf) := goodIn_app (goodIn_of _ (by decide +kernel)) ggX6_widens_X1_lowOf
set_option maxRecDepth 20000 in
theorem ggX6_widens_X1_highOf : GoodIn wsX6_widens wsX1_highOf := goodIn_r _ [25, 26, 21, 3, 4, 5, 6, 7, 83, 84, 85, 86, 87] rfl (by decide +kernel)
set_option maxRecDepth 20000 in
theorem gX6_widens_X1_highOf : GoodIn wsX6_widens (wsV RX6 107 RX1 yX1_highOf wsX1_highOf) := goodIn_app (goodIn_of _ (by decide +kernel)) ggX6_widens_X1_highOf
set_option maxRecDepth 20000 in
theorem ggX6_widens_X6_change : GoodIn wsX6_widens wsX6_change := goodIn_r _ [42, 43, 1, 44, 28, 29, 5, 30, 31, 32, 33, 34, 35, 36, 45, 46, 47, 48, 49, 50, 51, 52, 53, 54, 55, 56, 57, 58, 59, 60, 61, 62, 63, 64, 65, 66, 67, 68, 69, 7, 20, 26, 70, 71, 72, 73, 74, 75, 76, 77, 78, 79, 80, 81, 82, 83, 84, 85, 86, 87, 88, 89, 90, 91] rfl (by decide +kernel)
set_option maxRecDepth 20000 in
theorem gX6_widens_X6_change : GoodIn wsX6_widens (wsV RX6 133 RX6 yX6_change wsX6_change) := goodIn_app (goodIn_of _ (by decide +kernel)) ggX6_widens_X6_change
theorem dX6_widens_0 : decode cX6_widens 0 = .ok (.aload_n 0, 1) := by decide +kernel
theorem dX6_widens_1 : decode cX6_widens 1 = .ok (.getfield 19, 3) := by decide +kernel
theorem dX6_widens_4 : decode cX6_widens 4 = .ok (.iload_n 1, 1) := by decide +kernel
theorem dX6_widens_5 : decode cX6_widens 5 = .ok (.invokevirtual 100, 3) := by decide +kernel
theorem dX6_widens_8 : decode cX6_widens 8 = .ok (.ifCond .eq 10, 3) := by decide +kernel
theorem dX6_widens_11 : decode cX6_widens 11 = .ok (.iload_n 2, 1) := by decide +kernel
theorem dX6_widens_12 : decode cX6_widens 12 = .ok (.invokestatic 127, 3) := by decide +kernel
theorem dX6_widens_15 : decode cX6_widens 15 = .ok (.ifCond .ne 5, 3) := by decide +kernel
theorem dX6_widens_18 : decode cX6_widens 18 = .ok (.iconst (-1), 1) := by decide +kernel
theorem dX6_widens_19 : decode cX6_widens 19 = .ok (.ireturn, 1) := by decide +kernel
theorem dX6_widens_20 : decode cX6_widens 20 = .ok (.aload_n 0, 1) := by decide +kernel
theorem dX6_widens_21 : decode cX6_widens 21 = .ok (.getfield 19, 3) := by decide +kernel
theorem dX6_widens_24 : decode cX6_widens 24 = .ok (.iload_n 1, 1) := by decide +kernel
theorem dX6_widens_25 : decode cX6_widens 25 = .ok (.invokevirtual 110, 3) := by decide +kernel
theorem dX6_widens_28 : decode cX6_widens 28 = .ok (.istore_n 3, 1) := by decide +kernel
theorem dX6_widens_29 : decode cX6_widens 29 = .ok (.iload_n 3, 1) := by decide +kernel
theorem dX6_widens_30 : decode cX6_widens 30 = .ok (.iload_n 2, 1) := by decide +kernel
theorem dX6_widens_31 : decode cX6_widens 31 = .ok (.if_icmp .ne 6, 3) := by decide +kernel
theorem dX6_widens_34 : decode cX6_widens 34 = .ok (.bipush (-2), 2) := by decide +kernel
theorem dX6_widens_36 : decode cX6_widens 36 = .ok (.ireturn, 1) := by decide +kernel
theorem dX6_widens_37 : decode cX6_widens 37 = .ok (.aload_n 0, 1) := by decide +kernel
theorem dX6_widens_38 : decode cX6_widens 38 = .ok (.aload_n 0, 1) := by decide +kernel
theorem dX6_widens_39 : decode cX6_widens 39 = .ok (.getfield 19, 3) := by decide +kernel
theorem dX6_widens_42 : decode cX6_widens 42 = .ok (.iload_n 1, 1) := by decide +kernel
theorem dX6_widens_43 : decode cX6_widens 43 = .ok (.invokevirtual 103, 3) := by decide +kernel
theorem dX6_widens_46 : decode cX6_widens 46 = .ok (.aload_n 0, 1) := by decide +kernel
theorem dX6_widens_47 : decode cX6_widens 47 = .ok (.getfield 19, 3) := by decide +kernel
theorem dX6_widens_50 : decode cX6_widens 50 = .ok (.iload_n 1, 1) := by decide +kernel
theorem dX6_widens_51 : decode cX6_widens 51 = .ok (.invokevirtual 107, 3) := by decide +kernel
theorem dX6_widens_54 : decode cX6_widens 54 = .ok (.iload_n 2, 1) := by decide +kernel
theorem dX6_widens_55 : decode cX6_widens 55 = .ok (.invokevirtual 133, 3) := by decide +kernel
theorem dX6_widens_58 : decode cX6_widens 58 = .ok (.iload_n 3, 1) := by decide +kernel
theorem dX6_widens_59 : decode cX6_widens 59 = .ok (.ireturn, 1) := by decide +kernel
set_option maxRecDepth 20000 in
theorem ggX6_cuts_X1_hasLine : GoodIn wsX6_cuts wsX1_hasLine := goodIn_r _ [7, 8, 74, 75, 76, 77, 78] rfl (by decide +kernel)
set_option maxRecDepth 20000 in
theorem gX6_cuts_X1_hasLine : GoodIn wsX6_cuts (wsV RX6 100 RX1 yX1_hasLine wsX1_hasLine) := goodIn_app (goodIn_of _ (by decide +kernel)) ggX6_cuts_X1_hasLine
set_option maxRecDepth 20000 in
theorem ggX6_cuts_X1_lowOf : GoodIn wsX6_cuts wsX1_lowOf := goodIn_r _ [12, 13, 14, 4, 5, 6, 7, 8, 74, 75, 76, 77, 78] rfl (by decide +kernel)
set_option maxRecDepth 20000 in
theorem gX6_cuts_X1_lowOf : GoodIn wsX6_cuts (wsV RX6 103 RX1 yX1_lowOf wsX1_lowOf) := goodIn_app (goodIn_of _ (by decide +kernel)) ggX6_cuts_X1_lowOf
set_option maxRecDepth 20000 in
theorem ggX6_cuts_X1_highOf : GoodIn wsX6_cuts wsX1_highOf := goodIn_r _ [18, 19, 14, 4, 5, 6, 7, 8, 74, 75, 76, 77, 78] rfl (by decide +kernel)
set_option maxRecDepth 20000 in
theorem gX6_cuts_X1_highOf : GoodIn wsX6_cuts (wsV RX6 107 RX1 yX1_highOf wsX1_highOf) := goodIn_app (goodIn_of _ (by decide +kernel)) ggX6_cuts_X1_highOf
set_option maxRecDepth 20000 in
theorem ggX6_cuts_X6_change : GoodIn wsX6_cuts wsX6_change := goodIn_r _ [24, 25, 1, 26, 27, 28, 6, 29, 30, 31, 32, 33, 34, 35, 36, 37, 38, 39, 40, 41, 42, 43, 44, 45, 46, 47, 48, 49, 50, 51, 52, 53, 54, 55, 56, 57, 58, 59, 60, 8, 13, 19, 61, 62, 63, 64, 65, 66, 67, 68, 69, 70, 71, 72, 73, 74, 75, 76, 77, 78, 79, 80, 81, 82] rfl (by decide +kernel)
set_option maxRecDepth 20000 in
theorem gX6_cuts_X6_change : GoodIn wsX6_cuts (wsV RX6 133 RX6 yX6_change wsX6_change) := goodIn_app (goodIn_of _ (by decide +kernel)) ggX6_cuts_X6_change
theorem dX6_cuts_0 : decode cX6_cuts 0 = .ok (.aload_n 0, 1) := by decide +kernel
theorem dX6_cuts_1 : decode cX6_cuts 1 = .ok (.getfield 19, 3) := by decide +kernel
theorem dX6_cuts_4 : decode cX6_cuts 4 = .ok (.iload_n 1, 1) := by decide +kernel
theorem dX6_cuts_5 : decode cX6_cuts 5 = .ok (.invokevirtual 100, 3) := by decide +kernel
theorem dX6_cuts_8 : decode cX6_cuts 8 = .ok (.ifCond .ne 5, 3) := by decide +kernel
theorem dX6_cuts_11 : decode cX6_cuts 11 = .ok (.iconst (-1), 1) := by decide +kernel
theorem dX6_cuts_12 : decode cX6_cuts 12 = .ok (.ireturn, 1) := by decide +kernel
theorem dX6_cuts_13 : decode cX6_cuts 13 = .ok (.aload_n 0, 1) := by decide +kernel
theorem dX6_cuts_14 : decode cX6_cuts 14 = .ok (.aload_n 0, 1) := by decide +kernel
theorem dX6_cuts_15 : decode cX6_cuts 15 = .ok (.getfield 19, 3) := by decide +kernel
theorem dX6_cuts_18 : decode cX6_cuts 18 = .ok (.iload_n 1, 1) := by decide +kernel
theorem dX6_cuts_19 : decode cX6_cuts 19 = .ok (.invokevirtual 103, 3) := by decide +kernel
theorem dX6_cuts_22 : decode cX6_cuts 22 = .ok (.aload_n 0, 1) := by decide +kernel
theorem dX6_cuts_23 : decode cX6_cuts 23 = .ok (.getfield 19, 3) := by decide +kernel
theorem dX6_cuts_26 : decode cX6_cuts 26 = .ok (.iload_n 1, 1) := by decide +kernel
theorem dX6_cuts_27 : decode cX6_cuts 27 = .ok (.invokevirtual 107, 3) := by decide +kernel
theorem dX6_cuts_30 : decode cX6_cuts 30 = .ok (.iconst 0, 1) := by decide +kernel
theorem dX6_cuts_31 : decode cX6_cuts 31 = .ok (.invokevirtual 133, 3) := by decide +kernel
theorem dX6_cuts_34 : decode cX6_cuts 34 = .ok (.aload_n 0, 1) := by decide +kernel
theorem dX6_cuts_35 : decode cX6_cuts 35 = .ok (.getfield 19, 3) := by decide +kernel
theorem dX6_cuts_38 : decode cX6_cuts 38 = .ok (.getfield 130, 3) := by decide +kernel
theorem dX6_cuts_41 : decode cX6_cuts 41 = .ok (.ireturn, 1) := by decide +kernel
set_option maxRecDepth 20000 in
theorem ggX6_undo_X2_takesBack : GoodIn wsX6_undo wsX2_takesBack := goodIn_r _ [8, 9, 10, 11, 12, 13, 14, 15, 16, 17, 18, 19, 20, 21, 22, 23, 24, 25, 26, 27, 28, 29, 30, 44, 45, 46, 47, 48, 49, 50, 51, 52] rfl (by decide +kernel)
set_option maxRecDepth 20000 in
theorem gX6_undo_X2_takesBack : GoodIn wsX6_undo (wsV RX6 137 RX2 yX2_takesBack wsX2_takesBack) := goodIn_app (goodIn_of _ (by decide +kernel)) ggX6_undo_X2_takesBack
theorem dX6_undo_0 : decode cX6_undo 0 = .ok (.aload_n 0, 1) := by decide +kernel
theorem dX6_undo_1 : decode cX6_undo 1 = .ok (.getfield 36, 3) := by decide +kernel
theorem dX6_undo_4 : decode cX6_undo 4 = .ok (.aload_n 0, 1) := by decide +kernel
theorem dX6_undo_5 : decode cX6_undo 5 = .ok (.getfield 19, 3) := by decide +kernel
theorem dX6_undo_8 : decode cX6_undo 8 = .ok (.invokevirtual 137, 3) := by decide +kernel
theorem dX6_undo_11 : decode cX6_undo 11 = .ok (.ifCond .eq 13, 3) := by decide +kernel
theorem dX6_undo_14 : decode cX6_undo 14 = .ok (.aload_n 0, 1) := by decide +kernel
theorem dX6_undo_15 : decode cX6_undo 15 = .ok (.getfield 36, 3) := by decide +kernel
theorem dX6_undo_18 : decode cX6_undo 18 = .ok (.getfield 91, 3) := by decide +kernel
theorem dX6_undo_21 : decode cX6_undo 21 = .ok (.goto 5, 3) := by decide +kernel
theorem dX6_undo_24 : decode cX6_undo 24 = .ok (.bipush (-2), 2) := by decide +kernel
theorem dX6_undo_26 : decode cX6_undo 26 = .ok (.ireturn, 1) := by decide +kernel
set_option maxRecDepth 20000 in
theorem ggX6_hitting_X1_hasNode : GoodIn wsX6_hitting wsX1_hasNode := goodIn_r _ [9, 10, 96, 97, 98, 99, 100] rfl (by decide +kernel)
set_option maxRecDepth 20000 in
theorem gX6_hitting_X1_hasNode : GoodIn wsX6_hitting (wsV RX6 113 RX1 yX1_hasNode wsX1_hasNode) := goodIn_app (goodIn_of _ (by decide +kernel)) ggX6_hitting_X1_hasNode
set_option maxRecDepth 20000 in
theorem ggX6_hitting_X6_isPart : GoodIn wsX6_hitting wsX6_isPart := goodIn_r _ [14] rfl (by decide +kernel)
set_option maxRecDepth 20000 in
theorem gX6_hitting_X6_isPart : GoodIn wsX6_hitting (va_wsS RX6 140 yX6_isPart wsX6_isPart) := goodIn_app (goodIn_of _ (by decide +kernel)) ggX6_hitting_X6_isPart
set_option maxRecDepth 20000 in
theorem ggX6_hitting_X1_hangs : GoodIn wsX6_hitting wsX1_hangs := goodIn_r _ [18, 19, 20, 21, 22, 8, 23, 10, 24, 25, 26, 27, 28, 29, 30, 31, 32, 33, 34, 35, 36, 37, 96, 97, 98, 99, 100] rfl (by decide +kernel)
set_option maxRecDepth 20000 in
theorem gX6_hitting_X1_hangs : GoodIn wsX6_hitting (wsV RX6 145 RX1 yX1_hangs wsX1_hangs) := goodIn_app (goodIn_of _ (by decide +kernel)) ggX6_hitting_X1_hangs
set_option maxRecDepth 20000 in
theorem ggX6_hitting_X0_stepSum : GoodIn wsX6_hitting wsX0_stepSum := goodIn_r _ [42, 43, 44, 45, 46, 47, 48, 41, 49, 50, 51, 52, 53, 54, 55, 56, 57, 8, 58, 10, 59, 60, 6, 7, 9, 61, 62, 63, 64, 65, 66, 67, 68, 101, 102, 103, 96, 97, 98, 99, 100] rfl (by decide +kernel)
set_option maxRecDepth 20000 in
theorem gX6_hitting_X0_stepSum : GoodIn wsX6_hitting (wsV RX6 151 RX0 yX0_stepSum wsX0_stepSum) := goodIn_app (goodIn_of _ (by decide +kernel)) ggX6_hitting_X0_stepSum
set_option maxRecDepth 20000 in
theorem ggX6_hitting_X0_treeSum : GoodIn wsX6_hitting wsX0_treeSum := goodIn_r _ [72, 46, 47, 48, 41, 49, 43, 50, 44, 45, 51, 52, 53, 54, 55, 56, 57, 8, 58, 10, 59, 60, 6, 7, 9, 61, 62, 63, 64, 65, 66, 67, 68, 101, 102, 103, 96, 97, 98, 99, 100] rfl (by decide +kernel)
set_option maxRecDepth 20000 in
theorem gX6_hitting_X0_treeSum : GoodIn wsX6_hitting (wsV RX6 155 RX0 yX0_treeSum wsX0_treeSum) := goodIn_app (goodIn_of _ (by decide +kernel)) ggX6_hitting_X0_treeSum
set_option maxRecDepth 20000 in
theorem ggX6_hitting_X6_partOf : GoodIn wsX6_hitting wsX6_partOf := goodIn_r _ [75, 76, 77, 13, 78, 79, 80, 81, 82] rfl (by decide +kernel)
set_option maxRecDepth 20000 in
theorem gX6_hitting_X6_partOf : GoodIn wsX6_hitting (va_wsS RX6 159 yX6_partOf wsX6_partOf) := goodIn_app (goodIn_of _ (by decide +kernel)) ggX6_hitting_X6_partOf
theorem dX6_hitting_0 : decode cX6_hitting 0 = .ok (.aload_n 0, 1) := by decide +kernel
theorem dX6_hitting_1 : decode cX6_hitting 1 = .ok (.getfield 19, 3) := by decide +kernel
theorem dX6_hitting_4 : decode cX6_hitting 4 = .ok (.iload_n 1, 1) := by decide +kernel
theorem dX6_hitting_5 : decode cX6_hitting 5 = .ok (.invokevirtual 113, 3) := by decide +kernel
theorem dX6_hitting_8 : decode cX6_hitting 8 = .ok (.ifCond .eq 21, 3) := by decide +kernel
theorem dX6_hitting_11 : decode cX6_hitting 11 = .ok (.aload_n 0, 1) := by decide +kernel
theorem dX6_hitting_12 : decode cX6_hitting 12 = .ok (.getfield 19, 3) := by decide +kernel
theorem dX6_hitting_15 : decode cX6_hitting 15 = .ok (.iload_n 2, 1) := by decide +kernel
theorem dX6_hitting_16 : decode cX6_hitting 16 = .ok (.invokevirtual 113, 3) := by decide +kernel
theorem dX6_hitting_19 : decode cX6_hitting 19 = .ok (.ifCond .eq 10, 3) := by decide +kernel
theorem dX6_hitting_22 : decode cX6_hitting 22 = .ok (.iload_n 3, 1) := by decide +kernel
theorem dX6_hitting_23 : decode cX6_hitting 23 = .ok (.invokestatic 140, 3) := by decide +kernel
theorem dX6_hitting_26 : decode cX6_hitting 26 = .ok (.ifCond .ne 7, 3) := by decide +kernel
theorem dX6_hitting_29 : decode cX6_hitting 29 = .ok (.ldc2_w 143, 3) := by decide +kernel
theorem dX6_hitting_32 : decode cX6_hitting 32 = .ok (.lreturn, 1) := by decide +kernel
theorem dX6_hitting_33 : decode cX6_hitting 33 = .ok (.aload_n 0, 1) := by decide +kernel
theorem dX6_hitting_34 : decode cX6_hitting 34 = .ok (.getfield 19, 3) := by decide +kernel
theorem dX6_hitting_37 : decode cX6_hitting 37 = .ok (.invokevirtual 145, 3) := by decide +kernel
theorem dX6_hitting_40 : decode cX6_hitting 40 = .ok (.ifCond .ne 7, 3) := by decide +kernel
theorem dX6_hitting_43 : decode cX6_hitting 43 = .ok (.ldc2_w 149, 3) := by decide +kernel
theorem dX6_hitting_46 : decode cX6_hitting 46 = .ok (.lreturn, 1) := by decide +kernel
theorem dX6_hitting_47 : decode cX6_hitting 47 = .ok (.aload_n 0, 1) := by decide +kernel
theorem dX6_hitting_48 : decode cX6_hitting 48 = .ok (.getfield 43, 3) := by decide +kernel
theorem dX6_hitting_51 : decode cX6_hitting 51 = .ok (.aload_n 0, 1) := by decide +kernel
theorem dX6_hitting_52 : decode cX6_hitting 52 = .ok (.getfield 19, 3) := by decide +kernel
theorem dX6_hitting_55 : decode cX6_hitting 55 = .ok (.iload_n 1, 1) := by decide +kernel
theorem dX6_hitting_56 : decode cX6_hitting 56 = .ok (.iload_n 2, 1) := by decide +kernel
theorem dX6_hitting_57 : decode cX6_hitting 57 = .ok (.invokevirtual 151, 3) := by decide +kernel
theorem dX6_hitting_60 : decode cX6_hitting 60 = .ok (.aload_n 0, 1) := by decide +kernel
theorem dX6_hitting_61 : decode cX6_hitting 61 = .ok (.getfield 43, 3) := by decide +kernel
theorem dX6_hitting_64 : decode cX6_hitting 64 = .ok (.aload_n 0, 1) := by decide +kernel
theorem dX6_hitting_65 : decode cX6_hitting 65 = .ok (.getfield 19, 3) := by decide +kernel
theorem dX6_hitting_68 : decode cX6_hitting 68 = .ok (.invokevirtual 155, 3) := by decide +kernel
theorem dX6_hitting_71 : decode cX6_hitting 71 = .ok (.iload_n 3, 1) := by decide +kernel
theorem dX6_hitting_72 : decode cX6_hitting 72 = .ok (.invokestatic 159, 3) := by decide +kernel
theorem dX6_hitting_75 : decode cX6_hitting 75 = .ok (.lreturn, 1) := by decide +kernel
set_option maxRecDepth 20000 in
theorem ggX6_between_X1_hasNode : GoodIn wsX6_between wsX1_hasNode := goodIn_r _ [10, 11, 106, 107, 108, 109, 110] rfl (by decide +kernel)
set_option maxRecDepth 20000 in
theorem gX6_between_X1_hasNode : GoodIn wsX6_between (wsV RX6 113 RX1 yX1_hasNode wsX1_hasNode) := goodIn_app (goodIn_of _ (by decide +kernel)) ggX6_between_X1_hasNode
set_option maxRecDepth 20000 in
theorem ggX6_between_X6_isPart : GoodIn wsX6_between wsX6_isPart := goodIn_r _ [15] rfl (by decide +kernel)
set_option maxRecDepth 20000 in
theorem gX6_between_X6_isPart : GoodIn wsX6_between (va_wsS RX6 140 yX6_isPart wsX6_isPart) := goodIn_app (goodIn_of _ (by decide +kernel)) ggX6_between_X6_isPart
set_option maxRecDepth 20000 in
theorem ggX6_between_X1_hangs : GoodIn wsX6_between wsX1_hangs := goodIn_r _ [19, 20, 21, 22, 23, 9, 24, 11, 25, 26, 27, 28, 29, 30, 31, 32, 33, 34, 35, 36, 37, 38, 106, 107, 108, 109, 110] rfl (by decide +kernel)
set_option maxRecDepth 20000 in
theorem gX6_between_X1_hangs : GoodIn wsX6_between (wsV RX6 145 RX1 yX1_hangs wsX1_hangs) := goodIn_app (goodIn_of _ (by decide +kernel)) ggX6_between_X1_hangs
set_option maxRecDepth 20000 in
theorem ggX6_between_X0_stepSum : GoodIn wsX6_between wsX0_stepSum := goodIn_r _ [43, 44, 45, 46, 47, 48, 49, 42, 50, 51, 52, 53, 54, 55, 56, 57, 58, 9, 59, 11, 60, 61, 7, 8, 10, 62, 63, 64, 65, 66, 67, 68, 69, 111, 112, 113, 106, 107, 108, 109, 110] rfl (by decide +kernel)
set_option maxRecDepth 20000 in
theorem gX6_between_X0_stepSum : GoodIn wsX6_between (wsV RX6 151 RX0 yX0_stepSum wsX0_stepSum) := goodIn_app (goodIn_of _ (by decide +kernel)) ggX6_between_X0_stepSum
set_option maxRecDepth 20000 in
theorem ggX6_between_X0_treeSum : GoodIn wsX6_between wsX0_treeSum := goodIn_r _ [73, 47, 48, 49, 42, 50, 44, 51, 45, 46, 52, 53, 54, 55, 56, 57, 58, 9, 59, 11, 60, 61, 7, 8, 10, 62, 63, 64, 65, 66, 67, 68, 69, 111, 112, 113, 106, 107, 108, 109, 110] rfl (by decide +kernel)
set_option maxRecDepth 20000 in
theorem gX6_between_X0_treeSum : GoodIn wsX6_between (wsV RX6 155 RX0 yX0_treeSum wsX0_treeSum) := goodIn_app (goodIn_of _ (by decide +kernel)) ggX6_between_X0_treeSum
set_option maxRecDepth 20000 in
theorem ggX6_between_X1_whole : GoodIn wsX6_between wsX1_whole := goodIn_r _ [77, 20, 78, 79, 80, 9, 81, 25, 26, 27, 28, 29, 30, 31, 32, 33, 34, 35, 36, 37, 38, 82, 63, 64, 65, 60, 61, 7, 8, 10, 11, 106, 107, 108, 109, 110] rfl (by decide +kernel)
set_option maxRecDepth 20000 in
theorem gX6_between_X1_whole : GoodIn wsX6_between (wsV RX6 165 RX1 yX1_whole wsX1_whole) := goodIn_app (goodIn_of _ (by decide +kernel)) ggX6_between_X1_whole
set_option maxRecDepth 20000 in
theorem ggX6_between_X6_partOf : GoodIn wsX6_between wsX6_partOf := goodIn_r _ [85, 86, 87, 14, 88, 89, 90, 91, 92] rfl (by decide +kernel)
set_option maxRecDepth 20000 in
theorem gX6_between_X6_partOf : GoodIn wsX6_between (va_wsS RX6 159 yX6_partOf wsX6_partOf) := goodIn_app (goodIn_of _ (by decide +kernel)) ggX6_between_X6_partOf
theorem dX6_between_0 : decode cX6_between 0 = .ok (.aload_n 0, 1) := by decide +kernel
theorem dX6_between_1 : decode cX6_between 1 = .ok (.getfield 19, 3) := by decide +kernel
theorem dX6_between_4 : decode cX6_between 4 = .ok (.iload_n 1, 1) := by decide +kernel
theorem dX6_between_5 : decode cX6_between 5 = .ok (.invokevirtual 113, 3) := by decide +kernel
theorem dX6_between_8 : decode cX6_between 8 = .ok (.ifCond .eq 31, 3) := by decide +kernel
theorem dX6_between_11 : decode cX6_between 11 = .ok (.aload_n 0, 1) := by decide +kernel
theorem dX6_between_12 : decode cX6_between 12 = .ok (.getfield 19, 3) := by decide +kernel
theorem dX6_between_15 : decode cX6_between 15 = .ok (.iload_n 2, 1) := by decide +kernel
theorem dX6_between_16 : decode cX6_between 16 = .ok (.invokevirtual 113, 3) := by decide +kernel
theorem dX6_between_19 : decode cX6_between 19 = .ok (.ifCond .eq 20, 3) := by decide +kernel
theorem dX6_between_22 : decode cX6_between 22 = .ok (.iload_n 3, 1) := by decide +kernel
theorem dX6_between_23 : decode cX6_between 23 = .ok (.ifCond .lt 16, 3) := by decide +kernel
theorem dX6_between_26 : decode cX6_between 26 = .ok (.iload_n 3, 1) := by decide +kernel
theorem dX6_between_27 : decode cX6_between 27 = .ok (.iconst 1, 1) := by decide +kernel
theorem dX6_between_28 : decode cX6_between 28 = .ok (.if_icmp .gt 11, 3) := by decide +kernel
theorem dX6_between_31 : decode cX6_between 31 = .ok (.iload 4, 2) := by decide +kernel
theorem dX6_between_33 : decode cX6_between 33 = .ok (.invokestatic 140, 3) := by decide +kernel
theorem dX6_between_36 : decode cX6_between 36 = .ok (.ifCond .ne 7, 3) := by decide +kernel
theorem dX6_between_39 : decode cX6_between 39 = .ok (.ldc2_w 143, 3) := by decide +kernel
theorem dX6_between_42 : decode cX6_between 42 = .ok (.lreturn, 1) := by decide +kernel
theorem dX6_between_43 : decode cX6_between 43 = .ok (.aload_n 0, 1) := by decide +kernel
theorem dX6_between_44 : decode cX6_between 44 = .ok (.getfield 19, 3) := by decide +kernel
theorem dX6_between_47 : decode cX6_between 47 = .ok (.invokevirtual 145, 3) := by decide +kernel
theorem dX6_between_50 : decode cX6_between 50 = .ok (.ifCond .ne 7, 3) := by decide +kernel
theorem dX6_between_53 : decode cX6_between 53 = .ok (.ldc2_w 149, 3) := by decide +kernel
theorem dX6_between_56 : decode cX6_between 56 = .ok (.lreturn, 1) := by decide +kernel
theorem dX6_between_57 : decode cX6_between 57 = .ok (.aload_n 0, 1) := by decide +kernel
theorem dX6_between_58 : decode cX6_between 58 = .ok (.getfield 43, 3) := by decide +kernel
theorem dX6_between_61 : decode cX6_between 61 = .ok (.aload_n 0, 1) := by decide +kernel
theorem dX6_between_62 : decode cX6_between 62 = .ok (.getfield 19, 3) := by decide +kernel
theorem dX6_between_65 : decode cX6_between 65 = .ok (.iload_n 1, 1) := by decide +kernel
theorem dX6_between_66 : decode cX6_between 66 = .ok (.iload_n 2, 1) := by decide +kernel
theorem dX6_between_67 : decode cX6_between 67 = .ok (.invokevirtual 151, 3) := by decide +kernel
theorem dX6_between_70 : decode cX6_between 70 = .ok (.aload_n 0, 1) := by decide +kernel
theorem dX6_between_71 : decode cX6_between 71 = .ok (.getfield 43, 3) := by decide +kernel
theorem dX6_between_74 : decode cX6_between 74 = .ok (.aload_n 0, 1) := by decide +kernel
theorem dX6_between_75 : decode cX6_between 75 = .ok (.getfield 19, 3) := by decide +kernel
theorem dX6_between_78 : decode cX6_between 78 = .ok (.iload_n 2, 1) := by decide +kernel
theorem dX6_between_79 : decode cX6_between 79 = .ok (.iload_n 1, 1) := by decide +kernel
theorem dX6_between_80 : decode cX6_between 80 = .ok (.invokevirtual 151, 3) := by decide +kernel
theorem dX6_between_83 : decode cX6_between 83 = .ok (.ladd, 1) := by decide +kernel
theorem dX6_between_84 : decode cX6_between 84 = .ok (.lstore 5, 2) := by decide +kernel
theorem dX6_between_86 : decode cX6_between 86 = .ok (.aload_n 0, 1) := by decide +kernel
theorem dX6_between_87 : decode cX6_between 87 = .ok (.getfield 43, 3) := by decide +kernel
theorem dX6_between_90 : decode cX6_between 90 = .ok (.aload_n 0, 1) := by decide +kernel
theorem dX6_between_91 : decode cX6_between 91 = .ok (.getfield 19, 3) := by decide +kernel
theorem dX6_between_94 : decode cX6_between 94 = .ok (.invokevirtual 155, 3) := by decide +kernel
theorem dX6_between_97 : decode cX6_between 97 = .ok (.lstore 7, 2) := by decide +kernel
theorem dX6_between_99 : decode cX6_between 99 = .ok (.lload 5, 2) := by decide +kernel
theorem dX6_between_101 : decode cX6_between 101 = .ok (.iload_n 3, 1) := by decide +kernel
theorem dX6_between_102 : decode cX6_between 102 = .ok (.ifCond .ne 8, 3) := by decide +kernel
theorem dX6_between_105 : decode cX6_between 105 = .ok (.lload 7, 2) := by decide +kernel
theorem dX6_between_107 : decode cX6_between 107 = .ok (.goto 18, 3) := by decide +kernel
theorem dX6_between_110 : decode cX6_between 110 = .ok (.lload 7, 2) := by decide +kernel
theorem dX6_between_112 : decode cX6_between 112 = .ok (.ldc2_w 163, 3) := by decide +kernel
theorem dX6_between_115 : decode cX6_between 115 = .ok (.lmul, 1) := by decide +kernel
theorem dX6_between_116 : decode cX6_between 116 = .ok (.aload_n 0, 1) := by decide +kernel
theorem dX6_between_117 : decode cX6_between 117 = .ok (.getfield 19, 3) := by decide +kernel
theorem dX6_between_120 : decode cX6_between 120 = .ok (.invokevirtual 165, 3) := by decide +kernel
theorem dX6_between_123 : decode cX6_between 123 = .ok (.i2l, 1) := by decide +kernel
theorem dX6_between_124 : decode cX6_between 124 = .ok (.lmul, 1) := by decide +kernel
theorem dX6_between_125 : decode cX6_between 125 = .ok (.iload 4, 2) := by decide +kernel
theorem dX6_between_127 : decode cX6_between 127 = .ok (.invokestatic 159, 3) := by decide +kernel
theorem dX6_between_130 : decode cX6_between 130 = .ok (.lreturn, 1) := by decide +kernel
set_option maxRecDepth 20000 in
theorem ggX6_ahead_X1_hasNode : GoodIn wsX6_ahead wsX1_hasNode := goodIn_r _ [9, 10, 96, 97, 98, 99, 100] rfl (by decide +kernel)
set_option maxRecDepth 20000 in
theorem gX6_ahead_X1_hasNode : GoodIn wsX6_ahead (wsV RX6 113 RX1 yX1_hasNode wsX1_hasNode) := goodIn_app (goodIn_of _ (by decide +kernel)) ggX6_ahead_X1_hasNode
set_option maxRecDepth 20000 in
theorem ggX6_ahead_X6_areTwoNodes : GoodIn wsX6_ahead wsX6_areTwoNodes := goodIn_r _ [15, 1, 5, 6, 7, 8, 9, 10, 83, 84, 85, 86, 87, 88, 89, 90, 91, 92, 93, 94, 95, 96, 97, 98, 99, 100] rfl (by decide +kernel)
set_option maxRecDepth 20000 in
theorem gX6_ahead_X6_areTwoNodes : GoodIn wsX6_ahead (wsV RX6 123 RX6 yX6_areTwoNodes wsX6_areTwoNodes) := goodIn_app (goodIn_of _ (by decide +kernel)) ggX6_ahead_X6_areTwoNodes
set_option maxRecDepth 20000 in
theorem ggX6_ahead_X6_isPart : GoodIn wsX6_ahead wsX6_isPart := goodIn_r _ [18] rfl (by decide +kernel)
set_option maxRecDepth 20000 in
theorem gX6_ahead_X6_isPart : GoodIn wsX6_ahead (va_wsS RX6 140 yX6_isPart wsX6_isPart) := goodIn_app (goodIn_of _ (by decide +kernel)) ggX6_ahead_X6_isPart
set_option maxRecDepth 20000 in
theorem ggX6_ahead_X1_hangs : GoodIn wsX6_ahead wsX1_hangs := goodIn_r _ [22, 23, 24, 25, 26, 8, 27, 10, 28, 29, 30, 31, 32, 33, 34, 35, 36, 37, 38, 39, 40, 41, 96, 97, 98, 99, 100] rfl (by decide +kernel)
set_option maxRecDepth 20000 in
theorem gX6_ahead_X1_hangs : GoodIn wsX6_ahead (wsV RX6 145 RX1 yX1_hangs wsX1_hangs) := goodIn_app (goodIn_of _ (by decide +kernel)) ggX6_ahead_X1_hangs
set_option maxRecDepth 20000 in
theorem ggX6_ahead_X0_pullSum : GoodIn wsX6_ahead wsX0_pullSum := goodIn_r _ [46, 47, 48, 49, 50, 51, 52, 45, 53, 54, 55, 56, 57, 58, 59, 60, 61, 8, 62, 10, 63, 64, 6, 7, 9, 65, 66, 67, 68, 69, 70, 71, 72, 101, 102, 103, 96, 97, 98, 99, 100] rfl (by decide +kernel)
set_option maxRecDepth 20000 in
theorem gX6_ahead_X0_pullSum : GoodIn wsX6_ahead (wsV RX6 169 RX0 yX0_pullSum wsX0_pullSum) := goodIn_app (goodIn_of _ (by decide +kernel)) ggX6_ahead_X0_pullSum
set_option maxRecDepth 20000 in
theorem ggX6_ahead_X6_partOf : GoodIn wsX6_ahead wsX6_partOf := goodIn_r _ [75, 76, 77, 14, 78, 79, 80, 81, 82] rfl (by decide +kernel)
set_option maxRecDepth 20000 in
theorem gX6_ahead_X6_partOf : GoodIn wsX6_ahead (va_wsS RX6 159 yX6_partOf wsX6_partOf) := goodIn_app (goodIn_of _ (by decide +kernel)) ggX6_ahead_X6_partOf
theorem dX6_ahead_0 : decode cX6_ahead 0 = .ok (.aload_n 0, 1) := by decide +kernel
theorem dX6_ahead_1 : decode cX6_ahead 1 = .ok (.getfield 19, 3) := by decide +kernel
theorem dX6_ahead_4 : decode cX6_ahead 4 = .ok (.iload_n 1, 1) := by decide +kernel
theorem dX6_ahead_5 : decode cX6_ahead 5 = .ok (.invokevirtual 113, 3) := by decide +kernel
theorem dX6_ahead_8 : decode cX6_ahead 8 = .ok (.ifCond .eq 20, 3) := by decide +kernel
theorem dX6_ahead_11 : decode cX6_ahead 11 = .ok (.aload_n 0, 1) := by decide +kernel
theorem dX6_ahead_12 : decode cX6_ahead 12 = .ok (.iload_n 2, 1) := by decide +kernel
theorem dX6_ahead_13 : decode cX6_ahead 13 = .ok (.iload_n 3, 1) := by decide +kernel
theorem dX6_ahead_14 : decode cX6_ahead 14 = .ok (.invokevirtual 123, 3) := by decide +kernel
theorem dX6_ahead_17 : decode cX6_ahead 17 = .ok (.ifCond .eq 11, 3) := by decide +kernel
theorem dX6_ahead_20 : decode cX6_ahead 20 = .ok (.iload 4, 2) := by decide +kernel
theorem dX6_ahead_22 : decode cX6_ahead 22 = .ok (.invokestatic 140, 3) := by decide +kernel
theorem dX6_ahead_25 : decode cX6_ahead 25 = .ok (.ifCond .ne 7, 3) := by decide +kernel
theorem dX6_ahead_28 : decode cX6_ahead 28 = .ok (.ldc2_w 143, 3) := by decide +kernel
theorem dX6_ahead_31 : decode cX6_ahead 31 = .ok (.lreturn, 1) := by decide +kernel
theorem dX6_ahead_32 : decode cX6_ahead 32 = .ok (.aload_n 0, 1) := by decide +kernel
theorem dX6_ahead_33 : decode cX6_ahead 33 = .ok (.getfield 19, 3) := by decide +kernel
theorem dX6_ahead_36 : decode cX6_ahead 36 = .ok (.invokevirtual 145, 3) := by decide +kernel
theorem dX6_ahead_39 : decode cX6_ahead 39 = .ok (.ifCond .ne 7, 3) := by decide +kernel
theorem dX6_ahead_42 : decode cX6_ahead 42 = .ok (.ldc2_w 149, 3) := by decide +kernel
theorem dX6_ahead_45 : decode cX6_ahead 45 = .ok (.lreturn, 1) := by decide +kernel
theorem dX6_ahead_46 : decode cX6_ahead 46 = .ok (.aload_n 0, 1) := by decide +kernel
theorem dX6_ahead_47 : decode cX6_ahead 47 = .ok (.getfield 43, 3) := by decide +kernel
theorem dX6_ahead_50 : decode cX6_ahead 50 = .ok (.aload_n 0, 1) := by decide +kernel
theorem dX6_ahead_51 : decode cX6_ahead 51 = .ok (.getfield 19, 3) := by decide +kernel
theorem dX6_ahead_54 : decode cX6_ahead 54 = .ok (.iload_n 1, 1) := by decide +kernel
theorem dX6_ahead_55 : decode cX6_ahead 55 = .ok (.iload_n 2, 1) := by decide +kernel
theorem dX6_ahead_56 : decode cX6_ahead 56 = .ok (.iload_n 3, 1) := by decide +kernel
theorem dX6_ahead_57 : decode cX6_ahead 57 = .ok (.invokevirtual 169, 3) := by decide +kernel
theorem dX6_ahead_60 : decode cX6_ahead 60 = .ok (.aload_n 0, 1) := by decide +kernel
theorem dX6_ahead_61 : decode cX6_ahead 61 = .ok (.getfield 43, 3) := by decide +kernel
theorem dX6_ahead_64 : decode cX6_ahead 64 = .ok (.aload_n 0, 1) := by decide +kernel
theorem dX6_ahead_65 : decode cX6_ahead 65 = .ok (.getfield 19, 3) := by decide +kernel
theorem dX6_ahead_68 : decode cX6_ahead 68 = .ok (.iload_n 2, 1) := by decide +kernel
theorem dX6_ahead_69 : decode cX6_ahead 69 = .ok (.iload_n 2, 1) := by decide +kernel
theorem dX6_ahead_70 : decode cX6_ahead 70 = .ok (.iload_n 3, 1) := by decide +kernel
theorem dX6_ahead_71 : decode cX6_ahead 71 = .ok (.invokevirtual 169, 3) := by decide +kernel
theorem dX6_ahead_74 : decode cX6_ahead 74 = .ok (.iload 4, 2) := by decide +kernel
theorem dX6_ahead_76 : decode cX6_ahead 76 = .ok (.invokestatic 159, 3) := by decide +kernel
theorem dX6_ahead_79 : decode cX6_ahead 79 = .ok (.lreturn, 1) := by decide +kernel
set_option maxRecDepth 20000 in
theorem ggX6_walks_X1_hasNode : GoodIn wsX6_walks wsX1_hasNode := goodIn_r _ [8, 9, 54, 55, 56, 57, 58] rfl (by decide +kernel)
set_option maxRecDepth 20000 in
theorem gX6_walks_X1_hasNode : GoodIn wsX6_walks (wsV RX6 113 RX1 yX1_hasNode wsX1_hasNode) := goodIn_app (goodIn_of _ (by decide +kernel)) ggX6_walks_X1_hasNode
set_option maxRecDepth 20000 in
theorem ggX6_walks_X5_goes : GoodIn wsX6_walks wsX5_goes := goodIn_r _ [14, 15, 16, 17, 18, 19, 20, 5, 6, 7, 8, 9, 21, 22, 23, 13, 24, 25, 26, 27, 28, 29, 30, 31, 32, 33, 34, 35, 36, 59, 60, 54, 55, 56, 57, 58] rfl (by decide +kernel)
set_option maxRecDepth 20000 in
theorem gX6_walks_X5_goes : GoodIn wsX6_walks (wsV RX6 173 RX5 yX5_goes wsX5_goes) := goodIn_app (goodIn_of _ (by decide +kernel)) ggX6_walks_X5_goes
set_option maxRecDepth 20000 in
theorem ggX6_walks_X5_sum : GoodIn wsX6_walks wsX5_sum := goodIn_r _ [40, 26, 15, 54, 55, 56, 57, 58, 59, 60] rfl (by decide +kernel)
set_option maxRecDepth 20000 in
theorem gX6_walks_X5_sum : GoodIn wsX6_walks (wsV RX6 177 RX5 yX5_sum wsX5_sum) := goodIn_app (goodIn_of _ (by decide +kernel)) ggX6_walks_X5_sum
theorem dX6_walks_0 : decode cX6_walks 0 = .ok (.aload_n 0, 1) := by decide +kernel
theorem dX6_walks_1 : decode cX6_walks 1 = .ok (.getfield 19, 3) := by decide +kernel
theorem dX6_walks_4 : decode cX6_walks 4 = .ok (.iload_n 1, 1) := by decide +kernel
theorem dX6_walks_5 : decode cX6_walks 5 = .ok (.invokevirtual 113, 3) := by decide +kernel
theorem dX6_walks_8 : decode cX6_walks 8 = .ok (.ifCond .eq 22, 3) := by decide +kernel
theorem dX6_walks_11 : decode cX6_walks 11 = .ok (.iload_n 2, 1) := by decide +kernel
theorem dX6_walks_12 : decode cX6_walks 12 = .ok (.ifCond .lt 18, 3) := by decide +kernel
theorem dX6_walks_15 : decode cX6_walks 15 = .ok (.iload_n 2, 1) := by decide +kernel
theorem dX6_walks_16 : decode cX6_walks 16 = .ok (.bipush 6, 2) := by decide +kernel
theorem dX6_walks_18 : decode cX6_walks 18 = .ok (.if_icmp .gt 12, 3) := by decide +kernel
theorem dX6_walks_21 : decode cX6_walks 21 = .ok (.iload_n 3, 1) := by decide +kernel
theorem dX6_walks_22 : decode cX6_walks 22 = .ok (.ifCond .lt 8, 3) := by decide +kernel
theorem dX6_walks_25 : decode cX6_walks 25 = .ok (.iload_n 3, 1) := by decide +kernel
theorem dX6_walks_26 : decode cX6_walks 26 = .ok (.iconst 2, 1) := by decide +kernel
theorem dX6_walks_27 : decode cX6_walks 27 = .ok (.if_icmp .le 7, 3) := by decide +kernel
theorem dX6_walks_30 : decode cX6_walks 30 = .ok (.ldc2_w 143, 3) := by decide +kernel
theorem dX6_walks_33 : decode cX6_walks 33 = .ok (.lreturn, 1) := by decide +kernel
theorem dX6_walks_34 : decode cX6_walks 34 = .ok (.aload_n 0, 1) := by decide +kernel
theorem dX6_walks_35 : decode cX6_walks 35 = .ok (.getfield 50, 3) := by decide +kernel
theorem dX6_walks_38 : decode cX6_walks 38 = .ok (.aload_n 0, 1) := by decide +kernel
theorem dX6_walks_39 : decode cX6_walks 39 = .ok (.getfield 19, 3) := by decide +kernel
theorem dX6_walks_42 : decode cX6_walks 42 = .ok (.iload_n 1, 1) := by decide +kernel
theorem dX6_walks_43 : decode cX6_walks 43 = .ok (.iload_n 2, 1) := by decide +kernel
theorem dX6_walks_44 : decode cX6_walks 44 = .ok (.invokevirtual 173, 3) := by decide +kernel
theorem dX6_walks_47 : decode cX6_walks 47 = .ok (.aload_n 0, 1) := by decide +kernel
theorem dX6_walks_48 : decode cX6_walks 48 = .ok (.getfield 50, 3) := by decide +kernel
theorem dX6_walks_51 : decode cX6_walks 51 = .ok (.aload_n 0, 1) := by decide +kernel
theorem dX6_walks_52 : decode cX6_walks 52 = .ok (.getfield 19, 3) := by decide +kernel
theorem dX6_walks_55 : decode cX6_walks 55 = .ok (.iload_n 1, 1) := by decide +kernel
theorem dX6_walks_56 : decode cX6_walks 56 = .ok (.iload_n 3, 1) := by decide +kernel
theorem dX6_walks_57 : decode cX6_walks 57 = .ok (.invokevirtual 177, 3) := by decide +kernel
theorem dX6_walks_60 : decode cX6_walks 60 = .ok (.lreturn, 1) := by decide +kernel
set_option maxRecDepth 20000 in
theorem ggX6_trees_X0_treeSum : GoodIn wsX6_trees wsX0_treeSum := goodIn_r _ [7, 8, 9, 10, 6, 11, 12, 13, 14, 15, 16, 17, 18, 19, 20, 21, 22, 23, 24, 25, 26, 27, 28, 29, 30, 31, 32, 33, 34, 35, 36, 37, 38, 52, 53, 54, 55, 56, 57, 58, 59] rfl (by decide +kernel)
set_option maxRecDepth 20000 in
theorem gX6_trees_X0_treeSum : GoodIn wsX6_trees (wsV RX6 155 RX0 yX0_treeSum wsX0_treeSum) := goodIn_app (goodIn_of _ (by decide +kernel)) ggX6_trees_X0_treeSum
theorem dX6_trees_0 : decode cX6_trees 0 = .ok (.aload_n 0, 1) := by decide +kernel
theorem dX6_trees_1 : decode cX6_trees 1 = .ok (.getfield 43, 3) := by decide +kernel
theorem dX6_trees_4 : decode cX6_trees 4 = .ok (.aload_n 0, 1) := by decide +kernel
theorem dX6_trees_5 : decode cX6_trees 5 = .ok (.getfield 19, 3) := by decide +kernel
theorem dX6_trees_8 : decode cX6_trees 8 = .ok (.invokevirtual 155, 3) := by decide +kernel
theorem dX6_trees_11 : decode cX6_trees 11 = .ok (.lreturn, 1) := by decide +kernel
set_option maxRecDepth 20000 in
theorem ggX6_share_X1_hasLine : GoodIn wsX6_share wsX1_hasLine := goodIn_r _ [9, 10, 119, 120, 121, 122, 123] rfl (by decide +kernel)
set_option maxRecDepth 20000 in
theorem gX6_share_X1_hasLine : GoodIn wsX6_share (wsV RX6 100 RX1 yX1_hasLine wsX1_hasLine) := goodIn_app (goodIn_of _ (by decide +kernel)) ggX6_share_X1_hasLine
set_option maxRecDepth 20000 in
theorem ggX6_share_X6_isPart : GoodIn wsX6_share wsX6_isPart := goodIn_r _ [14] rfl (by decide +kernel)
set_option maxRecDepth 20000 in
theorem gX6_share_X6_isPart : GoodIn wsX6_share (va_wsS RX6 140 yX6_isPart wsX6_isPart) := goodIn_app (goodIn_of _ (by decide +kernel)) ggX6_share_X6_isPart
set_option maxRecDepth 20000 in
theorem ggX6_share_X1_hangs : GoodIn wsX6_share wsX1_hangs := goodIn_r _ [18, 10, 19, 20, 21, 8, 22, 23, 24, 25, 26, 27, 28, 29, 6, 7, 9, 30, 31, 32, 33, 34, 119, 120, 121, 122, 123] rfl (by decide +kernel)
set_option maxRecDepth 20000 in
theorem gX6_share_X1_hangs : GoodIn wsX6_share (wsV RX6 145 RX1 yX1_hangs wsX1_hangs) := goodIn_app (goodIn_of _ (by decide +kernel)) ggX6_share_X1_hangs
set_option maxRecDepth 20000 in
theorem ggX6_share_X0_treeSum : GoodIn wsX6_share wsX0_treeSum := goodIn_r _ [39, 40, 41, 42, 38, 43, 44, 45, 46, 47, 48, 49, 50, 51, 52, 53, 54, 8, 55, 23, 56, 57, 58, 59, 60, 61, 62, 63, 64, 65, 66, 67, 68, 124, 125, 126, 119, 120, 121, 122, 123] rfl (by decide +kernel)
set_option maxRecDepth 20000 in
theorem gX6_share_X0_treeSum : GoodIn wsX6_share (wsV RX6 155 RX0 yX0_treeSum wsX0_treeSum) := goodIn_app (goodIn_of _ (by decide +kernel)) ggX6_share_X0_treeSum
set_option maxRecDepth 20000 in
theorem ggX6_share_X6_treesWithout : GoodIn wsX6_share wsX6_treesWithout := goodIn_r _ [72, 4, 73, 74, 75, 76, 13, 77, 1, 78, 79, 80, 8, 81, 23, 56, 82, 83, 84, 85, 86, 87, 88, 89, 10, 28, 34, 90, 25, 26, 27, 29, 6, 7, 9, 91, 31, 32, 33, 92, 93, 94, 95, 57, 58, 59, 60, 35, 36, 37, 38, 39, 40, 41, 42, 43, 44, 45, 46, 47, 48, 49, 50, 51, 52, 53, 54, 55, 61, 62, 63, 64, 65, 66, 67, 68, 106, 107, 108, 109, 110, 111, 112, 113, 114, 115, 116, 117, 118, 119, 120, 121, 122, 123, 124, 125, 126] rfl (by decide +kernel)
set_option maxRecDepth 20000 in
theorem gX6_share_X6_treesWithout : GoodIn wsX6_share (wsV RX6 180 RX6 yX6_treesWithout wsX6_treesWithout) := goodIn_app (goodIn_of _ (by decide +kernel)) ggX6_share_X6_treesWithout
set_option maxRecDepth 20000 in
theorem ggX6_share_X6_partOf : GoodIn wsX6_share wsX6_partOf := goodIn_r _ [98, 99, 100, 13, 101, 102, 103, 104, 105] rfl (by decide +kernel)
set_option maxRecDepth 20000 in
theorem gX6_share_X6_partOf : GoodIn wsX6_share (va_wsS RX6 159 yX6_partOf wsX6_partOf) := goodIn_app (goodIn_of _ (by decide +kernel)) ggX6_share_X6_partOf
theorem dX6_share_0 : decode cX6_share 0 = .ok (.aload_n 0, 1) := by decide +kernel
theorem dX6_share_1 : decode cX6_share 1 = .ok (.getfield 19, 3) := by decide +kernel
theorem dX6_share_4 : decode cX6_share 4 = .ok (.iload_n 1, 1) := by decide +kernel
theorem dX6_share_5 : decode cX6_share 5 = .ok (.invokevirtual 100, 3) := by decide +kernel
theorem dX6_share_8 : decode cX6_share 8 = .ok (.ifCond .eq 10, 3) := by decide +kernel
theorem dX6_share_11 : decode cX6_share 11 = .ok (.iload_n 2, 1) := by decide +kernel
theorem dX6_share_12 : decode cX6_share 12 = .ok (.invokestatic 140, 3) := by decide +kernel
theorem dX6_share_15 : decode cX6_share 15 = .ok (.ifCond .ne 7, 3) := by decide +kernel
theorem dX6_share_18 : decode cX6_share 18 = .ok (.ldc2_w 143, 3) := by decide +kernel
theorem dX6_share_21 : decode cX6_share 21 = .ok (.lreturn, 1) := by decide +kernel
theorem dX6_share_22 : decode cX6_share 22 = .ok (.aload_n 0, 1) := by decide +kernel
theorem dX6_share_23 : decode cX6_share 23 = .ok (.getfield 19, 3) := by decide +kernel
theorem dX6_share_26 : decode cX6_share 26 = .ok (.invokevirtual 145, 3) := by decide +kernel
theorem dX6_share_29 : decode cX6_share 29 = .ok (.ifCond .ne 7, 3) := by decide +kernel
theorem dX6_share_32 : decode cX6_share 32 = .ok (.ldc2_w 149, 3) := by decide +kernel
theorem dX6_share_35 : decode cX6_share 35 = .ok (.lreturn, 1) := by decide +kernel
theorem dX6_share_36 : decode cX6_share 36 = .ok (.aload_n 0, 1) := by decide +kernel
theorem dX6_share_37 : decode cX6_share 37 = .ok (.getfield 43, 3) := by decide +kernel
theorem dX6_share_40 : decode cX6_share 40 = .ok (.aload_n 0, 1) := by decide +kernel
theorem dX6_share_41 : decode cX6_share 41 = .ok (.getfield 19, 3) := by decide +kernel
theorem dX6_share_44 : decode cX6_share 44 = .ok (.invokevirtual 155, 3) := by decide +kernel
theorem dX6_share_47 : decode cX6_share 47 = .ok (.lstore_n 3, 1) := by decide +kernel
theorem dX6_share_48 : decode cX6_share 48 = .ok (.lload_n 3, 1) := by decide +kernel
theorem dX6_share_49 : decode cX6_share 49 = .ok (.aload_n 0, 1) := by decide +kernel
theorem dX6_share_50 : decode cX6_share 50 = .ok (.iload_n 1, 1) := by decide +kernel
theorem dX6_share_51 : decode cX6_share 51 = .ok (.invokevirtual 180, 3) := by decide +kernel
theorem dX6_share_54 : decode cX6_share 54 = .ok (.lsub, 1) := by decide +kernel
theorem dX6_share_55 : decode cX6_share 55 = .ok (.lload_n 3, 1) := by decide +kernel
theorem dX6_share_56 : decode cX6_share 56 = .ok (.iload_n 2, 1) := by decide +kernel
theorem dX6_share_57 : decode cX6_share 57 = .ok (.invokestatic 159, 3) := by decide +kernel
theorem dX6_share_60 : decode cX6_share 60 = .ok (.lreturn, 1) := by decide +kernel
set_option maxRecDepth 20000 in
theorem ggX6_rank_X1_hangs : GoodIn wsX6_rank wsX1_hangs := goodIn_r _ [7, 8, 9, 10, 11, 6, 12, 13, 14, 15, 16, 17, 18, 19, 20, 21, 22, 23, 24, 25, 26, 27, 113, 114, 115, 116, 117] rfl (by decide +kernel)
set_option maxRecDepth 20000 in
theorem gX6_rank_X1_hangs : GoodIn wsX6_rank (wsV RX6 145 RX1 yX1_hangs wsX1_hangs) := goodIn_app (goodIn_of _ (by decide +kernel)) ggX6_rank_X1_hangs
set_option maxRecDepth 20000 in
theorem ggX6_rank_X6_countRests : GoodIn wsX6_rank wsX6_countRests := goodIn_r _ [32, 1, 2, 33, 34, 35, 36, 31, 37, 38, 39, 40, 41, 42, 43, 44, 45, 46, 6, 47, 13, 48, 49, 50, 51, 52, 53, 54, 55, 56, 8, 18, 27, 57, 15, 16, 17, 19, 20, 21, 22, 58, 24, 25, 26, 59, 60, 61, 62, 63, 64, 65, 66, 67, 68, 69, 70, 71, 72, 73, 74, 75, 76, 77, 78, 79, 80, 81, 82, 83, 84, 85, 86, 87, 88, 89, 90, 91, 92, 93, 94, 95, 100, 101, 102, 103, 104, 105, 106, 107, 108, 109, 110, 111, 112, 113, 114, 115, 116, 117, 118, 119, 120] rfl (by decide +kernel)
set_option maxRecDepth 20000 in
theorem gX6_rank_X6_countRests : GoodIn wsX6_rank (wsV RX6 184 RX6 yX6_countRests wsX6_countRests) := goodIn_app (goodIn_of _ (by decide +kernel)) ggX6_rank_X6_countRests
set_option maxRecDepth 20000 in
theorem ggX6_rank_X6_linesRankedAhead : GoodIn wsX6_rank wsX6_linesRankedAhead := goodIn_r _ [99, 1, 2, 33, 100, 101, 102, 103, 104, 105, 106, 107, 108, 109, 110, 111, 112, 113, 114, 115, 116, 117] rfl (by decide +kernel)
set_option maxRecDepth 20000 in
theorem gX6_rank_X6_linesRankedAhead : GoodIn wsX6_rank (wsV RX6 187 RX6 yX6_linesRankedAhead wsX6_linesRankedAhead) := goodIn_app (goodIn_of _ (by decide +kernel)) ggX6_rank_X6_linesRankedAhead
theorem dX6_rank_0 : decode cX6_rank 0 = .ok (.iload_n 1, 1) := by decide +kernel
theorem dX6_rank_1 : decode cX6_rank 1 = .ok (.ifCond .ge 5, 3) := by decide +kernel
theorem dX6_rank_4 : decode cX6_rank 4 = .ok (.iconst (-1), 1) := by decide +kernel
theorem dX6_rank_5 : decode cX6_rank 5 = .ok (.ireturn, 1) := by decide +kernel
theorem dX6_rank_6 : decode cX6_rank 6 = .ok (.aload_n 0, 1) := by decide +kernel
theorem dX6_rank_7 : decode cX6_rank 7 = .ok (.getfield 19, 3) := by decide +kernel
theorem dX6_rank_10 : decode cX6_rank 10 = .ok (.invokevirtual 145, 3) := by decide +kernel
theorem dX6_rank_13 : decode cX6_rank 13 = .ok (.ifCond .ne 6, 3) := by decide +kernel
theorem dX6_rank_16 : decode cX6_rank 16 = .ok (.bipush (-2), 2) := by decide +kernel
theorem dX6_rank_18 : decode cX6_rank 18 = .ok (.ireturn, 1) := by decide +kernel
theorem dX6_rank_19 : decode cX6_rank 19 = .ok (.aload_n 0, 1) := by decide +kernel
theorem dX6_rank_20 : decode cX6_rank 20 = .ok (.invokevirtual 184, 3) := by decide +kernel
theorem dX6_rank_23 : decode cX6_rank 23 = .ok (.iconst 0, 1) := by decide +kernel
theorem dX6_rank_24 : decode cX6_rank 24 = .ok (.istore_n 2, 1) := by decide +kernel
theorem dX6_rank_25 : decode cX6_rank 25 = .ok (.iload_n 2, 1) := by decide +kernel
theorem dX6_rank_26 : decode cX6_rank 26 = .ok (.aload_n 0, 1) := by decide +kernel
theorem dX6_rank_27 : decode cX6_rank 27 = .ok (.getfield 19, 3) := by decide +kernel
theorem dX6_rank_30 : decode cX6_rank 30 = .ok (.getfield 130, 3) := by decide +kernel
theorem dX6_rank_33 : decode cX6_rank 33 = .ok (.if_icmp .ge 20, 3) := by decide +kernel
theorem dX6_rank_36 : decode cX6_rank 36 = .ok (.aload_n 0, 1) := by decide +kernel
theorem dX6_rank_37 : decode cX6_rank 37 = .ok (.iload_n 2, 1) := by decide +kernel
theorem dX6_rank_38 : decode cX6_rank 38 = .ok (.invokevirtual 187, 3) := by decide +kernel
theorem dX6_rank_41 : decode cX6_rank 41 = .ok (.iload_n 1, 1) := by decide +kernel
theorem dX6_rank_42 : decode cX6_rank 42 = .ok (.if_icmp .ne 5, 3) := by decide +kernel
theorem dX6_rank_45 : decode cX6_rank 45 = .ok (.iload_n 2, 1) := by decide +kernel
theorem dX6_rank_46 : decode cX6_rank 46 = .ok (.ireturn, 1) := by decide +kernel
theorem dX6_rank_47 : decode cX6_rank 47 = .ok (.iinc 2 1, 3) := by decide +kernel
theorem dX6_rank_50 : decode cX6_rank 50 = .ok (.goto (-25), 3) := by decide +kernel
theorem dX6_rank_53 : decode cX6_rank 53 = .ok (.bipush (-9), 2) := by decide +kernel
theorem dX6_rank_55 : decode cX6_rank 55 = .ok (.ireturn, 1) := by decide +kernel
set_option maxRecDepth 20000 in
theorem ggX6_reduced_X6_areTwoNodes : GoodIn wsX6_reduced wsX6_areTwoNodes := goodIn_r _ [10, 2, 11, 12, 13, 14, 15, 16, 112, 113, 114, 115, 116, 117, 118, 119, 120, 121, 122, 123, 124, 125, 126, 127, 128, 129] rfl (by decide +kernel)
set_option maxRecDepth 20000 in
theorem gX6_reduced_X6_areTwoNodes : GoodIn wsX6_reduced (wsV RX6 123 RX6 yX6_areTwoNodes wsX6_areTwoNodes) := goodIn_app (goodIn_of _ (by decide +kernel)) ggX6_reduced_X6_areTwoNodes
set_option maxRecDepth 20000 in
theorem ggX6_reduced_X1_hangs : GoodIn wsX6_reduced wsX1_hangs := goodIn_r _ [20, 21, 22, 23, 24, 14, 25, 16, 26, 27, 28, 29, 30, 31, 32, 33, 34, 35, 36, 37, 38, 39, 125, 126, 127, 128, 129] rfl (by decide +kernel)
set_option maxRecDepth 20000 in
theorem gX6_reduced_X1_hangs : GoodIn wsX6_reduced (wsV RX6 145 RX1 yX1_hangs wsX1_hangs) := goodIn_app (goodIn_of _ (by decide +kernel)) ggX6_reduced_X1_hangs
set_option maxRecDepth 20000 in
theorem ggX6_reduced_X3_reduces : GoodIn wsX6_reduced wsX3_reduces := goodIn_r _ [44, 45, 46, 47, 48, 43, 49, 50, 51, 52, 53, 14, 54, 55, 56, 12, 13, 15, 16, 57, 58, 59, 60, 61, 62, 63, 64, 65, 66, 67, 68, 69, 70, 71, 72, 73, 74, 75, 76, 77, 78, 79, 80, 81, 82, 83, 84, 85, 86, 87, 88, 89, 90, 91, 92, 93, 94, 95, 9, 96, 97, 98, 99, 100, 101, 102, 103, 104, 130, 131, 132, 125, 126, 127, 128, 129] rfl (by decide +kernel)
set_option maxRecDepth 20000 in
theorem gX6_reduced_X3_reduces : GoodIn wsX6_reduced (wsV RX6 190 RX3 yX3_reduces wsX3_reduces) := goodIn_app (goodIn_of _ (by decide +kernel)) ggX6_reduced_X3_reduces
set_option maxRecDepth 20000 in
theorem ggX6_reduced_X3_linesLeft : GoodIn wsX6_reduced wsX3_linesLeft := goodIn_r _ [108, 45, 71, 72, 73, 43, 74, 75, 76, 77, 78, 79, 80, 81, 82, 62, 63, 64, 65, 66, 130, 131, 132] rfl (by decide +kernel)
set_option maxRecDepth 20000 in
theorem gX6_reduced_X3_linesLeft : GoodIn wsX6_reduced (wsV RX6 193 RX3 yX3_linesLeft wsX3_linesLeft) := goodIn_app (goodIn_of _ (by decide +kernel)) ggX6_reduced_X3_linesLeft
set_option maxRecDepth 20000 in
theorem ggX6_reduced_X3_joined : GoodIn wsX6_reduced wsX3_joined := goodIn_r _ [78, 79, 80, 81, 43, 82, 62, 63, 64, 65, 66, 45, 130, 131, 132] rfl (by decide +kernel)
set_option maxRecDepth 20000 in
theorem gX6_reduced_X3_joined : GoodIn wsX6_reduced (wsV RX6 196 RX3 yX3_joined wsX3_joined) := goodIn_app (goodIn_of _ (by decide +kernel)) ggX6_reduced_X3_joined
set_option maxRecDepth 20000 in
theorem ggX6_reduced_X3_upperAt : GoodIn wsX6_reduced wsX3_upperAt := goodIn_r _ [94, 61, 63, 64, 65, 43, 66, 45, 130, 131, 132] rfl (by decide +kernel)
set_option maxRecDepth 20000 in
theorem gX6_reduced_X3_upperAt : GoodIn wsX6_reduced (wsV RX6 201 RX3 yX3_upperAt wsX3_upperAt) := goodIn_app (goodIn_of _ (by decide +kernel)) ggX6_reduced_X3_upperAt
set_option maxRecDepth 20000 in
theorem ggX6_reduced_X3_lowerAt : GoodIn wsX6_reduced wsX3_lowerAt := goodIn_r _ [82, 62, 63, 64, 65, 43, 66, 45, 130, 131, 132] rfl (by decide +kernel)
set_option maxRecDepth 20000 in
theorem gX6_reduced_X3_lowerAt : GoodIn wsX6_reduced (wsV RX6 205 RX3 yX3_lowerAt wsX3_lowerAt) := goodIn_app (goodIn_of _ (by decide +kernel)) ggX6_reduced_X3_lowerAt
theorem dX6_reduced_0 : decode cX6_reduced 0 = .ok (.aload_n 0, 1) := by decide +kernel
theorem dX6_reduced_1 : decode cX6_reduced 1 = .ok (.iload_n 1, 1) := by decide +kernel
theorem dX6_reduced_2 : decode cX6_reduced 2 = .ok (.iload_n 2, 1) := by decide +kernel
theorem dX6_reduced_3 : decode cX6_reduced 3 = .ok (.invokevirtual 123, 3) := by decide +kernel
theorem dX6_reduced_6 : decode cX6_reduced 6 = .ok (.ifCond .eq 12, 3) := by decide +kernel
theorem dX6_reduced_9 : decode cX6_reduced 9 = .ok (.iload_n 3, 1) := by decide +kernel
theorem dX6_reduced_10 : decode cX6_reduced 10 = .ok (.ifCond .lt 8, 3) := by decide +kernel
theorem dX6_reduced_13 : decode cX6_reduced 13 = .ok (.iload_n 3, 1) := by decide +kernel
theorem dX6_reduced_14 : decode cX6_reduced 14 = .ok (.iconst 2, 1) := by decide +kernel
theorem dX6_reduced_15 : decode cX6_reduced 15 = .ok (.if_icmp .le 7, 3) := by decide +kernel
theorem dX6_reduced_18 : decode cX6_reduced 18 = .ok (.ldc2_w 143, 3) := by decide +kernel
theorem dX6_reduced_21 : decode cX6_reduced 21 = .ok (.lreturn, 1) := by decide +kernel
theorem dX6_reduced_22 : decode cX6_reduced 22 = .ok (.aload_n 0, 1) := by decide +kernel
theorem dX6_reduced_23 : decode cX6_reduced 23 = .ok (.getfield 19, 3) := by decide +kernel
theorem dX6_reduced_26 : decode cX6_reduced 26 = .ok (.invokevirtual 145, 3) := by decide +kernel
theorem dX6_reduced_29 : decode cX6_reduced 29 = .ok (.ifCond .ne 7, 3) := by decide +kernel
theorem dX6_reduced_32 : decode cX6_reduced 32 = .ok (.ldc2_w 149, 3) := by decide +kernel
theorem dX6_reduced_35 : decode cX6_reduced 35 = .ok (.lreturn, 1) := by decide +kernel
theorem dX6_reduced_36 : decode cX6_reduced 36 = .ok (.aload_n 0, 1) := by decide +kernel
theorem dX6_reduced_37 : decode cX6_reduced 37 = .ok (.getfield 57, 3) := by decide +kernel
theorem dX6_reduced_40 : decode cX6_reduced 40 = .ok (.aload_n 0, 1) := by decide +kernel
theorem dX6_reduced_41 : decode cX6_reduced 41 = .ok (.getfield 19, 3) := by decide +kernel
theorem dX6_reduced_44 : decode cX6_reduced 44 = .ok (.iload_n 1, 1) := by decide +kernel
theorem dX6_reduced_45 : decode cX6_reduced 45 = .ok (.iload_n 2, 1) := by decide +kernel
theorem dX6_reduced_46 : decode cX6_reduced 46 = .ok (.invokevirtual 190, 3) := by decide +kernel
theorem dX6_reduced_49 : decode cX6_reduced 49 = .ok (.aload_n 0, 1) := by decide +kernel
theorem dX6_reduced_50 : decode cX6_reduced 50 = .ok (.getfield 57, 3) := by decide +kernel
theorem dX6_reduced_53 : decode cX6_reduced 53 = .ok (.invokevirtual 193, 3) := by decide +kernel
theorem dX6_reduced_56 : decode cX6_reduced 56 = .ok (.istore 4, 2) := by decide +kernel
theorem dX6_reduced_58 : decode cX6_reduced 58 = .ok (.iload_n 3, 1) := by decide +kernel
theorem dX6_reduced_59 : decode cX6_reduced 59 = .ok (.ifCond .ne 7, 3) := by decide +kernel
theorem dX6_reduced_62 : decode cX6_reduced 62 = .ok (.iload 4, 2) := by decide +kernel
theorem dX6_reduced_64 : decode cX6_reduced 64 = .ok (.i2l, 1) := by decide +kernel
theorem dX6_reduced_65 : decode cX6_reduced 65 = .ok (.lreturn, 1) := by decide +kernel
theorem dX6_reduced_66 : decode cX6_reduced 66 = .ok (.iload 4, 2) := by decide +kernel
theorem dX6_reduced_68 : decode cX6_reduced 68 = .ok (.iconst 1, 1) := by decide +kernel
theorem dX6_reduced_69 : decode cX6_reduced 69 = .ok (.if_icmp .ne 15, 3) := by decide +kernel
theorem dX6_reduced_72 : decode cX6_reduced 72 = .ok (.aload_n 0, 1) := by decide +kernel
theorem dX6_reduced_73 : decode cX6_reduced 73 = .ok (.getfield 57, 3) := by decide +kernel
theorem dX6_reduced_76 : decode cX6_reduced 76 = .ok (.iload_n 1, 1) := by decide +kernel
theorem dX6_reduced_77 : decode cX6_reduced 77 = .ok (.iload_n 2, 1) := by decide +kernel
theorem dX6_reduced_78 : decode cX6_reduced 78 = .ok (.invokevirtual 196, 3) := by decide +kernel
theorem dX6_reduced_81 : decode cX6_reduced 81 = .ok (.ifCond .ne 7, 3) := by decide +kernel
theorem dX6_reduced_84 : decode cX6_reduced 84 = .ok (.ldc2_w 199, 3) := by decide +kernel
theorem dX6_reduced_87 : decode cX6_reduced 87 = .ok (.lreturn, 1) := by decide +kernel
theorem dX6_reduced_88 : decode cX6_reduced 88 = .ok (.iload_n 3, 1) := by decide +kernel
theorem dX6_reduced_89 : decode cX6_reduced 89 = .ok (.iconst 1, 1) := by decide +kernel
theorem dX6_reduced_90 : decode cX6_reduced 90 = .ok (.if_icmp .ne 15, 3) := by decide +kernel
theorem dX6_reduced_93 : decode cX6_reduced 93 = .ok (.aload_n 0, 1) := by decide +kernel
theorem dX6_reduced_94 : decode cX6_reduced 94 = .ok (.getfield 57, 3) := by decide +kernel
theorem dX6_reduced_97 : decode cX6_reduced 97 = .ok (.iload_n 1, 1) := by decide +kernel
theorem dX6_reduced_98 : decode cX6_reduced 98 = .ok (.iload_n 2, 1) := by decide +kernel
theorem dX6_reduced_99 : decode cX6_reduced 99 = .ok (.invokevirtual 201, 3) := by decide +kernel
theorem dX6_reduced_102 : decode cX6_reduced 102 = .ok (.goto 12, 3) := by decide +kernel
theorem dX6_reduced_105 : decode cX6_reduced 105 = .ok (.aload_n 0, 1) := by decide +kernel
theorem dX6_reduced_106 : decode cX6_reduced 106 = .ok (.getfield 57, 3) := by decide +kernel
theorem dX6_reduced_109 : decode cX6_reduced 109 = .ok (.iload_n 1, 1) := by decide +kernel
theorem dX6_reduced_110 : decode cX6_reduced 110 = .ok (.iload_n 2, 1) := by decide +kernel
theorem dX6_reduced_111 : decode cX6_reduced 111 = .ok (.invokevirtual 205, 3) := by decide +kernel
theorem dX6_reduced_114 : decode cX6_reduced 114 = .ok (.lreturn, 1) := by decide +kernel
set_option maxRecDepth 20000 in
theorem ggX6_worst_X6_areTwoNodes : GoodIn wsX6_worst wsX6_areTwoNodes := goodIn_r _ [9, 1, 10, 11, 12, 13, 14, 15, 96, 97, 98, 99, 100, 101, 102, 103, 104, 105, 106, 107, 108, 109, 110, 111, 112, 113] rfl (by decide +kernel)
set_option maxRecDepth 20000 in
theorem gX6_worst_X6_areTwoNodes : GoodIn wsX6_worst (wsV RX6 123 RX6 yX6_areTwoNodes wsX6_areTwoNodes) := goodIn_app (goodIn_of _ (by decide +kernel)) ggX6_worst_X6_areTwoNodes
set_option maxRecDepth 20000 in
theorem ggX6_worst_X1_hangs : GoodIn wsX6_worst wsX1_hangs := goodIn_r _ [19, 20, 21, 22, 23, 13, 24, 15, 25, 26, 27, 28, 29, 30, 31, 32, 33, 34, 35, 36, 37, 38, 109, 110, 111, 112, 113] rfl (by decide +kernel)
set_option maxRecDepth 20000 in
theorem gX6_worst_X1_hangs : GoodIn wsX6_worst (wsV RX6 145 RX1 yX1_hangs wsX1_hangs) := goodIn_app (goodIn_of _ (by decide +kernel)) ggX6_worst_X1_hangs
set_option maxRecDepth 20000 in
theorem ggX6_worst_X6_leaveOut : GoodIn wsX6_worst wsX6_leaveOut := goodIn_r _ [42, 3, 1, 43, 44, 45, 13, 46, 15, 47, 48, 49, 50, 51, 52, 53, 54, 55, 20, 29, 38, 56, 26, 27, 28, 30, 31, 32, 33, 57, 35, 36, 37, 58, 59, 60, 61, 62, 11, 12, 14, 96, 97, 98, 99, 100, 101, 102, 103, 104, 105, 106, 107, 108, 109, 110, 111, 112, 113] rfl (by decide +kernel)
set_option maxRecDepth 20000 in
theorem gX6_worst_X6_leaveOut : GoodIn wsX6_worst (wsV RX6 208 RX6 yX6_leaveOut wsX6_leaveOut) := goodIn_app (goodIn_of _ (by decide +kernel)) ggX6_worst_X6_leaveOut
set_option maxRecDepth 20000 in
theorem ggX6_worst_X0_stepSum : GoodIn wsX6_worst wsX0_stepSum := goodIn_r _ [67, 68, 69, 70, 71, 72, 73, 66, 74, 75, 76, 77, 78, 79, 80, 81, 82, 13, 83, 15, 47, 62, 11, 12, 14, 84, 85, 86, 87, 88, 89, 90, 91, 114, 115, 116, 109, 110, 111, 112, 113] rfl (by decide +kernel)
set_option maxRecDepth 20000 in
theorem gX6_worst_X0_stepSum : GoodIn wsX6_worst (wsV RX6 151 RX0 yX0_stepSum wsX0_stepSum) := goodIn_app (goodIn_of _ (by decide +kernel)) ggX6_worst_X0_stepSum
set_option maxRecDepth 20000 in
theorem ggX6_worst_X0_treeSum : GoodIn wsX6_worst wsX0_treeSum := goodIn_r _ [95, 71, 72, 73, 66, 74, 68, 75, 69, 70, 76, 77, 78, 79, 80, 81, 82, 13, 83, 15, 47, 62, 11, 12, 14, 84, 85, 86, 87, 88, 89, 90, 91, 114, 115, 116, 109, 110, 111, 112, 113] rfl (by decide +kernel)
set_option maxRecDepth 20000 in
theorem gX6_worst_X0_treeSum : GoodIn wsX6_worst (wsV RX6 155 RX0 yX0_treeSum wsX0_treeSum) := goodIn_app (goodIn_of _ (by decide +kernel)) ggX6_worst_X0_treeSum
theorem dX6_worst_0 : decode cX6_worst 0 = .ok (.aload_n 0, 1) := by decide +kernel
theorem dX6_worst_1 : decode cX6_worst 1 = .ok (.iload_n 1, 1) := by decide +kernel
theorem dX6_worst_2 : decode cX6_worst 2 = .ok (.iload_n 2, 1) := by decide +kernel
theorem dX6_worst_3 : decode cX6_worst 3 = .ok (.invokevirtual 123, 3) := by decide +kernel
theorem dX6_worst_6 : decode cX6_worst 6 = .ok (.ifCond .ne 5, 3) := by decide +kernel
theorem dX6_worst_9 : decode cX6_worst 9 = .ok (.iconst (-1), 1) := by decide +kernel
theorem dX6_worst_10 : decode cX6_worst 10 = .ok (.ireturn, 1) := by decide +kernel
theorem dX6_worst_11 : decode cX6_worst 11 = .ok (.aload_n 0, 1) := by decide +kernel
theorem dX6_worst_12 : decode cX6_worst 12 = .ok (.getfield 19, 3) := by decide +kernel
theorem dX6_worst_15 : decode cX6_worst 15 = .ok (.invokevirtual 145, 3) := by decide +kernel
theorem dX6_worst_18 : decode cX6_worst 18 = .ok (.ifCond .ne 6, 3) := by decide +kernel
theorem dX6_worst_21 : decode cX6_worst 21 = .ok (.bipush (-2), 2) := by decide +kernel
theorem dX6_worst_23 : decode cX6_worst 23 = .ok (.ireturn, 1) := by decide +kernel
theorem dX6_worst_24 : decode cX6_worst 24 = .ok (.bipush (-9), 2) := by decide +kernel
theorem dX6_worst_26 : decode cX6_worst 26 = .ok (.istore_n 3, 1) := by decide +kernel
theorem dX6_worst_27 : decode cX6_worst 27 = .ok (.lconst 0, 1) := by decide +kernel
theorem dX6_worst_28 : decode cX6_worst 28 = .ok (.lstore 4, 2) := by decide +kernel
theorem dX6_worst_30 : decode cX6_worst 30 = .ok (.lconst 1, 1) := by decide +kernel
theorem dX6_worst_31 : decode cX6_worst 31 = .ok (.lstore 6, 2) := by decide +kernel
theorem dX6_worst_33 : decode cX6_worst 33 = .ok (.iconst 0, 1) := by decide +kernel
theorem dX6_worst_34 : decode cX6_worst 34 = .ok (.istore 8, 2) := by decide +kernel
theorem dX6_worst_36 : decode cX6_worst 36 = .ok (.iload 8, 2) := by decide +kernel
theorem dX6_worst_38 : decode cX6_worst 38 = .ok (.aload_n 0, 1) := by decide +kernel
theorem dX6_worst_39 : decode cX6_worst 39 = .ok (.getfield 19, 3) := by decide +kernel
theorem dX6_worst_42 : decode cX6_worst 42 = .ok (.getfield 130, 3) := by decide +kernel
theorem dX6_worst_45 : decode cX6_worst 45 = .ok (.if_icmp .ge 78, 3) := by decide +kernel
theorem dX6_worst_48 : decode cX6_worst 48 = .ok (.aload_n 0, 1) := by decide +kernel
theorem dX6_worst_49 : decode cX6_worst 49 = .ok (.iload 8, 2) := by decide +kernel
theorem dX6_worst_51 : decode cX6_worst 51 = .ok (.invokevirtual 208, 3) := by decide +kernel
theorem dX6_worst_54 : decode cX6_worst 54 = .ok (.aload_n 0, 1) := by decide +kernel
theorem dX6_worst_55 : decode cX6_worst 55 = .ok (.getfield 26, 3) := by decide +kernel
theorem dX6_worst_58 : decode cX6_worst 58 = .ok (.invokevirtual 145, 3) := by decide +kernel
theorem dX6_worst_61 : decode cX6_worst 61 = .ok (.ifCond .eq 56, 3) := by decide +kernel
theorem dX6_worst_64 : decode cX6_worst 64 = .ok (.aload_n 0, 1) := by decide +kernel
theorem dX6_worst_65 : decode cX6_worst 65 = .ok (.getfield 43, 3) := by decide +kernel
theorem dX6_worst_68 : decode cX6_worst 68 = .ok (.aload_n 0, 1) := by decide +kernel
theorem dX6_worst_69 : decode cX6_worst 69 = .ok (.getfield 26, 3) := by decide +kernel
theorem dX6_worst_72 : decode cX6_worst 72 = .ok (.iload_n 1, 1) := by decide +kernel
theorem dX6_worst_73 : decode cX6_worst 73 = .ok (.iload_n 2, 1) := by decide +kernel
theorem dX6_worst_74 : decode cX6_worst 74 = .ok (.invokevirtual 151, 3) := by decide +kernel
theorem dX6_worst_77 : decode cX6_worst 77 = .ok (.lstore 9, 2) := by decide +kernel
theorem dX6_worst_79 : decode cX6_worst 79 = .ok (.aload_n 0, 1) := by decide +kernel
theorem dX6_worst_80 : decode cX6_worst 80 = .ok (.getfield 43, 3) := by decide +kernel
theorem dX6_worst_83 : decode cX6_worst 83 = .ok (.aload_n 0, 1) := by decide +kernel
theorem dX6_worst_84 : decode cX6_worst 84 = .ok (.getfield 26, 3) := by decide +kernel
theorem dX6_worst_87 : decode cX6_worst 87 = .ok (.invokevirtual 155, 3) := by decide +kernel
theorem dX6_worst_90 : decode cX6_worst 90 = .ok (.lstore 11, 2) := by decide +kernel
theorem dX6_worst_92 : decode cX6_worst 92 = .ok (.lload 9, 2) := by decide +kernel
theorem dX6_worst_94 : decode cX6_worst 94 = .ok (.lload 6, 2) := by decide +kernel
theorem dX6_worst_96 : decode cX6_worst 96 = .ok (.lmul, 1) := by decide +kernel
theorem dX6_worst_97 : decode cX6_worst 97 = .ok (.lload 4, 2) := by decide +kernel
theorem dX6_worst_99 : decode cX6_worst 99 = .ok (.lload 11, 2) := by decide +kernel
theorem dX6_worst_101 : decode cX6_worst 101 = .ok (.lmul, 1) := by decide +kernel
theorem dX6_worst_102 : decode cX6_worst 102 = .ok (.lcmp, 1) := by decide +kernel
theorem dX6_worst_103 : decode cX6_worst 103 = .ok (.ifCond .le 14, 3) := by decide +kernel
theorem dX6_worst_106 : decode cX6_worst 106 = .ok (.iload 8, 2) := by decide +kernel
theorem dX6_worst_108 : decode cX6_worst 108 = .ok (.istore_n 3, 1) := by decide +kernel
theorem dX6_worst_109 : decode cX6_worst 109 = .ok (.lload 9, 2) := by decide +kernel
theorem dX6_worst_111 : decode cX6_worst 111 = .ok (.lstore 4, 2) := by decide +kernel
theorem dX6_worst_113 : decode cX6_worst 113 = .ok (.lload 11, 2) := by decide +kernel
theorem dX6_worst_115 : decode cX6_worst 115 = .ok (.lstore 6, 2) := by decide +kernel
theorem dX6_worst_117 : decode cX6_worst 117 = .ok (.iinc 8 1, 3) := by decide +kernel
theorem dX6_worst_120 : decode cX6_worst 120 = .ok (.goto (-84), 3) := by decide +kernel
theorem dX6_worst_123 : decode cX6_worst 123 = .ok (.iload_n 3, 1) := by decide +kernel
theorem dX6_worst_124 : decode cX6_worst 124 = .ok (.ireturn, 1) := by decide +kernel
set_option maxRecDepth 20000 in
theorem ggX6_odds_X6_isPart : GoodIn wsX6_odds wsX6_isPart := goodIn_r _ [7] rfl (by decide +kernel)
set_option maxRecDepth 20000 in
theorem gX6_odds_X6_isPart : GoodIn wsX6_odds (va_wsS RX6 140 yX6_isPart wsX6_isPart) := goodIn_app (goodIn_of _ (by decide +kernel)) ggX6_odds_X6_isPart
set_option maxRecDepth 20000 in
theorem ggX6_odds_X1_hangsBy : GoodIn wsX6_odds wsX1_hangsBy := goodIn_r _ [12, 13, 14, 15, 16, 17, 11, 18, 19, 20, 21, 22, 23, 24, 25, 26, 27, 28, 62, 63, 64, 65, 66] rfl (by decide +kernel)
set_option maxRecDepth 20000 in
theorem gX6_odds_X1_hangsBy : GoodIn wsX6_odds (wsV RX6 212 RX1 yX1_hangsBy wsX1_hangsBy) := goodIn_app (goodIn_of _ (by decide +kernel)) ggX6_odds_X1_hangsBy
set_option maxRecDepth 20000 in
theorem ggX6_odds_J6_bitCount_0f7a4 : GoodIn wsX6_odds wsJ6_bitCount_0f7a4 := goodIn_r _ [32, 33, 34, 35] rfl (by decide +kernel)
set_option maxRecDepth 20000 in
theorem gX6_odds_J6_bitCount_0f7a4 : GoodIn wsX6_odds (va_wsS RX6 215 yJ6_bitCount_0f7a4 wsJ6_bitCount_0f7a4) := goodIn_app (goodIn_of _ (by decide +kernel)) ggX6_odds_J6_bitCount_0f7a4
set_option maxRecDepth 20000 in
theorem ggX6_odds_X6_power : GoodIn wsX6_odds wsX6_power := goodIn_r _ [38] rfl (by decide +kernel)
set_option maxRecDepth 20000 in
theorem gX6_odds_X6_power : GoodIn wsX6_odds (va_wsS RX6 220 yX6_power wsX6_power) := goodIn_app (goodIn_of _ (by decide +kernel)) ggX6_odds_X6_power
set_option maxRecDepth 20000 in
theorem ggX6_odds_X6_partOf : GoodIn wsX6_odds wsX6_partOf := goodIn_r _ [41, 42, 43, 6, 44, 45, 46, 47, 48] rfl (by decide +kernel)
set_option maxRecDepth 20000 in
theorem gX6_odds_X6_partOf : GoodIn wsX6_odds (va_wsS RX6 159 yX6_partOf wsX6_partOf) := goodIn_app (goodIn_of _ (by decide +kernel)) ggX6_odds_X6_partOf
theorem dX6_odds_0 : decode cX6_odds 0 = .ok (.iload_n 1, 1) := by decide +kernel
theorem dX6_odds_1 : decode cX6_odds 1 = .ok (.ifCond .lt 16, 3) := by decide +kernel
theorem dX6_odds_4 : decode cX6_odds 4 = .ok (.iload_n 1, 1) := by decide +kernel
theorem dX6_odds_5 : decode cX6_odds 5 = .ok (.bipush 10, 2) := by decide +kernel
theorem dX6_odds_7 : decode cX6_odds 7 = .ok (.if_icmp .gt 10, 3) := by decide +kernel
theorem dX6_odds_10 : decode cX6_odds 10 = .ok (.iload_n 2, 1) := by decide +kernel
theorem dX6_odds_11 : decode cX6_odds 11 = .ok (.invokestatic 140, 3) := by decide +kernel
theorem dX6_odds_14 : decode cX6_odds 14 = .ok (.ifCond .ne 7, 3) := by decide +kernel
theorem dX6_odds_17 : decode cX6_odds 17 = .ok (.ldc2_w 143, 3) := by decide +kernel
theorem dX6_odds_20 : decode cX6_odds 20 = .ok (.lreturn, 1) := by decide +kernel
theorem dX6_odds_21 : decode cX6_odds 21 = .ok (.aload_n 0, 1) := by decide +kernel
theorem dX6_odds_22 : decode cX6_odds 22 = .ok (.getfield 19, 3) := by decide +kernel
theorem dX6_odds_25 : decode cX6_odds 25 = .ok (.getfield 130, 3) := by decide +kernel
theorem dX6_odds_28 : decode cX6_odds 28 = .ok (.istore_n 3, 1) := by decide +kernel
theorem dX6_odds_29 : decode cX6_odds 29 = .ok (.lconst 0, 1) := by decide +kernel
theorem dX6_odds_30 : decode cX6_odds 30 = .ok (.lstore 4, 2) := by decide +kernel
theorem dX6_odds_32 : decode cX6_odds 32 = .ok (.iconst 0, 1) := by decide +kernel
theorem dX6_odds_33 : decode cX6_odds 33 = .ok (.istore 6, 2) := by decide +kernel
theorem dX6_odds_35 : decode cX6_odds 35 = .ok (.iload 6, 2) := by decide +kernel
theorem dX6_odds_37 : decode cX6_odds 37 = .ok (.iconst 1, 1) := by decide +kernel
theorem dX6_odds_38 : decode cX6_odds 38 = .ok (.iload_n 3, 1) := by decide +kernel
theorem dX6_odds_39 : decode cX6_odds 39 = .ok (.ishl, 1) := by decide +kernel
theorem dX6_odds_40 : decode cX6_odds 40 = .ok (.if_icmp .ge 51, 3) := by decide +kernel
theorem dX6_odds_43 : decode cX6_odds 43 = .ok (.aload_n 0, 1) := by decide +kernel
theorem dX6_odds_44 : decode cX6_odds 44 = .ok (.getfield 19, 3) := by decide +kernel
theorem dX6_odds_47 : decode cX6_odds 47 = .ok (.iload 6, 2) := by decide +kernel
theorem dX6_odds_49 : decode cX6_odds 49 = .ok (.invokevirtual 212, 3) := by decide +kernel
theorem dX6_odds_52 : decode cX6_odds 52 = .ok (.ifCond .eq 33, 3) := by decide +kernel
theorem dX6_odds_55 : decode cX6_odds 55 = .ok (.iload 6, 2) := by decide +kernel
theorem dX6_odds_57 : decode cX6_odds 57 = .ok (.invokestatic 215, 3) := by decide +kernel
theorem dX6_odds_60 : decode cX6_odds 60 = .ok (.istore 7, 2) := by decide +kernel
theorem dX6_odds_62 : decode cX6_odds 62 = .ok (.lload 4, 2) := by decide +kernel
theorem dX6_odds_64 : decode cX6_odds 64 = .ok (.bipush 10, 2) := by decide +kernel
theorem dX6_odds_66 : decode cX6_odds 66 = .ok (.iload_n 1, 1) := by decide +kernel
theorem dX6_odds_67 : decode cX6_odds 67 = .ok (.isub, 1) := by decide +kernel
theorem dX6_odds_68 : decode cX6_odds 68 = .ok (.iload 7, 2) := by decide +kernel
theorem dX6_odds_70 : decode cX6_odds 70 = .ok (.invokestatic 220, 3) := by decide +kernel
theorem dX6_odds_73 : decode cX6_odds 73 = .ok (.iload_n 1, 1) := by decide +kernel
theorem dX6_odds_74 : decode cX6_odds 74 = .ok (.iload_n 3, 1) := by decide +kernel
theorem dX6_odds_75 : decode cX6_odds 75 = .ok (.iload 7, 2) := by decide +kernel
theorem dX6_odds_77 : decode cX6_odds 77 = .ok (.isub, 1) := by decide +kernel
theorem dX6_odds_78 : decode cX6_odds 78 = .ok (.invokestatic 220, 3) := by decide +kernel
theorem dX6_odds_81 : decode cX6_odds 81 = .ok (.lmul, 1) := by decide +kernel
theorem dX6_odds_82 : decode cX6_odds 82 = .ok (.ladd, 1) := by decide +kernel
theorem dX6_odds_83 : decode cX6_odds 83 = .ok (.lstore 4, 2) := by decide +kernel
theorem dX6_odds_85 : decode cX6_odds 85 = .ok (.iinc 6 1, 3) := by decide +kernel
theorem dX6_odds_88 : decode cX6_odds 88 = .ok (.goto (-53), 3) := by decide +kernel
theorem dX6_odds_91 : decode cX6_odds 91 = .ok (.lload 4, 2) := by decide +kernel
theorem dX6_odds_93 : decode cX6_odds 93 = .ok (.bipush 10, 2) := by decide +kernel
theorem dX6_odds_95 : decode cX6_odds 95 = .ok (.iload_n 3, 1) := by decide +kernel
theorem dX6_odds_96 : decode cX6_odds 96 = .ok (.invokestatic 220, 3) := by decide +kernel
theorem dX6_odds_99 : decode cX6_odds 99 = .ok (.iload_n 2, 1) := by decide +kernel
theorem dX6_odds_100 : decode cX6_odds 100 = .ok (.invokestatic 159, 3) := by decide +kernel
theorem dX6_odds_103 : decode cX6_odds 103 = .ok (.lreturn, 1) := by decide +kernel
theorem dX6_sees_0 : decode cX6_sees 0 = .ok (.lload_n 1, 1) := by decide +kernel
theorem dX6_sees_1 : decode cX6_sees 1 = .ok (.lconst 0, 1) := by decide +kernel
theorem dX6_sees_2 : decode cX6_sees 2 = .ok (.lcmp, 1) := by decide +kernel
theorem dX6_sees_3 : decode cX6_sees 3 = .ok (.ifCond .ge 5, 3) := by decide +kernel
theorem dX6_sees_6 : decode cX6_sees 6 = .ok (.iconst (-1), 1) := by decide +kernel
theorem dX6_sees_7 : decode cX6_sees 7 = .ok (.ireturn, 1) := by decide +kernel
theorem dX6_sees_8 : decode cX6_sees 8 = .ok (.aload_n 0, 1) := by decide +kernel
theorem dX6_sees_9 : decode cX6_sees 9 = .ok (.getfield 94, 3) := by decide +kernel
theorem dX6_sees_12 : decode cX6_sees 12 = .ok (.bipush 6, 2) := by decide +kernel
theorem dX6_sees_14 : decode cX6_sees 14 = .ok (.if_icmp .lt 6, 3) := by decide +kernel
theorem dX6_sees_17 : decode cX6_sees 17 = .ok (.bipush (-3), 2) := by decide +kernel
theorem dX6_sees_19 : decode cX6_sees 19 = .ok (.ireturn, 1) := by decide +kernel
theorem dX6_sees_20 : decode cX6_sees 20 = .ok (.aload_n 0, 1) := by decide +kernel
theorem dX6_sees_21 : decode cX6_sees 21 = .ok (.getfield 61, 3) := by decide +kernel
theorem dX6_sees_24 : decode cX6_sees 24 = .ok (.aload_n 0, 1) := by decide +kernel
theorem dX6_sees_25 : decode cX6_sees 25 = .ok (.getfield 94, 3) := by decide +kernel
theorem dX6_sees_28 : decode cX6_sees 28 = .ok (.lload_n 1, 1) := by decide +kernel
theorem dX6_sees_29 : decode cX6_sees 29 = .ok (.lastore, 1) := by decide +kernel
theorem dX6_sees_30 : decode cX6_sees 30 = .ok (.aload_n 0, 1) := by decide +kernel
theorem dX6_sees_31 : decode cX6_sees 31 = .ok (.dup, 1) := by decide +kernel
theorem dX6_sees_32 : decode cX6_sees 32 = .ok (.getfield 94, 3) := by decide +kernel
theorem dX6_sees_35 : decode cX6_sees 35 = .ok (.iconst 1, 1) := by decide +kernel
theorem dX6_sees_36 : decode cX6_sees 36 = .ok (.iadd, 1) := by decide +kernel
theorem dX6_sees_37 : decode cX6_sees 37 = .ok (.putfield 94, 3) := by decide +kernel
theorem dX6_sees_40 : decode cX6_sees 40 = .ok (.aload_n 0, 1) := by decide +kernel
theorem dX6_sees_41 : decode cX6_sees 41 = .ok (.getfield 94, 3) := by decide +kernel
theorem dX6_sees_44 : decode cX6_sees 44 = .ok (.ireturn, 1) := by decide +kernel
theorem dX6_forget_0 : decode cX6_forget 0 = .ok (.aload_n 0, 1) := by decide +kernel
theorem dX6_forget_1 : decode cX6_forget 1 = .ok (.getfield 94, 3) := by decide +kernel
theorem dX6_forget_4 : decode cX6_forget 4 = .ok (.istore_n 1, 1) := by decide +kernel
theorem dX6_forget_5 : decode cX6_forget 5 = .ok (.aload_n 0, 1) := by decide +kernel
theorem dX6_forget_6 : decode cX6_forget 6 = .ok (.iconst 0, 1) := by decide +kernel
theorem dX6_forget_7 : decode cX6_forget 7 = .ok (.putfield 94, 3) := by decide +kernel
theorem dX6_forget_10 : decode cX6_forget 10 = .ok (.iload_n 1, 1) := by decide +kernel
theorem dX6_forget_11 : decode cX6_forget 11 = .ok (.ireturn, 1) := by decide +kernel
set_option maxRecDepth 20000 in
theorem ggX6_unseen_X6_countRests : GoodIn wsX6_unseen wsX6_countRests := goodIn_r _ [8, 1, 2, 3, 9, 10, 11, 7, 12, 13, 14, 15, 16, 17, 18, 19, 20, 21, 22, 23, 24, 25, 26, 27, 28, 29, 30, 31, 32, 33, 34, 35, 36, 37, 38, 39, 40, 41, 42, 43, 44, 45, 46, 47, 48, 49, 50, 51, 52, 53, 54, 55, 56, 57, 58, 59, 60, 61, 62, 63, 64, 65, 66, 67, 68, 69, 70, 71, 72, 73, 74, 75, 76, 77, 78, 79, 80, 81, 82, 83, 84, 85, 92, 93, 94, 95, 96, 97, 98, 99, 100, 101, 102, 103, 104, 105, 106, 107, 108, 109, 110, 111, 112] rfl (by decide +kernel)
set_option maxRecDepth 20000 in
theorem gX6_unseen_X6_countRests : GoodIn wsX6_unseen (wsV RX6 184 RX6 yX6_countRests wsX6_countRests) := goodIn_app (goodIn_of _ (by decide +kernel)) ggX6_unseen_X6_countRests
set_option maxRecDepth 20000 in
theorem ggX6_unseen_X6_allSeenAre : GoodIn wsX6_unseen wsX6_allSeenAre := goodIn_r _ [89, 90, 91, 92, 93, 94, 95, 96, 97, 98, 99, 100, 101, 102, 103, 104] rfl (by decide +kernel)
set_option maxRecDepth 20000 in
theorem gX6_unseen_X6_allSeenAre : GoodIn wsX6_unseen (wsV RX6 223 RX6 yX6_allSeenAre wsX6_allSeenAre) := goodIn_app (goodIn_of _ (by decide +kernel)) ggX6_unseen_X6_allSeenAre
theorem dX6_unseen_0 : decode cX6_unseen 0 = .ok (.aload_n 0, 1) := by decide +kernel
theorem dX6_unseen_1 : decode cX6_unseen 1 = .ok (.invokevirtual 184, 3) := by decide +kernel
theorem dX6_unseen_4 : decode cX6_unseen 4 = .ok (.iconst 0, 1) := by decide +kernel
theorem dX6_unseen_5 : decode cX6_unseen 5 = .ok (.istore_n 1, 1) := by decide +kernel
theorem dX6_unseen_6 : decode cX6_unseen 6 = .ok (.iconst 0, 1) := by decide +kernel
theorem dX6_unseen_7 : decode cX6_unseen 7 = .ok (.istore_n 2, 1) := by decide +kernel
theorem dX6_unseen_8 : decode cX6_unseen 8 = .ok (.iload_n 2, 1) := by decide +kernel
theorem dX6_unseen_9 : decode cX6_unseen 9 = .ok (.aload_n 0, 1) := by decide +kernel
theorem dX6_unseen_10 : decode cX6_unseen 10 = .ok (.getfield 19, 3) := by decide +kernel
theorem dX6_unseen_13 : decode cX6_unseen 13 = .ok (.getfield 130, 3) := by decide +kernel
theorem dX6_unseen_16 : decode cX6_unseen 16 = .ok (.if_icmp .ge 28, 3) := by decide +kernel
theorem dX6_unseen_19 : decode cX6_unseen 19 = .ok (.aload_n 0, 1) := by decide +kernel
theorem dX6_unseen_20 : decode cX6_unseen 20 = .ok (.aload_n 0, 1) := by decide +kernel
theorem dX6_unseen_21 : decode cX6_unseen 21 = .ok (.getfield 29, 3) := by decide +kernel
theorem dX6_unseen_24 : decode cX6_unseen 24 = .ok (.iload_n 2, 1) := by decide +kernel
theorem dX6_unseen_25 : decode cX6_unseen 25 = .ok (.laload, 1) := by decide +kernel
theorem dX6_unseen_26 : decode cX6_unseen 26 = .ok (.invokevirtual 223, 3) := by decide +kernel
theorem dX6_unseen_29 : decode cX6_unseen 29 = .ok (.ifCond .eq 9, 3) := by decide +kernel
theorem dX6_unseen_32 : decode cX6_unseen 32 = .ok (.iload_n 1, 1) := by decide +kernel
theorem dX6_unseen_33 : decode cX6_unseen 33 = .ok (.iconst 1, 1) := by decide +kernel
theorem dX6_unseen_34 : decode cX6_unseen 34 = .ok (.iload_n 2, 1) := by decide +kernel
theorem dX6_unseen_35 : decode cX6_unseen 35 = .ok (.ishl, 1) := by decide +kernel
theorem dX6_unseen_36 : decode cX6_unseen 36 = .ok (.ior, 1) := by decide +kernel
theorem dX6_unseen_37 : decode cX6_unseen 37 = .ok (.istore_n 1, 1) := by decide +kernel
theorem dX6_unseen_38 : decode cX6_unseen 38 = .ok (.iinc 2 1, 3) := by decide +kernel
theorem dX6_unseen_41 : decode cX6_unseen 41 = .ok (.goto (-33), 3) := by decide +kernel
theorem dX6_unseen_44 : decode cX6_unseen 44 = .ok (.iload_n 1, 1) := by decide +kernel
theorem dX6_unseen_45 : decode cX6_unseen 45 = .ok (.ireturn, 1) := by decide +kernel
set_option maxRecDepth 20000 in
theorem ggX6_keep_X6_isImage : GoodIn wsX6_keep wsX6_isImage := goodIn_r _ [8] rfl (by decide +kernel)
set_option maxRecDepth 20000 in
theorem gX6_keep_X6_isImage : GoodIn wsX6_keep (va_wsS RX6 227 yX6_isImage wsX6_isImage) := goodIn_app (goodIn_of _ (by decide +kernel)) ggX6_keep_X6_isImage
set_option maxRecDepth 20000 in
theorem ggX6_keep_X1_copyFrom : GoodIn wsX6_keep wsX1_copyFrom := goodIn_r _ [13, 14, 15, 16, 17, 18, 19, 20, 21, 22, 12, 23, 24, 25, 26, 40, 41, 42, 43, 44] rfl (by decide +kernel)
set_option maxRecDepth 20000 in
theorem gX6_keep_X1_copyFrom : GoodIn wsX6_keep (wsV RX6 87 RX1 yX1_copyFrom wsX1_copyFrom) := goodIn_app (goodIn_of _ (by decide +kernel)) ggX6_keep_X1_copyFrom
theorem dX6_keep_0 : decode cX6_keep 0 = .ok (.iload_n 1, 1) := by decide +kernel
theorem dX6_keep_1 : decode cX6_keep 1 = .ok (.invokestatic 227, 3) := by decide +kernel
theorem dX6_keep_4 : decode cX6_keep 4 = .ok (.ifCond .ne 5, 3) := by decide +kernel
theorem dX6_keep_7 : decode cX6_keep 7 = .ok (.iconst (-1), 1) := by decide +kernel
theorem dX6_keep_8 : decode cX6_keep 8 = .ok (.ireturn, 1) := by decide +kernel
theorem dX6_keep_9 : decode cX6_keep 9 = .ok (.aload_n 0, 1) := by decide +kernel
theorem dX6_keep_10 : decode cX6_keep 10 = .ok (.getfield 64, 3) := by decide +kernel
theorem dX6_keep_13 : decode cX6_keep 13 = .ok (.iload_n 1, 1) := by decide +kernel
theorem dX6_keep_14 : decode cX6_keep 14 = .ok (.aaload, 1) := by decide +kernel
theorem dX6_keep_15 : decode cX6_keep 15 = .ok (.aload_n 0, 1) := by decide +kernel
theorem dX6_keep_16 : decode cX6_keep 16 = .ok (.getfield 19, 3) := by decide +kernel
theorem dX6_keep_19 : decode cX6_keep 19 = .ok (.invokevirtual 87, 3) := by decide +kernel
theorem dX6_keep_22 : decode cX6_keep 22 = .ok (.aload_n 0, 1) := by decide +kernel
theorem dX6_keep_23 : decode cX6_keep 23 = .ok (.getfield 68, 3) := by decide +kernel
theorem dX6_keep_26 : decode cX6_keep 26 = .ok (.iload_n 1, 1) := by decide +kernel
theorem dX6_keep_27 : decode cX6_keep 27 = .ok (.iconst 1, 1) := by decide +kernel
theorem dX6_keep_28 : decode cX6_keep 28 = .ok (.bastore, 1) := by decide +kernel
theorem dX6_keep_29 : decode cX6_keep 29 = .ok (.aload_n 0, 1) := by decide +kernel
theorem dX6_keep_30 : decode cX6_keep 30 = .ok (.getfield 19, 3) := by decide +kernel
theorem dX6_keep_33 : decode cX6_keep 33 = .ok (.getfield 230, 3) := by decide +kernel
theorem dX6_keep_36 : decode cX6_keep 36 = .ok (.ireturn, 1) := by decide +kernel
set_option maxRecDepth 20000 in
theorem ggX6_back_X6_isImage : GoodIn wsX6_back wsX6_isImage := goodIn_r _ [10] rfl (by decide +kernel)
set_option maxRecDepth 20000 in
theorem gX6_back_X6_isImage : GoodIn wsX6_back (va_wsS RX6 227 yX6_isImage wsX6_isImage) := goodIn_app (goodIn_of _ (by decide +kernel)) ggX6_back_X6_isImage
set_option maxRecDepth 20000 in
theorem ggX6_back_X1_copyFrom : GoodIn wsX6_back wsX1_copyFrom := goodIn_r _ [15, 16, 17, 18, 19, 20, 21, 22, 23, 24, 14, 25, 26, 27, 28, 46, 47, 48, 49, 50] rfl (by decide +kernel)
set_option maxRecDepth 20000 in
theorem gX6_back_X1_copyFrom : GoodIn wsX6_back (wsV RX6 87 RX1 yX1_copyFrom wsX1_copyFrom) := goodIn_app (goodIn_of _ (by decide +kernel)) ggX6_back_X1_copyFrom
theorem dX6_back_0 : decode cX6_back 0 = .ok (.iload_n 1, 1) := by decide +kernel
theorem dX6_back_1 : decode cX6_back 1 = .ok (.invokestatic 227, 3) := by decide +kernel
theorem dX6_back_4 : decode cX6_back 4 = .ok (.ifCond .ne 5, 3) := by decide +kernel
theorem dX6_back_7 : decode cX6_back 7 = .ok (.iconst (-1), 1) := by decide +kernel
theorem dX6_back_8 : decode cX6_back 8 = .ok (.ireturn, 1) := by decide +kernel
theorem dX6_back_9 : decode cX6_back 9 = .ok (.aload_n 0, 1) := by decide +kernel
theorem dX6_back_10 : decode cX6_back 10 = .ok (.getfield 68, 3) := by decide +kernel
theorem dX6_back_13 : decode cX6_back 13 = .ok (.iload_n 1, 1) := by decide +kernel
theorem dX6_back_14 : decode cX6_back 14 = .ok (.baload, 1) := by decide +kernel
theorem dX6_back_15 : decode cX6_back 15 = .ok (.ifCond .ne 6, 3) := by decide +kernel
theorem dX6_back_18 : decode cX6_back 18 = .ok (.bipush (-2), 2) := by decide +kernel
theorem dX6_back_20 : decode cX6_back 20 = .ok (.ireturn, 1) := by decide +kernel
theorem dX6_back_21 : decode cX6_back 21 = .ok (.aload_n 0, 1) := by decide +kernel
theorem dX6_back_22 : decode cX6_back 22 = .ok (.getfield 19, 3) := by decide +kernel
theorem dX6_back_25 : decode cX6_back 25 = .ok (.aload_n 0, 1) := by decide +kernel
theorem dX6_back_26 : decode cX6_back 26 = .ok (.getfield 64, 3) := by decide +kernel
theorem dX6_back_29 : decode cX6_back 29 = .ok (.iload_n 1, 1) := by decide +kernel
theorem dX6_back_30 : decode cX6_back 30 = .ok (.aaload, 1) := by decide +kernel
theorem dX6_back_31 : decode cX6_back 31 = .ok (.invokevirtual 87, 3) := by decide +kernel
theorem dX6_back_34 : decode cX6_back 34 = .ok (.aload_n 0, 1) := by decide +kernel
theorem dX6_back_35 : decode cX6_back 35 = .ok (.getfield 36, 3) := by decide +kernel
theorem dX6_back_38 : decode cX6_back 38 = .ok (.iconst 0, 1) := by decide +kernel
theorem dX6_back_39 : decode cX6_back 39 = .ok (.putfield 91, 3) := by decide +kernel
theorem dX6_back_42 : decode cX6_back 42 = .ok (.aload_n 0, 1) := by decide +kernel
theorem dX6_back_43 : decode cX6_back 43 = .ok (.getfield 19, 3) := by decide +kernel
theorem dX6_back_46 : decode cX6_back 46 = .ok (.getfield 230, 3) := by decide +kernel
theorem dX6_back_49 : decode cX6_back 49 = .ok (.ireturn, 1) := by decide +kernel
set_option maxRecDepth 20000 in
theorem ggX6_count_X1_whole : GoodIn wsX6_count wsX1_whole := goodIn_r _ [13, 14, 15, 16, 17, 12, 18, 19, 20, 21, 22, 23, 24, 25, 26, 27, 28, 29, 30, 31, 32, 33, 34, 35, 36, 37, 38, 39, 40, 41, 42, 64, 65, 66, 67, 68] rfl (by decide +kernel)
set_option maxRecDepth 20000 in
theorem gX6_count_X1_whole : GoodIn wsX6_count (wsV RX6 165 RX1 yX1_whole wsX1_whole) := goodIn_app (goodIn_of _ (by decide +kernel)) ggX6_count_X1_whole
set_option maxRecDepth 20000 in
theorem ggX6_count_X1_hangs : GoodIn wsX6_count wsX1_hangs := goodIn_r _ [46, 14, 47, 48, 49, 12, 50, 42, 19, 20, 21, 22, 23, 24, 25, 26, 27, 28, 29, 30, 31, 32, 64, 65, 66, 67, 68] rfl (by decide +kernel)
set_option maxRecDepth 20000 in
theorem gX6_count_X1_hangs : GoodIn wsX6_count (wsV RX6 145 RX1 yX1_hangs wsX1_hangs) := goodIn_app (goodIn_of _ (by decide +kernel)) ggX6_count_X1_hangs
theorem dX6_count_0 : decode cX6_count 0 = .ok (.iload_n 1, 1) := by decide +kernel
theorem dX6_count_1 : decode cX6_count 1 = .ok (.tableswitch 104 0 6 #[43, 51, 59, 67, 83, 88, 96], 43) := by decide +kernel
theorem dX6_count_44 : decode cX6_count 44 = .ok (.aload_n 0, 1) := by decide +kernel
theorem dX6_count_45 : decode cX6_count 45 = .ok (.getfield 19, 3) := by decide +kernel
theorem dX6_count_48 : decode cX6_count 48 = .ok (.getfield 230, 3) := by decide +kernel
theorem dX6_count_51 : decode cX6_count 51 = .ok (.ireturn, 1) := by decide +kernel
theorem dX6_count_52 : decode cX6_count 52 = .ok (.aload_n 0, 1) := by decide +kernel
theorem dX6_count_53 : decode cX6_count 53 = .ok (.getfield 19, 3) := by decide +kernel
theorem dX6_count_56 : decode cX6_count 56 = .ok (.getfield 130, 3) := by decide +kernel
theorem dX6_count_59 : decode cX6_count 59 = .ok (.ireturn, 1) := by decide +kernel
theorem dX6_count_60 : decode cX6_count 60 = .ok (.aload_n 0, 1) := by decide +kernel
theorem dX6_count_61 : decode cX6_count 61 = .ok (.getfield 19, 3) := by decide +kernel
theorem dX6_count_64 : decode cX6_count 64 = .ok (.invokevirtual 165, 3) := by decide +kernel
theorem dX6_count_67 : decode cX6_count 67 = .ok (.ireturn, 1) := by decide +kernel
theorem dX6_count_68 : decode cX6_count 68 = .ok (.aload_n 0, 1) := by decide +kernel
theorem dX6_count_69 : decode cX6_count 69 = .ok (.getfield 19, 3) := by decide +kernel
theorem dX6_count_72 : decode cX6_count 72 = .ok (.invokevirtual 145, 3) := by decide +kernel
theorem dX6_count_75 : decode cX6_count 75 = .ok (.ifCond .eq 7, 3) := by decide +kernel
theorem dX6_count_78 : decode cX6_count 78 = .ok (.iconst 1, 1) := by decide +kernel
theorem dX6_count_79 : decode cX6_count 79 = .ok (.goto 4, 3) := by decide +kernel
theorem dX6_count_82 : decode cX6_count 82 = .ok (.iconst 0, 1) := by decide +kernel
theorem dX6_count_83 : decode cX6_count 83 = .ok (.ireturn, 1) := by decide +kernel
theorem dX6_count_84 : decode cX6_count 84 = .ok (.aload_n 0, 1) := by decide +kernel
theorem dX6_count_85 : decode cX6_count 85 = .ok (.getfield 94, 3) := by decide +kernel
theorem dX6_count_88 : decode cX6_count 88 = .ok (.ireturn, 1) := by decide +kernel
theorem dX6_count_89 : decode cX6_count 89 = .ok (.aload_n 0, 1) := by decide +kernel
theorem dX6_count_90 : decode cX6_count 90 = .ok (.getfield 10, 3) := by decide +kernel
theorem dX6_count_93 : decode cX6_count 93 = .ok (.getfield 76, 3) := by decide +kernel
theorem dX6_count_96 : decode cX6_count 96 = .ok (.ireturn, 1) := by decide +kernel
theorem dX6_count_97 : decode cX6_count 97 = .ok (.aload_n 0, 1) := by decide +kernel
theorem dX6_count_98 : decode cX6_count 98 = .ok (.getfield 36, 3) := by decide +kernel
theorem dX6_count_101 : decode cX6_count 101 = .ok (.getfield 91, 3) := by decide +kernel
theorem dX6_count_104 : decode cX6_count 104 = .ok (.ireturn, 1) := by decide +kernel
theorem dX6_count_105 : decode cX6_count 105 = .ok (.iconst (-1), 1) := by decide +kernel
theorem dX6_count_106 : decode cX6_count 106 = .ok (.ireturn, 1) := by decide +kernel
set_option maxRecDepth 20000 in
theorem ggX6_areTwoNodes_X1_hasNode : GoodIn wsX6_areTwoNodes wsX1_hasNode := goodIn_r _ [6, 7, 21, 22, 23, 24, 25] rfl (by decide +kernel)
set_option maxRecDepth 20000 in
theorem gX6_areTwoNodes_X1_hasNode : GoodIn wsX6_areTwoNodes (wsV RX6 113 RX1 yX1_hasNode wsX1_hasNode) := goodIn_app (goodIn_of _ (by decide +kernel)) ggX6_areTwoNodes_X1_hasNode
theorem dX6_areTwoNodes_0 : decode cX6_areTwoNodes 0 = .ok (.aload_n 0, 1) := by decide +kernel
theorem dX6_areTwoNodes_1 : decode cX6_areTwoNodes 1 = .ok (.getfield 19, 3) := by decide +kernel
theorem dX6_areTwoNodes_4 : decode cX6_areTwoNodes 4 = .ok (.iload_n 1, 1) := by decide +kernel
theorem dX6_areTwoNodes_5 : decode cX6_areTwoNodes 5 = .ok (.invokevirtual 113, 3) := by decide +kernel
theorem dX6_areTwoNodes_8 : decode cX6_areTwoNodes 8 = .ok (.ifCond .eq 23, 3) := by decide +kernel
theorem dX6_areTwoNodes_11 : decode cX6_areTwoNodes 11 = .ok (.aload_n 0, 1) := by decide +kernel
theorem dX6_areTwoNodes_12 : decode cX6_areTwoNodes 12 = .ok (.getfield 19, 3) := by decide +kernel
theorem dX6_areTwoNodes_15 : decode cX6_areTwoNodes 15 = .ok (.iload_n 2, 1) := by decide +kernel
theorem dX6_areTwoNodes_16 : decode cX6_areTwoNodes 16 = .ok (.invokevirtual 113, 3) := by decide +kernel
theorem dX6_areTwoNodes_19 : decode cX6_areTwoNodes 19 = .ok (.ifCond .eq 12, 3) := by decide +kernel
theorem dX6_areTwoNodes_22 : decode cX6_areTwoNodes 22 = .ok (.iload_n 1, 1) := by decide +kernel
theorem dX6_areTwoNodes_23 : decode cX6_areTwoNodes 23 = .ok (.iload_n 2, 1) := by decide +kernel
theorem dX6_areTwoNodes_24 : decode cX6_areTwoNodes 24 = .ok (.if_icmp .eq 7, 3) := by decide +kernel
theorem dX6_areTwoNodes_27 : decode cX6_areTwoNodes 27 = .ok (.iconst 1, 1) := by decide +kernel
theorem dX6_areTwoNodes_28 : decode cX6_areTwoNodes 28 = .ok (.goto 4, 3) := by decide +kernel
theorem dX6_areTwoNodes_31 : decode cX6_areTwoNodes 31 = .ok (.iconst 0, 1) := by decide +kernel
theorem dX6_areTwoNodes_32 : decode cX6_areTwoNodes 32 = .ok (.ireturn, 1) := by decide +kernel
theorem dX6_isWidth_0 : decode cX6_isWidth 0 = .ok (.iload_n 0, 1) := by decide +kernel
theorem dX6_isWidth_1 : decode cX6_isWidth 1 = .ok (.iconst 1, 1) := by decide +kernel
theorem dX6_isWidth_2 : decode cX6_isWidth 2 = .ok (.if_icmp .lt 13, 3) := by decide +kernel
theorem dX6_isWidth_5 : decode cX6_isWidth 5 = .ok (.iload_n 0, 1) := by decide +kernel
theorem dX6_isWidth_6 : decode cX6_isWidth 6 = .ok (.bipush 9, 2) := by decide +kernel
theorem dX6_isWidth_8 : decode cX6_isWidth 8 = .ok (.if_icmp .gt 7, 3) := by decide +kernel
theorem dX6_isWidth_11 : decode cX6_isWidth 11 = .ok (.iconst 1, 1) := by decide +kernel
theorem dX6_isWidth_12 : decode cX6_isWidth 12 = .ok (.goto 4, 3) := by decide +kernel
theorem dX6_isWidth_15 : decode cX6_isWidth 15 = .ok (.iconst 0, 1) := by decide +kernel
theorem dX6_isWidth_16 : decode cX6_isWidth 16 = .ok (.ireturn, 1) := by decide +kernel
theorem dX6_isPart_0 : decode cX6_isPart 0 = .ok (.iload_n 0, 1) := by decide +kernel
theorem dX6_isPart_1 : decode cX6_isPart 1 = .ok (.ifCond .eq 8, 3) := by decide +kernel
theorem dX6_isPart_4 : decode cX6_isPart 4 = .ok (.iload_n 0, 1) := by decide +kernel
theorem dX6_isPart_5 : decode cX6_isPart 5 = .ok (.iconst 1, 1) := by decide +kernel
theorem dX6_isPart_6 : decode cX6_isPart 6 = .ok (.if_icmp .ne 7, 3) := by decide +kernel
theorem dX6_isPart_9 : decode cX6_isPart 9 = .ok (.iconst 1, 1) := by decide +kernel
theorem dX6_isPart_10 : decode cX6_isPart 10 = .ok (.goto 4, 3) := by decide +kernel
theorem dX6_isPart_13 : decode cX6_isPart 13 = .ok (.iconst 0, 1) := by decide +kernel
theorem dX6_isPart_14 : decode cX6_isPart 14 = .ok (.ireturn, 1) := by decide +kernel
theorem dX6_isImage_0 : decode cX6_isImage 0 = .ok (.iload_n 0, 1) := by decide +kernel
theorem dX6_isImage_1 : decode cX6_isImage 1 = .ok (.ifCond .lt 12, 3) := by decide +kernel
theorem dX6_isImage_4 : decode cX6_isImage 4 = .ok (.iload_n 0, 1) := by decide +kernel
theorem dX6_isImage_5 : decode cX6_isImage 5 = .ok (.iconst 2, 1) := by decide +kernel
theorem dX6_isImage_6 : decode cX6_isImage 6 = .ok (.if_icmp .ge 7, 3) := by decide +kernel
theorem dX6_isImage_9 : decode cX6_isImage 9 = .ok (.iconst 1, 1) := by decide +kernel
theorem dX6_isImage_10 : decode cX6_isImage 10 = .ok (.goto 4, 3) := by decide +kernel
theorem dX6_isImage_13 : decode cX6_isImage 13 = .ok (.iconst 0, 1) := by decide +kernel
theorem dX6_isImage_14 : decode cX6_isImage 14 = .ok (.ireturn, 1) := by decide +kernel
set_option maxRecDepth 20000 in
theorem ggX6_change_X1_widthAt : GoodIn wsX6_change wsX1_widthAt := goodIn_r _ [7, 8, 9, 10, 11, 6, 12, 13, 55, 56, 57, 58, 59] rfl (by decide +kernel)
set_option maxRecDepth 20000 in
theorem gX6_change_X1_widthAt : GoodIn wsX6_change (wsV RX6 119 RX1 yX1_widthAt wsX1_widthAt) := goodIn_app (goodIn_of _ (by decide +kernel)) ggX6_change_X1_widthAt
set_option maxRecDepth 20000 in
theorem ggX6_change_X2_notes : GoodIn wsX6_change wsX2_notes := goodIn_r _ [18, 19, 20, 21, 22, 23, 24, 25, 17, 26, 27, 28, 29, 30, 60, 61, 62, 63] rfl (by decide +kernel)
set_option maxRecDepth 20000 in
theorem gX6_change_X2_notes : GoodIn wsX6_change (wsV RX6 233 RX2 yX2_notes wsX2_notes) := goodIn_app (goodIn_of _ (by decide +kernel)) ggX6_change_X2_notes
set_option maxRecDepth 20000 in
theorem ggX6_change_X1_put : GoodIn wsX6_change wsX1_put := goodIn_r _ [34, 8, 9, 10, 11, 6, 12, 13, 35, 36, 37, 38, 39, 40, 41, 55, 56, 57, 58, 59] rfl (by decide +kernel)
set_option maxRecDepth 20000 in
theorem gX6_change_X1_put : GoodIn wsX6_change (wsV RX6 236 RX1 yX1_put wsX1_put) := goodIn_app (goodIn_of _ (by decide +kernel)) ggX6_change_X1_put
theorem dX6_change_0 : decode cX6_change 0 = .ok (.aload_n 0, 1) := by decide +kernel
theorem dX6_change_1 : decode cX6_change 1 = .ok (.getfield 36, 3) := by decide +kernel
theorem dX6_change_4 : decode cX6_change 4 = .ok (.iload_n 1, 1) := by decide +kernel
theorem dX6_change_5 : decode cX6_change 5 = .ok (.iload_n 2, 1) := by decide +kernel
theorem dX6_change_6 : decode cX6_change 6 = .ok (.aload_n 0, 1) := by decide +kernel
theorem dX6_change_7 : decode cX6_change 7 = .ok (.getfield 19, 3) := by decide +kernel
theorem dX6_change_10 : decode cX6_change 10 = .ok (.iload_n 1, 1) := by decide +kernel
theorem dX6_change_11 : decode cX6_change 11 = .ok (.iload_n 2, 1) := by decide +kernel
theorem dX6_change_12 : decode cX6_change 12 = .ok (.invokevirtual 119, 3) := by decide +kernel
theorem dX6_change_15 : decode cX6_change 15 = .ok (.invokevirtual 233, 3) := by decide +kernel
theorem dX6_change_18 : decode cX6_change 18 = .ok (.aload_n 0, 1) := by decide +kernel
theorem dX6_change_19 : decode cX6_change 19 = .ok (.getfield 19, 3) := by decide +kernel
theorem dX6_change_22 : decode cX6_change 22 = .ok (.iload_n 1, 1) := by decide +kernel
theorem dX6_change_23 : decode cX6_change 23 = .ok (.iload_n 2, 1) := by decide +kernel
theorem dX6_change_24 : decode cX6_change 24 = .ok (.iload_n 3, 1) := by decide +kernel
theorem dX6_change_25 : decode cX6_change 25 = .ok (.invokevirtual 236, 3) := by decide +kernel
theorem dX6_change_28 : decode cX6_change 28 = .ok (.return_, 1) := by decide +kernel
set_option maxRecDepth 20000 in
theorem ggX6_leaveOut_X1_copyFrom : GoodIn wsX6_leaveOut wsX1_copyFrom := goodIn_r _ [7, 8, 9, 10, 11, 12, 13, 14, 15, 16, 6, 17, 18, 19, 20, 54, 55, 56, 57, 58] rfl (by decide +kernel)
set_option maxRecDepth 20000 in
theorem gX6_leaveOut_X1_copyFrom : GoodIn wsX6_leaveOut (wsV RX6 87 RX1 yX1_copyFrom wsX1_copyFrom) := goodIn_app (goodIn_of _ (by decide +kernel)) ggX6_leaveOut_X1_copyFrom
set_option maxRecDepth 20000 in
theorem ggX6_leaveOut_X1_lowOf : GoodIn wsX6_leaveOut wsX1_lowOf := goodIn_r _ [24, 19, 25, 26, 27, 6, 28, 18, 54, 55, 56, 57, 58] rfl (by decide +kernel)
set_option maxRecDepth 20000 in
theorem gX6_leaveOut_X1_lowOf : GoodIn wsX6_leaveOut (wsV RX6 103 RX1 yX1_lowOf wsX1_lowOf) := goodIn_app (goodIn_of _ (by decide +kernel)) ggX6_leaveOut_X1_lowOf
set_option maxRecDepth 20000 in
theorem ggX6_leaveOut_X1_highOf : GoodIn wsX6_leaveOut wsX1_highOf := goodIn_r _ [32, 20, 25, 26, 27, 6, 28, 18, 54, 55, 56, 57, 58] rfl (by decide +kernel)
set_option maxRecDepth 20000 in
theorem gX6_leaveOut_X1_highOf : GoodIn wsX6_leaveOut (wsV RX6 107 RX1 yX1_highOf wsX1_highOf) := goodIn_app (goodIn_of _ (by decide +kernel)) ggX6_leaveOut_X1_highOf
set_option maxRecDepth 20000 in
theorem ggX6_leaveOut_X1_put : GoodIn wsX6_leaveOut wsX1_put := goodIn_r _ [36, 9, 37, 38, 39, 6, 40, 8, 14, 15, 16, 17, 18, 19, 20, 54, 55, 56, 57, 58] rfl (by decide +kernel)
set_option maxRecDepth 20000 in
theorem gX6_leaveOut_X1_put : GoodIn wsX6_leaveOut (wsV RX6 236 RX1 yX1_put wsX1_put) := goodIn_app (goodIn_of _ (by decide +kernel)) ggX6_leaveOut_X1_put
theorem dX6_leaveOut_0 : decode cX6_leaveOut 0 = .ok (.aload_n 0, 1) := by decide +kernel
theorem dX6_leaveOut_1 : decode cX6_leaveOut 1 = .ok (.getfield 26, 3) := by decide +kernel
theorem dX6_leaveOut_4 : decode cX6_leaveOut 4 = .ok (.aload_n 0, 1) := by decide +kernel
theorem dX6_leaveOut_5 : decode cX6_leaveOut 5 = .ok (.getfield 19, 3) := by decide +kernel
theorem dX6_leaveOut_8 : decode cX6_leaveOut 8 = .ok (.invokevirtual 87, 3) := by decide +kernel
theorem dX6_leaveOut_11 : decode cX6_leaveOut 11 = .ok (.aload_n 0, 1) := by decide +kernel
theorem dX6_leaveOut_12 : decode cX6_leaveOut 12 = .ok (.getfield 26, 3) := by decide +kernel
theorem dX6_leaveOut_15 : decode cX6_leaveOut 15 = .ok (.aload_n 0, 1) := by decide +kernel
theorem dX6_leaveOut_16 : decode cX6_leaveOut 16 = .ok (.getfield 19, 3) := by decide +kernel
theorem dX6_leaveOut_19 : decode cX6_leaveOut 19 = .ok (.iload_n 1, 1) := by decide +kernel
theorem dX6_leaveOut_20 : decode cX6_leaveOut 20 = .ok (.invokevirtual 103, 3) := by decide +kernel
theorem dX6_leaveOut_23 : decode cX6_leaveOut 23 = .ok (.aload_n 0, 1) := by decide +kernel
theorem dX6_leaveOut_24 : decode cX6_leaveOut 24 = .ok (.getfield 19, 3) := by decide +kernel
theorem dX6_leaveOut_27 : decode cX6_leaveOut 27 = .ok (.iload_n 1, 1) := by decide +kernel
theorem dX6_leaveOut_28 : decode cX6_leaveOut 28 = .ok (.invokevirtual 107, 3) := by decide +kernel
theorem dX6_leaveOut_31 : decode cX6_leaveOut 31 = .ok (.iconst 0, 1) := by decide +kernel
theorem dX6_leaveOut_32 : decode cX6_leaveOut 32 = .ok (.invokevirtual 236, 3) := by decide +kernel
theorem dX6_leaveOut_35 : decode cX6_leaveOut 35 = .ok (.return_, 1) := by decide +kernel
set_option maxRecDepth 20000 in
theorem ggX6_treesWithout_X6_leaveOut : GoodIn wsX6_treesWithout wsX6_leaveOut := goodIn_r _ [7, 2, 8, 9, 10, 11, 12, 13, 14, 15, 16, 17, 18, 19, 20, 21, 22, 23, 24, 25, 26, 27, 28, 29, 30, 31, 32, 33, 34, 35, 36, 37, 38, 39, 40, 41, 42, 43, 44, 45, 46, 76, 77, 78, 79, 80, 81, 82, 83, 84, 85, 86, 87, 88, 89, 90, 91, 92, 93] rfl (by decide +kernel)
set_option maxRecDepth 20000 in
theorem gX6_treesWithout_X6_leaveOut : GoodIn wsX6_treesWithout (wsV RX6 208 RX6 yX6_leaveOut wsX6_leaveOut) := goodIn_app (goodIn_of _ (by decide +kernel)) ggX6_treesWithout_X6_leaveOut
set_option maxRecDepth 20000 in
theorem ggX6_treesWithout_X0_treeSum : GoodIn wsX6_treesWithout wsX0_treeSum := goodIn_r _ [51, 52, 53, 54, 50, 55, 56, 57, 58, 59, 60, 61, 62, 63, 64, 65, 66, 12, 67, 14, 15, 43, 44, 45, 46, 68, 69, 70, 71, 72, 73, 74, 75, 94, 95, 96, 89, 90, 91, 92, 93] rfl (by decide +kernel)
set_option maxRecDepth 20000 in
theorem gX6_treesWithout_X0_treeSum : GoodIn wsX6_treesWithout (wsV RX6 155 RX0 yX0_treeSum wsX0_treeSum) := goodIn_app (goodIn_of _ (by decide +kernel)) ggX6_treesWithout_X0_treeSum
theorem dX6_treesWithout_0 : decode cX6_treesWithout 0 = .ok (.aload_n 0, 1) := by decide +kernel
theorem dX6_treesWithout_1 : decode cX6_treesWithout 1 = .ok (.iload_n 1, 1) := by decide +kernel
theorem dX6_treesWithout_2 : decode cX6_treesWithout 2 = .ok (.invokevirtual 208, 3) := by decide +kernel
theorem dX6_treesWithout_5 : decode cX6_treesWithout 5 = .ok (.aload_n 0, 1) := by decide +kernel
theorem dX6_treesWithout_6 : decode cX6_treesWithout 6 = .ok (.getfield 43, 3) := by decide +kernel
theorem dX6_treesWithout_9 : decode cX6_treesWithout 9 = .ok (.aload_n 0, 1) := by decide +kernel
theorem dX6_treesWithout_10 : decode cX6_treesWithout 10 = .ok (.getfield 26, 3) := by decide +kernel
theorem dX6_treesWithout_13 : decode cX6_treesWithout 13 = .ok (.invokevirtual 155, 3) := by decide +kernel
theorem dX6_treesWithout_16 : decode cX6_treesWithout 16 = .ok (.lreturn, 1) := by decide +kernel
set_option maxRecDepth 20000 in
theorem ggX6_countRests_X6_treesWithout : GoodIn wsX6_countRests wsX6_treesWithout := goodIn_r _ [8, 9, 10, 11, 12, 13, 7, 14, 1, 15, 16, 17, 18, 19, 20, 21, 22, 23, 24, 25, 26, 27, 28, 29, 30, 31, 32, 33, 34, 35, 36, 37, 38, 39, 40, 41, 42, 43, 44, 45, 46, 47, 48, 49, 50, 51, 52, 53, 54, 55, 56, 57, 58, 59, 60, 61, 62, 63, 64, 65, 66, 67, 68, 69, 70, 71, 72, 73, 74, 75, 76, 77, 78, 79, 80, 81, 82, 83, 84, 85, 86, 87, 88, 89, 90, 91, 92, 93, 94, 95, 96, 97, 98, 99, 100, 101, 102] rfl (by decide +kernel)
set_option maxRecDepth 20000 in
theorem gX6_countRests_X6_treesWithout : GoodIn wsX6_countRests (wsV RX6 180 RX6 yX6_treesWithout wsX6_treesWithout) := goodIn_app (goodIn_of _ (by decide +kernel)) ggX6_countRests_X6_treesWithout
theorem dX6_countRests_0 : decode cX6_countRests 0 = .ok (.iconst 0, 1) := by decide +kernel
theorem dX6_countRests_1 : decode cX6_countRests 1 = .ok (.istore_n 1, 1) := by decide +kernel
theorem dX6_countRests_2 : decode cX6_countRests 2 = .ok (.iload_n 1, 1) := by decide +kernel
theorem dX6_countRests_3 : decode cX6_countRests 3 = .ok (.aload_n 0, 1) := by decide +kernel
theorem dX6_countRests_4 : decode cX6_countRests 4 = .ok (.getfield 19, 3) := by decide +kernel
theorem dX6_countRests_7 : decode cX6_countRests 7 = .ok (.getfield 130, 3) := by decide +kernel
theorem dX6_countRests_10 : decode cX6_countRests 10 = .ok (.if_icmp .ge 20, 3) := by decide +kernel
theorem dX6_countRests_13 : decode cX6_countRests 13 = .ok (.aload_n 0, 1) := by decide +kernel
theorem dX6_countRests_14 : decode cX6_countRests 14 = .ok (.getfield 29, 3) := by decide +kernel
theorem dX6_countRests_17 : decode cX6_countRests 17 = .ok (.iload_n 1, 1) := by decide +kernel
theorem dX6_countRests_18 : decode cX6_countRests 18 = .ok (.aload_n 0, 1) := by decide +kernel
theorem dX6_countRests_19 : decode cX6_countRests 19 = .ok (.iload_n 1, 1) := by decide +kernel
theorem dX6_countRests_20 : decode cX6_countRests 20 = .ok (.invokevirtual 180, 3) := by decide +kernel
theorem dX6_countRests_23 : decode cX6_countRests 23 = .ok (.lastore, 1) := by decide +kernel
theorem dX6_countRests_24 : decode cX6_countRests 24 = .ok (.iinc 1 1, 3) := by decide +kernel
theorem dX6_countRests_27 : decode cX6_countRests 27 = .ok (.goto (-25), 3) := by decide +kernel
theorem dX6_countRests_30 : decode cX6_countRests 30 = .ok (.return_, 1) := by decide +kernel
theorem dX6_linesRankedAhead_0 : decode cX6_linesRankedAhead 0 = .ok (.iconst 0, 1) := by decide +kernel
theorem dX6_linesRankedAhead_1 : decode cX6_linesRankedAhead 1 = .ok (.istore_n 2, 1) := by decide +kernel
theorem dX6_linesRankedAhead_2 : decode cX6_linesRankedAhead 2 = .ok (.iconst 0, 1) := by decide +kernel
theorem dX6_linesRankedAhead_3 : decode cX6_linesRankedAhead 3 = .ok (.istore_n 3, 1) := by decide +kernel
theorem dX6_linesRankedAhead_4 : decode cX6_linesRankedAhead 4 = .ok (.iload_n 3, 1) := by decide +kernel
theorem dX6_linesRankedAhead_5 : decode cX6_linesRankedAhead 5 = .ok (.aload_n 0, 1) := by decide +kernel
theorem dX6_linesRankedAhead_6 : decode cX6_linesRankedAhead 6 = .ok (.getfield 19, 3) := by decide +kernel
theorem dX6_linesRankedAhead_9 : decode cX6_linesRankedAhead 9 = .ok (.getfield 130, 3) := by decide +kernel
theorem dX6_linesRankedAhead_12 : decode cX6_linesRankedAhead 12 = .ok (.if_icmp .ge 49, 3) := by decide +kernel
theorem dX6_linesRankedAhead_15 : decode cX6_linesRankedAhead 15 = .ok (.aload_n 0, 1) := by decide +kernel
theorem dX6_linesRankedAhead_16 : decode cX6_linesRankedAhead 16 = .ok (.getfield 29, 3) := by decide +kernel
theorem dX6_linesRankedAhead_19 : decode cX6_linesRankedAhead 19 = .ok (.iload_n 3, 1) := by decide +kernel
theorem dX6_linesRankedAhead_20 : decode cX6_linesRankedAhead 20 = .ok (.laload, 1) := by decide +kernel
theorem dX6_linesRankedAhead_21 : decode cX6_linesRankedAhead 21 = .ok (.aload_n 0, 1) := by decide +kernel
theorem dX6_linesRankedAhead_22 : decode cX6_linesRankedAhead 22 = .ok (.getfield 29, 3) := by decide +kernel
theorem dX6_linesRankedAhead_25 : decode cX6_linesRankedAhead 25 = .ok (.iload_n 1, 1) := by decide +kernel
theorem dX6_linesRankedAhead_26 : decode cX6_linesRankedAhead 26 = .ok (.laload, 1) := by decide +kernel
theorem dX6_linesRankedAhead_27 : decode cX6_linesRankedAhead 27 = .ok (.lcmp, 1) := by decide +kernel
theorem dX6_linesRankedAhead_28 : decode cX6_linesRankedAhead 28 = .ok (.ifCond .lt 24, 3) := by decide +kernel
theorem dX6_linesRankedAhead_31 : decode cX6_linesRankedAhead 31 = .ok (.aload_n 0, 1) := by decide +kernel
theorem dX6_linesRankedAhead_32 : decode cX6_linesRankedAhead 32 = .ok (.getfield 29, 3) := by decide +kernel
theorem dX6_linesRankedAhead_35 : decode cX6_linesRankedAhead 35 = .ok (.iload_n 3, 1) := by decide +kernel
theorem dX6_linesRankedAhead_36 : decode cX6_linesRankedAhead 36 = .ok (.laload, 1) := by decide +kernel
theorem dX6_linesRankedAhead_37 : decode cX6_linesRankedAhead 37 = .ok (.aload_n 0, 1) := by decide +kernel
theorem dX6_linesRankedAhead_38 : decode cX6_linesRankedAhead 38 = .ok (.getfield 29, 3) := by decide +kernel
theorem dX6_linesRankedAhead_41 : decode cX6_linesRankedAhead 41 = .ok (.iload_n 1, 1) := by decide +kernel
theorem dX6_linesRankedAhead_42 : decode cX6_linesRankedAhead 42 = .ok (.laload, 1) := by decide +kernel
theorem dX6_linesRankedAhead_43 : decode cX6_linesRankedAhead 43 = .ok (.lcmp, 1) := by decide +kernel
theorem dX6_linesRankedAhead_44 : decode cX6_linesRankedAhead 44 = .ok (.ifCond .ne 11, 3) := by decide +kernel
theorem dX6_linesRankedAhead_47 : decode cX6_linesRankedAhead 47 = .ok (.iload_n 3, 1) := by decide +kernel
theorem dX6_linesRankedAhead_48 : decode cX6_linesRankedAhead 48 = .ok (.iload_n 1, 1) := by decide +kernel
theorem dX6_linesRankedAhead_49 : decode cX6_linesRankedAhead 49 = .ok (.if_icmp .ge 6, 3) := by decide +kernel
theorem dX6_linesRankedAhead_52 : decode cX6_linesRankedAhead 52 = .ok (.iinc 2 1, 3) := by decide +kernel
theorem dX6_linesRankedAhead_55 : decode cX6_linesRankedAhead 55 = .ok (.iinc 3 1, 3) := by decide +kernel
theorem dX6_linesRankedAhead_58 : decode cX6_linesRankedAhead 58 = .ok (.goto (-54), 3) := by decide +kernel
theorem dX6_linesRankedAhead_61 : decode cX6_linesRankedAhead 61 = .ok (.iload_n 2, 1) := by decide +kernel
theorem dX6_linesRankedAhead_62 : decode cX6_linesRankedAhead 62 = .ok (.ireturn, 1) := by decide +kernel
theorem dX6_allSeenAre_0 : decode cX6_allSeenAre 0 = .ok (.iconst 0, 1) := by decide +kernel
theorem dX6_allSeenAre_1 : decode cX6_allSeenAre 1 = .ok (.istore_n 3, 1) := by decide +kernel
theorem dX6_allSeenAre_2 : decode cX6_allSeenAre 2 = .ok (.iload_n 3, 1) := by decide +kernel
theorem dX6_allSeenAre_3 : decode cX6_allSeenAre 3 = .ok (.aload_n 0, 1) := by decide +kernel
theorem dX6_allSeenAre_4 : decode cX6_allSeenAre 4 = .ok (.getfield 94, 3) := by decide +kernel
theorem dX6_allSeenAre_7 : decode cX6_allSeenAre 7 = .ok (.if_icmp .ge 22, 3) := by decide +kernel
theorem dX6_allSeenAre_10 : decode cX6_allSeenAre 10 = .ok (.aload_n 0, 1) := by decide +kernel
theorem dX6_allSeenAre_11 : decode cX6_allSeenAre 11 = .ok (.getfield 61, 3) := by decide +kernel
theorem dX6_allSeenAre_14 : decode cX6_allSeenAre 14 = .ok (.iload_n 3, 1) := by decide +kernel
theorem dX6_allSeenAre_15 : decode cX6_allSeenAre 15 = .ok (.laload, 1) := by decide +kernel
theorem dX6_allSeenAre_16 : decode cX6_allSeenAre 16 = .ok (.lload_n 1, 1) := by decide +kernel
theorem dX6_allSeenAre_17 : decode cX6_allSeenAre 17 = .ok (.lcmp, 1) := by decide +kernel
theorem dX6_allSeenAre_18 : decode cX6_allSeenAre 18 = .ok (.ifCond .eq 5, 3) := by decide +kernel
theorem dX6_allSeenAre_21 : decode cX6_allSeenAre 21 = .ok (.iconst 0, 1) := by decide +kernel
theorem dX6_allSeenAre_22 : decode cX6_allSeenAre 22 = .ok (.ireturn, 1) := by decide +kernel
theorem dX6_allSeenAre_23 : decode cX6_allSeenAre 23 = .ok (.iinc 3 1, 3) := by decide +kernel
theorem dX6_allSeenAre_26 : decode cX6_allSeenAre 26 = .ok (.goto (-24), 3) := by decide +kernel
theorem dX6_allSeenAre_29 : decode cX6_allSeenAre 29 = .ok (.iconst 1, 1) := by decide +kernel
theorem dX6_allSeenAre_30 : decode cX6_allSeenAre 30 = .ok (.ireturn, 1) := by decide +kernel
set_option maxRecDepth 20000 in
theorem ggX6_partOf_X6_commonDivisor : GoodIn wsX6_partOf wsX6_commonDivisor := goodIn_r _ [4, 5, 6, 7, 8] rfl (by decide +kernel)
set_option maxRecDepth 20000 in
theorem gX6_partOf_X6_commonDivisor : GoodIn wsX6_partOf (va_wsS RX6 239 yX6_commonDivisor wsX6_commonDivisor) := goodIn_app (goodIn_of _ (by decide +kernel)) ggX6_partOf_X6_commonDivisor
theorem dX6_partOf_0 : decode cX6_partOf 0 = .ok (.lload_n 0, 1) := by decide +kernel
theorem dX6_partOf_1 : decode cX6_partOf 1 = .ok (.lload_n 2, 1) := by decide +kernel
theorem dX6_partOf_2 : decode cX6_partOf 2 = .ok (.invokestatic 239, 3) := by decide +kernel
theorem dX6_partOf_5 : decode cX6_partOf 5 = .ok (.lstore 5, 2) := by decide +kernel
theorem dX6_partOf_7 : decode cX6_partOf 7 = .ok (.iload 4, 2) := by decide +kernel
theorem dX6_partOf_9 : decode cX6_partOf 9 = .ok (.ifCond .ne 7, 3) := by decide +kernel
theorem dX6_partOf_12 : decode cX6_partOf 12 = .ok (.lload_n 0, 1) := by decide +kernel
theorem dX6_partOf_13 : decode cX6_partOf 13 = .ok (.goto 4, 3) := by decide +kernel
theorem dX6_partOf_16 : decode cX6_partOf 16 = .ok (.lload_n 2, 1) := by decide +kernel
theorem dX6_partOf_17 : decode cX6_partOf 17 = .ok (.lload 5, 2) := by decide +kernel
theorem dX6_partOf_19 : decode cX6_partOf 19 = .ok (.ldiv, 1) := by decide +kernel
theorem dX6_partOf_20 : decode cX6_partOf 20 = .ok (.lreturn, 1) := by decide +kernel
theorem dX6_commonDivisor_0 : decode cX6_commonDivisor 0 = .ok (.lload_n 0, 1) := by decide +kernel
theorem dX6_commonDivisor_1 : decode cX6_commonDivisor 1 = .ok (.invokestatic 243, 3) := by decide +kernel
theorem dX6_commonDivisor_4 : decode cX6_commonDivisor 4 = .ok (.lstore 4, 2) := by decide +kernel
theorem dX6_commonDivisor_6 : decode cX6_commonDivisor 6 = .ok (.lload_n 2, 1) := by decide +kernel
theorem dX6_commonDivisor_7 : decode cX6_commonDivisor 7 = .ok (.invokestatic 243, 3) := by decide +kernel
theorem dX6_commonDivisor_10 : decode cX6_commonDivisor 10 = .ok (.lstore 6, 2) := by decide +kernel
theorem dX6_commonDivisor_12 : decode cX6_commonDivisor 12 = .ok (.iconst 0, 1) := by decide +kernel
theorem dX6_commonDivisor_13 : decode cX6_commonDivisor 13 = .ok (.istore 8, 2) := by decide +kernel
theorem dX6_commonDivisor_15 : decode cX6_commonDivisor 15 = .ok (.iload 8, 2) := by decide +kernel
theorem dX6_commonDivisor_17 : decode cX6_commonDivisor 17 = .ok (.bipush 100, 2) := by decide +kernel
theorem dX6_commonDivisor_19 : decode cX6_commonDivisor 19 = .ok (.if_icmp .ge 31, 3) := by decide +kernel
theorem dX6_commonDivisor_22 : decode cX6_commonDivisor 22 = .ok (.lload 6, 2) := by decide +kernel
theorem dX6_commonDivisor_24 : decode cX6_commonDivisor 24 = .ok (.lconst 0, 1) := by decide +kernel
theorem dX6_commonDivisor_25 : decode cX6_commonDivisor 25 = .ok (.lcmp, 1) := by decide +kernel
theorem dX6_commonDivisor_26 : decode cX6_commonDivisor 26 = .ok (.ifCond .eq 24, 3) := by decide +kernel
theorem dX6_commonDivisor_29 : decode cX6_commonDivisor 29 = .ok (.lload 4, 2) := by decide +kernel
theorem dX6_commonDivisor_31 : decode cX6_commonDivisor 31 = .ok (.lload 6, 2) := by decide +kernel
theorem dX6_commonDivisor_33 : decode cX6_commonDivisor 33 = .ok (.lrem, 1) := by decide +kernel
theorem dX6_commonDivisor_34 : decode cX6_commonDivisor 34 = .ok (.lstore 9, 2) := by decide +kernel
theorem dX6_commonDivisor_36 : decode cX6_commonDivisor 36 = .ok (.lload 6, 2) := by decide +kernel
theorem dX6_commonDivisor_38 : decode cX6_commonDivisor 38 = .ok (.lstore 4, 2) := by decide +kernel
theorem dX6_commonDivisor_40 : decode cX6_commonDivisor 40 = .ok (.lload 9, 2) := by decide +kernel
theorem dX6_commonDivisor_42 : decode cX6_commonDivisor 42 = .ok (.lstore 6, 2) := by decide +kernel
theorem dX6_commonDivisor_44 : decode cX6_commonDivisor 44 = .ok (.iinc 8 1, 3) := by decide +kernel
theorem dX6_commonDivisor_47 : decode cX6_commonDivisor 47 = .ok (.goto (-32), 3) := by decide +kernel
theorem dX6_commonDivisor_50 : decode cX6_commonDivisor 50 = .ok (.lload 4, 2) := by decide +kernel
theorem dX6_commonDivisor_52 : decode cX6_commonDivisor 52 = .ok (.lconst 0, 1) := by decide +kernel
theorem dX6_commonDivisor_53 : decode cX6_commonDivisor 53 = .ok (.lcmp, 1) := by decide +kernel
theorem dX6_commonDivisor_54 : decode cX6_commonDivisor 54 = .ok (.ifCond .le 8, 3) := by decide +kernel
theorem dX6_commonDivisor_57 : decode cX6_commonDivisor 57 = .ok (.lload 4, 2) := by decide +kernel
theorem dX6_commonDivisor_59 : decode cX6_commonDivisor 59 = .ok (.goto 4, 3) := by decide +kernel
theorem dX6_commonDivisor_62 : decode cX6_commonDivisor 62 = .ok (.lconst 1, 1) := by decide +kernel
theorem dX6_commonDivisor_63 : decode cX6_commonDivisor 63 = .ok (.lreturn, 1) := by decide +kernel
theorem dX6_power_0 : decode cX6_power 0 = .ok (.lconst 1, 1) := by decide +kernel
theorem dX6_power_1 : decode cX6_power 1 = .ok (.lstore_n 2, 1) := by decide +kernel
theorem dX6_power_2 : decode cX6_power 2 = .ok (.iconst 0, 1) := by decide +kernel
theorem dX6_power_3 : decode cX6_power 3 = .ok (.istore 4, 2) := by decide +kernel
theorem dX6_power_5 : decode cX6_power 5 = .ok (.iload 4, 2) := by decide +kernel
theorem dX6_power_7 : decode cX6_power 7 = .ok (.iload_n 1, 1) := by decide +kernel
theorem dX6_power_8 : decode cX6_power 8 = .ok (.if_icmp .ge 14, 3) := by decide +kernel
theorem dX6_power_11 : decode cX6_power 11 = .ok (.lload_n 2, 1) := by decide +kernel
theorem dX6_power_12 : decode cX6_power 12 = .ok (.iload_n 0, 1) := by decide +kernel
theorem dX6_power_13 : decode cX6_power 13 = .ok (.i2l, 1) := by decide +kernel
theorem dX6_power_14 : decode cX6_power 14 = .ok (.lmul, 1) := by decide +kernel
theorem dX6_power_15 : decode cX6_power 15 = .ok (.lstore_n 2, 1) := by decide +kernel
theorem dX6_power_16 : decode cX6_power 16 = .ok (.iinc 4 1, 3) := by decide +kernel
theorem dX6_power_19 : decode cX6_power 19 = .ok (.goto (-14), 3) := by decide +kernel
theorem dX6_power_22 : decode cX6_power 22 = .ok (.lload_n 2, 1) := by decide +kernel
theorem dX6_power_23 : decode cX6_power 23 = .ok (.lreturn, 1) := by decide +kernel
