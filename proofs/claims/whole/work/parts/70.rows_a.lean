theorem dX0_init_0 : decode cX0_init 0 = .ok (.aload_n 0, 1) := by decide +kernel
theorem dX0_init_1 : decode cX0_init 1 = .ok (.invokespecial 3, 3) := by decide +kernel
theorem dX0_init_4 : decode cX0_init 4 = .ok (.aload_n 0, 1) := by decide +kernel
theorem dX0_init_5 : decode cX0_init 5 = .ok (.iconst 5, 1) := by decide +kernel
theorem dX0_init_6 : decode cX0_init 6 = .ok (.iconst 5, 1) := by decide +kernel
theorem dX0_init_7 : decode cX0_init 7 = .ok (.multianewarray 9 2, 4) := by decide +kernel
theorem dX0_init_11 : decode cX0_init 11 = .ok (.putfield 11, 3) := by decide +kernel
theorem dX0_init_14 : decode cX0_init 14 = .ok (.aload_n 0, 1) := by decide +kernel
theorem dX0_init_15 : decode cX0_init 15 = .ok (.iconst 5, 1) := by decide +kernel
theorem dX0_init_16 : decode cX0_init 16 = .ok (.newarray .int, 2) := by decide +kernel
theorem dX0_init_18 : decode cX0_init 18 = .ok (.putfield 16, 3) := by decide +kernel
theorem dX0_init_21 : decode cX0_init 21 = .ok (.return_, 1) := by decide +kernel
set_option maxRecDepth 20000 in
theorem ggX0_treeSum_X0_load : GoodIn wsX0_treeSum wsX0_load := goodIn_r _ [5, 6, 7, 8, 9, 10, 11, 12, 4, 13, 14, 15, 16, 17, 18, 19, 20, 21, 22, 23, 24, 25, 26, 27, 28, 33, 34, 35, 36, 37, 38, 39, 40] rfl (by decide +kernel)
set_option maxRecDepth 20000 in
theorem gX0_treeSum_X0_load : GoodIn wsX0_treeSum (wsV RX0 20 RX0 yX0_load wsX0_load) := goodIn_app (goodIn_of _ (by decide +kernel)) ggX0_treeSum_X0_load
set_option maxRecDepth 20000 in
theorem ggX0_treeSum_X0_determinant : GoodIn wsX0_treeSum wsX0_determinant := goodIn_r _ [32, 6, 8, 33, 34, 35] rfl (by decide +kernel)
set_option maxRecDepth 20000 in
theorem gX0_treeSum_X0_determinant : GoodIn wsX0_treeSum (wsV RX0 24 RX0 yX0_determinant wsX0_determinant) := goodIn_app (goodIn_of _ (by decide +kernel)) ggX0_treeSum_X0_determinant
theorem dX0_treeSum_0 : decode cX0_treeSum 0 = .ok (.aload_n 0, 1) := by decide +kernel
theorem dX0_treeSum_1 : decode cX0_treeSum 1 = .ok (.aload_n 1, 1) := by decide +kernel
theorem dX0_treeSum_2 : decode cX0_treeSum 2 = .ok (.iconst 0, 1) := by decide +kernel
theorem dX0_treeSum_3 : decode cX0_treeSum 3 = .ok (.iconst 1, 1) := by decide +kernel
theorem dX0_treeSum_4 : decode cX0_treeSum 4 = .ok (.invokevirtual 20, 3) := by decide +kernel
theorem dX0_treeSum_7 : decode cX0_treeSum 7 = .ok (.aload_n 0, 1) := by decide +kernel
theorem dX0_treeSum_8 : decode cX0_treeSum 8 = .ok (.invokevirtual 24, 3) := by decide +kernel
theorem dX0_treeSum_11 : decode cX0_treeSum 11 = .ok (.lreturn, 1) := by decide +kernel
set_option maxRecDepth 20000 in
theorem ggX0_stepSum_X0_load : GoodIn wsX0_stepSum wsX0_load := goodIn_r _ [8, 1, 9, 2, 3, 10, 11, 12, 7, 13, 14, 15, 16, 17, 18, 19, 20, 21, 22, 23, 24, 25, 26, 27, 28, 33, 34, 35, 36, 37, 38, 39, 40] rfl (by decide +kernel)
set_option maxRecDepth 20000 in
theorem gX0_stepSum_X0_load : GoodIn wsX0_stepSum (wsV RX0 20 RX0 yX0_load wsX0_load) := goodIn_app (goodIn_of _ (by decide +kernel)) ggX0_stepSum_X0_load
set_option maxRecDepth 20000 in
theorem ggX0_stepSum_X1_degree : GoodIn wsX0_stepSum wsX1_degree := goodIn_r _ [18, 19, 20, 21, 22, 23, 17, 24, 36, 37, 38, 39, 40] rfl (by decide +kernel)
set_option maxRecDepth 20000 in
theorem gX0_stepSum_X1_degree : GoodIn wsX0_stepSum (wsV RX0 32 RX1 yX1_degree wsX1_degree) := goodIn_app (goodIn_of _ (by decide +kernel)) ggX0_stepSum_X1_degree
set_option maxRecDepth 20000 in
theorem ggX0_stepSum_X0_determinant : GoodIn wsX0_stepSum wsX0_determinant := goodIn_r _ [32, 1, 2, 33, 34, 35] rfl (by decide +kernel)
set_option maxRecDepth 20000 in
theorem gX0_stepSum_X0_determinant : GoodIn wsX0_stepSum (wsV RX0 24 RX0 yX0_determinant wsX0_determinant) := goodIn_app (goodIn_of _ (by decide +kernel)) ggX0_stepSum_X0_determinant
theorem dX0_stepSum_0 : decode cX0_stepSum 0 = .ok (.iload_n 2, 1) := by decide +kernel
theorem dX0_stepSum_1 : decode cX0_stepSum 1 = .ok (.iload_n 3, 1) := by decide +kernel
theorem dX0_stepSum_2 : decode cX0_stepSum 2 = .ok (.if_icmp .ne 5, 3) := by decide +kernel
theorem dX0_stepSum_5 : decode cX0_stepSum 5 = .ok (.lconst 0, 1) := by decide +kernel
theorem dX0_stepSum_6 : decode cX0_stepSum 6 = .ok (.lreturn, 1) := by decide +kernel
theorem dX0_stepSum_7 : decode cX0_stepSum 7 = .ok (.aload_n 0, 1) := by decide +kernel
theorem dX0_stepSum_8 : decode cX0_stepSum 8 = .ok (.aload_n 1, 1) := by decide +kernel
theorem dX0_stepSum_9 : decode cX0_stepSum 9 = .ok (.iload_n 3, 1) := by decide +kernel
theorem dX0_stepSum_10 : decode cX0_stepSum 10 = .ok (.iload_n 2, 1) := by decide +kernel
theorem dX0_stepSum_11 : decode cX0_stepSum 11 = .ok (.invokevirtual 20, 3) := by decide +kernel
theorem dX0_stepSum_14 : decode cX0_stepSum 14 = .ok (.iconst 0, 1) := by decide +kernel
theorem dX0_stepSum_15 : decode cX0_stepSum 15 = .ok (.istore 4, 2) := by decide +kernel
theorem dX0_stepSum_17 : decode cX0_stepSum 17 = .ok (.iload 4, 2) := by decide +kernel
theorem dX0_stepSum_19 : decode cX0_stepSum 19 = .ok (.aload_n 0, 1) := by decide +kernel
theorem dX0_stepSum_20 : decode cX0_stepSum 20 = .ok (.getfield 28, 3) := by decide +kernel
theorem dX0_stepSum_23 : decode cX0_stepSum 23 = .ok (.if_icmp .ge 35, 3) := by decide +kernel
theorem dX0_stepSum_26 : decode cX0_stepSum 26 = .ok (.aload_n 0, 1) := by decide +kernel
theorem dX0_stepSum_27 : decode cX0_stepSum 27 = .ok (.getfield 11, 3) := by decide +kernel
theorem dX0_stepSum_30 : decode cX0_stepSum 30 = .ok (.iload 4, 2) := by decide +kernel
theorem dX0_stepSum_32 : decode cX0_stepSum 32 = .ok (.aaload, 1) := by decide +kernel
theorem dX0_stepSum_33 : decode cX0_stepSum 33 = .ok (.aload_n 0, 1) := by decide +kernel
theorem dX0_stepSum_34 : decode cX0_stepSum 34 = .ok (.getfield 28, 3) := by decide +kernel
theorem dX0_stepSum_37 : decode cX0_stepSum 37 = .ok (.iconst 1, 1) := by decide +kernel
theorem dX0_stepSum_38 : decode cX0_stepSum 38 = .ok (.isub, 1) := by decide +kernel
theorem dX0_stepSum_39 : decode cX0_stepSum 39 = .ok (.aload_n 1, 1) := by decide +kernel
theorem dX0_stepSum_40 : decode cX0_stepSum 40 = .ok (.aload_n 0, 1) := by decide +kernel
theorem dX0_stepSum_41 : decode cX0_stepSum 41 = .ok (.getfield 16, 3) := by decide +kernel
theorem dX0_stepSum_44 : decode cX0_stepSum 44 = .ok (.iload 4, 2) := by decide +kernel
theorem dX0_stepSum_46 : decode cX0_stepSum 46 = .ok (.iaload, 1) := by decide +kernel
theorem dX0_stepSum_47 : decode cX0_stepSum 47 = .ok (.invokevirtual 32, 3) := by decide +kernel
theorem dX0_stepSum_50 : decode cX0_stepSum 50 = .ok (.i2l, 1) := by decide +kernel
theorem dX0_stepSum_51 : decode cX0_stepSum 51 = .ok (.lastore, 1) := by decide +kernel
theorem dX0_stepSum_52 : decode cX0_stepSum 52 = .ok (.iinc 4 1, 3) := by decide +kernel
theorem dX0_stepSum_55 : decode cX0_stepSum 55 = .ok (.goto (-38), 3) := by decide +kernel
theorem dX0_stepSum_58 : decode cX0_stepSum 58 = .ok (.aload_n 0, 1) := by decide +kernel
theorem dX0_stepSum_59 : decode cX0_stepSum 59 = .ok (.invokevirtual 24, 3) := by decide +kernel
theorem dX0_stepSum_62 : decode cX0_stepSum 62 = .ok (.lreturn, 1) := by decide +kernel
set_option maxRecDepth 20000 in
theorem ggX0_pullSum_X0_load : GoodIn wsX0_pullSum wsX0_load := goodIn_r _ [8, 1, 9, 2, 3, 10, 11, 12, 7, 13, 14, 15, 16, 17, 18, 19, 20, 21, 22, 23, 24, 25, 26, 27, 28, 33, 34, 35, 36, 37, 38, 39, 40] rfl (by decide +kernel)
set_option maxRecDepth 20000 in
theorem gX0_pullSum_X0_load : GoodIn wsX0_pullSum (wsV RX0 20 RX0 yX0_load wsX0_load) := goodIn_app (goodIn_of _ (by decide +kernel)) ggX0_pullSum_X0_load
set_option maxRecDepth 20000 in
theorem ggX0_pullSum_X0_determinant : GoodIn wsX0_pullSum wsX0_determinant := goodIn_r _ [32, 1, 2, 33, 34, 35] rfl (by decide +kernel)
set_option maxRecDepth 20000 in
theorem gX0_pullSum_X0_determinant : GoodIn wsX0_pullSum (wsV RX0 24 RX0 yX0_determinant wsX0_determinant) := goodIn_app (goodIn_of _ (by decide +kernel)) ggX0_pullSum_X0_determinant
theorem dX0_pullSum_0 : decode cX0_pullSum 0 = .ok (.iload_n 2, 1) := by decide +kernel
theorem dX0_pullSum_1 : decode cX0_pullSum 1 = .ok (.iload 4, 2) := by decide +kernel
theorem dX0_pullSum_3 : decode cX0_pullSum 3 = .ok (.if_icmp .ne 5, 3) := by decide +kernel
theorem dX0_pullSum_6 : decode cX0_pullSum 6 = .ok (.lconst 0, 1) := by decide +kernel
theorem dX0_pullSum_7 : decode cX0_pullSum 7 = .ok (.lreturn, 1) := by decide +kernel
theorem dX0_pullSum_8 : decode cX0_pullSum 8 = .ok (.aload_n 0, 1) := by decide +kernel
theorem dX0_pullSum_9 : decode cX0_pullSum 9 = .ok (.aload_n 1, 1) := by decide +kernel
theorem dX0_pullSum_10 : decode cX0_pullSum 10 = .ok (.iload 4, 2) := by decide +kernel
theorem dX0_pullSum_12 : decode cX0_pullSum 12 = .ok (.iload_n 2, 1) := by decide +kernel
theorem dX0_pullSum_13 : decode cX0_pullSum 13 = .ok (.invokevirtual 20, 3) := by decide +kernel
theorem dX0_pullSum_16 : decode cX0_pullSum 16 = .ok (.iconst 0, 1) := by decide +kernel
theorem dX0_pullSum_17 : decode cX0_pullSum 17 = .ok (.istore 5, 2) := by decide +kernel
theorem dX0_pullSum_19 : decode cX0_pullSum 19 = .ok (.iload 5, 2) := by decide +kernel
theorem dX0_pullSum_21 : decode cX0_pullSum 21 = .ok (.aload_n 0, 1) := by decide +kernel
theorem dX0_pullSum_22 : decode cX0_pullSum 22 = .ok (.getfield 28, 3) := by decide +kernel
theorem dX0_pullSum_25 : decode cX0_pullSum 25 = .ok (.if_icmp .ge 39, 3) := by decide +kernel
theorem dX0_pullSum_28 : decode cX0_pullSum 28 = .ok (.aload_n 0, 1) := by decide +kernel
theorem dX0_pullSum_29 : decode cX0_pullSum 29 = .ok (.getfield 11, 3) := by decide +kernel
theorem dX0_pullSum_32 : decode cX0_pullSum 32 = .ok (.iload 5, 2) := by decide +kernel
theorem dX0_pullSum_34 : decode cX0_pullSum 34 = .ok (.aaload, 1) := by decide +kernel
theorem dX0_pullSum_35 : decode cX0_pullSum 35 = .ok (.aload_n 0, 1) := by decide +kernel
theorem dX0_pullSum_36 : decode cX0_pullSum 36 = .ok (.getfield 28, 3) := by decide +kernel
theorem dX0_pullSum_39 : decode cX0_pullSum 39 = .ok (.iconst 1, 1) := by decide +kernel
theorem dX0_pullSum_40 : decode cX0_pullSum 40 = .ok (.isub, 1) := by decide +kernel
theorem dX0_pullSum_41 : decode cX0_pullSum 41 = .ok (.aload_n 0, 1) := by decide +kernel
theorem dX0_pullSum_42 : decode cX0_pullSum 42 = .ok (.getfield 16, 3) := by decide +kernel
theorem dX0_pullSum_45 : decode cX0_pullSum 45 = .ok (.iload 5, 2) := by decide +kernel
theorem dX0_pullSum_47 : decode cX0_pullSum 47 = .ok (.iaload, 1) := by decide +kernel
theorem dX0_pullSum_48 : decode cX0_pullSum 48 = .ok (.iload_n 3, 1) := by decide +kernel
theorem dX0_pullSum_49 : decode cX0_pullSum 49 = .ok (.if_icmp .ne 7, 3) := by decide +kernel
theorem dX0_pullSum_52 : decode cX0_pullSum 52 = .ok (.lconst 1, 1) := by decide +kernel
theorem dX0_pullSum_53 : decode cX0_pullSum 53 = .ok (.goto 4, 3) := by decide +kernel
theorem dX0_pullSum_56 : decode cX0_pullSum 56 = .ok (.lconst 0, 1) := by decide +kernel
theorem dX0_pullSum_57 : decode cX0_pullSum 57 = .ok (.lastore, 1) := by decide +kernel
theorem dX0_pullSum_58 : decode cX0_pullSum 58 = .ok (.iinc 5 1, 3) := by decide +kernel
theorem dX0_pullSum_61 : decode cX0_pullSum 61 = .ok (.goto (-42), 3) := by decide +kernel
theorem dX0_pullSum_64 : decode cX0_pullSum 64 = .ok (.aload_n 0, 1) := by decide +kernel
theorem dX0_pullSum_65 : decode cX0_pullSum 65 = .ok (.invokevirtual 24, 3) := by decide +kernel
theorem dX0_pullSum_68 : decode cX0_pullSum 68 = .ok (.lreturn, 1) := by decide +kernel
set_option maxRecDepth 20000 in
theorem ggX0_load_X0_addRow : GoodIn wsX0_load wsX0_addRow := goodIn_r _ [9, 1, 4, 25, 26, 27] rfl (by decide +kernel)
set_option maxRecDepth 20000 in
theorem gX0_load_X0_addRow : GoodIn wsX0_load (wsV RX0 41 RX0 yX0_addRow wsX0_addRow) := goodIn_app (goodIn_of _ (by decide +kernel)) ggX0_load_X0_addRow
set_option maxRecDepth 20000 in
theorem ggX0_load_X1_degree : GoodIn wsX0_load wsX1_degree := goodIn_r _ [14, 15, 16, 17, 18, 19, 13, 20, 28, 29, 30, 31, 32] rfl (by decide +kernel)
set_option maxRecDepth 20000 in
theorem gX0_load_X1_degree : GoodIn wsX0_load (wsV RX0 32 RX1 yX1_degree wsX1_degree) := goodIn_app (goodIn_of _ (by decide +kernel)) ggX0_load_X1_degree
set_option maxRecDepth 20000 in
theorem ggX0_load_X1_widthAt : GoodIn wsX0_load wsX1_widthAt := goodIn_r _ [24, 16, 17, 18, 19, 13, 20, 15, 28, 29, 30, 31, 32] rfl (by decide +kernel)
set_option maxRecDepth 20000 in
theorem gX0_load_X1_widthAt : GoodIn wsX0_load (wsV RX0 45 RX1 yX1_widthAt wsX1_widthAt) := goodIn_app (goodIn_of _ (by decide +kernel)) ggX0_load_X1_widthAt
theorem dX0_load_0 : decode cX0_load 0 = .ok (.aload_n 0, 1) := by decide +kernel
theorem dX0_load_1 : decode cX0_load 1 = .ok (.iconst 0, 1) := by decide +kernel
theorem dX0_load_2 : decode cX0_load 2 = .ok (.putfield 28, 3) := by decide +kernel
theorem dX0_load_5 : decode cX0_load 5 = .ok (.iconst 0, 1) := by decide +kernel
theorem dX0_load_6 : decode cX0_load 6 = .ok (.istore 4, 2) := by decide +kernel
theorem dX0_load_8 : decode cX0_load 8 = .ok (.iload 4, 2) := by decide +kernel
theorem dX0_load_10 : decode cX0_load 10 = .ok (.aload_n 1, 1) := by decide +kernel
theorem dX0_load_11 : decode cX0_load 11 = .ok (.getfield 38, 3) := by decide +kernel
theorem dX0_load_14 : decode cX0_load 14 = .ok (.if_icmp .ge 27, 3) := by decide +kernel
theorem dX0_load_17 : decode cX0_load 17 = .ok (.iload 4, 2) := by decide +kernel
theorem dX0_load_19 : decode cX0_load 19 = .ok (.iload_n 2, 1) := by decide +kernel
theorem dX0_load_20 : decode cX0_load 20 = .ok (.if_icmp .eq 15, 3) := by decide +kernel
theorem dX0_load_23 : decode cX0_load 23 = .ok (.iload 4, 2) := by decide +kernel
theorem dX0_load_25 : decode cX0_load 25 = .ok (.iload_n 3, 1) := by decide +kernel
theorem dX0_load_26 : decode cX0_load 26 = .ok (.if_icmp .eq 9, 3) := by decide +kernel
theorem dX0_load_29 : decode cX0_load 29 = .ok (.aload_n 0, 1) := by decide +kernel
theorem dX0_load_30 : decode cX0_load 30 = .ok (.iload 4, 2) := by decide +kernel
theorem dX0_load_32 : decode cX0_load 32 = .ok (.invokevirtual 41, 3) := by decide +kernel
theorem dX0_load_35 : decode cX0_load 35 = .ok (.iinc 4 1, 3) := by decide +kernel
theorem dX0_load_38 : decode cX0_load 38 = .ok (.goto (-30), 3) := by decide +kernel
theorem dX0_load_41 : decode cX0_load 41 = .ok (.aload_n 0, 1) := by decide +kernel
theorem dX0_load_42 : decode cX0_load 42 = .ok (.iload_n 3, 1) := by decide +kernel
theorem dX0_load_43 : decode cX0_load 43 = .ok (.invokevirtual 41, 3) := by decide +kernel
theorem dX0_load_46 : decode cX0_load 46 = .ok (.iconst 0, 1) := by decide +kernel
theorem dX0_load_47 : decode cX0_load 47 = .ok (.istore 4, 2) := by decide +kernel
theorem dX0_load_49 : decode cX0_load 49 = .ok (.iload 4, 2) := by decide +kernel
theorem dX0_load_51 : decode cX0_load 51 = .ok (.aload_n 0, 1) := by decide +kernel
theorem dX0_load_52 : decode cX0_load 52 = .ok (.getfield 28, 3) := by decide +kernel
theorem dX0_load_55 : decode cX0_load 55 = .ok (.if_icmp .ge 79, 3) := by decide +kernel
theorem dX0_load_58 : decode cX0_load 58 = .ok (.iconst 0, 1) := by decide +kernel
theorem dX0_load_59 : decode cX0_load 59 = .ok (.istore 5, 2) := by decide +kernel
theorem dX0_load_61 : decode cX0_load 61 = .ok (.iload 5, 2) := by decide +kernel
theorem dX0_load_63 : decode cX0_load 63 = .ok (.aload_n 0, 1) := by decide +kernel
theorem dX0_load_64 : decode cX0_load 64 = .ok (.getfield 28, 3) := by decide +kernel
theorem dX0_load_67 : decode cX0_load 67 = .ok (.if_icmp .ge 61, 3) := by decide +kernel
theorem dX0_load_70 : decode cX0_load 70 = .ok (.aload_n 0, 1) := by decide +kernel
theorem dX0_load_71 : decode cX0_load 71 = .ok (.getfield 11, 3) := by decide +kernel
theorem dX0_load_74 : decode cX0_load 74 = .ok (.iload 4, 2) := by decide +kernel
theorem dX0_load_76 : decode cX0_load 76 = .ok (.aaload, 1) := by decide +kernel
theorem dX0_load_77 : decode cX0_load 77 = .ok (.iload 5, 2) := by decide +kernel
theorem dX0_load_79 : decode cX0_load 79 = .ok (.iload 4, 2) := by decide +kernel
theorem dX0_load_81 : decode cX0_load 81 = .ok (.iload 5, 2) := by decide +kernel
theorem dX0_load_83 : decode cX0_load 83 = .ok (.if_icmp .ne 18, 3) := by decide +kernel
theorem dX0_load_86 : decode cX0_load 86 = .ok (.aload_n 1, 1) := by decide +kernel
theorem dX0_load_87 : decode cX0_load 87 = .ok (.aload_n 0, 1) := by decide +kernel
theorem dX0_load_88 : decode cX0_load 88 = .ok (.getfield 16, 3) := by decide +kernel
theorem dX0_load_91 : decode cX0_load 91 = .ok (.iload 4, 2) := by decide +kernel
theorem dX0_load_93 : decode cX0_load 93 = .ok (.iaload, 1) := by decide +kernel
theorem dX0_load_94 : decode cX0_load 94 = .ok (.invokevirtual 32, 3) := by decide +kernel
theorem dX0_load_97 : decode cX0_load 97 = .ok (.i2l, 1) := by decide +kernel
theorem dX0_load_98 : decode cX0_load 98 = .ok (.goto 23, 3) := by decide +kernel
theorem dX0_load_101 : decode cX0_load 101 = .ok (.aload_n 1, 1) := by decide +kernel
theorem dX0_load_102 : decode cX0_load 102 = .ok (.aload_n 0, 1) := by decide +kernel
theorem dX0_load_103 : decode cX0_load 103 = .ok (.getfield 16, 3) := by decide +kernel
theorem dX0_load_106 : decode cX0_load 106 = .ok (.iload 4, 2) := by decide +kernel
theorem dX0_load_108 : decode cX0_load 108 = .ok (.iaload, 1) := by decide +kernel
theorem dX0_load_109 : decode cX0_load 109 = .ok (.aload_n 0, 1) := by decide +kernel
theorem dX0_load_110 : decode cX0_load 110 = .ok (.getfield 16, 3) := by decide +kernel
theorem dX0_load_113 : decode cX0_load 113 = .ok (.iload 5, 2) := by decide +kernel
theorem dX0_load_115 : decode cX0_load 115 = .ok (.iaload, 1) := by decide +kernel
theorem dX0_load_116 : decode cX0_load 116 = .ok (.invokevirtual 45, 3) := by decide +kernel
theorem dX0_load_119 : decode cX0_load 119 = .ok (.ineg, 1) := by decide +kernel
theorem dX0_load_120 : decode cX0_load 120 = .ok (.i2l, 1) := by decide +kernel
theorem dX0_load_121 : decode cX0_load 121 = .ok (.lastore, 1) := by decide +kernel
theorem dX0_load_122 : decode cX0_load 122 = .ok (.iinc 5 1, 3) := by decide +kernel
theorem dX0_load_125 : decode cX0_load 125 = .ok (.goto (-64), 3) := by decide +kernel
theorem dX0_load_128 : decode cX0_load 128 = .ok (.iinc 4 1, 3) := by decide +kernel
theorem dX0_load_131 : decode cX0_load 131 = .ok (.goto (-82), 3) := by decide +kernel
theorem dX0_load_134 : decode cX0_load 134 = .ok (.return_, 1) := by decide +kernel
theorem dX0_addRow_0 : decode cX0_addRow 0 = .ok (.aload_n 0, 1) := by decide +kernel
theorem dX0_addRow_1 : decode cX0_addRow 1 = .ok (.getfield 28, 3) := by decide +kernel
theorem dX0_addRow_4 : decode cX0_addRow 4 = .ok (.iconst 5, 1) := by decide +kernel
theorem dX0_addRow_5 : decode cX0_addRow 5 = .ok (.if_icmp .ge 23, 3) := by decide +kernel
theorem dX0_addRow_8 : decode cX0_addRow 8 = .ok (.aload_n 0, 1) := by decide +kernel
theorem dX0_addRow_9 : decode cX0_addRow 9 = .ok (.getfield 16, 3) := by decide +kernel
theorem dX0_addRow_12 : decode cX0_addRow 12 = .ok (.aload_n 0, 1) := by decide +kernel
theorem dX0_addRow_13 : decode cX0_addRow 13 = .ok (.getfield 28, 3) := by decide +kernel
theorem dX0_addRow_16 : decode cX0_addRow 16 = .ok (.iload_n 1, 1) := by decide +kernel
theorem dX0_addRow_17 : decode cX0_addRow 17 = .ok (.iastore, 1) := by decide +kernel
theorem dX0_addRow_18 : decode cX0_addRow 18 = .ok (.aload_n 0, 1) := by decide +kernel
theorem dX0_addRow_19 : decode cX0_addRow 19 = .ok (.dup, 1) := by decide +kernel
theorem dX0_addRow_20 : decode cX0_addRow 20 = .ok (.getfield 28, 3) := by decide +kernel
theorem dX0_addRow_23 : decode cX0_addRow 23 = .ok (.iconst 1, 1) := by decide +kernel
theorem dX0_addRow_24 : decode cX0_addRow 24 = .ok (.iadd, 1) := by decide +kernel
theorem dX0_addRow_25 : decode cX0_addRow 25 = .ok (.putfield 28, 3) := by decide +kernel
theorem dX0_addRow_28 : decode cX0_addRow 28 = .ok (.return_, 1) := by decide +kernel
theorem dX0_determinant_0 : decode cX0_determinant 0 = .ok (.lconst 1, 1) := by decide +kernel
theorem dX0_determinant_1 : decode cX0_determinant 1 = .ok (.lstore_n 1, 1) := by decide +kernel
theorem dX0_determinant_2 : decode cX0_determinant 2 = .ok (.iconst 0, 1) := by decide +kernel
theorem dX0_determinant_3 : decode cX0_determinant 3 = .ok (.istore_n 3, 1) := by decide +kernel
theorem dX0_determinant_4 : decode cX0_determinant 4 = .ok (.iload_n 3, 1) := by decide +kernel
theorem dX0_determinant_5 : decode cX0_determinant 5 = .ok (.iconst 1, 1) := by decide +kernel
theorem dX0_determinant_6 : decode cX0_determinant 6 = .ok (.iadd, 1) := by decide +kernel
theorem dX0_determinant_7 : decode cX0_determinant 7 = .ok (.aload_n 0, 1) := by decide +kernel
theorem dX0_determinant_8 : decode cX0_determinant 8 = .ok (.getfield 28, 3) := by decide +kernel
theorem dX0_determinant_11 : decode cX0_determinant 11 = .ok (.if_icmp .ge 116, 3) := by decide +kernel
theorem dX0_determinant_14 : decode cX0_determinant 14 = .ok (.aload_n 0, 1) := by decide +kernel
theorem dX0_determinant_15 : decode cX0_determinant 15 = .ok (.getfield 11, 3) := by decide +kernel
theorem dX0_determinant_18 : decode cX0_determinant 18 = .ok (.iload_n 3, 1) := by decide +kernel
theorem dX0_determinant_19 : decode cX0_determinant 19 = .ok (.aaload, 1) := by decide +kernel
theorem dX0_determinant_20 : decode cX0_determinant 20 = .ok (.iload_n 3, 1) := by decide +kernel
theorem dX0_determinant_21 : decode cX0_determinant 21 = .ok (.laload, 1) := by decide +kernel
theorem dX0_determinant_22 : decode cX0_determinant 22 = .ok (.lstore 4, 2) := by decide +kernel
theorem dX0_determinant_24 : decode cX0_determinant 24 = .ok (.lload 4, 2) := by decide +kernel
theorem dX0_determinant_26 : decode cX0_determinant 26 = .ok (.lconst 0, 1) := by decide +kernel
theorem dX0_determinant_27 : decode cX0_determinant 27 = .ok (.lcmp, 1) := by decide +kernel
theorem dX0_determinant_28 : decode cX0_determinant 28 = .ok (.ifCond .ne 5, 3) := by decide +kernel
theorem dX0_determinant_31 : decode cX0_determinant 31 = .ok (.lconst 0, 1) := by decide +kernel
theorem dX0_determinant_32 : decode cX0_determinant 32 = .ok (.lreturn, 1) := by decide +kernel
theorem dX0_determinant_33 : decode cX0_determinant 33 = .ok (.iload_n 3, 1) := by decide +kernel
theorem dX0_determinant_34 : decode cX0_determinant 34 = .ok (.iconst 1, 1) := by decide +kernel
theorem dX0_determinant_35 : decode cX0_determinant 35 = .ok (.iadd, 1) := by decide +kernel
theorem dX0_determinant_36 : decode cX0_determinant 36 = .ok (.istore 6, 2) := by decide +kernel
theorem dX0_determinant_38 : decode cX0_determinant 38 = .ok (.iload 6, 2) := by decide +kernel
theorem dX0_determinant_40 : decode cX0_determinant 40 = .ok (.aload_n 0, 1) := by decide +kernel
theorem dX0_determinant_41 : decode cX0_determinant 41 = .ok (.getfield 28, 3) := by decide +kernel
theorem dX0_determinant_44 : decode cX0_determinant 44 = .ok (.if_icmp .ge 74, 3) := by decide +kernel
theorem dX0_determinant_47 : decode cX0_determinant 47 = .ok (.iload_n 3, 1) := by decide +kernel
theorem dX0_determinant_48 : decode cX0_determinant 48 = .ok (.iconst 1, 1) := by decide +kernel
theorem dX0_determinant_49 : decode cX0_determinant 49 = .ok (.iadd, 1) := by decide +kernel
theorem dX0_determinant_50 : decode cX0_determinant 50 = .ok (.istore 7, 2) := by decide +kernel
theorem dX0_determinant_52 : decode cX0_determinant 52 = .ok (.iload 7, 2) := by decide +kernel
theorem dX0_determinant_54 : decode cX0_determinant 54 = .ok (.aload_n 0, 1) := by decide +kernel
theorem dX0_determinant_55 : decode cX0_determinant 55 = .ok (.getfield 28, 3) := by decide +kernel
theorem dX0_determinant_58 : decode cX0_determinant 58 = .ok (.if_icmp .ge 54, 3) := by decide +kernel
theorem dX0_determinant_61 : decode cX0_determinant 61 = .ok (.aload_n 0, 1) := by decide +kernel
theorem dX0_determinant_62 : decode cX0_determinant 62 = .ok (.getfield 11, 3) := by decide +kernel
theorem dX0_determinant_65 : decode cX0_determinant 65 = .ok (.iload 6, 2) := by decide +kernel
theorem dX0_determinant_67 : decode cX0_determinant 67 = .ok (.aaload, 1) := by decide +kernel
theorem dX0_determinant_68 : decode cX0_determinant 68 = .ok (.iload 7, 2) := by decide +kernel
theorem dX0_determinant_70 : decode cX0_determinant 70 = .ok (.aload_n 0, 1) := by decide +kernel
theorem dX0_determinant_71 : decode cX0_determinant 71 = .ok (.getfield 11, 3) := by decide +kernel
theorem dX0_determinant_74 : decode cX0_determinant 74 = .ok (.iload 6, 2) := by decide +kernel
theorem dX0_determinant_76 : decode cX0_determinant 76 = .ok (.aaload, 1) := by decide +kernel
theorem dX0_determinant_77 : decode cX0_determinant 77 = .ok (.iload 7, 2) := by decide +kernel
theorem dX0_determinant_79 : decode cX0_determinant 79 = .ok (.laload, 1) := by decide +kernel
theorem dX0_determinant_80 : decode cX0_determinant 80 = .ok (.lload 4, 2) := by decide +kernel
theorem dX0_determinant_82 : decode cX0_determinant 82 = .ok (.lmul, 1) := by decide +kernel
theorem dX0_determinant_83 : decode cX0_determinant 83 = .ok (.aload_n 0, 1) := by decide +kernel
theorem dX0_determinant_84 : decode cX0_determinant 84 = .ok (.getfield 11, 3) := by decide +kernel
theorem dX0_determinant_87 : decode cX0_determinant 87 = .ok (.iload 6, 2) := by decide +kernel
theorem dX0_determinant_89 : decode cX0_determinant 89 = .ok (.aaload, 1) := by decide +kernel
theorem dX0_determinant_90 : decode cX0_determinant 90 = .ok (.iload_n 3, 1) := by decide +kernel
theorem dX0_determinant_91 : decode cX0_determinant 91 = .ok (.laload, 1) := by decide +kernel
theorem dX0_determinant_92 : decode cX0_determinant 92 = .ok (.aload_n 0, 1) := by decide +kernel
theorem dX0_determinant_93 : decode cX0_determinant 93 = .ok (.getfield 11, 3) := by decide +kernel
theorem dX0_determinant_96 : decode cX0_determinant 96 = .ok (.iload_n 3, 1) := by decide +kernel
theorem dX0_determinant_97 : decode cX0_determinant 97 = .ok (.aaload, 1) := by decide +kernel
theorem dX0_determinant_98 : decode cX0_determinant 98 = .ok (.iload 7, 2) := by decide +kernel
theorem dX0_determinant_100 : decode cX0_determinant 100 = .ok (.laload, 1) := by decide +kernel
theorem dX0_determinant_101 : decode cX0_determinant 101 = .ok (.lmul, 1) := by decide +kernel
theorem dX0_determinant_102 : decode cX0_determinant 102 = .ok (.lsub, 1) := by decide +kernel
theorem dX0_determinant_103 : decode cX0_determinant 103 = .ok (.lload_n 1, 1) := by decide +kernel
theorem dX0_determinant_104 : decode cX0_determinant 104 = .ok (.ldiv, 1) := by decide +kernel
theorem dX0_determinant_105 : decode cX0_determinant 105 = .ok (.lastore, 1) := by decide +kernel
theorem dX0_determinant_106 : decode cX0_determinant 106 = .ok (.iinc 7 1, 3) := by decide +kernel
theorem dX0_determinant_109 : decode cX0_determinant 109 = .ok (.goto (-57), 3) := by decide +kernel
theorem dX0_determinant_112 : decode cX0_determinant 112 = .ok (.iinc 6 1, 3) := by decide +kernel
theorem dX0_determinant_115 : decode cX0_determinant 115 = .ok (.goto (-77), 3) := by decide +kernel
theorem dX0_determinant_118 : decode cX0_determinant 118 = .ok (.lload 4, 2) := by decide +kernel
theorem dX0_determinant_120 : decode cX0_determinant 120 = .ok (.lstore_n 1, 1) := by decide +kernel
theorem dX0_determinant_121 : decode cX0_determinant 121 = .ok (.iinc 3 1, 3) := by decide +kernel
theorem dX0_determinant_124 : decode cX0_determinant 124 = .ok (.goto (-120), 3) := by decide +kernel
theorem dX0_determinant_127 : decode cX0_determinant 127 = .ok (.aload_n 0, 1) := by decide +kernel
theorem dX0_determinant_128 : decode cX0_determinant 128 = .ok (.getfield 28, 3) := by decide +kernel
theorem dX0_determinant_131 : decode cX0_determinant 131 = .ok (.ifCond .le 24, 3) := by decide +kernel
theorem dX0_determinant_134 : decode cX0_determinant 134 = .ok (.aload_n 0, 1) := by decide +kernel
theorem dX0_determinant_135 : decode cX0_determinant 135 = .ok (.getfield 11, 3) := by decide +kernel
theorem dX0_determinant_138 : decode cX0_determinant 138 = .ok (.aload_n 0, 1) := by decide +kernel
theorem dX0_determinant_139 : decode cX0_determinant 139 = .ok (.getfield 28, 3) := by decide +kernel
theorem dX0_determinant_142 : decode cX0_determinant 142 = .ok (.iconst 1, 1) := by decide +kernel
theorem dX0_determinant_143 : decode cX0_determinant 143 = .ok (.isub, 1) := by decide +kernel
theorem dX0_determinant_144 : decode cX0_determinant 144 = .ok (.aaload, 1) := by decide +kernel
theorem dX0_determinant_145 : decode cX0_determinant 145 = .ok (.aload_n 0, 1) := by decide +kernel
theorem dX0_determinant_146 : decode cX0_determinant 146 = .ok (.getfield 28, 3) := by decide +kernel
theorem dX0_determinant_149 : decode cX0_determinant 149 = .ok (.iconst 1, 1) := by decide +kernel
theorem dX0_determinant_150 : decode cX0_determinant 150 = .ok (.isub, 1) := by decide +kernel
theorem dX0_determinant_151 : decode cX0_determinant 151 = .ok (.laload, 1) := by decide +kernel
theorem dX0_determinant_152 : decode cX0_determinant 152 = .ok (.goto 4, 3) := by decide +kernel
theorem dX0_determinant_155 : decode cX0_determinant 155 = .ok (.lconst 0, 1) := by decide +kernel
theorem dX0_determinant_156 : decode cX0_determinant 156 = .ok (.lreturn, 1) := by decide +kernel
theorem dX1_init_0 : decode cX1_init 0 = .ok (.aload_n 0, 1) := by decide +kernel
theorem dX1_init_1 : decode cX1_init 1 = .ok (.invokespecial 3, 3) := by decide +kernel
theorem dX1_init_4 : decode cX1_init 4 = .ok (.aload_n 0, 1) := by decide +kernel
theorem dX1_init_5 : decode cX1_init 5 = .ok (.iconst 2, 1) := by decide +kernel
theorem dX1_init_6 : decode cX1_init 6 = .ok (.putfield 9, 3) := by decide +kernel
theorem dX1_init_9 : decode cX1_init 9 = .ok (.aload_n 0, 1) := by decide +kernel
theorem dX1_init_10 : decode cX1_init 10 = .ok (.bipush 36, 2) := by decide +kernel
theorem dX1_init_12 : decode cX1_init 12 = .ok (.newarray .int, 2) := by decide +kernel
theorem dX1_init_14 : decode cX1_init 14 = .ok (.putfield 15, 3) := by decide +kernel
theorem dX1_init_17 : decode cX1_init 17 = .ok (.aload_n 0, 1) := by decide +kernel
theorem dX1_init_18 : decode cX1_init 18 = .ok (.bipush 10, 2) := by decide +kernel
theorem dX1_init_20 : decode cX1_init 20 = .ok (.newarray .int, 2) := by decide +kernel
theorem dX1_init_22 : decode cX1_init 22 = .ok (.putfield 19, 3) := by decide +kernel
theorem dX1_init_25 : decode cX1_init 25 = .ok (.aload_n 0, 1) := by decide +kernel
theorem dX1_init_26 : decode cX1_init 26 = .ok (.bipush 10, 2) := by decide +kernel
theorem dX1_init_28 : decode cX1_init 28 = .ok (.newarray .int, 2) := by decide +kernel
theorem dX1_init_30 : decode cX1_init 30 = .ok (.putfield 22, 3) := by decide +kernel
theorem dX1_init_33 : decode cX1_init 33 = .ok (.return_, 1) := by decide +kernel
set_option maxRecDepth 20000 in
theorem ggX1_empty_J7_fill_53178 : GoodIn wsX1_empty wsJ7_fill_53178 := goodIn_r _ [14] rfl (by decide +kernel)
set_option maxRecDepth 20000 in
theorem gX1_empty_J7_fill_53178 : GoodIn wsX1_empty (va_wsS RX1 37 yJ7_fill_53178 wsJ7_fill_53178) := goodIn_app (goodIn_of _ (by decide +kernel)) ggX1_empty_J7_fill_53178
theorem dX1_empty_0 : decode cX1_empty 0 = .ok (.aload_n 0, 1) := by decide +kernel
theorem dX1_empty_1 : decode cX1_empty 1 = .ok (.iconst 2, 1) := by decide +kernel
theorem dX1_empty_2 : decode cX1_empty 2 = .ok (.bipush 6, 2) := by decide +kernel
theorem dX1_empty_4 : decode cX1_empty 4 = .ok (.iload_n 1, 1) := by decide +kernel
theorem dX1_empty_5 : decode cX1_empty 5 = .ok (.invokestatic 25, 3) := by decide +kernel
theorem dX1_empty_8 : decode cX1_empty 8 = .ok (.invokestatic 31, 3) := by decide +kernel
theorem dX1_empty_11 : decode cX1_empty 11 = .ok (.putfield 9, 3) := by decide +kernel
theorem dX1_empty_14 : decode cX1_empty 14 = .ok (.aload_n 0, 1) := by decide +kernel
theorem dX1_empty_15 : decode cX1_empty 15 = .ok (.iconst 0, 1) := by decide +kernel
theorem dX1_empty_16 : decode cX1_empty 16 = .ok (.putfield 34, 3) := by decide +kernel
theorem dX1_empty_19 : decode cX1_empty 19 = .ok (.aload_n 0, 1) := by decide +kernel
theorem dX1_empty_20 : decode cX1_empty 20 = .ok (.getfield 15, 3) := by decide +kernel
theorem dX1_empty_23 : decode cX1_empty 23 = .ok (.iconst 0, 1) := by decide +kernel
theorem dX1_empty_24 : decode cX1_empty 24 = .ok (.invokestatic 37, 3) := by decide +kernel
theorem dX1_empty_27 : decode cX1_empty 27 = .ok (.return_, 1) := by decide +kernel
set_option maxRecDepth 20000 in
theorem ggX1_copyFrom_X1_numberLines : GoodIn wsX1_copyFrom wsX1_numberLines := goodIn_r _ [11, 12, 1, 2, 13, 14, 15, 16, 17, 18, 19] rfl (by decide +kernel)
set_option maxRecDepth 20000 in
theorem gX1_copyFrom_X1_numberLines : GoodIn wsX1_copyFrom (wsV RX1 49 RX1 yX1_numberLines wsX1_numberLines) := goodIn_app (goodIn_of _ (by decide +kernel)) ggX1_copyFrom_X1_numberLines
theorem dX1_copyFrom_0 : decode cX1_copyFrom 0 = .ok (.aload_n 0, 1) := by decide +kernel
theorem dX1_copyFrom_1 : decode cX1_copyFrom 1 = .ok (.aload_n 1, 1) := by decide +kernel
theorem dX1_copyFrom_2 : decode cX1_copyFrom 2 = .ok (.getfield 9, 3) := by decide +kernel
theorem dX1_copyFrom_5 : decode cX1_copyFrom 5 = .ok (.putfield 9, 3) := by decide +kernel
theorem dX1_copyFrom_8 : decode cX1_copyFrom 8 = .ok (.aload_n 1, 1) := by decide +kernel
theorem dX1_copyFrom_9 : decode cX1_copyFrom 9 = .ok (.getfield 15, 3) := by decide +kernel
theorem dX1_copyFrom_12 : decode cX1_copyFrom 12 = .ok (.iconst 0, 1) := by decide +kernel
theorem dX1_copyFrom_13 : decode cX1_copyFrom 13 = .ok (.aload_n 0, 1) := by decide +kernel
theorem dX1_copyFrom_14 : decode cX1_copyFrom 14 = .ok (.getfield 15, 3) := by decide +kernel
theorem dX1_copyFrom_17 : decode cX1_copyFrom 17 = .ok (.iconst 0, 1) := by decide +kernel
theorem dX1_copyFrom_18 : decode cX1_copyFrom 18 = .ok (.aload_n 0, 1) := by decide +kernel
theorem dX1_copyFrom_19 : decode cX1_copyFrom 19 = .ok (.getfield 15, 3) := by decide +kernel
theorem dX1_copyFrom_22 : decode cX1_copyFrom 22 = .ok (.arraylength, 1) := by decide +kernel
theorem dX1_copyFrom_23 : decode cX1_copyFrom 23 = .ok (.invokestatic 43, 3) := by decide +kernel
theorem dX1_copyFrom_26 : decode cX1_copyFrom 26 = .ok (.aload_n 0, 1) := by decide +kernel
theorem dX1_copyFrom_27 : decode cX1_copyFrom 27 = .ok (.invokevirtual 49, 3) := by decide +kernel
theorem dX1_copyFrom_30 : decode cX1_copyFrom 30 = .ok (.return_, 1) := by decide +kernel
theorem dX1_hasNode_0 : decode cX1_hasNode 0 = .ok (.iload_n 1, 1) := by decide +kernel
theorem dX1_hasNode_1 : decode cX1_hasNode 1 = .ok (.ifCond .lt 15, 3) := by decide +kernel
theorem dX1_hasNode_4 : decode cX1_hasNode 4 = .ok (.iload_n 1, 1) := by decide +kernel
theorem dX1_hasNode_5 : decode cX1_hasNode 5 = .ok (.aload_n 0, 1) := by decide +kernel
theorem dX1_hasNode_6 : decode cX1_hasNode 6 = .ok (.getfield 9, 3) := by decide +kernel
theorem dX1_hasNode_9 : decode cX1_hasNode 9 = .ok (.if_icmp .ge 7, 3) := by decide +kernel
theorem dX1_hasNode_12 : decode cX1_hasNode 12 = .ok (.iconst 1, 1) := by decide +kernel
theorem dX1_hasNode_13 : decode cX1_hasNode 13 = .ok (.goto 4, 3) := by decide +kernel
theorem dX1_hasNode_16 : decode cX1_hasNode 16 = .ok (.iconst 0, 1) := by decide +kernel
theorem dX1_hasNode_17 : decode cX1_hasNode 17 = .ok (.ireturn, 1) := by decide +kernel
theorem dX1_hasLine_0 : decode cX1_hasLine 0 = .ok (.iload_n 1, 1) := by decide +kernel
theorem dX1_hasLine_1 : decode cX1_hasLine 1 = .ok (.ifCond .lt 15, 3) := by decide +kernel
theorem dX1_hasLine_4 : decode cX1_hasLine 4 = .ok (.iload_n 1, 1) := by decide +kernel
theorem dX1_hasLine_5 : decode cX1_hasLine 5 = .ok (.aload_n 0, 1) := by decide +kernel
theorem dX1_hasLine_6 : decode cX1_hasLine 6 = .ok (.getfield 34, 3) := by decide +kernel
theorem dX1_hasLine_9 : decode cX1_hasLine 9 = .ok (.if_icmp .ge 7, 3) := by decide +kernel
theorem dX1_hasLine_12 : decode cX1_hasLine 12 = .ok (.iconst 1, 1) := by decide +kernel
theorem dX1_hasLine_13 : decode cX1_hasLine 13 = .ok (.goto 4, 3) := by decide +kernel
theorem dX1_hasLine_16 : decode cX1_hasLine 16 = .ok (.iconst 0, 1) := by decide +kernel
theorem dX1_hasLine_17 : decode cX1_hasLine 17 = .ok (.ireturn, 1) := by decide +kernel
set_option maxRecDepth 20000 in
theorem ggX1_lowOf_X1_hasLine : GoodIn wsX1_lowOf wsX1_hasLine := goodIn_r _ [6, 7, 8, 9, 10, 11, 12] rfl (by decide +kernel)
set_option maxRecDepth 20000 in
theorem gX1_lowOf_X1_hasLine : GoodIn wsX1_lowOf (wsV RX1 52 RX1 yX1_hasLine wsX1_hasLine) := goodIn_app (goodIn_of _ (by decide +kernel)) ggX1_lowOf_X1_hasLine
theorem dX1_lowOf_0 : decode cX1_lowOf 0 = .ok (.aload_n 0, 1) := by decide +kernel
theorem dX1_lowOf_1 : decode cX1_lowOf 1 = .ok (.iload_n 1, 1) := by decide +kernel
theorem dX1_lowOf_2 : decode cX1_lowOf 2 = .ok (.invokevirtual 52, 3) := by decide +kernel
theorem dX1_lowOf_5 : decode cX1_lowOf 5 = .ok (.ifCond .eq 12, 3) := by decide +kernel
theorem dX1_lowOf_8 : decode cX1_lowOf 8 = .ok (.aload_n 0, 1) := by decide +kernel
theorem dX1_lowOf_9 : decode cX1_lowOf 9 = .ok (.getfield 19, 3) := by decide +kernel
theorem dX1_lowOf_12 : decode cX1_lowOf 12 = .ok (.iload_n 1, 1) := by decide +kernel
theorem dX1_lowOf_13 : decode cX1_lowOf 13 = .ok (.iaload, 1) := by decide +kernel
theorem dX1_lowOf_14 : decode cX1_lowOf 14 = .ok (.goto 4, 3) := by decide +kernel
theorem dX1_lowOf_17 : decode cX1_lowOf 17 = .ok (.iconst 0, 1) := by decide +kernel
theorem dX1_lowOf_18 : decode cX1_lowOf 18 = .ok (.ireturn, 1) := by decide +kernel
set_option maxRecDepth 20000 in
theorem ggX1_highOf_X1_hasLine : GoodIn wsX1_highOf wsX1_hasLine := goodIn_r _ [6, 7, 8, 9, 10, 11, 12] rfl (by decide +kernel)
set_option maxRecDepth 20000 in
theorem gX1_highOf_X1_hasLine : GoodIn wsX1_highOf (wsV RX1 52 RX1 yX1_hasLine wsX1_hasLine) := goodIn_app (goodIn_of _ (by decide +kernel)) ggX1_highOf_X1_hasLine
theorem dX1_highOf_0 : decode cX1_highOf 0 = .ok (.aload_n 0, 1) := by decide +kernel
theorem dX1_highOf_1 : decode cX1_highOf 1 = .ok (.iload_n 1, 1) := by decide +kernel
theorem dX1_highOf_2 : decode cX1_highOf 2 = .ok (.invokevirtual 52, 3) := by decide +kernel
theorem dX1_highOf_5 : decode cX1_highOf 5 = .ok (.ifCond .eq 12, 3) := by decide +kernel
theorem dX1_highOf_8 : decode cX1_highOf 8 = .ok (.aload_n 0, 1) := by decide +kernel
theorem dX1_highOf_9 : decode cX1_highOf 9 = .ok (.getfield 22, 3) := by decide +kernel
theorem dX1_highOf_12 : decode cX1_highOf 12 = .ok (.iload_n 1, 1) := by decide +kernel
theorem dX1_highOf_13 : decode cX1_highOf 13 = .ok (.iaload, 1) := by decide +kernel
theorem dX1_highOf_14 : decode cX1_highOf 14 = .ok (.goto 4, 3) := by decide +kernel
theorem dX1_highOf_17 : decode cX1_highOf 17 = .ok (.iconst 0, 1) := by decide +kernel
theorem dX1_highOf_18 : decode cX1_highOf 18 = .ok (.ireturn, 1) := by decide +kernel
set_option maxRecDepth 20000 in
theorem ggX1_widthOf_X1_lowOf : GoodIn wsX1_widthOf wsX1_lowOf := goodIn_r _ [5, 6, 7, 8, 9, 4, 10, 11, 27, 28, 29, 30, 31] rfl (by decide +kernel)
set_option maxRecDepth 20000 in
theorem gX1_widthOf_X1_lowOf : GoodIn wsX1_widthOf (wsV RX1 56 RX1 yX1_lowOf wsX1_lowOf) := goodIn_app (goodIn_of _ (by decide +kernel)) ggX1_widthOf_X1_lowOf
set_option maxRecDepth 20000 in
theorem ggX1_widthOf_X1_highOf : GoodIn wsX1_widthOf wsX1_highOf := goodIn_r _ [15, 16, 7, 8, 9, 4, 10, 11, 27, 28, 29, 30, 31] rfl (by decide +kernel)
set_option maxRecDepth 20000 in
theorem gX1_widthOf_X1_highOf : GoodIn wsX1_widthOf (wsV RX1 60 RX1 yX1_highOf wsX1_highOf) := goodIn_app (goodIn_of _ (by decide +kernel)) ggX1_widthOf_X1_highOf
set_option maxRecDepth 20000 in
theorem ggX1_widthOf_X1_widthAt : GoodIn wsX1_widthOf wsX1_widthAt := goodIn_r _ [20, 21, 22, 23, 24, 4, 25, 26, 27, 28, 29, 30, 31] rfl (by decide +kernel)
set_option maxRecDepth 20000 in
theorem gX1_widthOf_X1_widthAt : GoodIn wsX1_widthOf (wsV RX1 63 RX1 yX1_widthAt wsX1_widthAt) := goodIn_app (goodIn_of _ (by decide +kernel)) ggX1_widthOf_X1_widthAt
theorem dX1_widthOf_0 : decode cX1_widthOf 0 = .ok (.aload_n 0, 1) := by decide +kernel
theorem dX1_widthOf_1 : decode cX1_widthOf 1 = .ok (.aload_n 0, 1) := by decide +kernel
theorem dX1_widthOf_2 : decode cX1_widthOf 2 = .ok (.iload_n 1, 1) := by decide +kernel
theorem dX1_widthOf_3 : decode cX1_widthOf 3 = .ok (.invokevirtual 56, 3) := by decide +kernel
theorem dX1_widthOf_6 : decode cX1_widthOf 6 = .ok (.aload_n 0, 1) := by decide +kernel
theorem dX1_widthOf_7 : decode cX1_widthOf 7 = .ok (.iload_n 1, 1) := by decide +kernel
theorem dX1_widthOf_8 : decode cX1_widthOf 8 = .ok (.invokevirtual 60, 3) := by decide +kernel
theorem dX1_widthOf_11 : decode cX1_widthOf 11 = .ok (.invokevirtual 63, 3) := by decide +kernel
theorem dX1_widthOf_14 : decode cX1_widthOf 14 = .ok (.ireturn, 1) := by decide +kernel
set_option maxRecDepth 20000 in
theorem ggX1_widthAt_X1_hasNode : GoodIn wsX1_widthAt wsX1_hasNode := goodIn_r _ [6, 7, 8, 9, 10, 11, 12] rfl (by decide +kernel)
set_option maxRecDepth 20000 in
theorem gX1_widthAt_X1_hasNode : GoodIn wsX1_widthAt (wsV RX1 66 RX1 yX1_hasNode wsX1_hasNode) := goodIn_app (goodIn_of _ (by decide +kernel)) ggX1_widthAt_X1_hasNode
theorem dX1_widthAt_0 : decode cX1_widthAt 0 = .ok (.aload_n 0, 1) := by decide +kernel
theorem dX1_widthAt_1 : decode cX1_widthAt 1 = .ok (.iload_n 1, 1) := by decide +kernel
theorem dX1_widthAt_2 : decode cX1_widthAt 2 = .ok (.invokevirtual 66, 3) := by decide +kernel
theorem dX1_widthAt_5 : decode cX1_widthAt 5 = .ok (.ifCond .eq 25, 3) := by decide +kernel
theorem dX1_widthAt_8 : decode cX1_widthAt 8 = .ok (.aload_n 0, 1) := by decide +kernel
theorem dX1_widthAt_9 : decode cX1_widthAt 9 = .ok (.iload_n 2, 1) := by decide +kernel
theorem dX1_widthAt_10 : decode cX1_widthAt 10 = .ok (.invokevirtual 66, 3) := by decide +kernel
theorem dX1_widthAt_13 : decode cX1_widthAt 13 = .ok (.ifCond .eq 17, 3) := by decide +kernel
theorem dX1_widthAt_16 : decode cX1_widthAt 16 = .ok (.aload_n 0, 1) := by decide +kernel
theorem dX1_widthAt_17 : decode cX1_widthAt 17 = .ok (.getfield 15, 3) := by decide +kernel
theorem dX1_widthAt_20 : decode cX1_widthAt 20 = .ok (.iload_n 1, 1) := by decide +kernel
theorem dX1_widthAt_21 : decode cX1_widthAt 21 = .ok (.bipush 6, 2) := by decide +kernel
theorem dX1_widthAt_23 : decode cX1_widthAt 23 = .ok (.imul, 1) := by decide +kernel
theorem dX1_widthAt_24 : decode cX1_widthAt 24 = .ok (.iload_n 2, 1) := by decide +kernel
theorem dX1_widthAt_25 : decode cX1_widthAt 25 = .ok (.iadd, 1) := by decide +kernel
theorem dX1_widthAt_26 : decode cX1_widthAt 26 = .ok (.iaload, 1) := by decide +kernel
theorem dX1_widthAt_27 : decode cX1_widthAt 27 = .ok (.goto 4, 3) := by decide +kernel
theorem dX1_widthAt_30 : decode cX1_widthAt 30 = .ok (.iconst 0, 1) := by decide +kernel
theorem dX1_widthAt_31 : decode cX1_widthAt 31 = .ok (.ireturn, 1) := by decide +kernel
set_option maxRecDepth 20000 in
theorem ggX1_put_X1_hasNode : GoodIn wsX1_put wsX1_hasNode := goodIn_r _ [6, 7, 15, 16, 17, 18, 19] rfl (by decide +kernel)
set_option maxRecDepth 20000 in
theorem gX1_put_X1_hasNode : GoodIn wsX1_put (wsV RX1 66 RX1 yX1_hasNode wsX1_hasNode) := goodIn_app (goodIn_of _ (by decide +kernel)) ggX1_put_X1_hasNode
set_option maxRecDepth 20000 in
theorem ggX1_put_X1_numberLines : GoodIn wsX1_put wsX1_numberLines := goodIn_r _ [11, 12, 7, 1, 13, 14, 15, 16, 17, 18, 19] rfl (by decide +kernel)
set_option maxRecDepth 20000 in
theorem gX1_put_X1_numberLines : GoodIn wsX1_put (wsV RX1 49 RX1 yX1_numberLines wsX1_numberLines) := goodIn_app (goodIn_of _ (by decide +kernel)) ggX1_put_X1_numberLines
theorem dX1_put_0 : decode cX1_put 0 = .ok (.aload_n 0, 1) := by decide +kernel
theorem dX1_put_1 : decode cX1_put 1 = .ok (.iload_n 1, 1) := by decide +kernel
theorem dX1_put_2 : decode cX1_put 2 = .ok (.invokevirtual 66, 3) := by decide +kernel
theorem dX1_put_5 : decode cX1_put 5 = .ok (.ifCond .eq 44, 3) := by decide +kernel
theorem dX1_put_8 : decode cX1_put 8 = .ok (.aload_n 0, 1) := by decide +kernel
theorem dX1_put_9 : decode cX1_put 9 = .ok (.iload_n 2, 1) := by decide +kernel
theorem dX1_put_10 : decode cX1_put 10 = .ok (.invokevirtual 66, 3) := by decide +kernel
theorem dX1_put_13 : decode cX1_put 13 = .ok (.ifCond .eq 36, 3) := by decide +kernel
theorem dX1_put_16 : decode cX1_put 16 = .ok (.iload_n 1, 1) := by decide +kernel
theorem dX1_put_17 : decode cX1_put 17 = .ok (.iload_n 2, 1) := by decide +kernel
theorem dX1_put_18 : decode cX1_put 18 = .ok (.if_icmp .eq 31, 3) := by decide +kernel
theorem dX1_put_21 : decode cX1_put 21 = .ok (.aload_n 0, 1) := by decide +kernel
theorem dX1_put_22 : decode cX1_put 22 = .ok (.getfield 15, 3) := by decide +kernel
theorem dX1_put_25 : decode cX1_put 25 = .ok (.iload_n 1, 1) := by decide +kernel
theorem dX1_put_26 : decode cX1_put 26 = .ok (.bipush 6, 2) := by decide +kernel
theorem dX1_put_28 : decode cX1_put 28 = .ok (.imul, 1) := by decide +kernel
theorem dX1_put_29 : decode cX1_put 29 = .ok (.iload_n 2, 1) := by decide +kernel
theorem dX1_put_30 : decode cX1_put 30 = .ok (.iadd, 1) := by decide +kernel
theorem dX1_put_31 : decode cX1_put 31 = .ok (.iload_n 3, 1) := by decide +kernel
theorem dX1_put_32 : decode cX1_put 32 = .ok (.iastore, 1) := by decide +kernel
theorem dX1_put_33 : decode cX1_put 33 = .ok (.aload_n 0, 1) := by decide +kernel
theorem dX1_put_34 : decode cX1_put 34 = .ok (.getfield 15, 3) := by decide +kernel
theorem dX1_put_37 : decode cX1_put 37 = .ok (.iload_n 2, 1) := by decide +kernel
theorem dX1_put_38 : decode cX1_put 38 = .ok (.bipush 6, 2) := by decide +kernel
theorem dX1_put_40 : decode cX1_put 40 = .ok (.imul, 1) := by decide +kernel
theorem dX1_put_41 : decode cX1_put 41 = .ok (.iload_n 1, 1) := by decide +kernel
theorem dX1_put_42 : decode cX1_put 42 = .ok (.iadd, 1) := by decide +kernel
theorem dX1_put_43 : decode cX1_put 43 = .ok (.iload_n 3, 1) := by decide +kernel
theorem dX1_put_44 : decode cX1_put 44 = .ok (.iastore, 1) := by decide +kernel
theorem dX1_put_45 : decode cX1_put 45 = .ok (.aload_n 0, 1) := by decide +kernel
theorem dX1_put_46 : decode cX1_put 46 = .ok (.invokevirtual 49, 3) := by decide +kernel
theorem dX1_put_49 : decode cX1_put 49 = .ok (.return_, 1) := by decide +kernel
theorem dX1_numberLines_0 : decode cX1_numberLines 0 = .ok (.aload_n 0, 1) := by decide +kernel
theorem dX1_numberLines_1 : decode cX1_numberLines 1 = .ok (.iconst 0, 1) := by decide +kernel
theorem dX1_numberLines_2 : decode cX1_numberLines 2 = .ok (.putfield 34, 3) := by decide +kernel
theorem dX1_numberLines_5 : decode cX1_numberLines 5 = .ok (.iconst 0, 1) := by decide +kernel
theorem dX1_numberLines_6 : decode cX1_numberLines 6 = .ok (.istore_n 1, 1) := by decide +kernel
theorem dX1_numberLines_7 : decode cX1_numberLines 7 = .ok (.iload_n 1, 1) := by decide +kernel
theorem dX1_numberLines_8 : decode cX1_numberLines 8 = .ok (.aload_n 0, 1) := by decide +kernel
theorem dX1_numberLines_9 : decode cX1_numberLines 9 = .ok (.getfield 9, 3) := by decide +kernel
theorem dX1_numberLines_12 : decode cX1_numberLines 12 = .ok (.if_icmp .ge 80, 3) := by decide +kernel
theorem dX1_numberLines_15 : decode cX1_numberLines 15 = .ok (.iload_n 1, 1) := by decide +kernel
theorem dX1_numberLines_16 : decode cX1_numberLines 16 = .ok (.iconst 1, 1) := by decide +kernel
theorem dX1_numberLines_17 : decode cX1_numberLines 17 = .ok (.iadd, 1) := by decide +kernel
theorem dX1_numberLines_18 : decode cX1_numberLines 18 = .ok (.istore_n 2, 1) := by decide +kernel
theorem dX1_numberLines_19 : decode cX1_numberLines 19 = .ok (.iload_n 2, 1) := by decide +kernel
theorem dX1_numberLines_20 : decode cX1_numberLines 20 = .ok (.aload_n 0, 1) := by decide +kernel
theorem dX1_numberLines_21 : decode cX1_numberLines 21 = .ok (.getfield 9, 3) := by decide +kernel
theorem dX1_numberLines_24 : decode cX1_numberLines 24 = .ok (.if_icmp .ge 62, 3) := by decide +kernel
theorem dX1_numberLines_27 : decode cX1_numberLines 27 = .ok (.aload_n 0, 1) := by decide +kernel
theorem dX1_numberLines_28 : decode cX1_numberLines 28 = .ok (.getfield 15, 3) := by decide +kernel
theorem dX1_numberLines_31 : decode cX1_numberLines 31 = .ok (.iload_n 1, 1) := by decide +kernel
theorem dX1_numberLines_32 : decode cX1_numberLines 32 = .ok (.bipush 6, 2) := by decide +kernel
theorem dX1_numberLines_34 : decode cX1_numberLines 34 = .ok (.imul, 1) := by decide +kernel
theorem dX1_numberLines_35 : decode cX1_numberLines 35 = .ok (.iload_n 2, 1) := by decide +kernel
theorem dX1_numberLines_36 : decode cX1_numberLines 36 = .ok (.iadd, 1) := by decide +kernel
theorem dX1_numberLines_37 : decode cX1_numberLines 37 = .ok (.iaload, 1) := by decide +kernel
theorem dX1_numberLines_38 : decode cX1_numberLines 38 = .ok (.ifCond .eq 42, 3) := by decide +kernel
theorem dX1_numberLines_41 : decode cX1_numberLines 41 = .ok (.aload_n 0, 1) := by decide +kernel
theorem dX1_numberLines_42 : decode cX1_numberLines 42 = .ok (.getfield 34, 3) := by decide +kernel
theorem dX1_numberLines_45 : decode cX1_numberLines 45 = .ok (.bipush 10, 2) := by decide +kernel
theorem dX1_numberLines_47 : decode cX1_numberLines 47 = .ok (.if_icmp .ge 33, 3) := by decide +kernel
theorem dX1_numberLines_50 : decode cX1_numberLines 50 = .ok (.aload_n 0, 1) := by decide +kernel
theorem dX1_numberLines_51 : decode cX1_numberLines 51 = .ok (.getfield 19, 3) := by decide +kernel
theorem dX1_numberLines_54 : decode cX1_numberLines 54 = .ok (.aload_n 0, 1) := by decide +kernel
theorem dX1_numberLines_55 : decode cX1_numberLines 55 = .ok (.getfield 34, 3) := by decide +kernel
theorem dX1_numberLines_58 : decode cX1_numberLines 58 = .ok (.iload_n 1, 1) := by decide +kernel
theorem dX1_numberLines_59 : decode cX1_numberLines 59 = .ok (.iastore, 1) := by decide +kernel
theorem dX1_numberLines_60 : decode cX1_numberLines 60 = .ok (.aload_n 0, 1) := by decide +kernel
theorem dX1_numberLines_61 : decode cX1_numberLines 61 = .ok (.getfield 22, 3) := by decide +kernel
theorem dX1_numberLines_64 : decode cX1_numberLines 64 = .ok (.aload_n 0, 1) := by decide +kernel
theorem dX1_numberLines_65 : decode cX1_numberLines 65 = .ok (.getfield 34, 3) := by decide +kernel
theorem dX1_numberLines_68 : decode cX1_numberLines 68 = .ok (.iload_n 2, 1) := by decide +kernel
theorem dX1_numberLines_69 : decode cX1_numberLines 69 = .ok (.iastore, 1) := by decide +kernel
theorem dX1_numberLines_70 : decode cX1_numberLines 70 = .ok (.aload_n 0, 1) := by decide +kernel
theorem dX1_numberLines_71 : decode cX1_numberLines 71 = .ok (.dup, 1) := by decide +kernel
theorem dX1_numberLines_72 : decode cX1_numberLines 72 = .ok (.getfield 34, 3) := by decide +kernel
theorem dX1_numberLines_75 : decode cX1_numberLines 75 = .ok (.iconst 1, 1) := by decide +kernel
theorem dX1_numberLines_76 : decode cX1_numberLines 76 = .ok (.iadd, 1) := by decide +kernel
theorem dX1_numberLines_77 : decode cX1_numberLines 77 = .ok (.putfield 34, 3) := by decide +kernel
theorem dX1_numberLines_80 : decode cX1_numberLines 80 = .ok (.iinc 2 1, 3) := by decide +kernel
theorem dX1_numberLines_83 : decode cX1_numberLines 83 = .ok (.goto (-64), 3) := by decide +kernel
theorem dX1_numberLines_86 : decode cX1_numberLines 86 = .ok (.iinc 1 1, 3) := by decide +kernel
theorem dX1_numberLines_89 : decode cX1_numberLines 89 = .ok (.goto (-82), 3) := by decide +kernel
theorem dX1_numberLines_92 : decode cX1_numberLines 92 = .ok (.return_, 1) := by decide +kernel
set_option maxRecDepth 20000 in
theorem ggX1_degree_X1_hasNode : GoodIn wsX1_degree wsX1_hasNode := goodIn_r _ [7, 1, 8, 9, 10, 11, 12] rfl (by decide +kernel)
set_option maxRecDepth 20000 in
theorem gX1_degree_X1_hasNode : GoodIn wsX1_degree (wsV RX1 66 RX1 yX1_hasNode wsX1_hasNode) := goodIn_app (goodIn_of _ (by decide +kernel)) ggX1_degree_X1_hasNode
theorem dX1_degree_0 : decode cX1_degree 0 = .ok (.aload_n 0, 1) := by decide +kernel
theorem dX1_degree_1 : decode cX1_degree 1 = .ok (.iload_n 1, 1) := by decide +kernel
theorem dX1_degree_2 : decode cX1_degree 2 = .ok (.invokevirtual 66, 3) := by decide +kernel
theorem dX1_degree_5 : decode cX1_degree 5 = .ok (.ifCond .ne 5, 3) := by decide +kernel
theorem dX1_degree_8 : decode cX1_degree 8 = .ok (.iconst 0, 1) := by decide +kernel
theorem dX1_degree_9 : decode cX1_degree 9 = .ok (.ireturn, 1) := by decide +kernel
theorem dX1_degree_10 : decode cX1_degree 10 = .ok (.iconst 0, 1) := by decide +kernel
theorem dX1_degree_11 : decode cX1_degree 11 = .ok (.istore_n 2, 1) := by decide +kernel
theorem dX1_degree_12 : decode cX1_degree 12 = .ok (.iconst 0, 1) := by decide +kernel
theorem dX1_degree_13 : decode cX1_degree 13 = .ok (.istore_n 3, 1) := by decide +kernel
theorem dX1_degree_14 : decode cX1_degree 14 = .ok (.iload_n 3, 1) := by decide +kernel
theorem dX1_degree_15 : decode cX1_degree 15 = .ok (.aload_n 0, 1) := by decide +kernel
theorem dX1_degree_16 : decode cX1_degree 16 = .ok (.getfield 9, 3) := by decide +kernel
theorem dX1_degree_19 : decode cX1_degree 19 = .ok (.if_icmp .ge 23, 3) := by decide +kernel
theorem dX1_degree_22 : decode cX1_degree 22 = .ok (.iload_n 2, 1) := by decide +kernel
theorem dX1_degree_23 : decode cX1_degree 23 = .ok (.aload_n 0, 1) := by decide +kernel
theorem dX1_degree_24 : decode cX1_degree 24 = .ok (.getfield 15, 3) := by decide +kernel
theorem dX1_degree_27 : decode cX1_degree 27 = .ok (.iload_n 1, 1) := by decide +kernel
theorem dX1_degree_28 : decode cX1_degree 28 = .ok (.bipush 6, 2) := by decide +kernel
theorem dX1_degree_30 : decode cX1_degree 30 = .ok (.imul, 1) := by decide +kernel
theorem dX1_degree_31 : decode cX1_degree 31 = .ok (.iload_n 3, 1) := by decide +kernel
theorem dX1_degree_32 : decode cX1_degree 32 = .ok (.iadd, 1) := by decide +kernel
theorem dX1_degree_33 : decode cX1_degree 33 = .ok (.iaload, 1) := by decide +kernel
theorem dX1_degree_34 : decode cX1_degree 34 = .ok (.iadd, 1) := by decide +kernel
theorem dX1_degree_35 : decode cX1_degree 35 = .ok (.istore_n 2, 1) := by decide +kernel
theorem dX1_degree_36 : decode cX1_degree 36 = .ok (.iinc 3 1, 3) := by decide +kernel
theorem dX1_degree_39 : decode cX1_degree 39 = .ok (.goto (-25), 3) := by decide +kernel
theorem dX1_degree_42 : decode cX1_degree 42 = .ok (.iload_n 2, 1) := by decide +kernel
theorem dX1_degree_43 : decode cX1_degree 43 = .ok (.ireturn, 1) := by decide +kernel
set_option maxRecDepth 20000 in
theorem ggX1_whole_X1_widthOf : GoodIn wsX1_whole wsX1_widthOf := goodIn_r _ [6, 7, 8, 9, 5, 10, 11, 12, 13, 14, 15, 1, 16, 17, 18, 19, 20, 21, 22, 23, 24, 25, 26, 27, 28, 29, 30, 31, 32, 33, 34, 35] rfl (by decide +kernel)
set_option maxRecDepth 20000 in
theorem gX1_whole_X1_widthOf : GoodIn wsX1_whole (wsV RX1 69 RX1 yX1_widthOf wsX1_widthOf) := goodIn_app (goodIn_of _ (by decide +kernel)) ggX1_whole_X1_widthOf
theorem dX1_whole_0 : decode cX1_whole 0 = .ok (.iconst 0, 1) := by decide +kernel
theorem dX1_whole_1 : decode cX1_whole 1 = .ok (.istore_n 1, 1) := by decide +kernel
theorem dX1_whole_2 : decode cX1_whole 2 = .ok (.iconst 0, 1) := by decide +kernel
theorem dX1_whole_3 : decode cX1_whole 3 = .ok (.istore_n 2, 1) := by decide +kernel
theorem dX1_whole_4 : decode cX1_whole 4 = .ok (.iload_n 2, 1) := by decide +kernel
theorem dX1_whole_5 : decode cX1_whole 5 = .ok (.aload_n 0, 1) := by decide +kernel
theorem dX1_whole_6 : decode cX1_whole 6 = .ok (.getfield 34, 3) := by decide +kernel
theorem dX1_whole_9 : decode cX1_whole 9 = .ok (.if_icmp .ge 17, 3) := by decide +kernel
theorem dX1_whole_12 : decode cX1_whole 12 = .ok (.iload_n 1, 1) := by decide +kernel
theorem dX1_whole_13 : decode cX1_whole 13 = .ok (.aload_n 0, 1) := by decide +kernel
theorem dX1_whole_14 : decode cX1_whole 14 = .ok (.iload_n 2, 1) := by decide +kernel
theorem dX1_whole_15 : decode cX1_whole 15 = .ok (.invokevirtual 69, 3) := by decide +kernel
theorem dX1_whole_18 : decode cX1_whole 18 = .ok (.iadd, 1) := by decide +kernel
theorem dX1_whole_19 : decode cX1_whole 19 = .ok (.istore_n 1, 1) := by decide +kernel
theorem dX1_whole_20 : decode cX1_whole 20 = .ok (.iinc 2 1, 3) := by decide +kernel
theorem dX1_whole_23 : decode cX1_whole 23 = .ok (.goto (-19), 3) := by decide +kernel
theorem dX1_whole_26 : decode cX1_whole 26 = .ok (.iload_n 1, 1) := by decide +kernel
theorem dX1_whole_27 : decode cX1_whole 27 = .ok (.ireturn, 1) := by decide +kernel
set_option maxRecDepth 20000 in
theorem ggX1_hangs_X1_hangsBy : GoodIn wsX1_hangs wsX1_hangsBy := goodIn_r _ [6, 7, 1, 8, 9, 10, 5, 11, 12, 13, 14, 15, 16, 17, 18, 19, 20, 21, 22, 23, 24, 25, 26] rfl (by decide +kernel)
set_option maxRecDepth 20000 in
theorem gX1_hangs_X1_hangsBy : GoodIn wsX1_hangs (wsV RX1 72 RX1 yX1_hangsBy wsX1_hangsBy) := goodIn_app (goodIn_of _ (by decide +kernel)) ggX1_hangs_X1_hangsBy
theorem dX1_hangs_0 : decode cX1_hangs 0 = .ok (.aload_n 0, 1) := by decide +kernel
theorem dX1_hangs_1 : decode cX1_hangs 1 = .ok (.iconst 1, 1) := by decide +kernel
theorem dX1_hangs_2 : decode cX1_hangs 2 = .ok (.aload_n 0, 1) := by decide +kernel
theorem dX1_hangs_3 : decode cX1_hangs 3 = .ok (.getfield 34, 3) := by decide +kernel
theorem dX1_hangs_6 : decode cX1_hangs 6 = .ok (.ishl, 1) := by decide +kernel
theorem dX1_hangs_7 : decode cX1_hangs 7 = .ok (.iconst 1, 1) := by decide +kernel
theorem dX1_hangs_8 : decode cX1_hangs 8 = .ok (.isub, 1) := by decide +kernel
theorem dX1_hangs_9 : decode cX1_hangs 9 = .ok (.invokevirtual 72, 3) := by decide +kernel
theorem dX1_hangs_12 : decode cX1_hangs 12 = .ok (.ireturn, 1) := by decide +kernel
set_option maxRecDepth 20000 in
theorem ggX1_hangsBy_X1_lowOf : GoodIn wsX1_hangsBy wsX1_lowOf := goodIn_r _ [7, 8, 9, 10, 11, 6, 12, 2, 18, 19, 20, 21, 22] rfl (by decide +kernel)
set_option maxRecDepth 20000 in
theorem gX1_hangsBy_X1_lowOf : GoodIn wsX1_hangsBy (wsV RX1 56 RX1 yX1_lowOf wsX1_lowOf) := goodIn_app (goodIn_of _ (by decide +kernel)) ggX1_hangsBy_X1_lowOf
set_option maxRecDepth 20000 in
theorem ggX1_hangsBy_X1_highOf : GoodIn wsX1_hangsBy wsX1_highOf := goodIn_r _ [16, 17, 9, 10, 11, 6, 12, 2, 18, 19, 20, 21, 22] rfl (by decide +kernel)
set_option maxRecDepth 20000 in
theorem gX1_hangsBy_X1_highOf : GoodIn wsX1_hangsBy (wsV RX1 60 RX1 yX1_highOf wsX1_highOf) := goodIn_app (goodIn_of _ (by decide +kernel)) ggX1_hangsBy_X1_highOf
theorem dX1_hangsBy_0 : decode cX1_hangsBy 0 = .ok (.iconst 1, 1) := by decide +kernel
theorem dX1_hangsBy_1 : decode cX1_hangsBy 1 = .ok (.aload_n 0, 1) := by decide +kernel
theorem dX1_hangsBy_2 : decode cX1_hangsBy 2 = .ok (.getfield 9, 3) := by decide +kernel
theorem dX1_hangsBy_5 : decode cX1_hangsBy 5 = .ok (.ishl, 1) := by decide +kernel
theorem dX1_hangsBy_6 : decode cX1_hangsBy 6 = .ok (.iconst 1, 1) := by decide +kernel
theorem dX1_hangsBy_7 : decode cX1_hangsBy 7 = .ok (.isub, 1) := by decide +kernel
theorem dX1_hangsBy_8 : decode cX1_hangsBy 8 = .ok (.istore_n 2, 1) := by decide +kernel
theorem dX1_hangsBy_9 : decode cX1_hangsBy 9 = .ok (.iconst 1, 1) := by decide +kernel
theorem dX1_hangsBy_10 : decode cX1_hangsBy 10 = .ok (.istore_n 3, 1) := by decide +kernel
theorem dX1_hangsBy_11 : decode cX1_hangsBy 11 = .ok (.iconst 1, 1) := by decide +kernel
theorem dX1_hangsBy_12 : decode cX1_hangsBy 12 = .ok (.istore 4, 2) := by decide +kernel
theorem dX1_hangsBy_14 : decode cX1_hangsBy 14 = .ok (.iload 4, 2) := by decide +kernel
theorem dX1_hangsBy_16 : decode cX1_hangsBy 16 = .ok (.aload_n 0, 1) := by decide +kernel
theorem dX1_hangsBy_17 : decode cX1_hangsBy 17 = .ok (.getfield 9, 3) := by decide +kernel
theorem dX1_hangsBy_20 : decode cX1_hangsBy 20 = .ok (.if_icmp .ge 73, 3) := by decide +kernel
theorem dX1_hangsBy_23 : decode cX1_hangsBy 23 = .ok (.iload_n 3, 1) := by decide +kernel
theorem dX1_hangsBy_24 : decode cX1_hangsBy 24 = .ok (.iload_n 2, 1) := by decide +kernel
theorem dX1_hangsBy_25 : decode cX1_hangsBy 25 = .ok (.if_icmp .eq 68, 3) := by decide +kernel
theorem dX1_hangsBy_28 : decode cX1_hangsBy 28 = .ok (.iconst 0, 1) := by decide +kernel
theorem dX1_hangsBy_29 : decode cX1_hangsBy 29 = .ok (.istore 5, 2) := by decide +kernel
theorem dX1_hangsBy_31 : decode cX1_hangsBy 31 = .ok (.iload 5, 2) := by decide +kernel
theorem dX1_hangsBy_33 : decode cX1_hangsBy 33 = .ok (.aload_n 0, 1) := by decide +kernel
theorem dX1_hangsBy_34 : decode cX1_hangsBy 34 = .ok (.getfield 34, 3) := by decide +kernel
theorem dX1_hangsBy_37 : decode cX1_hangsBy 37 = .ok (.if_icmp .ge 50, 3) := by decide +kernel
theorem dX1_hangsBy_40 : decode cX1_hangsBy 40 = .ok (.iconst 1, 1) := by decide +kernel
theorem dX1_hangsBy_41 : decode cX1_hangsBy 41 = .ok (.aload_n 0, 1) := by decide +kernel
theorem dX1_hangsBy_42 : decode cX1_hangsBy 42 = .ok (.iload 5, 2) := by decide +kernel
theorem dX1_hangsBy_44 : decode cX1_hangsBy 44 = .ok (.invokevirtual 56, 3) := by decide +kernel
theorem dX1_hangsBy_47 : decode cX1_hangsBy 47 = .ok (.ishl, 1) := by decide +kernel
theorem dX1_hangsBy_48 : decode cX1_hangsBy 48 = .ok (.iconst 1, 1) := by decide +kernel
theorem dX1_hangsBy_49 : decode cX1_hangsBy 49 = .ok (.aload_n 0, 1) := by decide +kernel
theorem dX1_hangsBy_50 : decode cX1_hangsBy 50 = .ok (.iload 5, 2) := by decide +kernel
theorem dX1_hangsBy_52 : decode cX1_hangsBy 52 = .ok (.invokevirtual 60, 3) := by decide +kernel
theorem dX1_hangsBy_55 : decode cX1_hangsBy 55 = .ok (.ishl, 1) := by decide +kernel
theorem dX1_hangsBy_56 : decode cX1_hangsBy 56 = .ok (.ior, 1) := by decide +kernel
theorem dX1_hangsBy_57 : decode cX1_hangsBy 57 = .ok (.istore 6, 2) := by decide +kernel
theorem dX1_hangsBy_59 : decode cX1_hangsBy 59 = .ok (.iload_n 1, 1) := by decide +kernel
theorem dX1_hangsBy_60 : decode cX1_hangsBy 60 = .ok (.iload 5, 2) := by decide +kernel
theorem dX1_hangsBy_62 : decode cX1_hangsBy 62 = .ok (.ishr, 1) := by decide +kernel
theorem dX1_hangsBy_63 : decode cX1_hangsBy 63 = .ok (.iconst 1, 1) := by decide +kernel
theorem dX1_hangsBy_64 : decode cX1_hangsBy 64 = .ok (.iand, 1) := by decide +kernel
theorem dX1_hangsBy_65 : decode cX1_hangsBy 65 = .ok (.iconst 1, 1) := by decide +kernel
theorem dX1_hangsBy_66 : decode cX1_hangsBy 66 = .ok (.if_icmp .ne 15, 3) := by decide +kernel
theorem dX1_hangsBy_69 : decode cX1_hangsBy 69 = .ok (.iload_n 3, 1) := by decide +kernel
theorem dX1_hangsBy_70 : decode cX1_hangsBy 70 = .ok (.iload 6, 2) := by decide +kernel
theorem dX1_hangsBy_72 : decode cX1_hangsBy 72 = .ok (.iand, 1) := by decide +kernel
theorem dX1_hangsBy_73 : decode cX1_hangsBy 73 = .ok (.ifCond .eq 8, 3) := by decide +kernel
theorem dX1_hangsBy_76 : decode cX1_hangsBy 76 = .ok (.iload_n 3, 1) := by decide +kernel
theorem dX1_hangsBy_77 : decode cX1_hangsBy 77 = .ok (.iload 6, 2) := by decide +kernel
theorem dX1_hangsBy_79 : decode cX1_hangsBy 79 = .ok (.ior, 1) := by decide +kernel
theorem dX1_hangsBy_80 : decode cX1_hangsBy 80 = .ok (.istore_n 3, 1) := by decide +kernel
theorem dX1_hangsBy_81 : decode cX1_hangsBy 81 = .ok (.iinc 5 1, 3) := by decide +kernel
theorem dX1_hangsBy_84 : decode cX1_hangsBy 84 = .ok (.goto (-53), 3) := by decide +kernel
theorem dX1_hangsBy_87 : decode cX1_hangsBy 87 = .ok (.iinc 4 1, 3) := by decide +kernel
theorem dX1_hangsBy_90 : decode cX1_hangsBy 90 = .ok (.goto (-76), 3) := by decide +kernel
theorem dX1_hangsBy_93 : decode cX1_hangsBy 93 = .ok (.iload_n 3, 1) := by decide +kernel
theorem dX1_hangsBy_94 : decode cX1_hangsBy 94 = .ok (.iload_n 2, 1) := by decide +kernel
theorem dX1_hangsBy_95 : decode cX1_hangsBy 95 = .ok (.if_icmp .ne 7, 3) := by decide +kernel
theorem dX1_hangsBy_98 : decode cX1_hangsBy 98 = .ok (.iconst 1, 1) := by decide +kernel
theorem dX1_hangsBy_99 : decode cX1_hangsBy 99 = .ok (.goto 4, 3) := by decide +kernel
theorem dX1_hangsBy_102 : decode cX1_hangsBy 102 = .ok (.iconst 0, 1) := by decide +kernel
theorem dX1_hangsBy_103 : decode cX1_hangsBy 103 = .ok (.ireturn, 1) := by decide +kernel
theorem dX2_init_0 : decode cX2_init 0 = .ok (.aload_n 0, 1) := by decide +kernel
theorem dX2_init_1 : decode cX2_init 1 = .ok (.invokespecial 3, 3) := by decide +kernel
theorem dX2_init_4 : decode cX2_init 4 = .ok (.aload_n 0, 1) := by decide +kernel
theorem dX2_init_5 : decode cX2_init 5 = .ok (.bipush 12, 2) := by decide +kernel
theorem dX2_init_7 : decode cX2_init 7 = .ok (.newarray .int, 2) := by decide +kernel
theorem dX2_init_9 : decode cX2_init 9 = .ok (.putfield 9, 3) := by decide +kernel
theorem dX2_init_12 : decode cX2_init 12 = .ok (.aload_n 0, 1) := by decide +kernel
theorem dX2_init_13 : decode cX2_init 13 = .ok (.bipush 12, 2) := by decide +kernel
theorem dX2_init_15 : decode cX2_init 15 = .ok (.newarray .int, 2) := by decide +kernel
theorem dX2_init_17 : decode cX2_init 17 = .ok (.putfield 15, 3) := by decide +kernel
theorem dX2_init_20 : decode cX2_init 20 = .ok (.aload_n 0, 1) := by decide +kernel
theorem dX2_init_21 : decode cX2_init 21 = .ok (.bipush 12, 2) := by decide +kernel
theorem dX2_init_23 : decode cX2_init 23 = .ok (.newarray .int, 2) := by decide +kernel
theorem dX2_init_25 : decode cX2_init 25 = .ok (.putfield 18, 3) := by decide +kernel
theorem dX2_init_28 : decode cX2_init 28 = .ok (.return_, 1) := by decide +kernel
set_option maxRecDepth 20000 in
theorem ggX2_notes_X2_loseOldest : GoodIn wsX2_notes wsX2_loseOldest := goodIn_r _ [9, 1, 2, 10, 11, 12, 13, 3, 4, 14, 15, 16, 17] rfl (by decide +kernel)
set_option maxRecDepth 20000 in
theorem gX2_notes_X2_loseOldest : GoodIn wsX2_notes (wsV RX2 25 RX2 yX2_loseOldest wsX2_loseOldest) := goodIn_app (goodIn_of _ (by decide +kernel)) ggX2_notes_X2_loseOldest
theorem dX2_notes_0 : decode cX2_notes 0 = .ok (.aload_n 0, 1) := by decide +kernel
theorem dX2_notes_1 : decode cX2_notes 1 = .ok (.getfield 21, 3) := by decide +kernel
theorem dX2_notes_4 : decode cX2_notes 4 = .ok (.bipush 12, 2) := by decide +kernel
theorem dX2_notes_6 : decode cX2_notes 6 = .ok (.if_icmp .lt 7, 3) := by decide +kernel
theorem dX2_notes_9 : decode cX2_notes 9 = .ok (.aload_n 0, 1) := by decide +kernel
theorem dX2_notes_10 : decode cX2_notes 10 = .ok (.invokevirtual 25, 3) := by decide +kernel
theorem dX2_notes_13 : decode cX2_notes 13 = .ok (.aload_n 0, 1) := by decide +kernel
theorem dX2_notes_14 : decode cX2_notes 14 = .ok (.getfield 9, 3) := by decide +kernel
theorem dX2_notes_17 : decode cX2_notes 17 = .ok (.aload_n 0, 1) := by decide +kernel
theorem dX2_notes_18 : decode cX2_notes 18 = .ok (.getfield 21, 3) := by decide +kernel
theorem dX2_notes_21 : decode cX2_notes 21 = .ok (.iload_n 1, 1) := by decide +kernel
theorem dX2_notes_22 : decode cX2_notes 22 = .ok (.iastore, 1) := by decide +kernel
theorem dX2_notes_23 : decode cX2_notes 23 = .ok (.aload_n 0, 1) := by decide +kernel
theorem dX2_notes_24 : decode cX2_notes 24 = .ok (.getfield 15, 3) := by decide +kernel
theorem dX2_notes_27 : decode cX2_notes 27 = .ok (.aload_n 0, 1) := by decide +kernel
theorem dX2_notes_28 : decode cX2_notes 28 = .ok (.getfield 21, 3) := by decide +kernel
theorem dX2_notes_31 : decode cX2_notes 31 = .ok (.iload_n 2, 1) := by decide +kernel
theorem dX2_notes_32 : decode cX2_notes 32 = .ok (.iastore, 1) := by decide +kernel
theorem dX2_notes_33 : decode cX2_notes 33 = .ok (.aload_n 0, 1) := by decide +kernel
theorem dX2_notes_34 : decode cX2_notes 34 = .ok (.getfield 18, 3) := by decide +kernel
theorem dX2_notes_37 : decode cX2_notes 37 = .ok (.aload_n 0, 1) := by decide +kernel
theorem dX2_notes_38 : decode cX2_notes 38 = .ok (.getfield 21, 3) := by decide +kernel
theorem dX2_notes_41 : decode cX2_notes 41 = .ok (.iload_n 3, 1) := by decide +kernel
theorem dX2_notes_42 : decode cX2_notes 42 = .ok (.iastore, 1) := by decide +kernel
theorem dX2_notes_43 : decode cX2_notes 43 = .ok (.aload_n 0, 1) := by decide +kernel
theorem dX2_notes_44 : decode cX2_notes 44 = .ok (.dup, 1) := by decide +kernel
theorem dX2_notes_45 : decode cX2_notes 45 = .ok (.getfield 21, 3) := by decide +kernel
theorem dX2_notes_48 : decode cX2_notes 48 = .ok (.iconst 1, 1) := by decide +kernel
theorem dX2_notes_49 : decode cX2_notes 49 = .ok (.iadd, 1) := by decide +kernel
theorem dX2_notes_50 : decode cX2_notes 50 = .ok (.putfield 21, 3) := by decide +kernel
theorem dX2_notes_53 : decode cX2_notes 53 = .ok (.return_, 1) := by decide +kernel
theorem dX2_loseOldest_0 : decode cX2_loseOldest 0 = .ok (.aload_n 0, 1) := by decide +kernel
theorem dX2_loseOldest_1 : decode cX2_loseOldest 1 = .ok (.bipush 11, 2) := by decide +kernel
theorem dX2_loseOldest_3 : decode cX2_loseOldest 3 = .ok (.putfield 21, 3) := by decide +kernel
theorem dX2_loseOldest_6 : decode cX2_loseOldest 6 = .ok (.aload_n 0, 1) := by decide +kernel
theorem dX2_loseOldest_7 : decode cX2_loseOldest 7 = .ok (.getfield 9, 3) := by decide +kernel
theorem dX2_loseOldest_10 : decode cX2_loseOldest 10 = .ok (.iconst 1, 1) := by decide +kernel
theorem dX2_loseOldest_11 : decode cX2_loseOldest 11 = .ok (.aload_n 0, 1) := by decide +kernel
theorem dX2_loseOldest_12 : decode cX2_loseOldest 12 = .ok (.getfield 9, 3) := by decide +kernel
theorem dX2_loseOldest_15 : decode cX2_loseOldest 15 = .ok (.iconst 0, 1) := by decide +kernel
theorem dX2_loseOldest_16 : decode cX2_loseOldest 16 = .ok (.aload_n 0, 1) := by decide +kernel
theorem dX2_loseOldest_17 : decode cX2_loseOldest 17 = .ok (.getfield 21, 3) := by decide +kernel
theorem dX2_loseOldest_20 : decode cX2_loseOldest 20 = .ok (.invokestatic 28, 3) := by decide +kernel
theorem dX2_loseOldest_23 : decode cX2_loseOldest 23 = .ok (.aload_n 0, 1) := by decide +kernel
theorem dX2_loseOldest_24 : decode cX2_loseOldest 24 = .ok (.getfield 15, 3) := by decide +kernel
theorem dX2_loseOldest_27 : decode cX2_loseOldest 27 = .ok (.iconst 1, 1) := by decide +kernel
theorem dX2_loseOldest_28 : decode cX2_loseOldest 28 = .ok (.aload_n 0, 1) := by decide +kernel
theorem dX2_loseOldest_29 : decode cX2_loseOldest 29 = .ok (.getfield 15, 3) := by decide +kernel
theorem dX2_loseOldest_32 : decode cX2_loseOldest 32 = .ok (.iconst 0, 1) := by decide +kernel
theorem dX2_loseOldest_33 : decode cX2_loseOldest 33 = .ok (.aload_n 0, 1) := by decide +kernel
theorem dX2_loseOldest_34 : decode cX2_loseOldest 34 = .ok (.getfield 21, 3) := by decide +kernel
theorem dX2_loseOldest_37 : decode cX2_loseOldest 37 = .ok (.invokestatic 28, 3) := by decide +kernel
theorem dX2_loseOldest_40 : decode cX2_loseOldest 40 = .ok (.aload_n 0, 1) := by decide +kernel
theorem dX2_loseOldest_41 : decode cX2_loseOldest 41 = .ok (.getfield 18, 3) := by decide +kernel
theorem dX2_loseOldest_44 : decode cX2_loseOldest 44 = .ok (.iconst 1, 1) := by decide +kernel
theorem dX2_loseOldest_45 : decode cX2_loseOldest 45 = .ok (.aload_n 0, 1) := by decide +kernel
theorem dX2_loseOldest_46 : decode cX2_loseOldest 46 = .ok (.getfield 18, 3) := by decide +kernel
theorem dX2_loseOldest_49 : decode cX2_loseOldest 49 = .ok (.iconst 0, 1) := by decide +kernel
theorem dX2_loseOldest_50 : decode cX2_loseOldest 50 = .ok (.aload_n 0, 1) := by decide +kernel
theorem dX2_loseOldest_51 : decode cX2_loseOldest 51 = .ok (.getfield 21, 3) := by decide +kernel
theorem dX2_loseOldest_54 : decode cX2_loseOldest 54 = .ok (.invokestatic 28, 3) := by decide +kernel
theorem dX2_loseOldest_57 : decode cX2_loseOldest 57 = .ok (.return_, 1) := by decide +kernel
set_option maxRecDepth 20000 in
theorem ggX2_takesBack_X1_put : GoodIn wsX2_takesBack wsX1_put := goodIn_r _ [9, 10, 11, 12, 13, 8, 14, 15, 16, 17, 18, 19, 20, 21, 22, 27, 28, 29, 30, 31] rfl (by decide +kernel)
set_option maxRecDepth 20000 in
theorem gX2_takesBack_X1_put : GoodIn wsX2_takesBack (wsV RX2 34 RX1 yX1_put wsX1_put) := goodIn_app (goodIn_of _ (by decide +kernel)) ggX2_takesBack_X1_put
theorem dX2_takesBack_0 : decode cX2_takesBack 0 = .ok (.aload_n 0, 1) := by decide +kernel
theorem dX2_takesBack_1 : decode cX2_takesBack 1 = .ok (.getfield 21, 3) := by decide +kernel
theorem dX2_takesBack_4 : decode cX2_takesBack 4 = .ok (.ifCond .gt 5, 3) := by decide +kernel
theorem dX2_takesBack_7 : decode cX2_takesBack 7 = .ok (.iconst 0, 1) := by decide +kernel
theorem dX2_takesBack_8 : decode cX2_takesBack 8 = .ok (.ireturn, 1) := by decide +kernel
theorem dX2_takesBack_9 : decode cX2_takesBack 9 = .ok (.aload_n 0, 1) := by decide +kernel
theorem dX2_takesBack_10 : decode cX2_takesBack 10 = .ok (.dup, 1) := by decide +kernel
theorem dX2_takesBack_11 : decode cX2_takesBack 11 = .ok (.getfield 21, 3) := by decide +kernel
theorem dX2_takesBack_14 : decode cX2_takesBack 14 = .ok (.iconst 1, 1) := by decide +kernel
theorem dX2_takesBack_15 : decode cX2_takesBack 15 = .ok (.isub, 1) := by decide +kernel
theorem dX2_takesBack_16 : decode cX2_takesBack 16 = .ok (.putfield 21, 3) := by decide +kernel
theorem dX2_takesBack_19 : decode cX2_takesBack 19 = .ok (.aload_n 1, 1) := by decide +kernel
theorem dX2_takesBack_20 : decode cX2_takesBack 20 = .ok (.aload_n 0, 1) := by decide +kernel
theorem dX2_takesBack_21 : decode cX2_takesBack 21 = .ok (.getfield 9, 3) := by decide +kernel
theorem dX2_takesBack_24 : decode cX2_takesBack 24 = .ok (.aload_n 0, 1) := by decide +kernel
theorem dX2_takesBack_25 : decode cX2_takesBack 25 = .ok (.getfield 21, 3) := by decide +kernel
theorem dX2_takesBack_28 : decode cX2_takesBack 28 = .ok (.iaload, 1) := by decide +kernel
theorem dX2_takesBack_29 : decode cX2_takesBack 29 = .ok (.aload_n 0, 1) := by decide +kernel
theorem dX2_takesBack_30 : decode cX2_takesBack 30 = .ok (.getfield 15, 3) := by decide +kernel
theorem dX2_takesBack_33 : decode cX2_takesBack 33 = .ok (.aload_n 0, 1) := by decide +kernel
theorem dX2_takesBack_34 : decode cX2_takesBack 34 = .ok (.getfield 21, 3) := by decide +kernel
theorem dX2_takesBack_37 : decode cX2_takesBack 37 = .ok (.iaload, 1) := by decide +kernel
theorem dX2_takesBack_38 : decode cX2_takesBack 38 = .ok (.aload_n 0, 1) := by decide +kernel
theorem dX2_takesBack_39 : decode cX2_takesBack 39 = .ok (.getfield 18, 3) := by decide +kernel
theorem dX2_takesBack_42 : decode cX2_takesBack 42 = .ok (.aload_n 0, 1) := by decide +kernel
theorem dX2_takesBack_43 : decode cX2_takesBack 43 = .ok (.getfield 21, 3) := by decide +kernel
theorem dX2_takesBack_46 : decode cX2_takesBack 46 = .ok (.iaload, 1) := by decide +kernel
theorem dX2_takesBack_47 : decode cX2_takesBack 47 = .ok (.invokevirtual 34, 3) := by decide +kernel
theorem dX2_takesBack_50 : decode cX2_takesBack 50 = .ok (.iconst 1, 1) := by decide +kernel
theorem dX2_takesBack_51 : decode cX2_takesBack 51 = .ok (.ireturn, 1) := by decide +kernel
theorem dX3_init_0 : decode cX3_init 0 = .ok (.aload_n 0, 1) := by decide +kernel
theorem dX3_init_1 : decode cX3_init 1 = .ok (.invokespecial 3, 3) := by decide +kernel
theorem dX3_init_4 : decode cX3_init 4 = .ok (.aload_n 0, 1) := by decide +kernel
theorem dX3_init_5 : decode cX3_init 5 = .ok (.bipush 36, 2) := by decide +kernel
theorem dX3_init_7 : decode cX3_init 7 = .ok (.newarray .long, 2) := by decide +kernel
theorem dX3_init_9 : decode cX3_init 9 = .ok (.putfield 9, 3) := by decide +kernel
theorem dX3_init_12 : decode cX3_init 12 = .ok (.aload_n 0, 1) := by decide +kernel
theorem dX3_init_13 : decode cX3_init 13 = .ok (.bipush 36, 2) := by decide +kernel
theorem dX3_init_15 : decode cX3_init 15 = .ok (.newarray .long, 2) := by decide +kernel
theorem dX3_init_17 : decode cX3_init 17 = .ok (.putfield 15, 3) := by decide +kernel
theorem dX3_init_20 : decode cX3_init 20 = .ok (.return_, 1) := by decide +kernel
set_option maxRecDepth 20000 in
theorem ggX3_reduces_X3_load : GoodIn wsX3_reduces wsX3_load := goodIn_r _ [6, 7, 1, 8, 9, 10, 11, 12, 13, 14, 15, 16, 17, 18, 19, 20, 21, 5, 22, 23, 24, 25, 26, 27, 28, 71, 72, 73, 74, 75, 68, 69, 70] rfl (by decide +kernel)
set_option maxRecDepth 20000 in
theorem gX3_reduces_X3_load : GoodIn wsX3_reduces (wsV RX3 18 RX3 yX3_load wsX3_load) := goodIn_app (goodIn_of _ (by decide +kernel)) ggX3_reduces_X3_load
set_option maxRecDepth 20000 in
theorem ggX3_reduces_X3_lowestToGo : GoodIn wsX3_reduces wsX3_lowestToGo := goodIn_r _ [32, 1, 33, 34, 35, 5, 36, 37, 38, 39, 40, 41, 42, 43, 44, 24, 25, 26, 27, 28, 68, 69, 70] rfl (by decide +kernel)
set_option maxRecDepth 20000 in
theorem gX3_reduces_X3_lowestToGo : GoodIn wsX3_reduces (wsV RX3 26 RX3 yX3_lowestToGo wsX3_lowestToGo) := goodIn_app (goodIn_of _ (by decide +kernel)) ggX3_reduces_X3_lowestToGo
set_option maxRecDepth 20000 in
theorem ggX3_reduces_X3_drop : GoodIn wsX3_reduces wsX3_drop := goodIn_r _ [48, 1, 49, 50, 51, 5, 52, 37, 38, 39, 40, 41, 42, 43, 44, 24, 25, 26, 27, 28, 53, 54, 55, 56, 23, 57, 58, 59, 60, 61, 62, 63, 64, 65, 66, 67, 19, 20, 21, 22, 68, 69, 70] rfl (by decide +kernel)
set_option maxRecDepth 20000 in
theorem gX3_reduces_X3_drop : GoodIn wsX3_reduces (wsV RX3 30 RX3 yX3_drop wsX3_drop) := goodIn_app (goodIn_of _ (by decide +kernel)) ggX3_reduces_X3_drop
theorem dX3_reduces_0 : decode cX3_reduces 0 = .ok (.aload_n 0, 1) := by decide +kernel
theorem dX3_reduces_1 : decode cX3_reduces 1 = .ok (.aload_n 1, 1) := by decide +kernel
theorem dX3_reduces_2 : decode cX3_reduces 2 = .ok (.invokevirtual 18, 3) := by decide +kernel
theorem dX3_reduces_5 : decode cX3_reduces 5 = .ok (.iconst 0, 1) := by decide +kernel
theorem dX3_reduces_6 : decode cX3_reduces 6 = .ok (.istore 4, 2) := by decide +kernel
theorem dX3_reduces_8 : decode cX3_reduces 8 = .ok (.iload 4, 2) := by decide +kernel
theorem dX3_reduces_10 : decode cX3_reduces 10 = .ok (.aload_n 0, 1) := by decide +kernel
theorem dX3_reduces_11 : decode cX3_reduces 11 = .ok (.getfield 22, 3) := by decide +kernel
theorem dX3_reduces_14 : decode cX3_reduces 14 = .ok (.if_icmp .ge 31, 3) := by decide +kernel
theorem dX3_reduces_17 : decode cX3_reduces 17 = .ok (.aload_n 0, 1) := by decide +kernel
theorem dX3_reduces_18 : decode cX3_reduces 18 = .ok (.iload_n 2, 1) := by decide +kernel
theorem dX3_reduces_19 : decode cX3_reduces 19 = .ok (.iload_n 3, 1) := by decide +kernel
theorem dX3_reduces_20 : decode cX3_reduces 20 = .ok (.invokevirtual 26, 3) := by decide +kernel
theorem dX3_reduces_23 : decode cX3_reduces 23 = .ok (.istore 5, 2) := by decide +kernel
theorem dX3_reduces_25 : decode cX3_reduces 25 = .ok (.iload 5, 2) := by decide +kernel
theorem dX3_reduces_27 : decode cX3_reduces 27 = .ok (.bipush (-9), 2) := by decide +kernel
theorem dX3_reduces_29 : decode cX3_reduces 29 = .ok (.if_icmp .ne 4, 3) := by decide +kernel
theorem dX3_reduces_32 : decode cX3_reduces 32 = .ok (.return_, 1) := by decide +kernel
theorem dX3_reduces_33 : decode cX3_reduces 33 = .ok (.aload_n 0, 1) := by decide +kernel
theorem dX3_reduces_34 : decode cX3_reduces 34 = .ok (.iload 5, 2) := by decide +kernel
theorem dX3_reduces_36 : decode cX3_reduces 36 = .ok (.invokevirtual 30, 3) := by decide +kernel
theorem dX3_reduces_39 : decode cX3_reduces 39 = .ok (.iinc 4 1, 3) := by decide +kernel
theorem dX3_reduces_42 : decode cX3_reduces 42 = .ok (.goto (-34), 3) := by decide +kernel
theorem dX3_reduces_45 : decode cX3_reduces 45 = .ok (.return_, 1) := by decide +kernel
set_option maxRecDepth 20000 in
theorem ggX3_load_X1_widthAt : GoodIn wsX3_load wsX1_widthAt := goodIn_r _ [7, 8, 9, 10, 11, 6, 12, 13, 25, 26, 27, 28, 29] rfl (by decide +kernel)
set_option maxRecDepth 20000 in
theorem gX3_load_X1_widthAt : GoodIn wsX3_load (wsV RX3 37 RX1 yX1_widthAt wsX1_widthAt) := goodIn_app (goodIn_of _ (by decide +kernel)) ggX3_load_X1_widthAt
set_option maxRecDepth 20000 in
theorem ggX3_load_X3_put : GoodIn wsX3_load wsX3_put := goodIn_r _ [18, 19, 20, 21, 22, 23, 17, 24, 2, 30, 31, 32] rfl (by decide +kernel)
set_option maxRecDepth 20000 in
theorem gX3_load_X3_put : GoodIn wsX3_load (wsV RX3 40 RX3 yX3_put wsX3_put) := goodIn_app (goodIn_of _ (by decide +kernel)) ggX3_load_X3_put
theorem dX3_load_0 : decode cX3_load 0 = .ok (.aload_n 0, 1) := by decide +kernel
theorem dX3_load_1 : decode cX3_load 1 = .ok (.aload_n 1, 1) := by decide +kernel
theorem dX3_load_2 : decode cX3_load 2 = .ok (.getfield 34, 3) := by decide +kernel
theorem dX3_load_5 : decode cX3_load 5 = .ok (.putfield 22, 3) := by decide +kernel
theorem dX3_load_8 : decode cX3_load 8 = .ok (.iconst 0, 1) := by decide +kernel
theorem dX3_load_9 : decode cX3_load 9 = .ok (.istore_n 2, 1) := by decide +kernel
theorem dX3_load_10 : decode cX3_load 10 = .ok (.iload_n 2, 1) := by decide +kernel
theorem dX3_load_11 : decode cX3_load 11 = .ok (.aload_n 0, 1) := by decide +kernel
theorem dX3_load_12 : decode cX3_load 12 = .ok (.getfield 22, 3) := by decide +kernel
theorem dX3_load_15 : decode cX3_load 15 = .ok (.if_icmp .ge 39, 3) := by decide +kernel
theorem dX3_load_18 : decode cX3_load 18 = .ok (.iconst 0, 1) := by decide +kernel
theorem dX3_load_19 : decode cX3_load 19 = .ok (.istore_n 3, 1) := by decide +kernel
theorem dX3_load_20 : decode cX3_load 20 = .ok (.iload_n 3, 1) := by decide +kernel
theorem dX3_load_21 : decode cX3_load 21 = .ok (.aload_n 0, 1) := by decide +kernel
theorem dX3_load_22 : decode cX3_load 22 = .ok (.getfield 22, 3) := by decide +kernel
theorem dX3_load_25 : decode cX3_load 25 = .ok (.if_icmp .ge 23, 3) := by decide +kernel
theorem dX3_load_28 : decode cX3_load 28 = .ok (.aload_n 0, 1) := by decide +kernel
theorem dX3_load_29 : decode cX3_load 29 = .ok (.iload_n 2, 1) := by decide +kernel
theorem dX3_load_30 : decode cX3_load 30 = .ok (.iload_n 3, 1) := by decide +kernel
theorem dX3_load_31 : decode cX3_load 31 = .ok (.lconst 1, 1) := by decide +kernel
theorem dX3_load_32 : decode cX3_load 32 = .ok (.aload_n 1, 1) := by decide +kernel
theorem dX3_load_33 : decode cX3_load 33 = .ok (.iload_n 2, 1) := by decide +kernel
theorem dX3_load_34 : decode cX3_load 34 = .ok (.iload_n 3, 1) := by decide +kernel
theorem dX3_load_35 : decode cX3_load 35 = .ok (.invokevirtual 37, 3) := by decide +kernel
theorem dX3_load_38 : decode cX3_load 38 = .ok (.i2l, 1) := by decide +kernel
theorem dX3_load_39 : decode cX3_load 39 = .ok (.invokevirtual 40, 3) := by decide +kernel
theorem dX3_load_42 : decode cX3_load 42 = .ok (.iinc 3 1, 3) := by decide +kernel
theorem dX3_load_45 : decode cX3_load 45 = .ok (.goto (-25), 3) := by decide +kernel
theorem dX3_load_48 : decode cX3_load 48 = .ok (.iinc 2 1, 3) := by decide +kernel
theorem dX3_load_51 : decode cX3_load 51 = .ok (.goto (-41), 3) := by decide +kernel
theorem dX3_load_54 : decode cX3_load 54 = .ok (.return_, 1) := by decide +kernel
set_option maxRecDepth 20000 in
theorem ggX3_lowestToGo_X3_linesAt : GoodIn wsX3_lowestToGo wsX3_linesAt := goodIn_r _ [6, 1, 7, 8, 9, 5, 10, 11, 12, 13, 14, 15, 16, 17, 18, 19, 20, 21, 22] rfl (by decide +kernel)
set_option maxRecDepth 20000 in
theorem gX3_lowestToGo_X3_linesAt : GoodIn wsX3_lowestToGo (wsV RX3 44 RX3 yX3_linesAt wsX3_linesAt) := goodIn_app (goodIn_of _ (by decide +kernel)) ggX3_lowestToGo_X3_linesAt
theorem dX3_lowestToGo_0 : decode cX3_lowestToGo 0 = .ok (.iconst 0, 1) := by decide +kernel
theorem dX3_lowestToGo_1 : decode cX3_lowestToGo 1 = .ok (.istore_n 3, 1) := by decide +kernel
theorem dX3_lowestToGo_2 : decode cX3_lowestToGo 2 = .ok (.iload_n 3, 1) := by decide +kernel
theorem dX3_lowestToGo_3 : decode cX3_lowestToGo 3 = .ok (.aload_n 0, 1) := by decide +kernel
theorem dX3_lowestToGo_4 : decode cX3_lowestToGo 4 = .ok (.getfield 22, 3) := by decide +kernel
theorem dX3_lowestToGo_7 : decode cX3_lowestToGo 7 = .ok (.if_icmp .ge 40, 3) := by decide +kernel
theorem dX3_lowestToGo_10 : decode cX3_lowestToGo 10 = .ok (.aload_n 0, 1) := by decide +kernel
theorem dX3_lowestToGo_11 : decode cX3_lowestToGo 11 = .ok (.iload_n 3, 1) := by decide +kernel
theorem dX3_lowestToGo_12 : decode cX3_lowestToGo 12 = .ok (.invokevirtual 44, 3) := by decide +kernel
theorem dX3_lowestToGo_15 : decode cX3_lowestToGo 15 = .ok (.istore 4, 2) := by decide +kernel
theorem dX3_lowestToGo_17 : decode cX3_lowestToGo 17 = .ok (.iload_n 3, 1) := by decide +kernel
theorem dX3_lowestToGo_18 : decode cX3_lowestToGo 18 = .ok (.iload_n 1, 1) := by decide +kernel
theorem dX3_lowestToGo_19 : decode cX3_lowestToGo 19 = .ok (.if_icmp .eq 22, 3) := by decide +kernel
theorem dX3_lowestToGo_22 : decode cX3_lowestToGo 22 = .ok (.iload_n 3, 1) := by decide +kernel
theorem dX3_lowestToGo_23 : decode cX3_lowestToGo 23 = .ok (.iload_n 2, 1) := by decide +kernel
theorem dX3_lowestToGo_24 : decode cX3_lowestToGo 24 = .ok (.if_icmp .eq 17, 3) := by decide +kernel
theorem dX3_lowestToGo_27 : decode cX3_lowestToGo 27 = .ok (.iload 4, 2) := by decide +kernel
theorem dX3_lowestToGo_29 : decode cX3_lowestToGo 29 = .ok (.iconst 1, 1) := by decide +kernel
theorem dX3_lowestToGo_30 : decode cX3_lowestToGo 30 = .ok (.if_icmp .eq 9, 3) := by decide +kernel
theorem dX3_lowestToGo_33 : decode cX3_lowestToGo 33 = .ok (.iload 4, 2) := by decide +kernel
theorem dX3_lowestToGo_35 : decode cX3_lowestToGo 35 = .ok (.iconst 2, 1) := by decide +kernel
theorem dX3_lowestToGo_36 : decode cX3_lowestToGo 36 = .ok (.if_icmp .ne 5, 3) := by decide +kernel
theorem dX3_lowestToGo_39 : decode cX3_lowestToGo 39 = .ok (.iload_n 3, 1) := by decide +kernel
theorem dX3_lowestToGo_40 : decode cX3_lowestToGo 40 = .ok (.ireturn, 1) := by decide +kernel
theorem dX3_lowestToGo_41 : decode cX3_lowestToGo 41 = .ok (.iinc 3 1, 3) := by decide +kernel
theorem dX3_lowestToGo_44 : decode cX3_lowestToGo 44 = .ok (.goto (-42), 3) := by decide +kernel
theorem dX3_lowestToGo_47 : decode cX3_lowestToGo 47 = .ok (.bipush (-9), 2) := by decide +kernel
theorem dX3_lowestToGo_49 : decode cX3_lowestToGo 49 = .ok (.ireturn, 1) := by decide +kernel
set_option maxRecDepth 20000 in
theorem ggX3_drop_X3_neighbourFrom : GoodIn wsX3_drop wsX3_neighbourFrom := goodIn_r _ [6, 1, 7, 8, 9, 5, 10, 11, 12, 13, 14, 15, 16, 17, 18, 19, 40, 41, 42] rfl (by decide +kernel)
set_option maxRecDepth 20000 in
theorem gX3_drop_X3_neighbourFrom : GoodIn wsX3_drop (wsV RX3 48 RX3 yX3_neighbourFrom wsX3_neighbourFrom) := goodIn_app (goodIn_of _ (by decide +kernel)) ggX3_drop_X3_neighbourFrom
set_option maxRecDepth 20000 in
theorem ggX3_drop_X3_upperAt : GoodIn wsX3_drop wsX3_upperAt := goodIn_r _ [23, 24, 16, 17, 18, 5, 19, 1, 40, 41, 42] rfl (by decide +kernel)
set_option maxRecDepth 20000 in
theorem gX3_drop_X3_upperAt : GoodIn wsX3_drop (wsV RX3 51 RX3 yX3_upperAt wsX3_upperAt) := goodIn_app (goodIn_of _ (by decide +kernel)) ggX3_drop_X3_upperAt
set_option maxRecDepth 20000 in
theorem ggX3_drop_X3_lowerAt : GoodIn wsX3_drop wsX3_lowerAt := goodIn_r _ [14, 15, 16, 17, 18, 5, 19, 1, 40, 41, 42] rfl (by decide +kernel)
set_option maxRecDepth 20000 in
theorem gX3_drop_X3_lowerAt : GoodIn wsX3_drop (wsV RX3 55 RX3 yX3_lowerAt wsX3_lowerAt) := goodIn_app (goodIn_of _ (by decide +kernel)) ggX3_drop_X3_lowerAt
set_option maxRecDepth 20000 in
theorem ggX3_drop_X6_commonDivisor : GoodIn wsX3_drop wsX6_commonDivisor := goodIn_r _ [27, 28, 29, 30, 31] rfl (by decide +kernel)
set_option maxRecDepth 20000 in
theorem gX3_drop_X6_commonDivisor_n58 : GoodIn wsX3_drop (wsX6_commonDivisor) := ggX3_drop_X6_commonDivisor
set_option maxRecDepth 20000 in
theorem ggX3_drop_X3_laysBeside : GoodIn wsX3_drop wsX3_laysBeside := goodIn_r _ [35, 7, 8, 9, 5, 10, 11, 12, 13, 14, 15, 16, 17, 18, 19, 1, 36, 37, 38, 39, 24, 20, 21, 22, 23, 25, 26, 27, 28, 29, 30, 31, 40, 41, 42] rfl (by decide +kernel)
set_option maxRecDepth 20000 in
theorem gX3_drop_X3_laysBeside : GoodIn wsX3_drop (wsV RX3 62 RX3 yX3_laysBeside wsX3_laysBeside) := goodIn_app (goodIn_of _ (by decide +kernel)) ggX3_drop_X3_laysBeside
set_option maxRecDepth 20000 in
theorem ggX3_drop_X3_put : GoodIn wsX3_drop wsX3_put := goodIn_r _ [39, 24, 15, 16, 17, 18, 5, 19, 1, 40, 41, 42] rfl (by decide +kernel)
set_option maxRecDepth 20000 in
theorem gX3_drop_X3_put : GoodIn wsX3_drop (wsV RX3 40 RX3 yX3_put wsX3_put) := goodIn_app (goodIn_of _ (by decide +kernel)) ggX3_drop_X3_put
theorem dX3_drop_0 : decode cX3_drop 0 = .ok (.aload_n 0, 1) := by decide +kernel
theorem dX3_drop_1 : decode cX3_drop 1 = .ok (.iload_n 1, 1) := by decide +kernel
theorem dX3_drop_2 : decode cX3_drop 2 = .ok (.iconst 0, 1) := by decide +kernel
theorem dX3_drop_3 : decode cX3_drop 3 = .ok (.invokevirtual 48, 3) := by decide +kernel
theorem dX3_drop_6 : decode cX3_drop 6 = .ok (.istore_n 2, 1) := by decide +kernel
theorem dX3_drop_7 : decode cX3_drop 7 = .ok (.aload_n 0, 1) := by decide +kernel
theorem dX3_drop_8 : decode cX3_drop 8 = .ok (.iload_n 1, 1) := by decide +kernel
theorem dX3_drop_9 : decode cX3_drop 9 = .ok (.iload_n 2, 1) := by decide +kernel
theorem dX3_drop_10 : decode cX3_drop 10 = .ok (.iconst 1, 1) := by decide +kernel
theorem dX3_drop_11 : decode cX3_drop 11 = .ok (.iadd, 1) := by decide +kernel
theorem dX3_drop_12 : decode cX3_drop 12 = .ok (.invokevirtual 48, 3) := by decide +kernel
theorem dX3_drop_15 : decode cX3_drop 15 = .ok (.istore_n 3, 1) := by decide +kernel
theorem dX3_drop_16 : decode cX3_drop 16 = .ok (.iload_n 3, 1) := by decide +kernel
theorem dX3_drop_17 : decode cX3_drop 17 = .ok (.aload_n 0, 1) := by decide +kernel
theorem dX3_drop_18 : decode cX3_drop 18 = .ok (.getfield 22, 3) := by decide +kernel
theorem dX3_drop_21 : decode cX3_drop 21 = .ok (.if_icmp .ge 80, 3) := by decide +kernel
theorem dX3_drop_24 : decode cX3_drop 24 = .ok (.aload_n 0, 1) := by decide +kernel
theorem dX3_drop_25 : decode cX3_drop 25 = .ok (.iload_n 1, 1) := by decide +kernel
theorem dX3_drop_26 : decode cX3_drop 26 = .ok (.iload_n 2, 1) := by decide +kernel
theorem dX3_drop_27 : decode cX3_drop 27 = .ok (.invokevirtual 51, 3) := by decide +kernel
theorem dX3_drop_30 : decode cX3_drop 30 = .ok (.aload_n 0, 1) := by decide +kernel
theorem dX3_drop_31 : decode cX3_drop 31 = .ok (.iload_n 1, 1) := by decide +kernel
theorem dX3_drop_32 : decode cX3_drop 32 = .ok (.iload_n 3, 1) := by decide +kernel
theorem dX3_drop_33 : decode cX3_drop 33 = .ok (.invokevirtual 55, 3) := by decide +kernel
theorem dX3_drop_36 : decode cX3_drop 36 = .ok (.lmul, 1) := by decide +kernel
theorem dX3_drop_37 : decode cX3_drop 37 = .ok (.aload_n 0, 1) := by decide +kernel
theorem dX3_drop_38 : decode cX3_drop 38 = .ok (.iload_n 1, 1) := by decide +kernel
theorem dX3_drop_39 : decode cX3_drop 39 = .ok (.iload_n 3, 1) := by decide +kernel
theorem dX3_drop_40 : decode cX3_drop 40 = .ok (.invokevirtual 51, 3) := by decide +kernel
theorem dX3_drop_43 : decode cX3_drop 43 = .ok (.aload_n 0, 1) := by decide +kernel
theorem dX3_drop_44 : decode cX3_drop 44 = .ok (.iload_n 1, 1) := by decide +kernel
theorem dX3_drop_45 : decode cX3_drop 45 = .ok (.iload_n 2, 1) := by decide +kernel
theorem dX3_drop_46 : decode cX3_drop 46 = .ok (.invokevirtual 55, 3) := by decide +kernel
theorem dX3_drop_49 : decode cX3_drop 49 = .ok (.lmul, 1) := by decide +kernel
theorem dX3_drop_50 : decode cX3_drop 50 = .ok (.ladd, 1) := by decide +kernel
theorem dX3_drop_51 : decode cX3_drop 51 = .ok (.lstore 4, 2) := by decide +kernel
theorem dX3_drop_53 : decode cX3_drop 53 = .ok (.aload_n 0, 1) := by decide +kernel
theorem dX3_drop_54 : decode cX3_drop 54 = .ok (.iload_n 1, 1) := by decide +kernel
theorem dX3_drop_55 : decode cX3_drop 55 = .ok (.iload_n 2, 1) := by decide +kernel
theorem dX3_drop_56 : decode cX3_drop 56 = .ok (.invokevirtual 55, 3) := by decide +kernel
theorem dX3_drop_59 : decode cX3_drop 59 = .ok (.aload_n 0, 1) := by decide +kernel
theorem dX3_drop_60 : decode cX3_drop 60 = .ok (.iload_n 1, 1) := by decide +kernel
theorem dX3_drop_61 : decode cX3_drop 61 = .ok (.iload_n 3, 1) := by decide +kernel
theorem dX3_drop_62 : decode cX3_drop 62 = .ok (.invokevirtual 55, 3) := by decide +kernel
theorem dX3_drop_65 : decode cX3_drop 65 = .ok (.lmul, 1) := by decide +kernel
theorem dX3_drop_66 : decode cX3_drop 66 = .ok (.lstore 6, 2) := by decide +kernel
theorem dX3_drop_68 : decode cX3_drop 68 = .ok (.lload 4, 2) := by decide +kernel
theorem dX3_drop_70 : decode cX3_drop 70 = .ok (.lload 6, 2) := by decide +kernel
theorem dX3_drop_72 : decode cX3_drop 72 = .ok (.invokestatic 58, 3) := by decide +kernel
theorem dX3_drop_75 : decode cX3_drop 75 = .ok (.lstore 8, 2) := by decide +kernel
theorem dX3_drop_77 : decode cX3_drop 77 = .ok (.aload_n 0, 1) := by decide +kernel
theorem dX3_drop_78 : decode cX3_drop 78 = .ok (.iload_n 2, 1) := by decide +kernel
theorem dX3_drop_79 : decode cX3_drop 79 = .ok (.iload_n 3, 1) := by decide +kernel
theorem dX3_drop_80 : decode cX3_drop 80 = .ok (.lload 4, 2) := by decide +kernel
theorem dX3_drop_82 : decode cX3_drop 82 = .ok (.lload 8, 2) := by decide +kernel
theorem dX3_drop_84 : decode cX3_drop 84 = .ok (.ldiv, 1) := by decide +kernel
theorem dX3_drop_85 : decode cX3_drop 85 = .ok (.lload 6, 2) := by decide +kernel
theorem dX3_drop_87 : decode cX3_drop 87 = .ok (.lload 8, 2) := by decide +kernel
theorem dX3_drop_89 : decode cX3_drop 89 = .ok (.ldiv, 1) := by decide +kernel
theorem dX3_drop_90 : decode cX3_drop 90 = .ok (.invokevirtual 62, 3) := by decide +kernel
theorem dX3_drop_93 : decode cX3_drop 93 = .ok (.aload_n 0, 1) := by decide +kernel
theorem dX3_drop_94 : decode cX3_drop 94 = .ok (.iload_n 1, 1) := by decide +kernel
theorem dX3_drop_95 : decode cX3_drop 95 = .ok (.iload_n 3, 1) := by decide +kernel
theorem dX3_drop_96 : decode cX3_drop 96 = .ok (.lconst 1, 1) := by decide +kernel
theorem dX3_drop_97 : decode cX3_drop 97 = .ok (.lconst 0, 1) := by decide +kernel
theorem dX3_drop_98 : decode cX3_drop 98 = .ok (.invokevirtual 40, 3) := by decide +kernel
theorem dX3_drop_101 : decode cX3_drop 101 = .ok (.aload_n 0, 1) := by decide +kernel
theorem dX3_drop_102 : decode cX3_drop 102 = .ok (.iload_n 1, 1) := by decide +kernel
theorem dX3_drop_103 : decode cX3_drop 103 = .ok (.iload_n 2, 1) := by decide +kernel
theorem dX3_drop_104 : decode cX3_drop 104 = .ok (.lconst 1, 1) := by decide +kernel
theorem dX3_drop_105 : decode cX3_drop 105 = .ok (.lconst 0, 1) := by decide +kernel
theorem dX3_drop_106 : decode cX3_drop 106 = .ok (.invokevirtual 40, 3) := by decide +kernel
theorem dX3_drop_109 : decode cX3_drop 109 = .ok (.return_, 1) := by decide +kernel
set_option maxRecDepth 20000 in
theorem ggX3_laysBeside_X3_joined : GoodIn wsX3_laysBeside wsX3_joined := goodIn_r _ [5, 6, 7, 8, 4, 9, 10, 11, 12, 13, 14, 15, 32, 33, 34] rfl (by decide +kernel)
set_option maxRecDepth 20000 in
theorem gX3_laysBeside_X3_joined : GoodIn wsX3_laysBeside (wsV RX3 65 RX3 yX3_joined wsX3_joined) := goodIn_app (goodIn_of _ (by decide +kernel)) ggX3_laysBeside_X3_joined
set_option maxRecDepth 20000 in
theorem ggX3_laysBeside_X3_put : GoodIn wsX3_laysBeside wsX3_put := goodIn_r _ [19, 20, 10, 11, 12, 13, 4, 14, 15, 32, 33, 34] rfl (by decide +kernel)
set_option maxRecDepth 20000 in
theorem gX3_laysBeside_X3_put : GoodIn wsX3_laysBeside (wsV RX3 40 RX3 yX3_put wsX3_put) := goodIn_app (goodIn_of _ (by decide +kernel)) ggX3_laysBeside_X3_put
set_option maxRecDepth 20000 in
theorem ggX3_laysBeside_X3_upperAt : GoodIn wsX3_laysBeside wsX3_upperAt := goodIn_r _ [24, 20, 11, 12, 13, 4, 14, 15, 32, 33, 34] rfl (by decide +kernel)
set_option maxRecDepth 20000 in
theorem gX3_laysBeside_X3_upperAt : GoodIn wsX3_laysBeside (wsV RX3 51 RX3 yX3_upperAt wsX3_upperAt) := goodIn_app (goodIn_of _ (by decide +kernel)) ggX3_laysBeside_X3_upperAt
set_option maxRecDepth 20000 in
theorem ggX3_laysBeside_X3_lowerAt : GoodIn wsX3_laysBeside wsX3_lowerAt := goodIn_r _ [9, 10, 11, 12, 13, 4, 14, 15, 32, 33, 34] rfl (by decide +kernel)
set_option maxRecDepth 20000 in
theorem gX3_laysBeside_X3_lowerAt : GoodIn wsX3_laysBeside (wsV RX3 55 RX3 yX3_lowerAt wsX3_lowerAt) := goodIn_app (goodIn_of _ (by decide +kernel)) ggX3_laysBeside_X3_lowerAt
set_option maxRecDepth 20000 in
theorem ggX3_laysBeside_X6_commonDivisor : GoodIn wsX3_laysBeside wsX6_commonDivisor := goodIn_r _ [27, 28, 29, 30, 31] rfl (by decide +kernel)
set_option maxRecDepth 20000 in
theorem gX3_laysBeside_X6_commonDivisor_n58 : GoodIn wsX3_laysBeside (wsX6_commonDivisor) := ggX3_laysBeside_X6_commonDivisor
theorem dX3_laysBeside_0 : decode cX3_laysBeside 0 = .ok (.aload_n 0, 1) := by decide +kernel
theorem dX3_laysBeside_1 : decode cX3_laysBeside 1 = .ok (.iload_n 1, 1) := by decide +kernel
theorem dX3_laysBeside_2 : decode cX3_laysBeside 2 = .ok (.iload_n 2, 1) := by decide +kernel
theorem dX3_laysBeside_3 : decode cX3_laysBeside 3 = .ok (.invokevirtual 65, 3) := by decide +kernel
theorem dX3_laysBeside_6 : decode cX3_laysBeside 6 = .ok (.ifCond .ne 13, 3) := by decide +kernel
theorem dX3_laysBeside_9 : decode cX3_laysBeside 9 = .ok (.aload_n 0, 1) := by decide +kernel
theorem dX3_laysBeside_10 : decode cX3_laysBeside 10 = .ok (.iload_n 1, 1) := by decide +kernel
theorem dX3_laysBeside_11 : decode cX3_laysBeside 11 = .ok (.iload_n 2, 1) := by decide +kernel
theorem dX3_laysBeside_12 : decode cX3_laysBeside 12 = .ok (.lload_n 3, 1) := by decide +kernel
theorem dX3_laysBeside_13 : decode cX3_laysBeside 13 = .ok (.lload 5, 2) := by decide +kernel
theorem dX3_laysBeside_15 : decode cX3_laysBeside 15 = .ok (.invokevirtual 40, 3) := by decide +kernel
theorem dX3_laysBeside_18 : decode cX3_laysBeside 18 = .ok (.return_, 1) := by decide +kernel
theorem dX3_laysBeside_19 : decode cX3_laysBeside 19 = .ok (.lload_n 3, 1) := by decide +kernel
theorem dX3_laysBeside_20 : decode cX3_laysBeside 20 = .ok (.aload_n 0, 1) := by decide +kernel
theorem dX3_laysBeside_21 : decode cX3_laysBeside 21 = .ok (.iload_n 1, 1) := by decide +kernel
theorem dX3_laysBeside_22 : decode cX3_laysBeside 22 = .ok (.iload_n 2, 1) := by decide +kernel
theorem dX3_laysBeside_23 : decode cX3_laysBeside 23 = .ok (.invokevirtual 51, 3) := by decide +kernel
theorem dX3_laysBeside_26 : decode cX3_laysBeside 26 = .ok (.lmul, 1) := by decide +kernel
theorem dX3_laysBeside_27 : decode cX3_laysBeside 27 = .ok (.lstore 7, 2) := by decide +kernel
theorem dX3_laysBeside_29 : decode cX3_laysBeside 29 = .ok (.lload_n 3, 1) := by decide +kernel
theorem dX3_laysBeside_30 : decode cX3_laysBeside 30 = .ok (.aload_n 0, 1) := by decide +kernel
theorem dX3_laysBeside_31 : decode cX3_laysBeside 31 = .ok (.iload_n 1, 1) := by decide +kernel
theorem dX3_laysBeside_32 : decode cX3_laysBeside 32 = .ok (.iload_n 2, 1) := by decide +kernel
theorem dX3_laysBeside_33 : decode cX3_laysBeside 33 = .ok (.invokevirtual 55, 3) := by decide +kernel
theorem dX3_laysBeside_36 : decode cX3_laysBeside 36 = .ok (.lmul, 1) := by decide +kernel
theorem dX3_laysBeside_37 : decode cX3_laysBeside 37 = .ok (.lload 5, 2) := by decide +kernel
theorem dX3_laysBeside_39 : decode cX3_laysBeside 39 = .ok (.aload_n 0, 1) := by decide +kernel
theorem dX3_laysBeside_40 : decode cX3_laysBeside 40 = .ok (.iload_n 1, 1) := by decide +kernel
theorem dX3_laysBeside_41 : decode cX3_laysBeside 41 = .ok (.iload_n 2, 1) := by decide +kernel
theorem dX3_laysBeside_42 : decode cX3_laysBeside 42 = .ok (.invokevirtual 51, 3) := by decide +kernel
theorem dX3_laysBeside_45 : decode cX3_laysBeside 45 = .ok (.lmul, 1) := by decide +kernel
theorem dX3_laysBeside_46 : decode cX3_laysBeside 46 = .ok (.ladd, 1) := by decide +kernel
theorem dX3_laysBeside_47 : decode cX3_laysBeside 47 = .ok (.lstore 9, 2) := by decide +kernel
theorem dX3_laysBeside_49 : decode cX3_laysBeside 49 = .ok (.lload 7, 2) := by decide +kernel
theorem dX3_laysBeside_51 : decode cX3_laysBeside 51 = .ok (.lload 9, 2) := by decide +kernel
theorem dX3_laysBeside_53 : decode cX3_laysBeside 53 = .ok (.invokestatic 58, 3) := by decide +kernel
theorem dX3_laysBeside_56 : decode cX3_laysBeside 56 = .ok (.lstore 11, 2) := by decide +kernel
theorem dX3_laysBeside_58 : decode cX3_laysBeside 58 = .ok (.aload_n 0, 1) := by decide +kernel
theorem dX3_laysBeside_59 : decode cX3_laysBeside 59 = .ok (.iload_n 1, 1) := by decide +kernel
theorem dX3_laysBeside_60 : decode cX3_laysBeside 60 = .ok (.iload_n 2, 1) := by decide +kernel
theorem dX3_laysBeside_61 : decode cX3_laysBeside 61 = .ok (.lload 7, 2) := by decide +kernel
theorem dX3_laysBeside_63 : decode cX3_laysBeside 63 = .ok (.lload 11, 2) := by decide +kernel
theorem dX3_laysBeside_65 : decode cX3_laysBeside 65 = .ok (.ldiv, 1) := by decide +kernel
theorem dX3_laysBeside_66 : decode cX3_laysBeside 66 = .ok (.lload 9, 2) := by decide +kernel
theorem dX3_laysBeside_68 : decode cX3_laysBeside 68 = .ok (.lload 11, 2) := by decide +kernel
theorem dX3_laysBeside_70 : decode cX3_laysBeside 70 = .ok (.ldiv, 1) := by decide +kernel
theorem dX3_laysBeside_71 : decode cX3_laysBeside 71 = .ok (.invokevirtual 40, 3) := by decide +kernel
theorem dX3_laysBeside_74 : decode cX3_laysBeside 74 = .ok (.return_, 1) := by decide +kernel
set_option maxRecDepth 20000 in
theorem ggX3_neighbourFrom_X3_joined : GoodIn wsX3_neighbourFrom wsX3_joined := goodIn_r _ [6, 7, 8, 9, 5, 10, 11, 12, 13, 14, 15, 1, 16, 17, 18] rfl (by decide +kernel)
set_option maxRecDepth 20000 in
theorem gX3_neighbourFrom_X3_joined : GoodIn wsX3_neighbourFrom (wsV RX3 65 RX3 yX3_joined wsX3_joined) := goodIn_app (goodIn_of _ (by decide +kernel)) ggX3_neighbourFrom_X3_joined
theorem dX3_neighbourFrom_0 : decode cX3_neighbourFrom 0 = .ok (.iload_n 2, 1) := by decide +kernel
theorem dX3_neighbourFrom_1 : decode cX3_neighbourFrom 1 = .ok (.istore_n 3, 1) := by decide +kernel
theorem dX3_neighbourFrom_2 : decode cX3_neighbourFrom 2 = .ok (.iload_n 3, 1) := by decide +kernel
theorem dX3_neighbourFrom_3 : decode cX3_neighbourFrom 3 = .ok (.aload_n 0, 1) := by decide +kernel
theorem dX3_neighbourFrom_4 : decode cX3_neighbourFrom 4 = .ok (.getfield 22, 3) := by decide +kernel
theorem dX3_neighbourFrom_7 : decode cX3_neighbourFrom 7 = .ok (.if_icmp .ge 20, 3) := by decide +kernel
theorem dX3_neighbourFrom_10 : decode cX3_neighbourFrom 10 = .ok (.aload_n 0, 1) := by decide +kernel
theorem dX3_neighbourFrom_11 : decode cX3_neighbourFrom 11 = .ok (.iload_n 1, 1) := by decide +kernel
theorem dX3_neighbourFrom_12 : decode cX3_neighbourFrom 12 = .ok (.iload_n 3, 1) := by decide +kernel
theorem dX3_neighbourFrom_13 : decode cX3_neighbourFrom 13 = .ok (.invokevirtual 65, 3) := by decide +kernel
theorem dX3_neighbourFrom_16 : decode cX3_neighbourFrom 16 = .ok (.ifCond .eq 5, 3) := by decide +kernel
theorem dX3_neighbourFrom_19 : decode cX3_neighbourFrom 19 = .ok (.iload_n 3, 1) := by decide +kernel
theorem dX3_neighbourFrom_20 : decode cX3_neighbourFrom 20 = .ok (.ireturn, 1) := by decide +kernel
theorem dX3_neighbourFrom_21 : decode cX3_neighbourFrom 21 = .ok (.iinc 3 1, 3) := by decide +kernel
theorem dX3_neighbourFrom_24 : decode cX3_neighbourFrom 24 = .ok (.goto (-22), 3) := by decide +kernel
theorem dX3_neighbourFrom_27 : decode cX3_neighbourFrom 27 = .ok (.aload_n 0, 1) := by decide +kernel
theorem dX3_neighbourFrom_28 : decode cX3_neighbourFrom 28 = .ok (.getfield 22, 3) := by decide +kernel
theorem dX3_neighbourFrom_31 : decode cX3_neighbourFrom 31 = .ok (.ireturn, 1) := by decide +kernel
set_option maxRecDepth 20000 in
theorem ggX3_linesAt_X3_joined : GoodIn wsX3_linesAt wsX3_joined := goodIn_r _ [6, 7, 8, 9, 5, 10, 11, 12, 13, 14, 15, 1, 16, 17, 18] rfl (by decide +kernel)
set_option maxRecDepth 20000 in
theorem gX3_linesAt_X3_joined : GoodIn wsX3_linesAt (wsV RX3 65 RX3 yX3_joined wsX3_joined) := goodIn_app (goodIn_of _ (by decide +kernel)) ggX3_linesAt_X3_joined
theorem dX3_linesAt_0 : decode cX3_linesAt 0 = .ok (.iconst 0, 1) := by decide +kernel
theorem dX3_linesAt_1 : decode cX3_linesAt 1 = .ok (.istore_n 2, 1) := by decide +kernel
theorem dX3_linesAt_2 : decode cX3_linesAt 2 = .ok (.iconst 0, 1) := by decide +kernel
theorem dX3_linesAt_3 : decode cX3_linesAt 3 = .ok (.istore_n 3, 1) := by decide +kernel
theorem dX3_linesAt_4 : decode cX3_linesAt 4 = .ok (.iload_n 3, 1) := by decide +kernel
theorem dX3_linesAt_5 : decode cX3_linesAt 5 = .ok (.aload_n 0, 1) := by decide +kernel
theorem dX3_linesAt_6 : decode cX3_linesAt 6 = .ok (.getfield 22, 3) := by decide +kernel
theorem dX3_linesAt_9 : decode cX3_linesAt 9 = .ok (.if_icmp .ge 21, 3) := by decide +kernel
theorem dX3_linesAt_12 : decode cX3_linesAt 12 = .ok (.aload_n 0, 1) := by decide +kernel
theorem dX3_linesAt_13 : decode cX3_linesAt 13 = .ok (.iload_n 1, 1) := by decide +kernel
theorem dX3_linesAt_14 : decode cX3_linesAt 14 = .ok (.iload_n 3, 1) := by decide +kernel
theorem dX3_linesAt_15 : decode cX3_linesAt 15 = .ok (.invokevirtual 65, 3) := by decide +kernel
theorem dX3_linesAt_18 : decode cX3_linesAt 18 = .ok (.ifCond .eq 6, 3) := by decide +kernel
theorem dX3_linesAt_21 : decode cX3_linesAt 21 = .ok (.iinc 2 1, 3) := by decide +kernel
theorem dX3_linesAt_24 : decode cX3_linesAt 24 = .ok (.iinc 3 1, 3) := by decide +kernel
theorem dX3_linesAt_27 : decode cX3_linesAt 27 = .ok (.goto (-23), 3) := by decide +kernel
theorem dX3_linesAt_30 : decode cX3_linesAt 30 = .ok (.iload_n 2, 1) := by decide +kernel
theorem dX3_linesAt_31 : decode cX3_linesAt 31 = .ok (.ireturn, 1) := by decide +kernel
set_option maxRecDepth 20000 in
theorem ggX3_linesLeft_X3_linesAt : GoodIn wsX3_linesLeft wsX3_linesAt := goodIn_r _ [6, 1, 7, 8, 9, 5, 10, 11, 12, 13, 14, 15, 16, 17, 18, 19, 20, 21, 22] rfl (by decide +kernel)
set_option maxRecDepth 20000 in
theorem gX3_linesLeft_X3_linesAt : GoodIn wsX3_linesLeft (wsV RX3 44 RX3 yX3_linesAt wsX3_linesAt) := goodIn_app (goodIn_of _ (by decide +kernel)) ggX3_linesLeft_X3_linesAt
theorem dX3_linesLeft_0 : decode cX3_linesLeft 0 = .ok (.iconst 0, 1) := by decide +kernel
theorem dX3_linesLeft_1 : decode cX3_linesLeft 1 = .ok (.istore_n 1, 1) := by decide +kernel
theorem dX3_linesLeft_2 : decode cX3_linesLeft 2 = .ok (.iconst 0, 1) := by decide +kernel
theorem dX3_linesLeft_3 : decode cX3_linesLeft 3 = .ok (.istore_n 2, 1) := by decide +kernel
theorem dX3_linesLeft_4 : decode cX3_linesLeft 4 = .ok (.iload_n 2, 1) := by decide +kernel
theorem dX3_linesLeft_5 : decode cX3_linesLeft 5 = .ok (.aload_n 0, 1) := by decide +kernel
theorem dX3_linesLeft_6 : decode cX3_linesLeft 6 = .ok (.getfield 22, 3) := by decide +kernel
theorem dX3_linesLeft_9 : decode cX3_linesLeft 9 = .ok (.if_icmp .ge 17, 3) := by decide +kernel
theorem dX3_linesLeft_12 : decode cX3_linesLeft 12 = .ok (.iload_n 1, 1) := by decide +kernel
theorem dX3_linesLeft_13 : decode cX3_linesLeft 13 = .ok (.aload_n 0, 1) := by decide +kernel
theorem dX3_linesLeft_14 : decode cX3_linesLeft 14 = .ok (.iload_n 2, 1) := by decide +kernel
theorem dX3_linesLeft_15 : decode cX3_linesLeft 15 = .ok (.invokevirtual 44, 3) := by decide +kernel
theorem dX3_linesLeft_18 : decode cX3_linesLeft 18 = .ok (.iadd, 1) := by decide +kernel
theorem dX3_linesLeft_19 : decode cX3_linesLeft 19 = .ok (.istore_n 1, 1) := by decide +kernel
theorem dX3_linesLeft_20 : decode cX3_linesLeft 20 = .ok (.iinc 2 1, 3) := by decide +kernel
theorem dX3_linesLeft_23 : decode cX3_linesLeft 23 = .ok (.goto (-19), 3) := by decide +kernel
theorem dX3_linesLeft_26 : decode cX3_linesLeft 26 = .ok (.iload_n 1, 1) := by decide +kernel
theorem dX3_linesLeft_27 : decode cX3_linesLeft 27 = .ok (.iconst 2, 1) := by decide +kernel
theorem dX3_linesLeft_28 : decode cX3_linesLeft 28 = .ok (.idiv, 1) := by decide +kernel
theorem dX3_linesLeft_29 : decode cX3_linesLeft 29 = .ok (.ireturn, 1) := by decide +kernel
set_option maxRecDepth 20000 in
theorem ggX3_joined_X3_lowerAt : GoodIn wsX3_joined wsX3_lowerAt := goodIn_r _ [5, 6, 7, 8, 9, 4, 10, 11, 12, 13, 14] rfl (by decide +kernel)
set_option maxRecDepth 20000 in
theorem gX3_joined_X3_lowerAt : GoodIn wsX3_joined (wsV RX3 55 RX3 yX3_lowerAt wsX3_lowerAt) := goodIn_app (goodIn_of _ (by decide +kernel)) ggX3_joined_X3_lowerAt
theorem dX3_joined_0 : decode cX3_joined 0 = .ok (.aload_n 0, 1) := by decide +kernel
theorem dX3_joined_1 : decode cX3_joined 1 = .ok (.iload_n 1, 1) := by decide +kernel
theorem dX3_joined_2 : decode cX3_joined 2 = .ok (.iload_n 2, 1) := by decide +kernel
theorem dX3_joined_3 : decode cX3_joined 3 = .ok (.invokevirtual 55, 3) := by decide +kernel
theorem dX3_joined_6 : decode cX3_joined 6 = .ok (.lconst 0, 1) := by decide +kernel
theorem dX3_joined_7 : decode cX3_joined 7 = .ok (.lcmp, 1) := by decide +kernel
theorem dX3_joined_8 : decode cX3_joined 8 = .ok (.ifCond .eq 7, 3) := by decide +kernel
theorem dX3_joined_11 : decode cX3_joined 11 = .ok (.iconst 1, 1) := by decide +kernel
theorem dX3_joined_12 : decode cX3_joined 12 = .ok (.goto 4, 3) := by decide +kernel
theorem dX3_joined_15 : decode cX3_joined 15 = .ok (.iconst 0, 1) := by decide +kernel
theorem dX3_joined_16 : decode cX3_joined 16 = .ok (.ireturn, 1) := by decide +kernel
set_option maxRecDepth 20000 in
theorem ggX3_upperAt_X3_isPair : GoodIn wsX3_upperAt wsX3_isPair := goodIn_r _ [6, 7, 8, 9, 10] rfl (by decide +kernel)
set_option maxRecDepth 20000 in
theorem gX3_upperAt_X3_isPair : GoodIn wsX3_upperAt (wsV RX3 69 RX3 yX3_isPair wsX3_isPair) := goodIn_app (goodIn_of _ (by decide +kernel)) ggX3_upperAt_X3_isPair
theorem dX3_upperAt_0 : decode cX3_upperAt 0 = .ok (.aload_n 0, 1) := by decide +kernel
theorem dX3_upperAt_1 : decode cX3_upperAt 1 = .ok (.iload_n 1, 1) := by decide +kernel
theorem dX3_upperAt_2 : decode cX3_upperAt 2 = .ok (.iload_n 2, 1) := by decide +kernel
theorem dX3_upperAt_3 : decode cX3_upperAt 3 = .ok (.invokevirtual 69, 3) := by decide +kernel
theorem dX3_upperAt_6 : decode cX3_upperAt 6 = .ok (.ifCond .eq 17, 3) := by decide +kernel
theorem dX3_upperAt_9 : decode cX3_upperAt 9 = .ok (.aload_n 0, 1) := by decide +kernel
theorem dX3_upperAt_10 : decode cX3_upperAt 10 = .ok (.getfield 9, 3) := by decide +kernel
theorem dX3_upperAt_13 : decode cX3_upperAt 13 = .ok (.iload_n 1, 1) := by decide +kernel
theorem dX3_upperAt_14 : decode cX3_upperAt 14 = .ok (.bipush 6, 2) := by decide +kernel
theorem dX3_upperAt_16 : decode cX3_upperAt 16 = .ok (.imul, 1) := by decide +kernel
theorem dX3_upperAt_17 : decode cX3_upperAt 17 = .ok (.iload_n 2, 1) := by decide +kernel
theorem dX3_upperAt_18 : decode cX3_upperAt 18 = .ok (.iadd, 1) := by decide +kernel
theorem dX3_upperAt_19 : decode cX3_upperAt 19 = .ok (.laload, 1) := by decide +kernel
theorem dX3_upperAt_20 : decode cX3_upperAt 20 = .ok (.goto 4, 3) := by decide +kernel
theorem dX3_upperAt_23 : decode cX3_upperAt 23 = .ok (.lconst 1, 1) := by decide +kernel
theorem dX3_upperAt_24 : decode cX3_upperAt 24 = .ok (.lreturn, 1) := by decide +kernel
set_option maxRecDepth 20000 in
theorem ggX3_lowerAt_X3_isPair : GoodIn wsX3_lowerAt wsX3_isPair := goodIn_r _ [6, 7, 8, 9, 10] rfl (by decide +kernel)
set_option maxRecDepth 20000 in
theorem gX3_lowerAt_X3_isPair : GoodIn wsX3_lowerAt (wsV RX3 69 RX3 yX3_isPair wsX3_isPair) := goodIn_app (goodIn_of _ (by decide +kernel)) ggX3_lowerAt_X3_isPair
theorem dX3_lowerAt_0 : decode cX3_lowerAt 0 = .ok (.aload_n 0, 1) := by decide +kernel
theorem dX3_lowerAt_1 : decode cX3_lowerAt 1 = .ok (.iload_n 1, 1) := by decide +kernel
theorem dX3_lowerAt_2 : decode cX3_lowerAt 2 = .ok (.iload_n 2, 1) := by decide +kernel
theorem dX3_lowerAt_3 : decode cX3_lowerAt 3 = .ok (.invokevirtual 69, 3) := by decide +kernel
theorem dX3_lowerAt_6 : decode cX3_lowerAt 6 = .ok (.ifCond .eq 17, 3) := by decide +kernel
theorem dX3_lowerAt_9 : decode cX3_lowerAt 9 = .ok (.aload_n 0, 1) := by decide +kernel
theorem dX3_lowerAt_10 : decode cX3_lowerAt 10 = .ok (.getfield 15, 3) := by decide +kernel
theorem dX3_lowerAt_13 : decode cX3_lowerAt 13 = .ok (.iload_n 1, 1) := by decide +kernel
theorem dX3_lowerAt_14 : decode cX3_lowerAt 14 = .ok (.bipush 6, 2) := by decide +kernel
theorem dX3_lowerAt_16 : decode cX3_lowerAt 16 = .ok (.imul, 1) := by decide +kernel
theorem dX3_lowerAt_17 : decode cX3_lowerAt 17 = .ok (.iload_n 2, 1) := by decide +kernel
theorem dX3_lowerAt_18 : decode cX3_lowerAt 18 = .ok (.iadd, 1) := by decide +kernel
theorem dX3_lowerAt_19 : decode cX3_lowerAt 19 = .ok (.laload, 1) := by decide +kernel
theorem dX3_lowerAt_20 : decode cX3_lowerAt 20 = .ok (.goto 4, 3) := by decide +kernel
theorem dX3_lowerAt_23 : decode cX3_lowerAt 23 = .ok (.lconst 0, 1) := by decide +kernel
theorem dX3_lowerAt_24 : decode cX3_lowerAt 24 = .ok (.lreturn, 1) := by decide +kernel
set_option maxRecDepth 20000 in
theorem ggX3_put_X3_isPair : GoodIn wsX3_put wsX3_isPair := goodIn_r _ [7, 8, 9, 10, 11] rfl (by decide +kernel)
set_option maxRecDepth 20000 in
theorem gX3_put_X3_isPair : GoodIn wsX3_put (wsV RX3 69 RX3 yX3_isPair wsX3_isPair) := goodIn_app (goodIn_of _ (by decide +kernel)) ggX3_put_X3_isPair
theorem dX3_put_0 : decode cX3_put 0 = .ok (.aload_n 0, 1) := by decide +kernel
theorem dX3_put_1 : decode cX3_put 1 = .ok (.iload_n 1, 1) := by decide +kernel
theorem dX3_put_2 : decode cX3_put 2 = .ok (.iload_n 2, 1) := by decide +kernel
theorem dX3_put_3 : decode cX3_put 3 = .ok (.invokevirtual 69, 3) := by decide +kernel
theorem dX3_put_6 : decode cX3_put 6 = .ok (.ifCond .eq 53, 3) := by decide +kernel
theorem dX3_put_9 : decode cX3_put 9 = .ok (.aload_n 0, 1) := by decide +kernel
theorem dX3_put_10 : decode cX3_put 10 = .ok (.getfield 9, 3) := by decide +kernel
theorem dX3_put_13 : decode cX3_put 13 = .ok (.iload_n 1, 1) := by decide +kernel
theorem dX3_put_14 : decode cX3_put 14 = .ok (.bipush 6, 2) := by decide +kernel
theorem dX3_put_16 : decode cX3_put 16 = .ok (.imul, 1) := by decide +kernel
theorem dX3_put_17 : decode cX3_put 17 = .ok (.iload_n 2, 1) := by decide +kernel
theorem dX3_put_18 : decode cX3_put 18 = .ok (.iadd, 1) := by decide +kernel
theorem dX3_put_19 : decode cX3_put 19 = .ok (.lload_n 3, 1) := by decide +kernel
theorem dX3_put_20 : decode cX3_put 20 = .ok (.lastore, 1) := by decide +kernel
theorem dX3_put_21 : decode cX3_put 21 = .ok (.aload_n 0, 1) := by decide +kernel
theorem dX3_put_22 : decode cX3_put 22 = .ok (.getfield 15, 3) := by decide +kernel
theorem dX3_put_25 : decode cX3_put 25 = .ok (.iload_n 1, 1) := by decide +kernel
theorem dX3_put_26 : decode cX3_put 26 = .ok (.bipush 6, 2) := by decide +kernel
theorem dX3_put_28 : decode cX3_put 28 = .ok (.imul, 1) := by decide +kernel
theorem dX3_put_29 : decode cX3_put 29 = .ok (.iload_n 2, 1) := by decide +kernel
theorem dX3_put_30 : decode cX3_put 30 = .ok (.iadd, 1) := by decide +kernel
theorem dX3_put_31 : decode cX3_put 31 = .ok (.lload 5, 2) := by decide +kernel
theorem dX3_put_33 : decode cX3_put 33 = .ok (.lastore, 1) := by decide +kernel
theorem dX3_put_34 : decode cX3_put 34 = .ok (.aload_n 0, 1) := by decide +kernel
theorem dX3_put_35 : decode cX3_put 35 = .ok (.getfield 9, 3) := by decide +kernel
theorem dX3_put_38 : decode cX3_put 38 = .ok (.iload_n 2, 1) := by decide +kernel
theorem dX3_put_39 : decode cX3_put 39 = .ok (.bipush 6, 2) := by decide +kernel
theorem dX3_put_41 : decode cX3_put 41 = .ok (.imul, 1) := by decide +kernel
theorem dX3_put_42 : decode cX3_put 42 = .ok (.iload_n 1, 1) := by decide +kernel
theorem dX3_put_43 : decode cX3_put 43 = .ok (.iadd, 1) := by decide +kernel
theorem dX3_put_44 : decode cX3_put 44 = .ok (.lload_n 3, 1) := by decide +kernel
theorem dX3_put_45 : decode cX3_put 45 = .ok (.lastore, 1) := by decide +kernel
theorem dX3_put_46 : decode cX3_put 46 = .ok (.aload_n 0, 1) := by decide +kernel
theorem dX3_put_47 : decode cX3_put 47 = .ok (.getfield 15, 3) := by decide +kernel
theorem dX3_put_50 : decode cX3_put 50 = .ok (.iload_n 2, 1) := by decide +kernel
theorem dX3_put_51 : decode cX3_put 51 = .ok (.bipush 6, 2) := by decide +kernel
theorem dX3_put_53 : decode cX3_put 53 = .ok (.imul, 1) := by decide +kernel
theorem dX3_put_54 : decode cX3_put 54 = .ok (.iload_n 1, 1) := by decide +kernel
theorem dX3_put_55 : decode cX3_put 55 = .ok (.iadd, 1) := by decide +kernel
theorem dX3_put_56 : decode cX3_put 56 = .ok (.lload 5, 2) := by decide +kernel
theorem dX3_put_58 : decode cX3_put 58 = .ok (.lastore, 1) := by decide +kernel
theorem dX3_put_59 : decode cX3_put 59 = .ok (.return_, 1) := by decide +kernel
theorem dX3_isPair_0 : decode cX3_isPair 0 = .ok (.iload_n 1, 1) := by decide +kernel
theorem dX3_isPair_1 : decode cX3_isPair 1 = .ok (.ifCond .lt 27, 3) := by decide +kernel
theorem dX3_isPair_4 : decode cX3_isPair 4 = .ok (.iload_n 1, 1) := by decide +kernel
theorem dX3_isPair_5 : decode cX3_isPair 5 = .ok (.aload_n 0, 1) := by decide +kernel
theorem dX3_isPair_6 : decode cX3_isPair 6 = .ok (.getfield 22, 3) := by decide +kernel
theorem dX3_isPair_9 : decode cX3_isPair 9 = .ok (.if_icmp .ge 19, 3) := by decide +kernel
theorem dX3_isPair_12 : decode cX3_isPair 12 = .ok (.iload_n 2, 1) := by decide +kernel
theorem dX3_isPair_13 : decode cX3_isPair 13 = .ok (.ifCond .lt 15, 3) := by decide +kernel
theorem dX3_isPair_16 : decode cX3_isPair 16 = .ok (.iload_n 2, 1) := by decide +kernel
theorem dX3_isPair_17 : decode cX3_isPair 17 = .ok (.aload_n 0, 1) := by decide +kernel
theorem dX3_isPair_18 : decode cX3_isPair 18 = .ok (.getfield 22, 3) := by decide +kernel
theorem dX3_isPair_21 : decode cX3_isPair 21 = .ok (.if_icmp .ge 7, 3) := by decide +kernel
theorem dX3_isPair_24 : decode cX3_isPair 24 = .ok (.iconst 1, 1) := by decide +kernel
theorem dX3_isPair_25 : decode cX3_isPair 25 = .ok (.goto 4, 3) := by decide +kernel
theorem dX3_isPair_28 : decode cX3_isPair 28 = .ok (.iconst 0, 1) := by decide +kernel
theorem dX3_isPair_29 : decode cX3_isPair 29 = .ok (.ireturn, 1) := by decide +kernel
theorem dX4_init_0 : decode cX4_init 0 = .ok (.aload_n 0, 1) := by decide +kernel
theorem dX4_init_1 : decode cX4_init 1 = .ok (.invokespecial 3, 3) := by decide +kernel
theorem dX4_init_4 : decode cX4_init 4 = .ok (.aload_n 0, 1) := by decide +kernel
theorem dX4_init_5 : decode cX4_init 5 = .ok (.bipush 80, 2) := by decide +kernel
theorem dX4_init_7 : decode cX4_init 7 = .ok (.newarray .int, 2) := by decide +kernel
theorem dX4_init_9 : decode cX4_init 9 = .ok (.putfield 9, 3) := by decide +kernel
theorem dX4_init_12 : decode cX4_init 12 = .ok (.return_, 1) := by decide +kernel
theorem dX4_takes_0 : decode cX4_takes 0 = .ok (.aload_n 0, 1) := by decide +kernel
theorem dX4_takes_1 : decode cX4_takes 1 = .ok (.getfield 15, 3) := by decide +kernel
theorem dX4_takes_4 : decode cX4_takes 4 = .ok (.bipush 80, 2) := by decide +kernel
theorem dX4_takes_6 : decode cX4_takes 6 = .ok (.if_icmp .lt 5, 3) := by decide +kernel
theorem dX4_takes_9 : decode cX4_takes 9 = .ok (.iconst 0, 1) := by decide +kernel
theorem dX4_takes_10 : decode cX4_takes 10 = .ok (.ireturn, 1) := by decide +kernel
theorem dX4_takes_11 : decode cX4_takes 11 = .ok (.aload_n 0, 1) := by decide +kernel
theorem dX4_takes_12 : decode cX4_takes 12 = .ok (.getfield 9, 3) := by decide +kernel
theorem dX4_takes_15 : decode cX4_takes 15 = .ok (.aload_n 0, 1) := by decide +kernel
theorem dX4_takes_16 : decode cX4_takes 16 = .ok (.getfield 15, 3) := by decide +kernel
theorem dX4_takes_19 : decode cX4_takes 19 = .ok (.iload_n 1, 1) := by decide +kernel
theorem dX4_takes_20 : decode cX4_takes 20 = .ok (.iastore, 1) := by decide +kernel
theorem dX4_takes_21 : decode cX4_takes 21 = .ok (.aload_n 0, 1) := by decide +kernel
theorem dX4_takes_22 : decode cX4_takes 22 = .ok (.dup, 1) := by decide +kernel
theorem dX4_takes_23 : decode cX4_takes 23 = .ok (.getfield 15, 3) := by decide +kernel
theorem dX4_takes_26 : decode cX4_takes 26 = .ok (.iconst 1, 1) := by decide +kernel
theorem dX4_takes_27 : decode cX4_takes 27 = .ok (.iadd, 1) := by decide +kernel
theorem dX4_takes_28 : decode cX4_takes 28 = .ok (.putfield 15, 3) := by decide +kernel
theorem dX4_takes_31 : decode cX4_takes 31 = .ok (.iconst 1, 1) := by decide +kernel
theorem dX4_takes_32 : decode cX4_takes 32 = .ok (.ireturn, 1) := by decide +kernel
set_option maxRecDepth 20000 in
theorem ggX4_tells_X1_empty : GoodIn wsX4_tells wsX1_empty := goodIn_r _ [8, 9, 10, 11, 12, 13, 14, 15, 16, 17, 18, 19, 20, 21, 22, 80, 81, 82, 83, 84] rfl (by decide +kernel)
set_option maxRecDepth 20000 in
theorem gX4_tells_X1_empty : GoodIn wsX4_tells (wsV RX4 25 RX1 yX1_empty wsX1_empty) := goodIn_app (goodIn_of _ (by decide +kernel)) ggX4_tells_X1_empty
set_option maxRecDepth 20000 in
theorem ggX4_tells_X4_skipBlanks : GoodIn wsX4_tells wsX4_skipBlanks := goodIn_r _ [27, 1, 3, 28, 29, 30, 26, 31, 32, 76, 77, 78, 79] rfl (by decide +kernel)
set_option maxRecDepth 20000 in
theorem gX4_tells_X4_skipBlanks : GoodIn wsX4_tells (wsV RX4 31 RX4 yX4_skipBlanks wsX4_skipBlanks) := goodIn_app (goodIn_of _ (by decide +kernel)) ggX4_tells_X4_skipBlanks
set_option maxRecDepth 20000 in
theorem ggX4_tells_X4_tellsItem : GoodIn wsX4_tells wsX4_tellsItem := goodIn_r _ [36, 1, 2, 37, 28, 29, 30, 26, 31, 3, 32, 38, 39, 40, 41, 42, 43, 44, 45, 23, 24, 25, 27, 46, 47, 48, 4, 5, 6, 7, 8, 9, 10, 11, 12, 13, 14, 15, 16, 17, 18, 19, 20, 21, 22, 49, 50, 51, 52, 53, 54, 55, 56, 57, 58, 59, 60, 61, 62, 63, 64, 65, 66, 67, 68, 69, 70, 71, 72, 73, 74, 75, 76, 77, 78, 79, 80, 81, 82, 83, 84] rfl (by decide +kernel)
set_option maxRecDepth 20000 in
theorem gX4_tells_X4_tellsItem : GoodIn wsX4_tells (wsV RX4 34 RX4 yX4_tellsItem wsX4_tellsItem) := goodIn_app (goodIn_of _ (by decide +kernel)) ggX4_tells_X4_tellsItem
theorem dX4_tells_0 : decode cX4_tells 0 = .ok (.aload_n 0, 1) := by decide +kernel
theorem dX4_tells_1 : decode cX4_tells 1 = .ok (.iconst 0, 1) := by decide +kernel
theorem dX4_tells_2 : decode cX4_tells 2 = .ok (.putfield 19, 3) := by decide +kernel
theorem dX4_tells_5 : decode cX4_tells 5 = .ok (.aload_n 0, 1) := by decide +kernel
theorem dX4_tells_6 : decode cX4_tells 6 = .ok (.iconst 0, 1) := by decide +kernel
theorem dX4_tells_7 : decode cX4_tells 7 = .ok (.putfield 22, 3) := by decide +kernel
theorem dX4_tells_10 : decode cX4_tells 10 = .ok (.aload_n 1, 1) := by decide +kernel
theorem dX4_tells_11 : decode cX4_tells 11 = .ok (.iconst 2, 1) := by decide +kernel
theorem dX4_tells_12 : decode cX4_tells 12 = .ok (.invokevirtual 25, 3) := by decide +kernel
theorem dX4_tells_15 : decode cX4_tells 15 = .ok (.aload_n 0, 1) := by decide +kernel
theorem dX4_tells_16 : decode cX4_tells 16 = .ok (.invokevirtual 31, 3) := by decide +kernel
theorem dX4_tells_19 : decode cX4_tells 19 = .ok (.iconst 0, 1) := by decide +kernel
theorem dX4_tells_20 : decode cX4_tells 20 = .ok (.istore_n 2, 1) := by decide +kernel
theorem dX4_tells_21 : decode cX4_tells 21 = .ok (.iload_n 2, 1) := by decide +kernel
theorem dX4_tells_22 : decode cX4_tells 22 = .ok (.bipush 80, 2) := by decide +kernel
theorem dX4_tells_24 : decode cX4_tells 24 = .ok (.if_icmp .ge 44, 3) := by decide +kernel
theorem dX4_tells_27 : decode cX4_tells 27 = .ok (.aload_n 0, 1) := by decide +kernel
theorem dX4_tells_28 : decode cX4_tells 28 = .ok (.getfield 19, 3) := by decide +kernel
theorem dX4_tells_31 : decode cX4_tells 31 = .ok (.aload_n 0, 1) := by decide +kernel
theorem dX4_tells_32 : decode cX4_tells 32 = .ok (.getfield 15, 3) := by decide +kernel
theorem dX4_tells_35 : decode cX4_tells 35 = .ok (.if_icmp .ge 33, 3) := by decide +kernel
theorem dX4_tells_38 : decode cX4_tells 38 = .ok (.aload_n 0, 1) := by decide +kernel
theorem dX4_tells_39 : decode cX4_tells 39 = .ok (.aload_n 1, 1) := by decide +kernel
theorem dX4_tells_40 : decode cX4_tells 40 = .ok (.invokevirtual 34, 3) := by decide +kernel
theorem dX4_tells_43 : decode cX4_tells 43 = .ok (.ifCond .ne 5, 3) := by decide +kernel
theorem dX4_tells_46 : decode cX4_tells 46 = .ok (.iconst 0, 1) := by decide +kernel
theorem dX4_tells_47 : decode cX4_tells 47 = .ok (.ireturn, 1) := by decide +kernel
theorem dX4_tells_48 : decode cX4_tells 48 = .ok (.aload_n 0, 1) := by decide +kernel
theorem dX4_tells_49 : decode cX4_tells 49 = .ok (.dup, 1) := by decide +kernel
theorem dX4_tells_50 : decode cX4_tells 50 = .ok (.getfield 22, 3) := by decide +kernel
theorem dX4_tells_53 : decode cX4_tells 53 = .ok (.iconst 1, 1) := by decide +kernel
theorem dX4_tells_54 : decode cX4_tells 54 = .ok (.iadd, 1) := by decide +kernel
theorem dX4_tells_55 : decode cX4_tells 55 = .ok (.putfield 22, 3) := by decide +kernel
theorem dX4_tells_58 : decode cX4_tells 58 = .ok (.aload_n 0, 1) := by decide +kernel
theorem dX4_tells_59 : decode cX4_tells 59 = .ok (.invokevirtual 31, 3) := by decide +kernel
theorem dX4_tells_62 : decode cX4_tells 62 = .ok (.iinc 2 1, 3) := by decide +kernel
theorem dX4_tells_65 : decode cX4_tells 65 = .ok (.goto (-44), 3) := by decide +kernel
theorem dX4_tells_68 : decode cX4_tells 68 = .ok (.iconst 1, 1) := by decide +kernel
theorem dX4_tells_69 : decode cX4_tells 69 = .ok (.ireturn, 1) := by decide +kernel
set_option maxRecDepth 20000 in
theorem ggX4_tellsItem_X4_letterAt : GoodIn wsX4_tellsItem wsX4_letterAt := goodIn_r _ [8, 9, 10, 72, 73, 74, 75] rfl (by decide +kernel)
set_option maxRecDepth 20000 in
theorem gX4_tellsItem_X4_letterAt : GoodIn wsX4_tellsItem (wsV RX4 38 RX4 yX4_letterAt wsX4_letterAt) := goodIn_app (goodIn_of _ (by decide +kernel)) ggX4_tellsItem_X4_letterAt
set_option maxRecDepth 20000 in
theorem ggX4_tellsItem_X4_tellsNodes : GoodIn wsX4_tellsItem wsX4_tellsNodes := goodIn_r _ [14, 1, 15, 16, 17, 7, 18, 19, 20, 21, 22, 9, 4, 5, 6, 8, 10, 23, 24, 25, 26, 27, 28, 29, 30, 31, 32, 33, 34, 35, 36, 37, 38, 39, 40, 41, 42, 43, 44, 45, 46, 47, 48, 72, 73, 74, 75, 76, 77, 78, 79, 80] rfl (by decide +kernel)
set_option maxRecDepth 20000 in
theorem gX4_tellsItem_X4_tellsNodes : GoodIn wsX4_tellsItem (wsV RX4 42 RX4 yX4_tellsNodes wsX4_tellsNodes) := goodIn_app (goodIn_of _ (by decide +kernel)) ggX4_tellsItem_X4_tellsNodes
set_option maxRecDepth 20000 in
theorem ggX4_tellsItem_X4_tellsLine : GoodIn wsX4_tellsItem wsX4_tellsLine := goodIn_r _ [52, 53, 1, 15, 16, 17, 7, 18, 19, 20, 21, 22, 9, 4, 5, 6, 8, 10, 23, 24, 25, 54, 55, 56, 29, 57, 40, 58, 59, 60, 61, 38, 62, 63, 64, 65, 66, 67, 68, 69, 39, 70, 71, 45, 46, 47, 48, 76, 77, 78, 79, 80, 72, 73, 74, 75] rfl (by decide +kernel)
set_option maxRecDepth 20000 in
theorem gX4_tellsItem_X4_tellsLine : GoodIn wsX4_tellsItem (wsV RX4 48 RX4 yX4_tellsLine wsX4_tellsLine) := goodIn_app (goodIn_of _ (by decide +kernel)) ggX4_tellsItem_X4_tellsLine
theorem dX4_tellsItem_0 : decode cX4_tellsItem 0 = .ok (.aload_n 0, 1) := by decide +kernel
theorem dX4_tellsItem_1 : decode cX4_tellsItem 1 = .ok (.aload_n 0, 1) := by decide +kernel
theorem dX4_tellsItem_2 : decode cX4_tellsItem 2 = .ok (.getfield 19, 3) := by decide +kernel
theorem dX4_tellsItem_5 : decode cX4_tellsItem 5 = .ok (.invokevirtual 38, 3) := by decide +kernel
theorem dX4_tellsItem_8 : decode cX4_tellsItem 8 = .ok (.istore_n 2, 1) := by decide +kernel
theorem dX4_tellsItem_9 : decode cX4_tellsItem 9 = .ok (.iload_n 2, 1) := by decide +kernel
theorem dX4_tellsItem_10 : decode cX4_tellsItem 10 = .ok (.bipush 110, 2) := by decide +kernel
theorem dX4_tellsItem_12 : decode cX4_tellsItem 12 = .ok (.if_icmp .ne 26, 3) := by decide +kernel
theorem dX4_tellsItem_15 : decode cX4_tellsItem 15 = .ok (.aload_n 0, 1) := by decide +kernel
theorem dX4_tellsItem_16 : decode cX4_tellsItem 16 = .ok (.getfield 22, 3) := by decide +kernel
theorem dX4_tellsItem_19 : decode cX4_tellsItem 19 = .ok (.ifCond .ne 19, 3) := by decide +kernel
theorem dX4_tellsItem_22 : decode cX4_tellsItem 22 = .ok (.aload_n 0, 1) := by decide +kernel
theorem dX4_tellsItem_23 : decode cX4_tellsItem 23 = .ok (.dup, 1) := by decide +kernel
theorem dX4_tellsItem_24 : decode cX4_tellsItem 24 = .ok (.getfield 19, 3) := by decide +kernel
theorem dX4_tellsItem_27 : decode cX4_tellsItem 27 = .ok (.iconst 1, 1) := by decide +kernel
theorem dX4_tellsItem_28 : decode cX4_tellsItem 28 = .ok (.iadd, 1) := by decide +kernel
theorem dX4_tellsItem_29 : decode cX4_tellsItem 29 = .ok (.putfield 19, 3) := by decide +kernel
theorem dX4_tellsItem_32 : decode cX4_tellsItem 32 = .ok (.aload_n 0, 1) := by decide +kernel
theorem dX4_tellsItem_33 : decode cX4_tellsItem 33 = .ok (.aload_n 1, 1) := by decide +kernel
theorem dX4_tellsItem_34 : decode cX4_tellsItem 34 = .ok (.invokevirtual 42, 3) := by decide +kernel
theorem dX4_tellsItem_37 : decode cX4_tellsItem 37 = .ok (.ireturn, 1) := by decide +kernel
theorem dX4_tellsItem_38 : decode cX4_tellsItem 38 = .ok (.iload_n 2, 1) := by decide +kernel
theorem dX4_tellsItem_39 : decode cX4_tellsItem 39 = .ok (.bipush 101, 2) := by decide +kernel
theorem dX4_tellsItem_41 : decode cX4_tellsItem 41 = .ok (.if_icmp .ne 28, 3) := by decide +kernel
theorem dX4_tellsItem_44 : decode cX4_tellsItem 44 = .ok (.aload_n 1, 1) := by decide +kernel
theorem dX4_tellsItem_45 : decode cX4_tellsItem 45 = .ok (.getfield 45, 3) := by decide +kernel
theorem dX4_tellsItem_48 : decode cX4_tellsItem 48 = .ok (.bipush 10, 2) := by decide +kernel
theorem dX4_tellsItem_50 : decode cX4_tellsItem 50 = .ok (.if_icmp .ge 19, 3) := by decide +kernel
theorem dX4_tellsItem_53 : decode cX4_tellsItem 53 = .ok (.aload_n 0, 1) := by decide +kernel
theorem dX4_tellsItem_54 : decode cX4_tellsItem 54 = .ok (.dup, 1) := by decide +kernel
theorem dX4_tellsItem_55 : decode cX4_tellsItem 55 = .ok (.getfield 19, 3) := by decide +kernel
theorem dX4_tellsItem_58 : decode cX4_tellsItem 58 = .ok (.iconst 1, 1) := by decide +kernel
theorem dX4_tellsItem_59 : decode cX4_tellsItem 59 = .ok (.iadd, 1) := by decide +kernel
theorem dX4_tellsItem_60 : decode cX4_tellsItem 60 = .ok (.putfield 19, 3) := by decide +kernel
theorem dX4_tellsItem_63 : decode cX4_tellsItem 63 = .ok (.aload_n 0, 1) := by decide +kernel
theorem dX4_tellsItem_64 : decode cX4_tellsItem 64 = .ok (.aload_n 1, 1) := by decide +kernel
theorem dX4_tellsItem_65 : decode cX4_tellsItem 65 = .ok (.invokevirtual 48, 3) := by decide +kernel
theorem dX4_tellsItem_68 : decode cX4_tellsItem 68 = .ok (.ireturn, 1) := by decide +kernel
theorem dX4_tellsItem_69 : decode cX4_tellsItem 69 = .ok (.iconst 0, 1) := by decide +kernel
theorem dX4_tellsItem_70 : decode cX4_tellsItem 70 = .ok (.ireturn, 1) := by decide +kernel
set_option maxRecDepth 20000 in
theorem ggX4_tellsNodes_X4_numberAhead : GoodIn wsX4_tellsNodes wsX4_numberAhead := goodIn_r _ [6, 1, 7, 8, 9, 5, 10, 11, 12, 13, 14, 15, 16, 17, 18, 19, 43, 44, 45, 46] rfl (by decide +kernel)
set_option maxRecDepth 20000 in
theorem gX4_tellsNodes_X4_numberAhead : GoodIn wsX4_tellsNodes (wsV RX4 51 RX4 yX4_numberAhead wsX4_numberAhead) := goodIn_app (goodIn_of _ (by decide +kernel)) ggX4_tellsNodes_X4_numberAhead
set_option maxRecDepth 20000 in
theorem ggX4_tellsNodes_X1_empty : GoodIn wsX4_tellsNodes wsX1_empty := goodIn_r _ [24, 25, 26, 27, 28, 29, 30, 31, 32, 33, 34, 35, 36, 37, 38, 47, 48, 49, 50, 51] rfl (by decide +kernel)
set_option maxRecDepth 20000 in
theorem gX4_tellsNodes_X1_empty : GoodIn wsX4_tellsNodes (wsV RX4 25 RX1 yX1_empty wsX1_empty) := goodIn_app (goodIn_of _ (by decide +kernel)) ggX4_tellsNodes_X1_empty
set_option maxRecDepth 20000 in
theorem ggX4_tellsNodes_X4_passesEnd : GoodIn wsX4_tellsNodes wsX4_passesEnd := goodIn_r _ [42, 1, 7, 8, 9, 5, 10, 11, 12, 13, 14, 15, 16, 43, 44, 45, 46] rfl (by decide +kernel)
set_option maxRecDepth 20000 in
theorem gX4_tellsNodes_X4_passesEnd : GoodIn wsX4_tellsNodes (wsV RX4 55 RX4 yX4_passesEnd wsX4_passesEnd) := goodIn_app (goodIn_of _ (by decide +kernel)) ggX4_tellsNodes_X4_passesEnd
theorem dX4_tellsNodes_0 : decode cX4_tellsNodes 0 = .ok (.aload_n 0, 1) := by decide +kernel
theorem dX4_tellsNodes_1 : decode cX4_tellsNodes 1 = .ok (.iconst 2, 1) := by decide +kernel
theorem dX4_tellsNodes_2 : decode cX4_tellsNodes 2 = .ok (.bipush 6, 2) := by decide +kernel
theorem dX4_tellsNodes_4 : decode cX4_tellsNodes 4 = .ok (.invokevirtual 51, 3) := by decide +kernel
theorem dX4_tellsNodes_7 : decode cX4_tellsNodes 7 = .ok (.istore_n 2, 1) := by decide +kernel
theorem dX4_tellsNodes_8 : decode cX4_tellsNodes 8 = .ok (.iload_n 2, 1) := by decide +kernel
theorem dX4_tellsNodes_9 : decode cX4_tellsNodes 9 = .ok (.iconst (-1), 1) := by decide +kernel
theorem dX4_tellsNodes_10 : decode cX4_tellsNodes 10 = .ok (.if_icmp .ne 5, 3) := by decide +kernel
theorem dX4_tellsNodes_13 : decode cX4_tellsNodes 13 = .ok (.iconst 0, 1) := by decide +kernel
theorem dX4_tellsNodes_14 : decode cX4_tellsNodes 14 = .ok (.ireturn, 1) := by decide +kernel
theorem dX4_tellsNodes_15 : decode cX4_tellsNodes 15 = .ok (.aload_n 0, 1) := by decide +kernel
theorem dX4_tellsNodes_16 : decode cX4_tellsNodes 16 = .ok (.dup, 1) := by decide +kernel
theorem dX4_tellsNodes_17 : decode cX4_tellsNodes 17 = .ok (.getfield 19, 3) := by decide +kernel
theorem dX4_tellsNodes_20 : decode cX4_tellsNodes 20 = .ok (.iconst 1, 1) := by decide +kernel
theorem dX4_tellsNodes_21 : decode cX4_tellsNodes 21 = .ok (.iadd, 1) := by decide +kernel
theorem dX4_tellsNodes_22 : decode cX4_tellsNodes 22 = .ok (.putfield 19, 3) := by decide +kernel
theorem dX4_tellsNodes_25 : decode cX4_tellsNodes 25 = .ok (.aload_n 1, 1) := by decide +kernel
theorem dX4_tellsNodes_26 : decode cX4_tellsNodes 26 = .ok (.iload_n 2, 1) := by decide +kernel
theorem dX4_tellsNodes_27 : decode cX4_tellsNodes 27 = .ok (.invokevirtual 25, 3) := by decide +kernel
theorem dX4_tellsNodes_30 : decode cX4_tellsNodes 30 = .ok (.aload_n 0, 1) := by decide +kernel
theorem dX4_tellsNodes_31 : decode cX4_tellsNodes 31 = .ok (.invokevirtual 55, 3) := by decide +kernel
theorem dX4_tellsNodes_34 : decode cX4_tellsNodes 34 = .ok (.ireturn, 1) := by decide +kernel
set_option maxRecDepth 20000 in
theorem ggX4_tellsLine_X4_numberAhead : GoodIn wsX4_tellsLine wsX4_numberAhead := goodIn_r _ [7, 2, 8, 9, 10, 6, 11, 12, 13, 14, 15, 16, 17, 18, 19, 20, 52, 53, 54, 55] rfl (by decide +kernel)
set_option maxRecDepth 20000 in
theorem gX4_tellsLine_X4_numberAhead : GoodIn wsX4_tellsLine (wsV RX4 51 RX4 yX4_numberAhead wsX4_numberAhead) := goodIn_app (goodIn_of _ (by decide +kernel)) ggX4_tellsLine_X4_numberAhead
set_option maxRecDepth 20000 in
theorem ggX4_tellsLine_X1_widthAt : GoodIn wsX4_tellsLine wsX1_widthAt := goodIn_r _ [25, 26, 27, 28, 29, 24, 30, 31, 47, 48, 49, 50, 51] rfl (by decide +kernel)
set_option maxRecDepth 20000 in
theorem gX4_tellsLine_X1_widthAt : GoodIn wsX4_tellsLine (wsV RX4 62 RX1 yX1_widthAt wsX1_widthAt) := goodIn_app (goodIn_of _ (by decide +kernel)) ggX4_tellsLine_X1_widthAt
set_option maxRecDepth 20000 in
theorem ggX4_tellsLine_X1_put : GoodIn wsX4_tellsLine wsX1_put := goodIn_r _ [35, 26, 27, 28, 29, 24, 30, 31, 36, 37, 38, 39, 40, 41, 42, 47, 48, 49, 50, 51] rfl (by decide +kernel)
set_option maxRecDepth 20000 in
theorem gX4_tellsLine_X1_put : GoodIn wsX4_tellsLine (wsV RX4 65 RX1 yX1_put wsX1_put) := goodIn_app (goodIn_of _ (by decide +kernel)) ggX4_tellsLine_X1_put
set_option maxRecDepth 20000 in
theorem ggX4_tellsLine_X4_passesEnd : GoodIn wsX4_tellsLine wsX4_passesEnd := goodIn_r _ [46, 2, 8, 9, 10, 6, 11, 12, 13, 14, 15, 16, 17, 52, 53, 54, 55] rfl (by decide +kernel)
set_option maxRecDepth 20000 in
theorem gX4_tellsLine_X4_passesEnd : GoodIn wsX4_tellsLine (wsV RX4 55 RX4 yX4_passesEnd wsX4_passesEnd) := goodIn_app (goodIn_of _ (by decide +kernel)) ggX4_tellsLine_X4_passesEnd
theorem dX4_tellsLine_0 : decode cX4_tellsLine 0 = .ok (.aload_n 0, 1) := by decide +kernel
theorem dX4_tellsLine_1 : decode cX4_tellsLine 1 = .ok (.iconst 0, 1) := by decide +kernel
theorem dX4_tellsLine_2 : decode cX4_tellsLine 2 = .ok (.aload_n 1, 1) := by decide +kernel
theorem dX4_tellsLine_3 : decode cX4_tellsLine 3 = .ok (.getfield 59, 3) := by decide +kernel
theorem dX4_tellsLine_6 : decode cX4_tellsLine 6 = .ok (.iconst 1, 1) := by decide +kernel
theorem dX4_tellsLine_7 : decode cX4_tellsLine 7 = .ok (.isub, 1) := by decide +kernel
theorem dX4_tellsLine_8 : decode cX4_tellsLine 8 = .ok (.invokevirtual 51, 3) := by decide +kernel
theorem dX4_tellsLine_11 : decode cX4_tellsLine 11 = .ok (.istore_n 2, 1) := by decide +kernel
theorem dX4_tellsLine_12 : decode cX4_tellsLine 12 = .ok (.iload_n 2, 1) := by decide +kernel
theorem dX4_tellsLine_13 : decode cX4_tellsLine 13 = .ok (.iconst (-1), 1) := by decide +kernel
theorem dX4_tellsLine_14 : decode cX4_tellsLine 14 = .ok (.if_icmp .ne 5, 3) := by decide +kernel
theorem dX4_tellsLine_17 : decode cX4_tellsLine 17 = .ok (.iconst 0, 1) := by decide +kernel
theorem dX4_tellsLine_18 : decode cX4_tellsLine 18 = .ok (.ireturn, 1) := by decide +kernel
theorem dX4_tellsLine_19 : decode cX4_tellsLine 19 = .ok (.aload_n 0, 1) := by decide +kernel
theorem dX4_tellsLine_20 : decode cX4_tellsLine 20 = .ok (.dup, 1) := by decide +kernel
theorem dX4_tellsLine_21 : decode cX4_tellsLine 21 = .ok (.getfield 19, 3) := by decide +kernel
theorem dX4_tellsLine_24 : decode cX4_tellsLine 24 = .ok (.iconst 1, 1) := by decide +kernel
theorem dX4_tellsLine_25 : decode cX4_tellsLine 25 = .ok (.iadd, 1) := by decide +kernel
theorem dX4_tellsLine_26 : decode cX4_tellsLine 26 = .ok (.putfield 19, 3) := by decide +kernel
theorem dX4_tellsLine_29 : decode cX4_tellsLine 29 = .ok (.aload_n 0, 1) := by decide +kernel
theorem dX4_tellsLine_30 : decode cX4_tellsLine 30 = .ok (.iconst 0, 1) := by decide +kernel
theorem dX4_tellsLine_31 : decode cX4_tellsLine 31 = .ok (.aload_n 1, 1) := by decide +kernel
theorem dX4_tellsLine_32 : decode cX4_tellsLine 32 = .ok (.getfield 59, 3) := by decide +kernel
theorem dX4_tellsLine_35 : decode cX4_tellsLine 35 = .ok (.iconst 1, 1) := by decide +kernel
theorem dX4_tellsLine_36 : decode cX4_tellsLine 36 = .ok (.isub, 1) := by decide +kernel
theorem dX4_tellsLine_37 : decode cX4_tellsLine 37 = .ok (.invokevirtual 51, 3) := by decide +kernel
theorem dX4_tellsLine_40 : decode cX4_tellsLine 40 = .ok (.istore_n 3, 1) := by decide +kernel
theorem dX4_tellsLine_41 : decode cX4_tellsLine 41 = .ok (.iload_n 3, 1) := by decide +kernel
theorem dX4_tellsLine_42 : decode cX4_tellsLine 42 = .ok (.iconst (-1), 1) := by decide +kernel
theorem dX4_tellsLine_43 : decode cX4_tellsLine 43 = .ok (.if_icmp .eq 17, 3) := by decide +kernel
theorem dX4_tellsLine_46 : decode cX4_tellsLine 46 = .ok (.iload_n 3, 1) := by decide +kernel
theorem dX4_tellsLine_47 : decode cX4_tellsLine 47 = .ok (.iload_n 2, 1) := by decide +kernel
theorem dX4_tellsLine_48 : decode cX4_tellsLine 48 = .ok (.if_icmp .eq 12, 3) := by decide +kernel
theorem dX4_tellsLine_51 : decode cX4_tellsLine 51 = .ok (.aload_n 1, 1) := by decide +kernel
theorem dX4_tellsLine_52 : decode cX4_tellsLine 52 = .ok (.iload_n 2, 1) := by decide +kernel
theorem dX4_tellsLine_53 : decode cX4_tellsLine 53 = .ok (.iload_n 3, 1) := by decide +kernel
theorem dX4_tellsLine_54 : decode cX4_tellsLine 54 = .ok (.invokevirtual 62, 3) := by decide +kernel
theorem dX4_tellsLine_57 : decode cX4_tellsLine 57 = .ok (.ifCond .eq 5, 3) := by decide +kernel
theorem dX4_tellsLine_60 : decode cX4_tellsLine 60 = .ok (.iconst 0, 1) := by decide +kernel
theorem dX4_tellsLine_61 : decode cX4_tellsLine 61 = .ok (.ireturn, 1) := by decide +kernel
theorem dX4_tellsLine_62 : decode cX4_tellsLine 62 = .ok (.aload_n 0, 1) := by decide +kernel
theorem dX4_tellsLine_63 : decode cX4_tellsLine 63 = .ok (.dup, 1) := by decide +kernel
theorem dX4_tellsLine_64 : decode cX4_tellsLine 64 = .ok (.getfield 19, 3) := by decide +kernel
theorem dX4_tellsLine_67 : decode cX4_tellsLine 67 = .ok (.iconst 1, 1) := by decide +kernel
theorem dX4_tellsLine_68 : decode cX4_tellsLine 68 = .ok (.iadd, 1) := by decide +kernel
theorem dX4_tellsLine_69 : decode cX4_tellsLine 69 = .ok (.putfield 19, 3) := by decide +kernel
theorem dX4_tellsLine_72 : decode cX4_tellsLine 72 = .ok (.aload_n 0, 1) := by decide +kernel
theorem dX4_tellsLine_73 : decode cX4_tellsLine 73 = .ok (.iconst 1, 1) := by decide +kernel
theorem dX4_tellsLine_74 : decode cX4_tellsLine 74 = .ok (.bipush 9, 2) := by decide +kernel
theorem dX4_tellsLine_76 : decode cX4_tellsLine 76 = .ok (.invokevirtual 51, 3) := by decide +kernel
theorem dX4_tellsLine_79 : decode cX4_tellsLine 79 = .ok (.istore 4, 2) := by decide +kernel
theorem dX4_tellsLine_81 : decode cX4_tellsLine 81 = .ok (.iload 4, 2) := by decide +kernel
theorem dX4_tellsLine_83 : decode cX4_tellsLine 83 = .ok (.iconst (-1), 1) := by decide +kernel
theorem dX4_tellsLine_84 : decode cX4_tellsLine 84 = .ok (.if_icmp .ne 5, 3) := by decide +kernel
theorem dX4_tellsLine_87 : decode cX4_tellsLine 87 = .ok (.iconst 0, 1) := by decide +kernel
theorem dX4_tellsLine_88 : decode cX4_tellsLine 88 = .ok (.ireturn, 1) := by decide +kernel
theorem dX4_tellsLine_89 : decode cX4_tellsLine 89 = .ok (.aload_n 0, 1) := by decide +kernel
theorem dX4_tellsLine_90 : decode cX4_tellsLine 90 = .ok (.dup, 1) := by decide +kernel
theorem dX4_tellsLine_91 : decode cX4_tellsLine 91 = .ok (.getfield 19, 3) := by decide +kernel
theorem dX4_tellsLine_94 : decode cX4_tellsLine 94 = .ok (.iconst 1, 1) := by decide +kernel
theorem dX4_tellsLine_95 : decode cX4_tellsLine 95 = .ok (.iadd, 1) := by decide +kernel
theorem dX4_tellsLine_96 : decode cX4_tellsLine 96 = .ok (.putfield 19, 3) := by decide +kernel
theorem dX4_tellsLine_99 : decode cX4_tellsLine 99 = .ok (.aload_n 1, 1) := by decide +kernel
theorem dX4_tellsLine_100 : decode cX4_tellsLine 100 = .ok (.iload_n 2, 1) := by decide +kernel
theorem dX4_tellsLine_101 : decode cX4_tellsLine 101 = .ok (.iload_n 3, 1) := by decide +kernel
theorem dX4_tellsLine_102 : decode cX4_tellsLine 102 = .ok (.iload 4, 2) := by decide +kernel
theorem dX4_tellsLine_104 : decode cX4_tellsLine 104 = .ok (.invokevirtual 65, 3) := by decide +kernel
theorem dX4_tellsLine_107 : decode cX4_tellsLine 107 = .ok (.aload_n 0, 1) := by decide +kernel
theorem dX4_tellsLine_108 : decode cX4_tellsLine 108 = .ok (.invokevirtual 55, 3) := by decide +kernel
theorem dX4_tellsLine_111 : decode cX4_tellsLine 111 = .ok (.ireturn, 1) := by decide +kernel
set_option maxRecDepth 20000 in
theorem ggX4_passesEnd_X4_skipBlanks : GoodIn wsX4_passesEnd wsX4_skipBlanks := goodIn_r _ [6, 1, 7, 8, 9, 10, 5, 11, 12, 13, 14, 15, 16] rfl (by decide +kernel)
set_option maxRecDepth 20000 in
theorem gX4_passesEnd_X4_skipBlanks : GoodIn wsX4_passesEnd (wsV RX4 31 RX4 yX4_skipBlanks wsX4_skipBlanks) := goodIn_app (goodIn_of _ (by decide +kernel)) ggX4_passesEnd_X4_skipBlanks
set_option maxRecDepth 20000 in
theorem ggX4_passesEnd_X4_letterAt : GoodIn wsX4_passesEnd wsX4_letterAt := goodIn_r _ [11, 7, 12, 13, 14, 15, 16] rfl (by decide +kernel)
set_option maxRecDepth 20000 in
theorem gX4_passesEnd_X4_letterAt : GoodIn wsX4_passesEnd (wsV RX4 38 RX4 yX4_letterAt wsX4_letterAt) := goodIn_app (goodIn_of _ (by decide +kernel)) ggX4_passesEnd_X4_letterAt
theorem dX4_passesEnd_0 : decode cX4_passesEnd 0 = .ok (.aload_n 0, 1) := by decide +kernel
theorem dX4_passesEnd_1 : decode cX4_passesEnd 1 = .ok (.invokevirtual 31, 3) := by decide +kernel
theorem dX4_passesEnd_4 : decode cX4_passesEnd 4 = .ok (.aload_n 0, 1) := by decide +kernel
theorem dX4_passesEnd_5 : decode cX4_passesEnd 5 = .ok (.aload_n 0, 1) := by decide +kernel
theorem dX4_passesEnd_6 : decode cX4_passesEnd 6 = .ok (.getfield 19, 3) := by decide +kernel
theorem dX4_passesEnd_9 : decode cX4_passesEnd 9 = .ok (.invokevirtual 38, 3) := by decide +kernel
theorem dX4_passesEnd_12 : decode cX4_passesEnd 12 = .ok (.bipush 59, 2) := by decide +kernel
theorem dX4_passesEnd_14 : decode cX4_passesEnd 14 = .ok (.if_icmp .eq 5, 3) := by decide +kernel
theorem dX4_passesEnd_17 : decode cX4_passesEnd 17 = .ok (.iconst 0, 1) := by decide +kernel
theorem dX4_passesEnd_18 : decode cX4_passesEnd 18 = .ok (.ireturn, 1) := by decide +kernel
theorem dX4_passesEnd_19 : decode cX4_passesEnd 19 = .ok (.aload_n 0, 1) := by decide +kernel
theorem dX4_passesEnd_20 : decode cX4_passesEnd 20 = .ok (.dup, 1) := by decide +kernel
theorem dX4_passesEnd_21 : decode cX4_passesEnd 21 = .ok (.getfield 19, 3) := by decide +kernel
theorem dX4_passesEnd_24 : decode cX4_passesEnd 24 = .ok (.iconst 1, 1) := by decide +kernel
theorem dX4_passesEnd_25 : decode cX4_passesEnd 25 = .ok (.iadd, 1) := by decide +kernel
theorem dX4_passesEnd_26 : decode cX4_passesEnd 26 = .ok (.putfield 19, 3) := by decide +kernel
theorem dX4_passesEnd_29 : decode cX4_passesEnd 29 = .ok (.iconst 1, 1) := by decide +kernel
theorem dX4_passesEnd_30 : decode cX4_passesEnd 30 = .ok (.ireturn, 1) := by decide +kernel
set_option maxRecDepth 20000 in
theorem ggX4_numberAhead_X4_skipBlanks : GoodIn wsX4_numberAhead wsX4_skipBlanks := goodIn_r _ [6, 1, 7, 8, 9, 10, 5, 11, 12, 16, 17, 18, 19] rfl (by decide +kernel)
set_option maxRecDepth 20000 in
theorem gX4_numberAhead_X4_skipBlanks : GoodIn wsX4_numberAhead (wsV RX4 31 RX4 yX4_skipBlanks wsX4_skipBlanks) := goodIn_app (goodIn_of _ (by decide +kernel)) ggX4_numberAhead_X4_skipBlanks
set_option maxRecDepth 20000 in
theorem ggX4_numberAhead_X4_letterAt : GoodIn wsX4_numberAhead wsX4_letterAt := goodIn_r _ [11, 7, 12, 16, 17, 18, 19] rfl (by decide +kernel)
set_option maxRecDepth 20000 in
theorem gX4_numberAhead_X4_letterAt : GoodIn wsX4_numberAhead (wsV RX4 38 RX4 yX4_letterAt wsX4_letterAt) := goodIn_app (goodIn_of _ (by decide +kernel)) ggX4_numberAhead_X4_letterAt
set_option maxRecDepth 20000 in
theorem ggX4_numberAhead_X4_isFigure : GoodIn wsX4_numberAhead wsX4_isFigure := goodIn_r _ [15] rfl (by decide +kernel)
set_option maxRecDepth 20000 in
theorem gX4_numberAhead_X4_isFigure : GoodIn wsX4_numberAhead (va_wsS RX4 69 yX4_isFigure wsX4_isFigure) := goodIn_app (goodIn_of _ (by decide +kernel)) ggX4_numberAhead_X4_isFigure
theorem dX4_numberAhead_0 : decode cX4_numberAhead 0 = .ok (.aload_n 0, 1) := by decide +kernel
theorem dX4_numberAhead_1 : decode cX4_numberAhead 1 = .ok (.invokevirtual 31, 3) := by decide +kernel
theorem dX4_numberAhead_4 : decode cX4_numberAhead 4 = .ok (.aload_n 0, 1) := by decide +kernel
theorem dX4_numberAhead_5 : decode cX4_numberAhead 5 = .ok (.aload_n 0, 1) := by decide +kernel
theorem dX4_numberAhead_6 : decode cX4_numberAhead 6 = .ok (.getfield 19, 3) := by decide +kernel
theorem dX4_numberAhead_9 : decode cX4_numberAhead 9 = .ok (.invokevirtual 38, 3) := by decide +kernel
theorem dX4_numberAhead_12 : decode cX4_numberAhead 12 = .ok (.invokestatic 69, 3) := by decide +kernel
theorem dX4_numberAhead_15 : decode cX4_numberAhead 15 = .ok (.ifCond .eq 19, 3) := by decide +kernel
theorem dX4_numberAhead_18 : decode cX4_numberAhead 18 = .ok (.aload_n 0, 1) := by decide +kernel
theorem dX4_numberAhead_19 : decode cX4_numberAhead 19 = .ok (.aload_n 0, 1) := by decide +kernel
theorem dX4_numberAhead_20 : decode cX4_numberAhead 20 = .ok (.getfield 19, 3) := by decide +kernel
theorem dX4_numberAhead_23 : decode cX4_numberAhead 23 = .ok (.iconst 1, 1) := by decide +kernel
theorem dX4_numberAhead_24 : decode cX4_numberAhead 24 = .ok (.iadd, 1) := by decide +kernel
theorem dX4_numberAhead_25 : decode cX4_numberAhead 25 = .ok (.invokevirtual 38, 3) := by decide +kernel
theorem dX4_numberAhead_28 : decode cX4_numberAhead 28 = .ok (.invokestatic 69, 3) := by decide +kernel
theorem dX4_numberAhead_31 : decode cX4_numberAhead 31 = .ok (.ifCond .eq 5, 3) := by decide +kernel
theorem dX4_numberAhead_34 : decode cX4_numberAhead 34 = .ok (.iconst (-1), 1) := by decide +kernel
theorem dX4_numberAhead_35 : decode cX4_numberAhead 35 = .ok (.ireturn, 1) := by decide +kernel
theorem dX4_numberAhead_36 : decode cX4_numberAhead 36 = .ok (.aload_n 0, 1) := by decide +kernel
theorem dX4_numberAhead_37 : decode cX4_numberAhead 37 = .ok (.aload_n 0, 1) := by decide +kernel
theorem dX4_numberAhead_38 : decode cX4_numberAhead 38 = .ok (.getfield 19, 3) := by decide +kernel
theorem dX4_numberAhead_41 : decode cX4_numberAhead 41 = .ok (.invokevirtual 38, 3) := by decide +kernel
theorem dX4_numberAhead_44 : decode cX4_numberAhead 44 = .ok (.bipush 48, 2) := by decide +kernel
theorem dX4_numberAhead_46 : decode cX4_numberAhead 46 = .ok (.isub, 1) := by decide +kernel
theorem dX4_numberAhead_47 : decode cX4_numberAhead 47 = .ok (.istore_n 3, 1) := by decide +kernel
theorem dX4_numberAhead_48 : decode cX4_numberAhead 48 = .ok (.iload_n 3, 1) := by decide +kernel
theorem dX4_numberAhead_49 : decode cX4_numberAhead 49 = .ok (.iload_n 1, 1) := by decide +kernel
theorem dX4_numberAhead_50 : decode cX4_numberAhead 50 = .ok (.if_icmp .lt 12, 3) := by decide +kernel
theorem dX4_numberAhead_53 : decode cX4_numberAhead 53 = .ok (.iload_n 3, 1) := by decide +kernel
theorem dX4_numberAhead_54 : decode cX4_numberAhead 54 = .ok (.iload_n 2, 1) := by decide +kernel
theorem dX4_numberAhead_55 : decode cX4_numberAhead 55 = .ok (.if_icmp .gt 7, 3) := by decide +kernel
theorem dX4_numberAhead_58 : decode cX4_numberAhead 58 = .ok (.iload_n 3, 1) := by decide +kernel
theorem dX4_numberAhead_59 : decode cX4_numberAhead 59 = .ok (.goto 4, 3) := by decide +kernel
theorem dX4_numberAhead_62 : decode cX4_numberAhead 62 = .ok (.iconst (-1), 1) := by decide +kernel
theorem dX4_numberAhead_63 : decode cX4_numberAhead 63 = .ok (.ireturn, 1) := by decide +kernel
set_option maxRecDepth 20000 in
theorem ggX4_skipBlanks_X4_letterAt : GoodIn wsX4_skipBlanks wsX4_letterAt := goodIn_r _ [7, 2, 8, 9, 10, 11, 12] rfl (by decide +kernel)
set_option maxRecDepth 20000 in
theorem gX4_skipBlanks_X4_letterAt : GoodIn wsX4_skipBlanks (wsV RX4 38 RX4 yX4_letterAt wsX4_letterAt) := goodIn_app (goodIn_of _ (by decide +kernel)) ggX4_skipBlanks_X4_letterAt
theorem dX4_skipBlanks_0 : decode cX4_skipBlanks 0 = .ok (.aload_n 0, 1) := by decide +kernel
theorem dX4_skipBlanks_1 : decode cX4_skipBlanks 1 = .ok (.getfield 19, 3) := by decide +kernel
theorem dX4_skipBlanks_4 : decode cX4_skipBlanks 4 = .ok (.aload_n 0, 1) := by decide +kernel
theorem dX4_skipBlanks_5 : decode cX4_skipBlanks 5 = .ok (.getfield 15, 3) := by decide +kernel
theorem dX4_skipBlanks_8 : decode cX4_skipBlanks 8 = .ok (.if_icmp .ge 29, 3) := by decide +kernel
theorem dX4_skipBlanks_11 : decode cX4_skipBlanks 11 = .ok (.aload_n 0, 1) := by decide +kernel
theorem dX4_skipBlanks_12 : decode cX4_skipBlanks 12 = .ok (.aload_n 0, 1) := by decide +kernel
theorem dX4_skipBlanks_13 : decode cX4_skipBlanks 13 = .ok (.getfield 19, 3) := by decide +kernel
theorem dX4_skipBlanks_16 : decode cX4_skipBlanks 16 = .ok (.invokevirtual 38, 3) := by decide +kernel
theorem dX4_skipBlanks_19 : decode cX4_skipBlanks 19 = .ok (.bipush 32, 2) := by decide +kernel
theorem dX4_skipBlanks_21 : decode cX4_skipBlanks 21 = .ok (.if_icmp .ne 16, 3) := by decide +kernel
theorem dX4_skipBlanks_24 : decode cX4_skipBlanks 24 = .ok (.aload_n 0, 1) := by decide +kernel
theorem dX4_skipBlanks_25 : decode cX4_skipBlanks 25 = .ok (.dup, 1) := by decide +kernel
theorem dX4_skipBlanks_26 : decode cX4_skipBlanks 26 = .ok (.getfield 19, 3) := by decide +kernel
theorem dX4_skipBlanks_29 : decode cX4_skipBlanks 29 = .ok (.iconst 1, 1) := by decide +kernel
theorem dX4_skipBlanks_30 : decode cX4_skipBlanks 30 = .ok (.iadd, 1) := by decide +kernel
theorem dX4_skipBlanks_31 : decode cX4_skipBlanks 31 = .ok (.putfield 19, 3) := by decide +kernel
theorem dX4_skipBlanks_34 : decode cX4_skipBlanks 34 = .ok (.goto (-34), 3) := by decide +kernel
theorem dX4_skipBlanks_37 : decode cX4_skipBlanks 37 = .ok (.return_, 1) := by decide +kernel
theorem dX4_letterAt_0 : decode cX4_letterAt 0 = .ok (.iload_n 1, 1) := by decide +kernel
theorem dX4_letterAt_1 : decode cX4_letterAt 1 = .ok (.ifCond .lt 20, 3) := by decide +kernel
theorem dX4_letterAt_4 : decode cX4_letterAt 4 = .ok (.iload_n 1, 1) := by decide +kernel
theorem dX4_letterAt_5 : decode cX4_letterAt 5 = .ok (.aload_n 0, 1) := by decide +kernel
theorem dX4_letterAt_6 : decode cX4_letterAt 6 = .ok (.getfield 15, 3) := by decide +kernel
theorem dX4_letterAt_9 : decode cX4_letterAt 9 = .ok (.if_icmp .ge 12, 3) := by decide +kernel
theorem dX4_letterAt_12 : decode cX4_letterAt 12 = .ok (.aload_n 0, 1) := by decide +kernel
theorem dX4_letterAt_13 : decode cX4_letterAt 13 = .ok (.getfield 9, 3) := by decide +kernel
theorem dX4_letterAt_16 : decode cX4_letterAt 16 = .ok (.iload_n 1, 1) := by decide +kernel
theorem dX4_letterAt_17 : decode cX4_letterAt 17 = .ok (.iaload, 1) := by decide +kernel
theorem dX4_letterAt_18 : decode cX4_letterAt 18 = .ok (.goto 4, 3) := by decide +kernel
theorem dX4_letterAt_21 : decode cX4_letterAt 21 = .ok (.iconst (-1), 1) := by decide +kernel
theorem dX4_letterAt_22 : decode cX4_letterAt 22 = .ok (.ireturn, 1) := by decide +kernel
theorem dX4_isFigure_0 : decode cX4_isFigure 0 = .ok (.iload_n 0, 1) := by decide +kernel
theorem dX4_isFigure_1 : decode cX4_isFigure 1 = .ok (.bipush 48, 2) := by decide +kernel
theorem dX4_isFigure_3 : decode cX4_isFigure 3 = .ok (.if_icmp .lt 13, 3) := by decide +kernel
theorem dX4_isFigure_6 : decode cX4_isFigure 6 = .ok (.iload_n 0, 1) := by decide +kernel
theorem dX4_isFigure_7 : decode cX4_isFigure 7 = .ok (.bipush 57, 2) := by decide +kernel
theorem dX4_isFigure_9 : decode cX4_isFigure 9 = .ok (.if_icmp .gt 7, 3) := by decide +kernel
theorem dX4_isFigure_12 : decode cX4_isFigure 12 = .ok (.iconst 1, 1) := by decide +kernel
theorem dX4_isFigure_13 : decode cX4_isFigure 13 = .ok (.goto 4, 3) := by decide +kernel
theorem dX4_isFigure_16 : decode cX4_isFigure 16 = .ok (.iconst 0, 1) := by decide +kernel
theorem dX4_isFigure_17 : decode cX4_isFigure 17 = .ok (.ireturn, 1) := by decide +kernel
theorem dX5_init_0 : decode cX5_init 0 = .ok (.aload_n 0, 1) := by decide +kernel
theorem dX5_init_1 : decode cX5_init 1 = .ok (.invokespecial 3, 3) := by decide +kernel
theorem dX5_init_4 : decode cX5_init 4 = .ok (.aload_n 0, 1) := by decide +kernel
theorem dX5_init_5 : decode cX5_init 5 = .ok (.sipush 384, 3) := by decide +kernel
theorem dX5_init_8 : decode cX5_init 8 = .ok (.newarray .long, 2) := by decide +kernel
theorem dX5_init_10 : decode cX5_init 10 = .ok (.putfield 11, 3) := by decide +kernel
theorem dX5_init_13 : decode cX5_init 13 = .ok (.aload_n 0, 1) := by decide +kernel
theorem dX5_init_14 : decode cX5_init 14 = .ok (.sipush 384, 3) := by decide +kernel
theorem dX5_init_17 : decode cX5_init 17 = .ok (.newarray .long, 2) := by decide +kernel
theorem dX5_init_19 : decode cX5_init 19 = .ok (.putfield 15, 3) := by decide +kernel
theorem dX5_init_22 : decode cX5_init 22 = .ok (.return_, 1) := by decide +kernel
set_option maxRecDepth 20000 in
theorem ggX5_goes_J7_fill_d0a16 : GoodIn wsX5_goes wsJ7_fill_d0a16 := goodIn_r _ [5] rfl (by decide +kernel)
set_option maxRecDepth 20000 in
theorem gX5_goes_J7_fill_d0a16 : GoodIn wsX5_goes (va_wsS RX5 18 yJ7_fill_d0a16 wsJ7_fill_d0a16) := goodIn_app (goodIn_of _ (by decide +kernel)) ggX5_goes_J7_fill_d0a16
set_option maxRecDepth 20000 in
theorem ggX5_goes_X1_hasNode : GoodIn wsX5_goes wsX1_hasNode := goodIn_r _ [10, 11, 31, 32, 33, 34, 35] rfl (by decide +kernel)
set_option maxRecDepth 20000 in
theorem gX5_goes_X1_hasNode : GoodIn wsX5_goes (wsV RX5 24 RX1 yX1_hasNode wsX1_hasNode) := goodIn_app (goodIn_of _ (by decide +kernel)) ggX5_goes_X1_hasNode
set_option maxRecDepth 20000 in
theorem ggX5_goes_X5_step : GoodIn wsX5_goes wsX5_step := goodIn_r _ [16, 17, 18, 1, 2, 3, 4, 5, 19, 20, 21, 15, 22, 23, 24, 25, 9, 26, 27, 28, 7, 8, 10, 11, 29, 30, 31, 32, 33, 34, 35] rfl (by decide +kernel)
set_option maxRecDepth 20000 in
theorem gX5_goes_X5_step : GoodIn wsX5_goes (wsV RX5 30 RX5 yX5_step wsX5_step) := goodIn_app (goodIn_of _ (by decide +kernel)) ggX5_goes_X5_step
theorem dX5_goes_0 : decode cX5_goes 0 = .ok (.aload_n 0, 1) := by decide +kernel
theorem dX5_goes_1 : decode cX5_goes 1 = .ok (.getfield 11, 3) := by decide +kernel
theorem dX5_goes_4 : decode cX5_goes 4 = .ok (.lconst 0, 1) := by decide +kernel
theorem dX5_goes_5 : decode cX5_goes 5 = .ok (.invokestatic 18, 3) := by decide +kernel
theorem dX5_goes_8 : decode cX5_goes 8 = .ok (.aload_n 1, 1) := by decide +kernel
theorem dX5_goes_9 : decode cX5_goes 9 = .ok (.iload_n 2, 1) := by decide +kernel
theorem dX5_goes_10 : decode cX5_goes 10 = .ok (.invokevirtual 24, 3) := by decide +kernel
theorem dX5_goes_13 : decode cX5_goes 13 = .ok (.ifCond .ne 4, 3) := by decide +kernel
theorem dX5_goes_16 : decode cX5_goes 16 = .ok (.return_, 1) := by decide +kernel
theorem dX5_goes_17 : decode cX5_goes 17 = .ok (.aload_n 0, 1) := by decide +kernel
theorem dX5_goes_18 : decode cX5_goes 18 = .ok (.getfield 11, 3) := by decide +kernel
theorem dX5_goes_21 : decode cX5_goes 21 = .ok (.iload_n 2, 1) := by decide +kernel
theorem dX5_goes_22 : decode cX5_goes 22 = .ok (.bipush 64, 2) := by decide +kernel
theorem dX5_goes_24 : decode cX5_goes 24 = .ok (.imul, 1) := by decide +kernel
theorem dX5_goes_25 : decode cX5_goes 25 = .ok (.iconst 1, 1) := by decide +kernel
theorem dX5_goes_26 : decode cX5_goes 26 = .ok (.iload_n 2, 1) := by decide +kernel
theorem dX5_goes_27 : decode cX5_goes 27 = .ok (.ishl, 1) := by decide +kernel
theorem dX5_goes_28 : decode cX5_goes 28 = .ok (.iadd, 1) := by decide +kernel
theorem dX5_goes_29 : decode cX5_goes 29 = .ok (.lconst 1, 1) := by decide +kernel
theorem dX5_goes_30 : decode cX5_goes 30 = .ok (.lastore, 1) := by decide +kernel
theorem dX5_goes_31 : decode cX5_goes 31 = .ok (.iconst 0, 1) := by decide +kernel
theorem dX5_goes_32 : decode cX5_goes 32 = .ok (.istore 4, 2) := by decide +kernel
theorem dX5_goes_34 : decode cX5_goes 34 = .ok (.iload 4, 2) := by decide +kernel
theorem dX5_goes_36 : decode cX5_goes 36 = .ok (.iload_n 3, 1) := by decide +kernel
theorem dX5_goes_37 : decode cX5_goes 37 = .ok (.if_icmp .ge 14, 3) := by decide +kernel
theorem dX5_goes_40 : decode cX5_goes 40 = .ok (.aload_n 0, 1) := by decide +kernel
theorem dX5_goes_41 : decode cX5_goes 41 = .ok (.aload_n 1, 1) := by decide +kernel
theorem dX5_goes_42 : decode cX5_goes 42 = .ok (.invokevirtual 30, 3) := by decide +kernel
theorem dX5_goes_45 : decode cX5_goes 45 = .ok (.iinc 4 1, 3) := by decide +kernel
theorem dX5_goes_48 : decode cX5_goes 48 = .ok (.goto (-14), 3) := by decide +kernel
theorem dX5_goes_51 : decode cX5_goes 51 = .ok (.return_, 1) := by decide +kernel
set_option maxRecDepth 20000 in
theorem ggX5_step_J7_fill_d0a16 : GoodIn wsX5_step wsJ7_fill_d0a16 := goodIn_r _ [7] rfl (by decide +kernel)
set_option maxRecDepth 20000 in
theorem gX5_step_J7_fill_d0a16 : GoodIn wsX5_step (va_wsS RX5 18 yJ7_fill_d0a16 wsJ7_fill_d0a16) := goodIn_app (goodIn_of _ (by decide +kernel)) ggX5_step_J7_fill_d0a16
set_option maxRecDepth 20000 in
theorem ggX5_step_X5_spread : GoodIn wsX5_step wsX5_spread := goodIn_r _ [12, 2, 1, 13, 14, 15, 16, 17, 18, 19, 20, 21, 22, 23, 26, 27, 28, 29, 30, 24, 25] rfl (by decide +kernel)
set_option maxRecDepth 20000 in
theorem gX5_step_X5_spread : GoodIn wsX5_step (wsV RX5 38 RX5 yX5_spread wsX5_spread) := goodIn_app (goodIn_of _ (by decide +kernel)) ggX5_step_X5_spread
theorem dX5_step_0 : decode cX5_step 0 = .ok (.aload_n 0, 1) := by decide +kernel
theorem dX5_step_1 : decode cX5_step 1 = .ok (.getfield 15, 3) := by decide +kernel
theorem dX5_step_4 : decode cX5_step 4 = .ok (.lconst 0, 1) := by decide +kernel
theorem dX5_step_5 : decode cX5_step 5 = .ok (.invokestatic 18, 3) := by decide +kernel
theorem dX5_step_8 : decode cX5_step 8 = .ok (.iconst 0, 1) := by decide +kernel
theorem dX5_step_9 : decode cX5_step 9 = .ok (.istore_n 2, 1) := by decide +kernel
theorem dX5_step_10 : decode cX5_step 10 = .ok (.iload_n 2, 1) := by decide +kernel
theorem dX5_step_11 : decode cX5_step 11 = .ok (.aload_n 1, 1) := by decide +kernel
theorem dX5_step_12 : decode cX5_step 12 = .ok (.getfield 34, 3) := by decide +kernel
theorem dX5_step_15 : decode cX5_step 15 = .ok (.if_icmp .ge 56, 3) := by decide +kernel
theorem dX5_step_18 : decode cX5_step 18 = .ok (.iconst 0, 1) := by decide +kernel
theorem dX5_step_19 : decode cX5_step 19 = .ok (.istore_n 3, 1) := by decide +kernel
theorem dX5_step_20 : decode cX5_step 20 = .ok (.iload_n 3, 1) := by decide +kernel
theorem dX5_step_21 : decode cX5_step 21 = .ok (.iconst 1, 1) := by decide +kernel
theorem dX5_step_22 : decode cX5_step 22 = .ok (.aload_n 1, 1) := by decide +kernel
theorem dX5_step_23 : decode cX5_step 23 = .ok (.getfield 34, 3) := by decide +kernel
theorem dX5_step_26 : decode cX5_step 26 = .ok (.ishl, 1) := by decide +kernel
theorem dX5_step_27 : decode cX5_step 27 = .ok (.if_icmp .ge 38, 3) := by decide +kernel
theorem dX5_step_30 : decode cX5_step 30 = .ok (.aload_n 0, 1) := by decide +kernel
theorem dX5_step_31 : decode cX5_step 31 = .ok (.getfield 11, 3) := by decide +kernel
theorem dX5_step_34 : decode cX5_step 34 = .ok (.iload_n 2, 1) := by decide +kernel
theorem dX5_step_35 : decode cX5_step 35 = .ok (.bipush 64, 2) := by decide +kernel
theorem dX5_step_37 : decode cX5_step 37 = .ok (.imul, 1) := by decide +kernel
theorem dX5_step_38 : decode cX5_step 38 = .ok (.iload_n 3, 1) := by decide +kernel
theorem dX5_step_39 : decode cX5_step 39 = .ok (.iadd, 1) := by decide +kernel
theorem dX5_step_40 : decode cX5_step 40 = .ok (.laload, 1) := by decide +kernel
theorem dX5_step_41 : decode cX5_step 41 = .ok (.lstore 4, 2) := by decide +kernel
theorem dX5_step_43 : decode cX5_step 43 = .ok (.lload 4, 2) := by decide +kernel
theorem dX5_step_45 : decode cX5_step 45 = .ok (.lconst 0, 1) := by decide +kernel
theorem dX5_step_46 : decode cX5_step 46 = .ok (.lcmp, 1) := by decide +kernel
theorem dX5_step_47 : decode cX5_step 47 = .ok (.ifCond .eq 12, 3) := by decide +kernel
theorem dX5_step_50 : decode cX5_step 50 = .ok (.aload_n 0, 1) := by decide +kernel
theorem dX5_step_51 : decode cX5_step 51 = .ok (.aload_n 1, 1) := by decide +kernel
theorem dX5_step_52 : decode cX5_step 52 = .ok (.iload_n 2, 1) := by decide +kernel
theorem dX5_step_53 : decode cX5_step 53 = .ok (.iload_n 3, 1) := by decide +kernel
theorem dX5_step_54 : decode cX5_step 54 = .ok (.lload 4, 2) := by decide +kernel
theorem dX5_step_56 : decode cX5_step 56 = .ok (.invokevirtual 38, 3) := by decide +kernel
theorem dX5_step_59 : decode cX5_step 59 = .ok (.iinc 3 1, 3) := by decide +kernel
theorem dX5_step_62 : decode cX5_step 62 = .ok (.goto (-42), 3) := by decide +kernel
theorem dX5_step_65 : decode cX5_step 65 = .ok (.iinc 2 1, 3) := by decide +kernel
theorem dX5_step_68 : decode cX5_step 68 = .ok (.goto (-58), 3) := by decide +kernel
theorem dX5_step_71 : decode cX5_step 71 = .ok (.aload_n 0, 1) := by decide +kernel
theorem dX5_step_72 : decode cX5_step 72 = .ok (.getfield 11, 3) := by decide +kernel
theorem dX5_step_75 : decode cX5_step 75 = .ok (.astore_n 2, 1) := by decide +kernel
theorem dX5_step_76 : decode cX5_step 76 = .ok (.aload_n 0, 1) := by decide +kernel
theorem dX5_step_77 : decode cX5_step 77 = .ok (.aload_n 0, 1) := by decide +kernel
theorem dX5_step_78 : decode cX5_step 78 = .ok (.getfield 15, 3) := by decide +kernel
theorem dX5_step_81 : decode cX5_step 81 = .ok (.putfield 11, 3) := by decide +kernel
theorem dX5_step_84 : decode cX5_step 84 = .ok (.aload_n 0, 1) := by decide +kernel
theorem dX5_step_85 : decode cX5_step 85 = .ok (.aload_n 2, 1) := by decide +kernel
theorem dX5_step_86 : decode cX5_step 86 = .ok (.putfield 15, 3) := by decide +kernel
theorem dX5_step_89 : decode cX5_step 89 = .ok (.return_, 1) := by decide +kernel
set_option maxRecDepth 20000 in
theorem ggX5_spread_X1_widthAt : GoodIn wsX5_spread wsX1_widthAt := goodIn_r _ [7, 8, 9, 10, 11, 6, 12, 13, 14, 15, 16, 17, 18] rfl (by decide +kernel)
set_option maxRecDepth 20000 in
theorem gX5_spread_X1_widthAt : GoodIn wsX5_spread (wsV RX5 42 RX1 yX1_widthAt wsX1_widthAt) := goodIn_app (goodIn_of _ (by decide +kernel)) ggX5_spread_X1_widthAt
theorem dX5_spread_0 : decode cX5_spread 0 = .ok (.iconst 0, 1) := by decide +kernel
theorem dX5_spread_1 : decode cX5_spread 1 = .ok (.istore 6, 2) := by decide +kernel
theorem dX5_spread_3 : decode cX5_spread 3 = .ok (.iload 6, 2) := by decide +kernel
theorem dX5_spread_5 : decode cX5_spread 5 = .ok (.aload_n 1, 1) := by decide +kernel
theorem dX5_spread_6 : decode cX5_spread 6 = .ok (.getfield 34, 3) := by decide +kernel
theorem dX5_spread_9 : decode cX5_spread 9 = .ok (.if_icmp .ge 54, 3) := by decide +kernel
theorem dX5_spread_12 : decode cX5_spread 12 = .ok (.iload 6, 2) := by decide +kernel
theorem dX5_spread_14 : decode cX5_spread 14 = .ok (.bipush 64, 2) := by decide +kernel
theorem dX5_spread_16 : decode cX5_spread 16 = .ok (.imul, 1) := by decide +kernel
theorem dX5_spread_17 : decode cX5_spread 17 = .ok (.iload_n 3, 1) := by decide +kernel
theorem dX5_spread_18 : decode cX5_spread 18 = .ok (.iconst 1, 1) := by decide +kernel
theorem dX5_spread_19 : decode cX5_spread 19 = .ok (.iload 6, 2) := by decide +kernel
theorem dX5_spread_21 : decode cX5_spread 21 = .ok (.ishl, 1) := by decide +kernel
theorem dX5_spread_22 : decode cX5_spread 22 = .ok (.ior, 1) := by decide +kernel
theorem dX5_spread_23 : decode cX5_spread 23 = .ok (.iadd, 1) := by decide +kernel
theorem dX5_spread_24 : decode cX5_spread 24 = .ok (.istore 7, 2) := by decide +kernel
theorem dX5_spread_26 : decode cX5_spread 26 = .ok (.iload 7, 2) := by decide +kernel
theorem dX5_spread_28 : decode cX5_spread 28 = .ok (.aload_n 0, 1) := by decide +kernel
theorem dX5_spread_29 : decode cX5_spread 29 = .ok (.getfield 15, 3) := by decide +kernel
theorem dX5_spread_32 : decode cX5_spread 32 = .ok (.arraylength, 1) := by decide +kernel
theorem dX5_spread_33 : decode cX5_spread 33 = .ok (.if_icmp .ge 24, 3) := by decide +kernel
theorem dX5_spread_36 : decode cX5_spread 36 = .ok (.aload_n 0, 1) := by decide +kernel
theorem dX5_spread_37 : decode cX5_spread 37 = .ok (.getfield 15, 3) := by decide +kernel
theorem dX5_spread_40 : decode cX5_spread 40 = .ok (.iload 7, 2) := by decide +kernel
theorem dX5_spread_42 : decode cX5_spread 42 = .ok (.dup2, 1) := by decide +kernel
theorem dX5_spread_43 : decode cX5_spread 43 = .ok (.laload, 1) := by decide +kernel
theorem dX5_spread_44 : decode cX5_spread 44 = .ok (.lload 4, 2) := by decide +kernel
theorem dX5_spread_46 : decode cX5_spread 46 = .ok (.aload_n 1, 1) := by decide +kernel
theorem dX5_spread_47 : decode cX5_spread 47 = .ok (.iload_n 2, 1) := by decide +kernel
theorem dX5_spread_48 : decode cX5_spread 48 = .ok (.iload 6, 2) := by decide +kernel
theorem dX5_spread_50 : decode cX5_spread 50 = .ok (.invokevirtual 42, 3) := by decide +kernel
theorem dX5_spread_53 : decode cX5_spread 53 = .ok (.i2l, 1) := by decide +kernel
theorem dX5_spread_54 : decode cX5_spread 54 = .ok (.lmul, 1) := by decide +kernel
theorem dX5_spread_55 : decode cX5_spread 55 = .ok (.ladd, 1) := by decide +kernel
theorem dX5_spread_56 : decode cX5_spread 56 = .ok (.lastore, 1) := by decide +kernel
theorem dX5_spread_57 : decode cX5_spread 57 = .ok (.iinc 6 1, 3) := by decide +kernel
theorem dX5_spread_60 : decode cX5_spread 60 = .ok (.goto (-57), 3) := by decide +kernel
theorem dX5_spread_63 : decode cX5_spread 63 = .ok (.return_, 1) := by decide +kernel
theorem dX5_sum_0 : decode cX5_sum 0 = .ok (.lconst 0, 1) := by decide +kernel
theorem dX5_sum_1 : decode cX5_sum 1 = .ok (.lstore 4, 2) := by decide +kernel
theorem dX5_sum_3 : decode cX5_sum 3 = .ok (.iconst 1, 1) := by decide +kernel
theorem dX5_sum_4 : decode cX5_sum 4 = .ok (.aload_n 1, 1) := by decide +kernel
theorem dX5_sum_5 : decode cX5_sum 5 = .ok (.getfield 34, 3) := by decide +kernel
theorem dX5_sum_8 : decode cX5_sum 8 = .ok (.ishl, 1) := by decide +kernel
theorem dX5_sum_9 : decode cX5_sum 9 = .ok (.iconst 1, 1) := by decide +kernel
theorem dX5_sum_10 : decode cX5_sum 10 = .ok (.isub, 1) := by decide +kernel
theorem dX5_sum_11 : decode cX5_sum 11 = .ok (.istore 6, 2) := by decide +kernel
theorem dX5_sum_13 : decode cX5_sum 13 = .ok (.iconst 0, 1) := by decide +kernel
theorem dX5_sum_14 : decode cX5_sum 14 = .ok (.istore 7, 2) := by decide +kernel
theorem dX5_sum_16 : decode cX5_sum 16 = .ok (.iload 7, 2) := by decide +kernel
theorem dX5_sum_18 : decode cX5_sum 18 = .ok (.aload_n 1, 1) := by decide +kernel
theorem dX5_sum_19 : decode cX5_sum 19 = .ok (.getfield 34, 3) := by decide +kernel
theorem dX5_sum_22 : decode cX5_sum 22 = .ok (.if_icmp .ge 70, 3) := by decide +kernel
theorem dX5_sum_25 : decode cX5_sum 25 = .ok (.iconst 0, 1) := by decide +kernel
theorem dX5_sum_26 : decode cX5_sum 26 = .ok (.istore 8, 2) := by decide +kernel
theorem dX5_sum_28 : decode cX5_sum 28 = .ok (.iload 8, 2) := by decide +kernel
theorem dX5_sum_30 : decode cX5_sum 30 = .ok (.iload 6, 2) := by decide +kernel
theorem dX5_sum_32 : decode cX5_sum 32 = .ok (.if_icmp .gt 54, 3) := by decide +kernel
theorem dX5_sum_35 : decode cX5_sum 35 = .ok (.iload_n 3, 1) := by decide +kernel
theorem dX5_sum_36 : decode cX5_sum 36 = .ok (.ifCond .eq 26, 3) := by decide +kernel
theorem dX5_sum_39 : decode cX5_sum 39 = .ok (.iload_n 3, 1) := by decide +kernel
theorem dX5_sum_40 : decode cX5_sum 40 = .ok (.iconst 1, 1) := by decide +kernel
theorem dX5_sum_41 : decode cX5_sum 41 = .ok (.if_icmp .ne 9, 3) := by decide +kernel
theorem dX5_sum_44 : decode cX5_sum 44 = .ok (.iload 7, 2) := by decide +kernel
theorem dX5_sum_46 : decode cX5_sum 46 = .ok (.iload_n 2, 1) := by decide +kernel
theorem dX5_sum_47 : decode cX5_sum 47 = .ok (.if_icmp .eq 15, 3) := by decide +kernel
theorem dX5_sum_50 : decode cX5_sum 50 = .ok (.iload_n 3, 1) := by decide +kernel
theorem dX5_sum_51 : decode cX5_sum 51 = .ok (.iconst 2, 1) := by decide +kernel
theorem dX5_sum_52 : decode cX5_sum 52 = .ok (.if_icmp .ne 28, 3) := by decide +kernel
theorem dX5_sum_55 : decode cX5_sum 55 = .ok (.iload 8, 2) := by decide +kernel
theorem dX5_sum_57 : decode cX5_sum 57 = .ok (.iload 6, 2) := by decide +kernel
theorem dX5_sum_59 : decode cX5_sum 59 = .ok (.if_icmp .ne 21, 3) := by decide +kernel
theorem dX5_sum_62 : decode cX5_sum 62 = .ok (.lload 4, 2) := by decide +kernel
theorem dX5_sum_64 : decode cX5_sum 64 = .ok (.aload_n 0, 1) := by decide +kernel
theorem dX5_sum_65 : decode cX5_sum 65 = .ok (.getfield 11, 3) := by decide +kernel
theorem dX5_sum_68 : decode cX5_sum 68 = .ok (.iload 7, 2) := by decide +kernel
theorem dX5_sum_70 : decode cX5_sum 70 = .ok (.bipush 64, 2) := by decide +kernel
theorem dX5_sum_72 : decode cX5_sum 72 = .ok (.imul, 1) := by decide +kernel
theorem dX5_sum_73 : decode cX5_sum 73 = .ok (.iload 8, 2) := by decide +kernel
theorem dX5_sum_75 : decode cX5_sum 75 = .ok (.iadd, 1) := by decide +kernel
theorem dX5_sum_76 : decode cX5_sum 76 = .ok (.laload, 1) := by decide +kernel
theorem dX5_sum_77 : decode cX5_sum 77 = .ok (.ladd, 1) := by decide +kernel
theorem dX5_sum_78 : decode cX5_sum 78 = .ok (.lstore 4, 2) := by decide +kernel
theorem dX5_sum_80 : decode cX5_sum 80 = .ok (.iinc 8 1, 3) := by decide +kernel
theorem dX5_sum_83 : decode cX5_sum 83 = .ok (.goto (-55), 3) := by decide +kernel
theorem dX5_sum_86 : decode cX5_sum 86 = .ok (.iinc 7 1, 3) := by decide +kernel
theorem dX5_sum_89 : decode cX5_sum 89 = .ok (.goto (-73), 3) := by decide +kernel
theorem dX5_sum_92 : decode cX5_sum 92 = .ok (.lload 4, 2) := by decide +kernel
theorem dX5_sum_94 : decode cX5_sum 94 = .ok (.lreturn, 1) := by decide +kernel
