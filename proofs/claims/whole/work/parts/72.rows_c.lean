theorem dX7_init_0 : decode cX7_init 0 = .ok (.aload_n 0, 1) := by decide +kernel
theorem dX7_init_1 : decode cX7_init 1 = .ok (.invokespecial 1, 3) := by decide +kernel
theorem dX7_init_4 : decode cX7_init 4 = .ok (.aload_n 0, 1) := by decide +kernel
theorem dX7_init_5 : decode cX7_init 5 = .ok (.sipush 496, 3) := by decide +kernel
theorem dX7_init_8 : decode cX7_init 8 = .ok (.newarray .int, 2) := by decide +kernel
theorem dX7_init_10 : decode cX7_init 10 = .ok (.putfield 7, 3) := by decide +kernel
theorem dX7_init_13 : decode cX7_init 13 = .ok (.aload_n 0, 1) := by decide +kernel
theorem dX7_init_14 : decode cX7_init 14 = .ok (.iconst 2, 1) := by decide +kernel
theorem dX7_init_15 : decode cX7_init 15 = .ok (.putfield 13, 3) := by decide +kernel
theorem dX7_init_18 : decode cX7_init 18 = .ok (.aload_n 0, 1) := by decide +kernel
theorem dX7_init_19 : decode cX7_init 19 = .ok (.iconst 2, 1) := by decide +kernel
theorem dX7_init_20 : decode cX7_init 20 = .ok (.newarray .boolean, 2) := by decide +kernel
theorem dX7_init_22 : decode cX7_init 22 = .ok (.putfield 17, 3) := by decide +kernel
theorem dX7_init_25 : decode cX7_init 25 = .ok (.aload_n 0, 1) := by decide +kernel
theorem dX7_init_26 : decode cX7_init 26 = .ok (.bipush 80, 2) := by decide +kernel
theorem dX7_init_28 : decode cX7_init 28 = .ok (.newarray .int, 2) := by decide +kernel
theorem dX7_init_30 : decode cX7_init 30 = .ok (.putfield 21, 3) := by decide +kernel
theorem dX7_init_33 : decode cX7_init 33 = .ok (.aload_n 0, 1) := by decide +kernel
theorem dX7_init_34 : decode cX7_init 34 = .ok (.bipush 6, 2) := by decide +kernel
theorem dX7_init_36 : decode cX7_init 36 = .ok (.newarray .long, 2) := by decide +kernel
theorem dX7_init_38 : decode cX7_init 38 = .ok (.putfield 24, 3) := by decide +kernel
theorem dX7_init_41 : decode cX7_init 41 = .ok (.aload_n 0, 1) := by decide +kernel
theorem dX7_init_42 : decode cX7_init 42 = .ok (.iconst 3, 1) := by decide +kernel
theorem dX7_init_43 : decode cX7_init 43 = .ok (.newarray .int, 2) := by decide +kernel
theorem dX7_init_45 : decode cX7_init 45 = .ok (.putfield 28, 3) := by decide +kernel
theorem dX7_init_48 : decode cX7_init 48 = .ok (.aload_n 0, 1) := by decide +kernel
theorem dX7_init_49 : decode cX7_init 49 = .ok (.bipush 6, 2) := by decide +kernel
theorem dX7_init_51 : decode cX7_init 51 = .ok (.newarray .int, 2) := by decide +kernel
theorem dX7_init_53 : decode cX7_init 53 = .ok (.putfield 31, 3) := by decide +kernel
theorem dX7_init_56 : decode cX7_init 56 = .ok (.aload_n 0, 1) := by decide +kernel
theorem dX7_init_57 : decode cX7_init 57 = .ok (.bipush 6, 2) := by decide +kernel
theorem dX7_init_59 : decode cX7_init 59 = .ok (.newarray .long, 2) := by decide +kernel
theorem dX7_init_61 : decode cX7_init 61 = .ok (.putfield 34, 3) := by decide +kernel
theorem dX7_init_64 : decode cX7_init 64 = .ok (.aload_n 0, 1) := by decide +kernel
theorem dX7_init_65 : decode cX7_init 65 = .ok (.bipush 6, 2) := by decide +kernel
theorem dX7_init_67 : decode cX7_init 67 = .ok (.newarray .long, 2) := by decide +kernel
theorem dX7_init_69 : decode cX7_init 69 = .ok (.putfield 37, 3) := by decide +kernel
theorem dX7_init_72 : decode cX7_init 72 = .ok (.aload_n 0, 1) := by decide +kernel
theorem dX7_init_73 : decode cX7_init 73 = .ok (.bipush 36, 2) := by decide +kernel
theorem dX7_init_75 : decode cX7_init 75 = .ok (.newarray .long, 2) := by decide +kernel
theorem dX7_init_77 : decode cX7_init 77 = .ok (.putfield 40, 3) := by decide +kernel
theorem dX7_init_80 : decode cX7_init 80 = .ok (.aload_n 0, 1) := by decide +kernel
theorem dX7_init_81 : decode cX7_init 81 = .ok (.bipush 36, 2) := by decide +kernel
theorem dX7_init_83 : decode cX7_init 83 = .ok (.newarray .long, 2) := by decide +kernel
theorem dX7_init_85 : decode cX7_init 85 = .ok (.putfield 43, 3) := by decide +kernel
theorem dX7_init_88 : decode cX7_init 88 = .ok (.return_, 1) := by decide +kernel
theorem dX7_in_0 : decode cX7_in 0 = .ok (.lload_n 0, 1) := by decide +kernel
theorem dX7_in_1 : decode cX7_in 1 = .ok (.lload_n 2, 1) := by decide +kernel
theorem dX7_in_2 : decode cX7_in 2 = .ok (.lcmp, 1) := by decide +kernel
theorem dX7_in_3 : decode cX7_in 3 = .ok (.ifCond .lt 14, 3) := by decide +kernel
theorem dX7_in_6 : decode cX7_in 6 = .ok (.lload_n 0, 1) := by decide +kernel
theorem dX7_in_7 : decode cX7_in 7 = .ok (.lload 4, 2) := by decide +kernel
theorem dX7_in_9 : decode cX7_in 9 = .ok (.lcmp, 1) := by decide +kernel
theorem dX7_in_10 : decode cX7_in 10 = .ok (.ifCond .gt 7, 3) := by decide +kernel
theorem dX7_in_13 : decode cX7_in 13 = .ok (.iconst 1, 1) := by decide +kernel
theorem dX7_in_14 : decode cX7_in 14 = .ok (.goto 4, 3) := by decide +kernel
theorem dX7_in_17 : decode cX7_in 17 = .ok (.iconst 0, 1) := by decide +kernel
theorem dX7_in_18 : decode cX7_in 18 = .ok (.ireturn, 1) := by decide +kernel
theorem dX7_copyRow_0 : decode cX7_copyRow 0 = .ok (.iconst 0, 1) := by decide +kernel
theorem dX7_copyRow_1 : decode cX7_copyRow 1 = .ok (.istore_n 3, 1) := by decide +kernel
theorem dX7_copyRow_2 : decode cX7_copyRow 2 = .ok (.iload_n 3, 1) := by decide +kernel
theorem dX7_copyRow_3 : decode cX7_copyRow 3 = .ok (.bipush 31, 2) := by decide +kernel
theorem dX7_copyRow_5 : decode cX7_copyRow 5 = .ok (.if_icmp .ge 25, 3) := by decide +kernel
theorem dX7_copyRow_8 : decode cX7_copyRow 8 = .ok (.aload_n 0, 1) := by decide +kernel
theorem dX7_copyRow_9 : decode cX7_copyRow 9 = .ok (.getfield 7, 3) := by decide +kernel
theorem dX7_copyRow_12 : decode cX7_copyRow 12 = .ok (.iload_n 2, 1) := by decide +kernel
theorem dX7_copyRow_13 : decode cX7_copyRow 13 = .ok (.iload_n 3, 1) := by decide +kernel
theorem dX7_copyRow_14 : decode cX7_copyRow 14 = .ok (.iadd, 1) := by decide +kernel
theorem dX7_copyRow_15 : decode cX7_copyRow 15 = .ok (.aload_n 0, 1) := by decide +kernel
theorem dX7_copyRow_16 : decode cX7_copyRow 16 = .ok (.getfield 7, 3) := by decide +kernel
theorem dX7_copyRow_19 : decode cX7_copyRow 19 = .ok (.iload_n 1, 1) := by decide +kernel
theorem dX7_copyRow_20 : decode cX7_copyRow 20 = .ok (.iload_n 3, 1) := by decide +kernel
theorem dX7_copyRow_21 : decode cX7_copyRow 21 = .ok (.iadd, 1) := by decide +kernel
theorem dX7_copyRow_22 : decode cX7_copyRow 22 = .ok (.iaload, 1) := by decide +kernel
theorem dX7_copyRow_23 : decode cX7_copyRow 23 = .ok (.iastore, 1) := by decide +kernel
theorem dX7_copyRow_24 : decode cX7_copyRow 24 = .ok (.iinc 3 1, 3) := by decide +kernel
theorem dX7_copyRow_27 : decode cX7_copyRow 27 = .ok (.goto (-25), 3) := by decide +kernel
theorem dX7_copyRow_30 : decode cX7_copyRow 30 = .ok (.return_, 1) := by decide +kernel
theorem dX7_lines_0 : decode cX7_lines 0 = .ok (.aload_n 0, 1) := by decide +kernel
theorem dX7_lines_1 : decode cX7_lines 1 = .ok (.getfield 7, 3) := by decide +kernel
theorem dX7_lines_4 : decode cX7_lines 4 = .ok (.iconst 0, 1) := by decide +kernel
theorem dX7_lines_5 : decode cX7_lines 5 = .ok (.iaload, 1) := by decide +kernel
theorem dX7_lines_6 : decode cX7_lines 6 = .ok (.ireturn, 1) := by decide +kernel
theorem dX7_lineOf_0 : decode cX7_lineOf 0 = .ok (.iload_n 2, 1) := by decide +kernel
theorem dX7_lineOf_1 : decode cX7_lineOf 1 = .ok (.iload_n 3, 1) := by decide +kernel
theorem dX7_lineOf_2 : decode cX7_lineOf 2 = .ok (.if_icmp .ge 7, 3) := by decide +kernel
theorem dX7_lineOf_5 : decode cX7_lineOf 5 = .ok (.iload_n 2, 1) := by decide +kernel
theorem dX7_lineOf_6 : decode cX7_lineOf 6 = .ok (.goto 4, 3) := by decide +kernel
theorem dX7_lineOf_9 : decode cX7_lineOf 9 = .ok (.iload_n 3, 1) := by decide +kernel
theorem dX7_lineOf_10 : decode cX7_lineOf 10 = .ok (.istore 4, 2) := by decide +kernel
theorem dX7_lineOf_12 : decode cX7_lineOf 12 = .ok (.bipush (-9), 2) := by decide +kernel
theorem dX7_lineOf_14 : decode cX7_lineOf 14 = .ok (.istore 5, 2) := by decide +kernel
theorem dX7_lineOf_16 : decode cX7_lineOf 16 = .ok (.iconst 0, 1) := by decide +kernel
theorem dX7_lineOf_17 : decode cX7_lineOf 17 = .ok (.istore 6, 2) := by decide +kernel
theorem dX7_lineOf_19 : decode cX7_lineOf 19 = .ok (.iload 6, 2) := by decide +kernel
theorem dX7_lineOf_21 : decode cX7_lineOf 21 = .ok (.aload_n 0, 1) := by decide +kernel
theorem dX7_lineOf_22 : decode cX7_lineOf 22 = .ok (.getfield 7, 3) := by decide +kernel
theorem dX7_lineOf_25 : decode cX7_lineOf 25 = .ok (.iload_n 1, 1) := by decide +kernel
theorem dX7_lineOf_26 : decode cX7_lineOf 26 = .ok (.iconst 0, 1) := by decide +kernel
theorem dX7_lineOf_27 : decode cX7_lineOf 27 = .ok (.iadd, 1) := by decide +kernel
theorem dX7_lineOf_28 : decode cX7_lineOf 28 = .ok (.iaload, 1) := by decide +kernel
theorem dX7_lineOf_29 : decode cX7_lineOf 29 = .ok (.if_icmp .ge 55, 3) := by decide +kernel
theorem dX7_lineOf_32 : decode cX7_lineOf 32 = .ok (.aload_n 0, 1) := by decide +kernel
theorem dX7_lineOf_33 : decode cX7_lineOf 33 = .ok (.getfield 7, 3) := by decide +kernel
theorem dX7_lineOf_36 : decode cX7_lineOf 36 = .ok (.iload_n 1, 1) := by decide +kernel
theorem dX7_lineOf_37 : decode cX7_lineOf 37 = .ok (.iconst 1, 1) := by decide +kernel
theorem dX7_lineOf_38 : decode cX7_lineOf 38 = .ok (.iadd, 1) := by decide +kernel
theorem dX7_lineOf_39 : decode cX7_lineOf 39 = .ok (.iload 6, 2) := by decide +kernel
theorem dX7_lineOf_41 : decode cX7_lineOf 41 = .ok (.iadd, 1) := by decide +kernel
theorem dX7_lineOf_42 : decode cX7_lineOf 42 = .ok (.iaload, 1) := by decide +kernel
theorem dX7_lineOf_43 : decode cX7_lineOf 43 = .ok (.iload 4, 2) := by decide +kernel
theorem dX7_lineOf_45 : decode cX7_lineOf 45 = .ok (.if_icmp .ne 29, 3) := by decide +kernel
theorem dX7_lineOf_48 : decode cX7_lineOf 48 = .ok (.aload_n 0, 1) := by decide +kernel
theorem dX7_lineOf_49 : decode cX7_lineOf 49 = .ok (.getfield 7, 3) := by decide +kernel
theorem dX7_lineOf_52 : decode cX7_lineOf 52 = .ok (.iload_n 1, 1) := by decide +kernel
theorem dX7_lineOf_53 : decode cX7_lineOf 53 = .ok (.bipush 11, 2) := by decide +kernel
theorem dX7_lineOf_55 : decode cX7_lineOf 55 = .ok (.iadd, 1) := by decide +kernel
theorem dX7_lineOf_56 : decode cX7_lineOf 56 = .ok (.iload 6, 2) := by decide +kernel
theorem dX7_lineOf_58 : decode cX7_lineOf 58 = .ok (.iadd, 1) := by decide +kernel
theorem dX7_lineOf_59 : decode cX7_lineOf 59 = .ok (.iaload, 1) := by decide +kernel
theorem dX7_lineOf_60 : decode cX7_lineOf 60 = .ok (.iload_n 2, 1) := by decide +kernel
theorem dX7_lineOf_61 : decode cX7_lineOf 61 = .ok (.iload_n 3, 1) := by decide +kernel
theorem dX7_lineOf_62 : decode cX7_lineOf 62 = .ok (.iadd, 1) := by decide +kernel
theorem dX7_lineOf_63 : decode cX7_lineOf 63 = .ok (.iload 4, 2) := by decide +kernel
theorem dX7_lineOf_65 : decode cX7_lineOf 65 = .ok (.isub, 1) := by decide +kernel
theorem dX7_lineOf_66 : decode cX7_lineOf 66 = .ok (.if_icmp .ne 8, 3) := by decide +kernel
theorem dX7_lineOf_69 : decode cX7_lineOf 69 = .ok (.iload 6, 2) := by decide +kernel
theorem dX7_lineOf_71 : decode cX7_lineOf 71 = .ok (.goto 5, 3) := by decide +kernel
theorem dX7_lineOf_74 : decode cX7_lineOf 74 = .ok (.iload 5, 2) := by decide +kernel
theorem dX7_lineOf_76 : decode cX7_lineOf 76 = .ok (.istore 5, 2) := by decide +kernel
theorem dX7_lineOf_78 : decode cX7_lineOf 78 = .ok (.iinc 6 1, 3) := by decide +kernel
theorem dX7_lineOf_81 : decode cX7_lineOf 81 = .ok (.goto (-62), 3) := by decide +kernel
theorem dX7_lineOf_84 : decode cX7_lineOf 84 = .ok (.iload 5, 2) := by decide +kernel
theorem dX7_lineOf_86 : decode cX7_lineOf 86 = .ok (.ireturn, 1) := by decide +kernel
theorem dX7_adds_0 : decode cX7_adds 0 = .ok (.iload_n 2, 1) := by decide +kernel
theorem dX7_adds_1 : decode cX7_adds 1 = .ok (.iload_n 3, 1) := by decide +kernel
theorem dX7_adds_2 : decode cX7_adds 2 = .ok (.if_icmp .ge 7, 3) := by decide +kernel
theorem dX7_adds_5 : decode cX7_adds 5 = .ok (.iload_n 2, 1) := by decide +kernel
theorem dX7_adds_6 : decode cX7_adds 6 = .ok (.goto 4, 3) := by decide +kernel
theorem dX7_adds_9 : decode cX7_adds 9 = .ok (.iload_n 3, 1) := by decide +kernel
theorem dX7_adds_10 : decode cX7_adds 10 = .ok (.istore 5, 2) := by decide +kernel
theorem dX7_adds_12 : decode cX7_adds 12 = .ok (.iload_n 2, 1) := by decide +kernel
theorem dX7_adds_13 : decode cX7_adds 13 = .ok (.iload_n 3, 1) := by decide +kernel
theorem dX7_adds_14 : decode cX7_adds 14 = .ok (.iadd, 1) := by decide +kernel
theorem dX7_adds_15 : decode cX7_adds 15 = .ok (.iload 5, 2) := by decide +kernel
theorem dX7_adds_17 : decode cX7_adds 17 = .ok (.isub, 1) := by decide +kernel
theorem dX7_adds_18 : decode cX7_adds 18 = .ok (.istore 6, 2) := by decide +kernel
theorem dX7_adds_20 : decode cX7_adds 20 = .ok (.aload_n 0, 1) := by decide +kernel
theorem dX7_adds_21 : decode cX7_adds 21 = .ok (.getfield 7, 3) := by decide +kernel
theorem dX7_adds_24 : decode cX7_adds 24 = .ok (.iload_n 1, 1) := by decide +kernel
theorem dX7_adds_25 : decode cX7_adds 25 = .ok (.iconst 0, 1) := by decide +kernel
theorem dX7_adds_26 : decode cX7_adds 26 = .ok (.iadd, 1) := by decide +kernel
theorem dX7_adds_27 : decode cX7_adds 27 = .ok (.iaload, 1) := by decide +kernel
theorem dX7_adds_28 : decode cX7_adds 28 = .ok (.istore 7, 2) := by decide +kernel
theorem dX7_adds_30 : decode cX7_adds 30 = .ok (.iload 7, 2) := by decide +kernel
theorem dX7_adds_32 : decode cX7_adds 32 = .ok (.ifCond .le 127, 3) := by decide +kernel
theorem dX7_adds_35 : decode cX7_adds 35 = .ok (.bipush 6, 2) := by decide +kernel
theorem dX7_adds_37 : decode cX7_adds 37 = .ok (.aload_n 0, 1) := by decide +kernel
theorem dX7_adds_38 : decode cX7_adds 38 = .ok (.getfield 7, 3) := by decide +kernel
theorem dX7_adds_41 : decode cX7_adds 41 = .ok (.iload_n 1, 1) := by decide +kernel
theorem dX7_adds_42 : decode cX7_adds 42 = .ok (.iconst 1, 1) := by decide +kernel
theorem dX7_adds_43 : decode cX7_adds 43 = .ok (.iadd, 1) := by decide +kernel
theorem dX7_adds_44 : decode cX7_adds 44 = .ok (.iload 7, 2) := by decide +kernel
theorem dX7_adds_46 : decode cX7_adds 46 = .ok (.iadd, 1) := by decide +kernel
theorem dX7_adds_47 : decode cX7_adds 47 = .ok (.iconst 1, 1) := by decide +kernel
theorem dX7_adds_48 : decode cX7_adds 48 = .ok (.isub, 1) := by decide +kernel
theorem dX7_adds_49 : decode cX7_adds 49 = .ok (.iaload, 1) := by decide +kernel
theorem dX7_adds_50 : decode cX7_adds 50 = .ok (.imul, 1) := by decide +kernel
theorem dX7_adds_51 : decode cX7_adds 51 = .ok (.aload_n 0, 1) := by decide +kernel
theorem dX7_adds_52 : decode cX7_adds 52 = .ok (.getfield 7, 3) := by decide +kernel
theorem dX7_adds_55 : decode cX7_adds 55 = .ok (.iload_n 1, 1) := by decide +kernel
theorem dX7_adds_56 : decode cX7_adds 56 = .ok (.bipush 11, 2) := by decide +kernel
theorem dX7_adds_58 : decode cX7_adds 58 = .ok (.iadd, 1) := by decide +kernel
theorem dX7_adds_59 : decode cX7_adds 59 = .ok (.iload 7, 2) := by decide +kernel
theorem dX7_adds_61 : decode cX7_adds 61 = .ok (.iadd, 1) := by decide +kernel
theorem dX7_adds_62 : decode cX7_adds 62 = .ok (.iconst 1, 1) := by decide +kernel
theorem dX7_adds_63 : decode cX7_adds 63 = .ok (.isub, 1) := by decide +kernel
theorem dX7_adds_64 : decode cX7_adds 64 = .ok (.iaload, 1) := by decide +kernel
theorem dX7_adds_65 : decode cX7_adds 65 = .ok (.iadd, 1) := by decide +kernel
theorem dX7_adds_66 : decode cX7_adds 66 = .ok (.bipush 6, 2) := by decide +kernel
theorem dX7_adds_68 : decode cX7_adds 68 = .ok (.iload 5, 2) := by decide +kernel
theorem dX7_adds_70 : decode cX7_adds 70 = .ok (.imul, 1) := by decide +kernel
theorem dX7_adds_71 : decode cX7_adds 71 = .ok (.iload 6, 2) := by decide +kernel
theorem dX7_adds_73 : decode cX7_adds 73 = .ok (.iadd, 1) := by decide +kernel
theorem dX7_adds_74 : decode cX7_adds 74 = .ok (.if_icmp .le 85, 3) := by decide +kernel
theorem dX7_adds_77 : decode cX7_adds 77 = .ok (.aload_n 0, 1) := by decide +kernel
theorem dX7_adds_78 : decode cX7_adds 78 = .ok (.getfield 7, 3) := by decide +kernel
theorem dX7_adds_81 : decode cX7_adds 81 = .ok (.iload_n 1, 1) := by decide +kernel
theorem dX7_adds_82 : decode cX7_adds 82 = .ok (.iconst 1, 1) := by decide +kernel
theorem dX7_adds_83 : decode cX7_adds 83 = .ok (.iadd, 1) := by decide +kernel
theorem dX7_adds_84 : decode cX7_adds 84 = .ok (.iload 7, 2) := by decide +kernel
theorem dX7_adds_86 : decode cX7_adds 86 = .ok (.iadd, 1) := by decide +kernel
theorem dX7_adds_87 : decode cX7_adds 87 = .ok (.aload_n 0, 1) := by decide +kernel
theorem dX7_adds_88 : decode cX7_adds 88 = .ok (.getfield 7, 3) := by decide +kernel
theorem dX7_adds_91 : decode cX7_adds 91 = .ok (.iload_n 1, 1) := by decide +kernel
theorem dX7_adds_92 : decode cX7_adds 92 = .ok (.iconst 1, 1) := by decide +kernel
theorem dX7_adds_93 : decode cX7_adds 93 = .ok (.iadd, 1) := by decide +kernel
theorem dX7_adds_94 : decode cX7_adds 94 = .ok (.iload 7, 2) := by decide +kernel
theorem dX7_adds_96 : decode cX7_adds 96 = .ok (.iadd, 1) := by decide +kernel
theorem dX7_adds_97 : decode cX7_adds 97 = .ok (.iconst 1, 1) := by decide +kernel
theorem dX7_adds_98 : decode cX7_adds 98 = .ok (.isub, 1) := by decide +kernel
theorem dX7_adds_99 : decode cX7_adds 99 = .ok (.iaload, 1) := by decide +kernel
theorem dX7_adds_100 : decode cX7_adds 100 = .ok (.iastore, 1) := by decide +kernel
theorem dX7_adds_101 : decode cX7_adds 101 = .ok (.aload_n 0, 1) := by decide +kernel
theorem dX7_adds_102 : decode cX7_adds 102 = .ok (.getfield 7, 3) := by decide +kernel
theorem dX7_adds_105 : decode cX7_adds 105 = .ok (.iload_n 1, 1) := by decide +kernel
theorem dX7_adds_106 : decode cX7_adds 106 = .ok (.bipush 11, 2) := by decide +kernel
theorem dX7_adds_108 : decode cX7_adds 108 = .ok (.iadd, 1) := by decide +kernel
theorem dX7_adds_109 : decode cX7_adds 109 = .ok (.iload 7, 2) := by decide +kernel
theorem dX7_adds_111 : decode cX7_adds 111 = .ok (.iadd, 1) := by decide +kernel
theorem dX7_adds_112 : decode cX7_adds 112 = .ok (.aload_n 0, 1) := by decide +kernel
theorem dX7_adds_113 : decode cX7_adds 113 = .ok (.getfield 7, 3) := by decide +kernel
theorem dX7_adds_116 : decode cX7_adds 116 = .ok (.iload_n 1, 1) := by decide +kernel
theorem dX7_adds_117 : decode cX7_adds 117 = .ok (.bipush 11, 2) := by decide +kernel
theorem dX7_adds_119 : decode cX7_adds 119 = .ok (.iadd, 1) := by decide +kernel
theorem dX7_adds_120 : decode cX7_adds 120 = .ok (.iload 7, 2) := by decide +kernel
theorem dX7_adds_122 : decode cX7_adds 122 = .ok (.iadd, 1) := by decide +kernel
theorem dX7_adds_123 : decode cX7_adds 123 = .ok (.iconst 1, 1) := by decide +kernel
theorem dX7_adds_124 : decode cX7_adds 124 = .ok (.isub, 1) := by decide +kernel
theorem dX7_adds_125 : decode cX7_adds 125 = .ok (.iaload, 1) := by decide +kernel
theorem dX7_adds_126 : decode cX7_adds 126 = .ok (.iastore, 1) := by decide +kernel
theorem dX7_adds_127 : decode cX7_adds 127 = .ok (.aload_n 0, 1) := by decide +kernel
theorem dX7_adds_128 : decode cX7_adds 128 = .ok (.getfield 7, 3) := by decide +kernel
theorem dX7_adds_131 : decode cX7_adds 131 = .ok (.iload_n 1, 1) := by decide +kernel
theorem dX7_adds_132 : decode cX7_adds 132 = .ok (.bipush 21, 2) := by decide +kernel
theorem dX7_adds_134 : decode cX7_adds 134 = .ok (.iadd, 1) := by decide +kernel
theorem dX7_adds_135 : decode cX7_adds 135 = .ok (.iload 7, 2) := by decide +kernel
theorem dX7_adds_137 : decode cX7_adds 137 = .ok (.iadd, 1) := by decide +kernel
theorem dX7_adds_138 : decode cX7_adds 138 = .ok (.aload_n 0, 1) := by decide +kernel
theorem dX7_adds_139 : decode cX7_adds 139 = .ok (.getfield 7, 3) := by decide +kernel
theorem dX7_adds_142 : decode cX7_adds 142 = .ok (.iload_n 1, 1) := by decide +kernel
theorem dX7_adds_143 : decode cX7_adds 143 = .ok (.bipush 21, 2) := by decide +kernel
theorem dX7_adds_145 : decode cX7_adds 145 = .ok (.iadd, 1) := by decide +kernel
theorem dX7_adds_146 : decode cX7_adds 146 = .ok (.iload 7, 2) := by decide +kernel
theorem dX7_adds_148 : decode cX7_adds 148 = .ok (.iadd, 1) := by decide +kernel
theorem dX7_adds_149 : decode cX7_adds 149 = .ok (.iconst 1, 1) := by decide +kernel
theorem dX7_adds_150 : decode cX7_adds 150 = .ok (.isub, 1) := by decide +kernel
theorem dX7_adds_151 : decode cX7_adds 151 = .ok (.iaload, 1) := by decide +kernel
theorem dX7_adds_152 : decode cX7_adds 152 = .ok (.iastore, 1) := by decide +kernel
theorem dX7_adds_153 : decode cX7_adds 153 = .ok (.iinc 7 (-1), 3) := by decide +kernel
theorem dX7_adds_156 : decode cX7_adds 156 = .ok (.goto (-126), 3) := by decide +kernel
theorem dX7_adds_159 : decode cX7_adds 159 = .ok (.aload_n 0, 1) := by decide +kernel
theorem dX7_adds_160 : decode cX7_adds 160 = .ok (.getfield 7, 3) := by decide +kernel
theorem dX7_adds_163 : decode cX7_adds 163 = .ok (.iload_n 1, 1) := by decide +kernel
theorem dX7_adds_164 : decode cX7_adds 164 = .ok (.iconst 1, 1) := by decide +kernel
theorem dX7_adds_165 : decode cX7_adds 165 = .ok (.iadd, 1) := by decide +kernel
theorem dX7_adds_166 : decode cX7_adds 166 = .ok (.iload 7, 2) := by decide +kernel
theorem dX7_adds_168 : decode cX7_adds 168 = .ok (.iadd, 1) := by decide +kernel
theorem dX7_adds_169 : decode cX7_adds 169 = .ok (.iload 5, 2) := by decide +kernel
theorem dX7_adds_171 : decode cX7_adds 171 = .ok (.iastore, 1) := by decide +kernel
theorem dX7_adds_172 : decode cX7_adds 172 = .ok (.aload_n 0, 1) := by decide +kernel
theorem dX7_adds_173 : decode cX7_adds 173 = .ok (.getfield 7, 3) := by decide +kernel
theorem dX7_adds_176 : decode cX7_adds 176 = .ok (.iload_n 1, 1) := by decide +kernel
theorem dX7_adds_177 : decode cX7_adds 177 = .ok (.bipush 11, 2) := by decide +kernel
theorem dX7_adds_179 : decode cX7_adds 179 = .ok (.iadd, 1) := by decide +kernel
theorem dX7_adds_180 : decode cX7_adds 180 = .ok (.iload 7, 2) := by decide +kernel
theorem dX7_adds_182 : decode cX7_adds 182 = .ok (.iadd, 1) := by decide +kernel
theorem dX7_adds_183 : decode cX7_adds 183 = .ok (.iload 6, 2) := by decide +kernel
theorem dX7_adds_185 : decode cX7_adds 185 = .ok (.iastore, 1) := by decide +kernel
theorem dX7_adds_186 : decode cX7_adds 186 = .ok (.aload_n 0, 1) := by decide +kernel
theorem dX7_adds_187 : decode cX7_adds 187 = .ok (.getfield 7, 3) := by decide +kernel
theorem dX7_adds_190 : decode cX7_adds 190 = .ok (.iload_n 1, 1) := by decide +kernel
theorem dX7_adds_191 : decode cX7_adds 191 = .ok (.bipush 21, 2) := by decide +kernel
theorem dX7_adds_193 : decode cX7_adds 193 = .ok (.iadd, 1) := by decide +kernel
theorem dX7_adds_194 : decode cX7_adds 194 = .ok (.iload 7, 2) := by decide +kernel
theorem dX7_adds_196 : decode cX7_adds 196 = .ok (.iadd, 1) := by decide +kernel
theorem dX7_adds_197 : decode cX7_adds 197 = .ok (.iload 4, 2) := by decide +kernel
theorem dX7_adds_199 : decode cX7_adds 199 = .ok (.iastore, 1) := by decide +kernel
theorem dX7_adds_200 : decode cX7_adds 200 = .ok (.aload_n 0, 1) := by decide +kernel
theorem dX7_adds_201 : decode cX7_adds 201 = .ok (.getfield 7, 3) := by decide +kernel
theorem dX7_adds_204 : decode cX7_adds 204 = .ok (.iload_n 1, 1) := by decide +kernel
theorem dX7_adds_205 : decode cX7_adds 205 = .ok (.iconst 0, 1) := by decide +kernel
theorem dX7_adds_206 : decode cX7_adds 206 = .ok (.iadd, 1) := by decide +kernel
theorem dX7_adds_207 : decode cX7_adds 207 = .ok (.dup2, 1) := by decide +kernel
theorem dX7_adds_208 : decode cX7_adds 208 = .ok (.iaload, 1) := by decide +kernel
theorem dX7_adds_209 : decode cX7_adds 209 = .ok (.iconst 1, 1) := by decide +kernel
theorem dX7_adds_210 : decode cX7_adds 210 = .ok (.iadd, 1) := by decide +kernel
theorem dX7_adds_211 : decode cX7_adds 211 = .ok (.iastore, 1) := by decide +kernel
theorem dX7_adds_212 : decode cX7_adds 212 = .ok (.return_, 1) := by decide +kernel
set_option maxRecDepth 20000 in
theorem ggX7_type_X7_in : GoodIn wsX7_type wsX7_in := goodIn_r _ [7] rfl (by decide +kernel)
set_option maxRecDepth 20000 in
theorem gX7_type_X7_in : GoodIn wsX7_type (va_wsS RX7 48 yX7_in wsX7_in) := goodIn_app (goodIn_of _ (by decide +kernel)) ggX7_type_X7_in
theorem dX7_type_0 : decode cX7_type 0 = .ok (.iload_n 1, 1) := by decide +kernel
theorem dX7_type_1 : decode cX7_type 1 = .ok (.i2l, 1) := by decide +kernel
theorem dX7_type_2 : decode cX7_type 2 = .ok (.lconst 0, 1) := by decide +kernel
theorem dX7_type_3 : decode cX7_type 3 = .ok (.ldc2_w 46, 3) := by decide +kernel
theorem dX7_type_6 : decode cX7_type 6 = .ok (.invokestatic 48, 3) := by decide +kernel
theorem dX7_type_9 : decode cX7_type 9 = .ok (.ifCond .ne 5, 3) := by decide +kernel
theorem dX7_type_12 : decode cX7_type 12 = .ok (.iconst (-1), 1) := by decide +kernel
theorem dX7_type_13 : decode cX7_type 13 = .ok (.ireturn, 1) := by decide +kernel
theorem dX7_type_14 : decode cX7_type 14 = .ok (.aload_n 0, 1) := by decide +kernel
theorem dX7_type_15 : decode cX7_type 15 = .ok (.getfield 52, 3) := by decide +kernel
theorem dX7_type_18 : decode cX7_type 18 = .ok (.bipush 80, 2) := by decide +kernel
theorem dX7_type_20 : decode cX7_type 20 = .ok (.if_icmp .ne 6, 3) := by decide +kernel
theorem dX7_type_23 : decode cX7_type 23 = .ok (.bipush (-3), 2) := by decide +kernel
theorem dX7_type_25 : decode cX7_type 25 = .ok (.ireturn, 1) := by decide +kernel
theorem dX7_type_26 : decode cX7_type 26 = .ok (.aload_n 0, 1) := by decide +kernel
theorem dX7_type_27 : decode cX7_type 27 = .ok (.getfield 21, 3) := by decide +kernel
theorem dX7_type_30 : decode cX7_type 30 = .ok (.aload_n 0, 1) := by decide +kernel
theorem dX7_type_31 : decode cX7_type 31 = .ok (.getfield 52, 3) := by decide +kernel
theorem dX7_type_34 : decode cX7_type 34 = .ok (.iload_n 1, 1) := by decide +kernel
theorem dX7_type_35 : decode cX7_type 35 = .ok (.iastore, 1) := by decide +kernel
theorem dX7_type_36 : decode cX7_type 36 = .ok (.aload_n 0, 1) := by decide +kernel
theorem dX7_type_37 : decode cX7_type 37 = .ok (.dup, 1) := by decide +kernel
theorem dX7_type_38 : decode cX7_type 38 = .ok (.getfield 52, 3) := by decide +kernel
theorem dX7_type_41 : decode cX7_type 41 = .ok (.iconst 1, 1) := by decide +kernel
theorem dX7_type_42 : decode cX7_type 42 = .ok (.iadd, 1) := by decide +kernel
theorem dX7_type_43 : decode cX7_type 43 = .ok (.putfield 52, 3) := by decide +kernel
theorem dX7_type_46 : decode cX7_type 46 = .ok (.aload_n 0, 1) := by decide +kernel
theorem dX7_type_47 : decode cX7_type 47 = .ok (.getfield 52, 3) := by decide +kernel
theorem dX7_type_50 : decode cX7_type 50 = .ok (.ireturn, 1) := by decide +kernel
theorem dX7_clear_0 : decode cX7_clear 0 = .ok (.aload_n 0, 1) := by decide +kernel
theorem dX7_clear_1 : decode cX7_clear 1 = .ok (.getfield 52, 3) := by decide +kernel
theorem dX7_clear_4 : decode cX7_clear 4 = .ok (.istore_n 1, 1) := by decide +kernel
theorem dX7_clear_5 : decode cX7_clear 5 = .ok (.aload_n 0, 1) := by decide +kernel
theorem dX7_clear_6 : decode cX7_clear 6 = .ok (.iconst 0, 1) := by decide +kernel
theorem dX7_clear_7 : decode cX7_clear 7 = .ok (.putfield 52, 3) := by decide +kernel
theorem dX7_clear_10 : decode cX7_clear 10 = .ok (.iload_n 1, 1) := by decide +kernel
theorem dX7_clear_11 : decode cX7_clear 11 = .ok (.ireturn, 1) := by decide +kernel
set_option maxRecDepth 20000 in
theorem ggX7_next_X7_in : GoodIn wsX7_next wsX7_in := goodIn_r _ [12] rfl (by decide +kernel)
set_option maxRecDepth 20000 in
theorem gX7_next_X7_in : GoodIn wsX7_next (va_wsS RX7 48 yX7_in wsX7_in) := goodIn_app (goodIn_of _ (by decide +kernel)) ggX7_next_X7_in
theorem dX7_next_0 : decode cX7_next 0 = .ok (.aload_n 0, 1) := by decide +kernel
theorem dX7_next_1 : decode cX7_next 1 = .ok (.aload_n 0, 1) := by decide +kernel
theorem dX7_next_2 : decode cX7_next 2 = .ok (.getfield 55, 3) := by decide +kernel
theorem dX7_next_5 : decode cX7_next 5 = .ok (.putfield 58, 3) := by decide +kernel
theorem dX7_next_8 : decode cX7_next 8 = .ok (.aload_n 0, 1) := by decide +kernel
theorem dX7_next_9 : decode cX7_next 9 = .ok (.getfield 58, 3) := by decide +kernel
theorem dX7_next_12 : decode cX7_next 12 = .ok (.aload_n 0, 1) := by decide +kernel
theorem dX7_next_13 : decode cX7_next 13 = .ok (.getfield 52, 3) := by decide +kernel
theorem dX7_next_16 : decode cX7_next 16 = .ok (.if_icmp .ge 30, 3) := by decide +kernel
theorem dX7_next_19 : decode cX7_next 19 = .ok (.aload_n 0, 1) := by decide +kernel
theorem dX7_next_20 : decode cX7_next 20 = .ok (.getfield 21, 3) := by decide +kernel
theorem dX7_next_23 : decode cX7_next 23 = .ok (.aload_n 0, 1) := by decide +kernel
theorem dX7_next_24 : decode cX7_next 24 = .ok (.getfield 58, 3) := by decide +kernel
theorem dX7_next_27 : decode cX7_next 27 = .ok (.iaload, 1) := by decide +kernel
theorem dX7_next_28 : decode cX7_next 28 = .ok (.bipush 32, 2) := by decide +kernel
theorem dX7_next_30 : decode cX7_next 30 = .ok (.if_icmp .ne 16, 3) := by decide +kernel
theorem dX7_next_33 : decode cX7_next 33 = .ok (.aload_n 0, 1) := by decide +kernel
theorem dX7_next_34 : decode cX7_next 34 = .ok (.dup, 1) := by decide +kernel
theorem dX7_next_35 : decode cX7_next 35 = .ok (.getfield 58, 3) := by decide +kernel
theorem dX7_next_38 : decode cX7_next 38 = .ok (.iconst 1, 1) := by decide +kernel
theorem dX7_next_39 : decode cX7_next 39 = .ok (.iadd, 1) := by decide +kernel
theorem dX7_next_40 : decode cX7_next 40 = .ok (.putfield 58, 3) := by decide +kernel
theorem dX7_next_43 : decode cX7_next 43 = .ok (.goto (-35), 3) := by decide +kernel
theorem dX7_next_46 : decode cX7_next 46 = .ok (.aload_n 0, 1) := by decide +kernel
theorem dX7_next_47 : decode cX7_next 47 = .ok (.aload_n 0, 1) := by decide +kernel
theorem dX7_next_48 : decode cX7_next 48 = .ok (.getfield 58, 3) := by decide +kernel
theorem dX7_next_51 : decode cX7_next 51 = .ok (.putfield 55, 3) := by decide +kernel
theorem dX7_next_54 : decode cX7_next 54 = .ok (.aload_n 0, 1) := by decide +kernel
theorem dX7_next_55 : decode cX7_next 55 = .ok (.bipush (-9), 2) := by decide +kernel
theorem dX7_next_57 : decode cX7_next 57 = .ok (.putfield 61, 3) := by decide +kernel
theorem dX7_next_60 : decode cX7_next 60 = .ok (.aload_n 0, 1) := by decide +kernel
theorem dX7_next_61 : decode cX7_next 61 = .ok (.iconst 0, 1) := by decide +kernel
theorem dX7_next_62 : decode cX7_next 62 = .ok (.putfield 64, 3) := by decide +kernel
theorem dX7_next_65 : decode cX7_next 65 = .ok (.aload_n 0, 1) := by decide +kernel
theorem dX7_next_66 : decode cX7_next 66 = .ok (.getfield 58, 3) := by decide +kernel
theorem dX7_next_69 : decode cX7_next 69 = .ok (.aload_n 0, 1) := by decide +kernel
theorem dX7_next_70 : decode cX7_next 70 = .ok (.getfield 52, 3) := by decide +kernel
theorem dX7_next_73 : decode cX7_next 73 = .ok (.if_icmp .ne 4, 3) := by decide +kernel
theorem dX7_next_76 : decode cX7_next 76 = .ok (.return_, 1) := by decide +kernel
theorem dX7_next_77 : decode cX7_next 77 = .ok (.aload_n 0, 1) := by decide +kernel
theorem dX7_next_78 : decode cX7_next 78 = .ok (.dup, 1) := by decide +kernel
theorem dX7_next_79 : decode cX7_next 79 = .ok (.getfield 55, 3) := by decide +kernel
theorem dX7_next_82 : decode cX7_next 82 = .ok (.iconst 1, 1) := by decide +kernel
theorem dX7_next_83 : decode cX7_next 83 = .ok (.iadd, 1) := by decide +kernel
theorem dX7_next_84 : decode cX7_next 84 = .ok (.putfield 55, 3) := by decide +kernel
theorem dX7_next_87 : decode cX7_next 87 = .ok (.aload_n 0, 1) := by decide +kernel
theorem dX7_next_88 : decode cX7_next 88 = .ok (.aload_n 0, 1) := by decide +kernel
theorem dX7_next_89 : decode cX7_next 89 = .ok (.getfield 21, 3) := by decide +kernel
theorem dX7_next_92 : decode cX7_next 92 = .ok (.aload_n 0, 1) := by decide +kernel
theorem dX7_next_93 : decode cX7_next 93 = .ok (.getfield 58, 3) := by decide +kernel
theorem dX7_next_96 : decode cX7_next 96 = .ok (.iaload, 1) := by decide +kernel
theorem dX7_next_97 : decode cX7_next 97 = .ok (.putfield 64, 3) := by decide +kernel
theorem dX7_next_100 : decode cX7_next 100 = .ok (.aload_n 0, 1) := by decide +kernel
theorem dX7_next_101 : decode cX7_next 101 = .ok (.getfield 64, 3) := by decide +kernel
theorem dX7_next_104 : decode cX7_next 104 = .ok (.i2l, 1) := by decide +kernel
theorem dX7_next_105 : decode cX7_next 105 = .ok (.ldc2_w 67, 3) := by decide +kernel
theorem dX7_next_108 : decode cX7_next 108 = .ok (.ldc2_w 69, 3) := by decide +kernel
theorem dX7_next_111 : decode cX7_next 111 = .ok (.invokestatic 48, 3) := by decide +kernel
theorem dX7_next_114 : decode cX7_next 114 = .ok (.ifCond .eq 84, 3) := by decide +kernel
theorem dX7_next_117 : decode cX7_next 117 = .ok (.aload_n 0, 1) := by decide +kernel
theorem dX7_next_118 : decode cX7_next 118 = .ok (.getfield 55, 3) := by decide +kernel
theorem dX7_next_121 : decode cX7_next 121 = .ok (.aload_n 0, 1) := by decide +kernel
theorem dX7_next_122 : decode cX7_next 122 = .ok (.getfield 52, 3) := by decide +kernel
theorem dX7_next_125 : decode cX7_next 125 = .ok (.if_icmp .ge 38, 3) := by decide +kernel
theorem dX7_next_128 : decode cX7_next 128 = .ok (.aload_n 0, 1) := by decide +kernel
theorem dX7_next_129 : decode cX7_next 129 = .ok (.getfield 21, 3) := by decide +kernel
theorem dX7_next_132 : decode cX7_next 132 = .ok (.aload_n 0, 1) := by decide +kernel
theorem dX7_next_133 : decode cX7_next 133 = .ok (.getfield 55, 3) := by decide +kernel
theorem dX7_next_136 : decode cX7_next 136 = .ok (.iaload, 1) := by decide +kernel
theorem dX7_next_137 : decode cX7_next 137 = .ok (.i2l, 1) := by decide +kernel
theorem dX7_next_138 : decode cX7_next 138 = .ok (.ldc2_w 67, 3) := by decide +kernel
theorem dX7_next_141 : decode cX7_next 141 = .ok (.ldc2_w 69, 3) := by decide +kernel
theorem dX7_next_144 : decode cX7_next 144 = .ok (.invokestatic 48, 3) := by decide +kernel
theorem dX7_next_147 : decode cX7_next 147 = .ok (.ifCond .eq 16, 3) := by decide +kernel
theorem dX7_next_150 : decode cX7_next 150 = .ok (.aload_n 0, 1) := by decide +kernel
theorem dX7_next_151 : decode cX7_next 151 = .ok (.dup, 1) := by decide +kernel
theorem dX7_next_152 : decode cX7_next 152 = .ok (.getfield 55, 3) := by decide +kernel
theorem dX7_next_155 : decode cX7_next 155 = .ok (.iconst 1, 1) := by decide +kernel
theorem dX7_next_156 : decode cX7_next 156 = .ok (.iadd, 1) := by decide +kernel
theorem dX7_next_157 : decode cX7_next 157 = .ok (.putfield 55, 3) := by decide +kernel
theorem dX7_next_160 : decode cX7_next 160 = .ok (.goto (-43), 3) := by decide +kernel
theorem dX7_next_163 : decode cX7_next 163 = .ok (.aload_n 0, 1) := by decide +kernel
theorem dX7_next_164 : decode cX7_next 164 = .ok (.aload_n 0, 1) := by decide +kernel
theorem dX7_next_165 : decode cX7_next 165 = .ok (.getfield 55, 3) := by decide +kernel
theorem dX7_next_168 : decode cX7_next 168 = .ok (.aload_n 0, 1) := by decide +kernel
theorem dX7_next_169 : decode cX7_next 169 = .ok (.getfield 58, 3) := by decide +kernel
theorem dX7_next_172 : decode cX7_next 172 = .ok (.isub, 1) := by decide +kernel
theorem dX7_next_173 : decode cX7_next 173 = .ok (.iconst 1, 1) := by decide +kernel
theorem dX7_next_174 : decode cX7_next 174 = .ok (.if_icmp .ne 13, 3) := by decide +kernel
theorem dX7_next_177 : decode cX7_next 177 = .ok (.aload_n 0, 1) := by decide +kernel
theorem dX7_next_178 : decode cX7_next 178 = .ok (.getfield 64, 3) := by decide +kernel
theorem dX7_next_181 : decode cX7_next 181 = .ok (.bipush 48, 2) := by decide +kernel
theorem dX7_next_183 : decode cX7_next 183 = .ok (.isub, 1) := by decide +kernel
theorem dX7_next_184 : decode cX7_next 184 = .ok (.goto 5, 3) := by decide +kernel
theorem dX7_next_187 : decode cX7_next 187 = .ok (.bipush (-9), 2) := by decide +kernel
theorem dX7_next_189 : decode cX7_next 189 = .ok (.putfield 61, 3) := by decide +kernel
theorem dX7_next_192 : decode cX7_next 192 = .ok (.aload_n 0, 1) := by decide +kernel
theorem dX7_next_193 : decode cX7_next 193 = .ok (.bipush 48, 2) := by decide +kernel
theorem dX7_next_195 : decode cX7_next 195 = .ok (.putfield 64, 3) := by decide +kernel
theorem dX7_next_198 : decode cX7_next 198 = .ok (.return_, 1) := by decide +kernel
theorem dX7_isEnd_0 : decode cX7_isEnd 0 = .ok (.aload_n 0, 1) := by decide +kernel
theorem dX7_isEnd_1 : decode cX7_isEnd 1 = .ok (.getfield 58, 3) := by decide +kernel
theorem dX7_isEnd_4 : decode cX7_isEnd 4 = .ok (.aload_n 0, 1) := by decide +kernel
theorem dX7_isEnd_5 : decode cX7_isEnd 5 = .ok (.getfield 52, 3) := by decide +kernel
theorem dX7_isEnd_8 : decode cX7_isEnd 8 = .ok (.if_icmp .ne 7, 3) := by decide +kernel
theorem dX7_isEnd_11 : decode cX7_isEnd 11 = .ok (.iconst 1, 1) := by decide +kernel
theorem dX7_isEnd_12 : decode cX7_isEnd 12 = .ok (.goto 4, 3) := by decide +kernel
theorem dX7_isEnd_15 : decode cX7_isEnd 15 = .ok (.iconst 0, 1) := by decide +kernel
theorem dX7_isEnd_16 : decode cX7_isEnd 16 = .ok (.ireturn, 1) := by decide +kernel
set_option maxRecDepth 20000 in
theorem ggX7_reads_X7_next : GoodIn wsX7_reads wsX7_next := goodIn_r _ [8, 9, 10, 11, 12, 2, 3, 13, 14, 15, 16, 7, 17, 22, 23, 24, 25, 26, 27, 28, 29, 30, 31, 32, 33, 34, 35, 36, 37, 38, 39, 40] rfl (by decide +kernel)
set_option maxRecDepth 20000 in
theorem gX7_reads_X7_next : GoodIn wsX7_reads (wsV RX7 71 RX7 yX7_next wsX7_next) := goodIn_app (goodIn_of _ (by decide +kernel)) ggX7_reads_X7_next
set_option maxRecDepth 20000 in
theorem ggX7_reads_X7_isEnd : GoodIn wsX7_reads wsX7_isEnd := goodIn_r _ [21, 10, 11, 22, 23, 24, 25, 26, 27, 28, 29, 30, 31, 32, 33, 34, 35, 36, 37, 38, 39, 40] rfl (by decide +kernel)
set_option maxRecDepth 20000 in
theorem gX7_reads_X7_isEnd : GoodIn wsX7_reads (wsV RX7 74 RX7 yX7_isEnd wsX7_isEnd) := goodIn_app (goodIn_of _ (by decide +kernel)) ggX7_reads_X7_isEnd
set_option maxRecDepth 20000 in
theorem ggX7_reads_X7_in : GoodIn wsX7_reads wsX7_in := goodIn_r _ [17] rfl (by decide +kernel)
set_option maxRecDepth 20000 in
theorem gX7_reads_X7_in : GoodIn wsX7_reads (va_wsS RX7 48 yX7_in wsX7_in) := goodIn_app (goodIn_of _ (by decide +kernel)) ggX7_reads_X7_in
theorem dX7_reads_0 : decode cX7_reads 0 = .ok (.aload_n 0, 1) := by decide +kernel
theorem dX7_reads_1 : decode cX7_reads 1 = .ok (.invokevirtual 71, 3) := by decide +kernel
theorem dX7_reads_4 : decode cX7_reads 4 = .ok (.aload_n 0, 1) := by decide +kernel
theorem dX7_reads_5 : decode cX7_reads 5 = .ok (.getfield 28, 3) := by decide +kernel
theorem dX7_reads_8 : decode cX7_reads 8 = .ok (.iload_n 1, 1) := by decide +kernel
theorem dX7_reads_9 : decode cX7_reads 9 = .ok (.aload_n 0, 1) := by decide +kernel
theorem dX7_reads_10 : decode cX7_reads 10 = .ok (.getfield 61, 3) := by decide +kernel
theorem dX7_reads_13 : decode cX7_reads 13 = .ok (.iastore, 1) := by decide +kernel
theorem dX7_reads_14 : decode cX7_reads 14 = .ok (.aload_n 0, 1) := by decide +kernel
theorem dX7_reads_15 : decode cX7_reads 15 = .ok (.invokevirtual 74, 3) := by decide +kernel
theorem dX7_reads_18 : decode cX7_reads 18 = .ok (.ifCond .ne 31, 3) := by decide +kernel
theorem dX7_reads_21 : decode cX7_reads 21 = .ok (.aload_n 0, 1) := by decide +kernel
theorem dX7_reads_22 : decode cX7_reads 22 = .ok (.getfield 64, 3) := by decide +kernel
theorem dX7_reads_25 : decode cX7_reads 25 = .ok (.bipush 48, 2) := by decide +kernel
theorem dX7_reads_27 : decode cX7_reads 27 = .ok (.if_icmp .ne 22, 3) := by decide +kernel
theorem dX7_reads_30 : decode cX7_reads 30 = .ok (.aload_n 0, 1) := by decide +kernel
theorem dX7_reads_31 : decode cX7_reads 31 = .ok (.getfield 61, 3) := by decide +kernel
theorem dX7_reads_34 : decode cX7_reads 34 = .ok (.i2l, 1) := by decide +kernel
theorem dX7_reads_35 : decode cX7_reads 35 = .ok (.iload_n 2, 1) := by decide +kernel
theorem dX7_reads_36 : decode cX7_reads 36 = .ok (.i2l, 1) := by decide +kernel
theorem dX7_reads_37 : decode cX7_reads 37 = .ok (.iload_n 3, 1) := by decide +kernel
theorem dX7_reads_38 : decode cX7_reads 38 = .ok (.i2l, 1) := by decide +kernel
theorem dX7_reads_39 : decode cX7_reads 39 = .ok (.invokestatic 48, 3) := by decide +kernel
theorem dX7_reads_42 : decode cX7_reads 42 = .ok (.ifCond .eq 7, 3) := by decide +kernel
theorem dX7_reads_45 : decode cX7_reads 45 = .ok (.iconst 1, 1) := by decide +kernel
theorem dX7_reads_46 : decode cX7_reads 46 = .ok (.goto 4, 3) := by decide +kernel
theorem dX7_reads_49 : decode cX7_reads 49 = .ok (.iconst 0, 1) := by decide +kernel
theorem dX7_reads_50 : decode cX7_reads 50 = .ok (.ireturn, 1) := by decide +kernel
set_option maxRecDepth 20000 in
theorem ggX7_isItem_X7_reads : GoodIn wsX7_isItem wsX7_reads := goodIn_r _ [9, 2, 10, 1, 11, 12, 13, 8, 14, 15, 16, 17, 18, 19, 20, 21, 22, 23, 24, 25, 26, 27, 36, 37, 38, 39, 40, 41, 42, 43, 44, 45, 46, 47, 48, 49, 50, 51, 52, 53, 54] rfl (by decide +kernel)
set_option maxRecDepth 20000 in
theorem gX7_isItem_X7_reads : GoodIn wsX7_isItem (wsV RX7 78 RX7 yX7_reads wsX7_reads) := goodIn_app (goodIn_of _ (by decide +kernel)) ggX7_isItem_X7_reads
set_option maxRecDepth 20000 in
theorem ggX7_isItem_X7_lineOf : GoodIn wsX7_isItem wsX7_lineOf := goodIn_r _ [31, 4, 36, 37, 38, 39, 40, 41, 42, 43, 44, 45, 46, 47, 48, 49, 50, 51, 52, 53, 54] rfl (by decide +kernel)
set_option maxRecDepth 20000 in
theorem gX7_isItem_X7_lineOf : GoodIn wsX7_isItem (wsV RX7 85 RX7 yX7_lineOf wsX7_lineOf) := goodIn_app (goodIn_of _ (by decide +kernel)) ggX7_isItem_X7_lineOf
set_option maxRecDepth 20000 in
theorem ggX7_isItem_X7_adds : GoodIn wsX7_isItem wsX7_adds := goodIn_r _ [35, 4, 36, 37, 38, 39, 40, 41, 42, 43, 44, 45, 46, 47, 48, 49, 50, 51, 52, 53, 54] rfl (by decide +kernel)
set_option maxRecDepth 20000 in
theorem gX7_isItem_X7_adds : GoodIn wsX7_isItem (wsV RX7 89 RX7 yX7_adds wsX7_adds) := goodIn_app (goodIn_of _ (by decide +kernel)) ggX7_isItem_X7_adds
set_option maxRecDepth 20000 in
theorem ggX7_isItem_X7_next : GoodIn wsX7_isItem wsX7_next := goodIn_r _ [14, 15, 16, 17, 18, 10, 1, 19, 20, 21, 22, 8, 23, 36, 37, 38, 39, 40, 41, 42, 43, 44, 45, 46, 47, 48, 49, 50, 51, 52, 53, 54] rfl (by decide +kernel)
set_option maxRecDepth 20000 in
theorem gX7_isItem_X7_next : GoodIn wsX7_isItem (wsV RX7 71 RX7 yX7_next wsX7_next) := goodIn_app (goodIn_of _ (by decide +kernel)) ggX7_isItem_X7_next
set_option maxRecDepth 20000 in
theorem ggX7_isItem_X7_isEnd : GoodIn wsX7_isItem wsX7_isEnd := goodIn_r _ [27, 16, 17, 36, 37, 38, 39, 40, 41, 42, 43, 44, 45, 46, 47, 48, 49, 50, 51, 52, 53, 54] rfl (by decide +kernel)
set_option maxRecDepth 20000 in
theorem gX7_isItem_X7_isEnd : GoodIn wsX7_isItem (wsV RX7 74 RX7 yX7_isEnd wsX7_isEnd) := goodIn_app (goodIn_of _ (by decide +kernel)) ggX7_isItem_X7_isEnd
theorem dX7_isItem_0 : decode cX7_isItem 0 = .ok (.aload_n 0, 1) := by decide +kernel
theorem dX7_isItem_1 : decode cX7_isItem 1 = .ok (.getfield 64, 3) := by decide +kernel
theorem dX7_isItem_4 : decode cX7_isItem 4 = .ok (.bipush 110, 2) := by decide +kernel
theorem dX7_isItem_6 : decode cX7_isItem 6 = .ok (.if_icmp .ne 33, 3) := by decide +kernel
theorem dX7_isItem_9 : decode cX7_isItem 9 = .ok (.iload_n 1, 1) := by decide +kernel
theorem dX7_isItem_10 : decode cX7_isItem 10 = .ok (.ifCond .gt 14, 3) := by decide +kernel
theorem dX7_isItem_13 : decode cX7_isItem 13 = .ok (.aload_n 0, 1) := by decide +kernel
theorem dX7_isItem_14 : decode cX7_isItem 14 = .ok (.iconst 0, 1) := by decide +kernel
theorem dX7_isItem_15 : decode cX7_isItem 15 = .ok (.iconst 2, 1) := by decide +kernel
theorem dX7_isItem_16 : decode cX7_isItem 16 = .ok (.bipush 6, 2) := by decide +kernel
theorem dX7_isItem_18 : decode cX7_isItem 18 = .ok (.invokevirtual 78, 3) := by decide +kernel
theorem dX7_isItem_21 : decode cX7_isItem 21 = .ok (.ifCond .ne 5, 3) := by decide +kernel
theorem dX7_isItem_24 : decode cX7_isItem 24 = .ok (.iconst 0, 1) := by decide +kernel
theorem dX7_isItem_25 : decode cX7_isItem 25 = .ok (.ireturn, 1) := by decide +kernel
theorem dX7_isItem_26 : decode cX7_isItem 26 = .ok (.aload_n 0, 1) := by decide +kernel
theorem dX7_isItem_27 : decode cX7_isItem 27 = .ok (.aload_n 0, 1) := by decide +kernel
theorem dX7_isItem_28 : decode cX7_isItem 28 = .ok (.getfield 28, 3) := by decide +kernel
theorem dX7_isItem_31 : decode cX7_isItem 31 = .ok (.iconst 0, 1) := by decide +kernel
theorem dX7_isItem_32 : decode cX7_isItem 32 = .ok (.iaload, 1) := by decide +kernel
theorem dX7_isItem_33 : decode cX7_isItem 33 = .ok (.putfield 82, 3) := by decide +kernel
theorem dX7_isItem_36 : decode cX7_isItem 36 = .ok (.goto 134, 3) := by decide +kernel
theorem dX7_isItem_39 : decode cX7_isItem 39 = .ok (.aload_n 0, 1) := by decide +kernel
theorem dX7_isItem_40 : decode cX7_isItem 40 = .ok (.getfield 64, 3) := by decide +kernel
theorem dX7_isItem_43 : decode cX7_isItem 43 = .ok (.bipush 101, 2) := by decide +kernel
theorem dX7_isItem_45 : decode cX7_isItem 45 = .ok (.if_icmp .ne 46, 3) := by decide +kernel
theorem dX7_isItem_48 : decode cX7_isItem 48 = .ok (.aload_n 0, 1) := by decide +kernel
theorem dX7_isItem_49 : decode cX7_isItem 49 = .ok (.getfield 7, 3) := by decide +kernel
theorem dX7_isItem_52 : decode cX7_isItem 52 = .ok (.sipush 465, 3) := by decide +kernel
theorem dX7_isItem_55 : decode cX7_isItem 55 = .ok (.iaload, 1) := by decide +kernel
theorem dX7_isItem_56 : decode cX7_isItem 56 = .ok (.bipush 10, 2) := by decide +kernel
theorem dX7_isItem_58 : decode cX7_isItem 58 = .ok (.if_icmp .eq 33, 3) := by decide +kernel
theorem dX7_isItem_61 : decode cX7_isItem 61 = .ok (.aload_n 0, 1) := by decide +kernel
theorem dX7_isItem_62 : decode cX7_isItem 62 = .ok (.iconst 0, 1) := by decide +kernel
theorem dX7_isItem_63 : decode cX7_isItem 63 = .ok (.iconst 0, 1) := by decide +kernel
theorem dX7_isItem_64 : decode cX7_isItem 64 = .ok (.aload_n 0, 1) := by decide +kernel
theorem dX7_isItem_65 : decode cX7_isItem 65 = .ok (.getfield 82, 3) := by decide +kernel
theorem dX7_isItem_68 : decode cX7_isItem 68 = .ok (.iconst 1, 1) := by decide +kernel
theorem dX7_isItem_69 : decode cX7_isItem 69 = .ok (.isub, 1) := by decide +kernel
theorem dX7_isItem_70 : decode cX7_isItem 70 = .ok (.invokevirtual 78, 3) := by decide +kernel
theorem dX7_isItem_73 : decode cX7_isItem 73 = .ok (.ifCond .eq 18, 3) := by decide +kernel
theorem dX7_isItem_76 : decode cX7_isItem 76 = .ok (.aload_n 0, 1) := by decide +kernel
theorem dX7_isItem_77 : decode cX7_isItem 77 = .ok (.iconst 1, 1) := by decide +kernel
theorem dX7_isItem_78 : decode cX7_isItem 78 = .ok (.iconst 0, 1) := by decide +kernel
theorem dX7_isItem_79 : decode cX7_isItem 79 = .ok (.aload_n 0, 1) := by decide +kernel
theorem dX7_isItem_80 : decode cX7_isItem 80 = .ok (.getfield 82, 3) := by decide +kernel
theorem dX7_isItem_83 : decode cX7_isItem 83 = .ok (.iconst 1, 1) := by decide +kernel
theorem dX7_isItem_84 : decode cX7_isItem 84 = .ok (.isub, 1) := by decide +kernel
theorem dX7_isItem_85 : decode cX7_isItem 85 = .ok (.invokevirtual 78, 3) := by decide +kernel
theorem dX7_isItem_88 : decode cX7_isItem 88 = .ok (.ifCond .ne 5, 3) := by decide +kernel
theorem dX7_isItem_91 : decode cX7_isItem 91 = .ok (.iconst 0, 1) := by decide +kernel
theorem dX7_isItem_92 : decode cX7_isItem 92 = .ok (.ireturn, 1) := by decide +kernel
theorem dX7_isItem_93 : decode cX7_isItem 93 = .ok (.aload_n 0, 1) := by decide +kernel
theorem dX7_isItem_94 : decode cX7_isItem 94 = .ok (.getfield 28, 3) := by decide +kernel
theorem dX7_isItem_97 : decode cX7_isItem 97 = .ok (.iconst 0, 1) := by decide +kernel
theorem dX7_isItem_98 : decode cX7_isItem 98 = .ok (.iaload, 1) := by decide +kernel
theorem dX7_isItem_99 : decode cX7_isItem 99 = .ok (.aload_n 0, 1) := by decide +kernel
theorem dX7_isItem_100 : decode cX7_isItem 100 = .ok (.getfield 28, 3) := by decide +kernel
theorem dX7_isItem_103 : decode cX7_isItem 103 = .ok (.iconst 1, 1) := by decide +kernel
theorem dX7_isItem_104 : decode cX7_isItem 104 = .ok (.iaload, 1) := by decide +kernel
theorem dX7_isItem_105 : decode cX7_isItem 105 = .ok (.if_icmp .eq 38, 3) := by decide +kernel
theorem dX7_isItem_108 : decode cX7_isItem 108 = .ok (.aload_n 0, 1) := by decide +kernel
theorem dX7_isItem_109 : decode cX7_isItem 109 = .ok (.sipush 465, 3) := by decide +kernel
theorem dX7_isItem_112 : decode cX7_isItem 112 = .ok (.aload_n 0, 1) := by decide +kernel
theorem dX7_isItem_113 : decode cX7_isItem 113 = .ok (.getfield 28, 3) := by decide +kernel
theorem dX7_isItem_116 : decode cX7_isItem 116 = .ok (.iconst 0, 1) := by decide +kernel
theorem dX7_isItem_117 : decode cX7_isItem 117 = .ok (.iaload, 1) := by decide +kernel
theorem dX7_isItem_118 : decode cX7_isItem 118 = .ok (.aload_n 0, 1) := by decide +kernel
theorem dX7_isItem_119 : decode cX7_isItem 119 = .ok (.getfield 28, 3) := by decide +kernel
theorem dX7_isItem_122 : decode cX7_isItem 122 = .ok (.iconst 1, 1) := by decide +kernel
theorem dX7_isItem_123 : decode cX7_isItem 123 = .ok (.iaload, 1) := by decide +kernel
theorem dX7_isItem_124 : decode cX7_isItem 124 = .ok (.invokevirtual 85, 3) := by decide +kernel
theorem dX7_isItem_127 : decode cX7_isItem 127 = .ok (.bipush (-9), 2) := by decide +kernel
theorem dX7_isItem_129 : decode cX7_isItem 129 = .ok (.if_icmp .ne 14, 3) := by decide +kernel
theorem dX7_isItem_132 : decode cX7_isItem 132 = .ok (.aload_n 0, 1) := by decide +kernel
theorem dX7_isItem_133 : decode cX7_isItem 133 = .ok (.iconst 2, 1) := by decide +kernel
theorem dX7_isItem_134 : decode cX7_isItem 134 = .ok (.iconst 1, 1) := by decide +kernel
theorem dX7_isItem_135 : decode cX7_isItem 135 = .ok (.bipush 9, 2) := by decide +kernel
theorem dX7_isItem_137 : decode cX7_isItem 137 = .ok (.invokevirtual 78, 3) := by decide +kernel
theorem dX7_isItem_140 : decode cX7_isItem 140 = .ok (.ifCond .ne 5, 3) := by decide +kernel
theorem dX7_isItem_143 : decode cX7_isItem 143 = .ok (.iconst 0, 1) := by decide +kernel
theorem dX7_isItem_144 : decode cX7_isItem 144 = .ok (.ireturn, 1) := by decide +kernel
theorem dX7_isItem_145 : decode cX7_isItem 145 = .ok (.aload_n 0, 1) := by decide +kernel
theorem dX7_isItem_146 : decode cX7_isItem 146 = .ok (.sipush 465, 3) := by decide +kernel
theorem dX7_isItem_149 : decode cX7_isItem 149 = .ok (.aload_n 0, 1) := by decide +kernel
theorem dX7_isItem_150 : decode cX7_isItem 150 = .ok (.getfield 28, 3) := by decide +kernel
theorem dX7_isItem_153 : decode cX7_isItem 153 = .ok (.iconst 0, 1) := by decide +kernel
theorem dX7_isItem_154 : decode cX7_isItem 154 = .ok (.iaload, 1) := by decide +kernel
theorem dX7_isItem_155 : decode cX7_isItem 155 = .ok (.aload_n 0, 1) := by decide +kernel
theorem dX7_isItem_156 : decode cX7_isItem 156 = .ok (.getfield 28, 3) := by decide +kernel
theorem dX7_isItem_159 : decode cX7_isItem 159 = .ok (.iconst 1, 1) := by decide +kernel
theorem dX7_isItem_160 : decode cX7_isItem 160 = .ok (.iaload, 1) := by decide +kernel
theorem dX7_isItem_161 : decode cX7_isItem 161 = .ok (.aload_n 0, 1) := by decide +kernel
theorem dX7_isItem_162 : decode cX7_isItem 162 = .ok (.getfield 28, 3) := by decide +kernel
theorem dX7_isItem_165 : decode cX7_isItem 165 = .ok (.iconst 2, 1) := by decide +kernel
theorem dX7_isItem_166 : decode cX7_isItem 166 = .ok (.iaload, 1) := by decide +kernel
theorem dX7_isItem_167 : decode cX7_isItem 167 = .ok (.invokevirtual 89, 3) := by decide +kernel
theorem dX7_isItem_170 : decode cX7_isItem 170 = .ok (.aload_n 0, 1) := by decide +kernel
theorem dX7_isItem_171 : decode cX7_isItem 171 = .ok (.invokevirtual 71, 3) := by decide +kernel
theorem dX7_isItem_174 : decode cX7_isItem 174 = .ok (.aload_n 0, 1) := by decide +kernel
theorem dX7_isItem_175 : decode cX7_isItem 175 = .ok (.invokevirtual 74, 3) := by decide +kernel
theorem dX7_isItem_178 : decode cX7_isItem 178 = .ok (.ifCond .ne 16, 3) := by decide +kernel
theorem dX7_isItem_181 : decode cX7_isItem 181 = .ok (.aload_n 0, 1) := by decide +kernel
theorem dX7_isItem_182 : decode cX7_isItem 182 = .ok (.getfield 64, 3) := by decide +kernel
theorem dX7_isItem_185 : decode cX7_isItem 185 = .ok (.bipush 59, 2) := by decide +kernel
theorem dX7_isItem_187 : decode cX7_isItem 187 = .ok (.if_icmp .ne 7, 3) := by decide +kernel
theorem dX7_isItem_190 : decode cX7_isItem 190 = .ok (.iconst 1, 1) := by decide +kernel
theorem dX7_isItem_191 : decode cX7_isItem 191 = .ok (.goto 4, 3) := by decide +kernel
theorem dX7_isItem_194 : decode cX7_isItem 194 = .ok (.iconst 0, 1) := by decide +kernel
theorem dX7_isItem_195 : decode cX7_isItem 195 = .ok (.ireturn, 1) := by decide +kernel
set_option maxRecDepth 20000 in
theorem ggX7_net_X7_next : GoodIn wsX7_net wsX7_next := goodIn_r _ [14, 1, 4, 6, 15, 16, 17, 18, 19, 20, 21, 13, 22, 48, 49, 50, 51, 52, 53, 54, 55, 56, 57, 58, 59, 60, 61, 62, 63, 64, 65, 66] rfl (by decide +kernel)
set_option maxRecDepth 20000 in
theorem gX7_net_X7_next : GoodIn wsX7_net (wsV RX7 71 RX7 yX7_next wsX7_next) := goodIn_app (goodIn_of _ (by decide +kernel)) ggX7_net_X7_next
set_option maxRecDepth 20000 in
theorem ggX7_net_X7_isEnd : GoodIn wsX7_net wsX7_isEnd := goodIn_r _ [26, 4, 6, 48, 49, 50, 51, 52, 53, 54, 55, 56, 57, 58, 59, 60, 61, 62, 63, 64, 65, 66] rfl (by decide +kernel)
set_option maxRecDepth 20000 in
theorem gX7_net_X7_isEnd : GoodIn wsX7_net (wsV RX7 74 RX7 yX7_isEnd wsX7_isEnd) := goodIn_app (goodIn_of _ (by decide +kernel)) ggX7_net_X7_isEnd
set_option maxRecDepth 20000 in
theorem ggX7_net_X7_isItem : GoodIn wsX7_net wsX7_isItem := goodIn_r _ [30, 17, 31, 2, 3, 32, 33, 34, 13, 35, 16, 10, 11, 12, 14, 1, 4, 6, 15, 18, 19, 20, 21, 22, 23, 24, 25, 26, 36, 37, 38, 39, 40, 41, 42, 43, 48, 49, 50, 51, 52, 53, 54, 55, 56, 57, 58, 59, 60, 61, 62, 63, 64, 65, 66] rfl (by decide +kernel)
set_option maxRecDepth 20000 in
theorem gX7_net_X7_isItem : GoodIn wsX7_net (wsV RX7 93 RX7 yX7_isItem wsX7_isItem) := goodIn_app (goodIn_of _ (by decide +kernel)) ggX7_net_X7_isItem
set_option maxRecDepth 20000 in
theorem ggX7_net_X7_copyRow : GoodIn wsX7_net wsX7_copyRow := goodIn_r _ [47, 3, 48, 49, 50, 51, 52, 53, 54, 55, 56, 57, 58, 59, 60, 61, 62, 63, 64, 65, 66] rfl (by decide +kernel)
set_option maxRecDepth 20000 in
theorem gX7_net_X7_copyRow : GoodIn wsX7_net (wsV RX7 97 RX7 yX7_copyRow wsX7_copyRow) := goodIn_app (goodIn_of _ (by decide +kernel)) ggX7_net_X7_copyRow
theorem dX7_net_0 : decode cX7_net 0 = .ok (.aload_n 0, 1) := by decide +kernel
theorem dX7_net_1 : decode cX7_net 1 = .ok (.iconst 0, 1) := by decide +kernel
theorem dX7_net_2 : decode cX7_net 2 = .ok (.putfield 55, 3) := by decide +kernel
theorem dX7_net_5 : decode cX7_net 5 = .ok (.aload_n 0, 1) := by decide +kernel
theorem dX7_net_6 : decode cX7_net 6 = .ok (.iconst 2, 1) := by decide +kernel
theorem dX7_net_7 : decode cX7_net 7 = .ok (.putfield 82, 3) := by decide +kernel
theorem dX7_net_10 : decode cX7_net 10 = .ok (.aload_n 0, 1) := by decide +kernel
theorem dX7_net_11 : decode cX7_net 11 = .ok (.getfield 7, 3) := by decide +kernel
theorem dX7_net_14 : decode cX7_net 14 = .ok (.sipush 465, 3) := by decide +kernel
theorem dX7_net_17 : decode cX7_net 17 = .ok (.iconst 0, 1) := by decide +kernel
theorem dX7_net_18 : decode cX7_net 18 = .ok (.iastore, 1) := by decide +kernel
theorem dX7_net_19 : decode cX7_net 19 = .ok (.iconst 0, 1) := by decide +kernel
theorem dX7_net_20 : decode cX7_net 20 = .ok (.istore_n 1, 1) := by decide +kernel
theorem dX7_net_21 : decode cX7_net 21 = .ok (.aload_n 0, 1) := by decide +kernel
theorem dX7_net_22 : decode cX7_net 22 = .ok (.invokevirtual 71, 3) := by decide +kernel
theorem dX7_net_25 : decode cX7_net 25 = .ok (.aload_n 0, 1) := by decide +kernel
theorem dX7_net_26 : decode cX7_net 26 = .ok (.invokevirtual 74, 3) := by decide +kernel
theorem dX7_net_29 : decode cX7_net 29 = .ok (.ifCond .ne 29, 3) := by decide +kernel
theorem dX7_net_32 : decode cX7_net 32 = .ok (.aload_n 0, 1) := by decide +kernel
theorem dX7_net_33 : decode cX7_net 33 = .ok (.iload_n 1, 1) := by decide +kernel
theorem dX7_net_34 : decode cX7_net 34 = .ok (.invokevirtual 93, 3) := by decide +kernel
theorem dX7_net_37 : decode cX7_net 37 = .ok (.ifCond .ne 11, 3) := by decide +kernel
theorem dX7_net_40 : decode cX7_net 40 = .ok (.bipush (-10), 2) := by decide +kernel
theorem dX7_net_42 : decode cX7_net 42 = .ok (.aload_n 0, 1) := by decide +kernel
theorem dX7_net_43 : decode cX7_net 43 = .ok (.getfield 58, 3) := by decide +kernel
theorem dX7_net_46 : decode cX7_net 46 = .ok (.isub, 1) := by decide +kernel
theorem dX7_net_47 : decode cX7_net 47 = .ok (.ireturn, 1) := by decide +kernel
theorem dX7_net_48 : decode cX7_net 48 = .ok (.iinc 1 1, 3) := by decide +kernel
theorem dX7_net_51 : decode cX7_net 51 = .ok (.aload_n 0, 1) := by decide +kernel
theorem dX7_net_52 : decode cX7_net 52 = .ok (.invokevirtual 71, 3) := by decide +kernel
theorem dX7_net_55 : decode cX7_net 55 = .ok (.goto (-30), 3) := by decide +kernel
theorem dX7_net_58 : decode cX7_net 58 = .ok (.aload_n 0, 1) := by decide +kernel
theorem dX7_net_59 : decode cX7_net 59 = .ok (.sipush 465, 3) := by decide +kernel
theorem dX7_net_62 : decode cX7_net 62 = .ok (.iconst 0, 1) := by decide +kernel
theorem dX7_net_63 : decode cX7_net 63 = .ok (.invokevirtual 97, 3) := by decide +kernel
theorem dX7_net_66 : decode cX7_net 66 = .ok (.aload_n 0, 1) := by decide +kernel
theorem dX7_net_67 : decode cX7_net 67 = .ok (.aload_n 0, 1) := by decide +kernel
theorem dX7_net_68 : decode cX7_net 68 = .ok (.getfield 82, 3) := by decide +kernel
theorem dX7_net_71 : decode cX7_net 71 = .ok (.putfield 13, 3) := by decide +kernel
theorem dX7_net_74 : decode cX7_net 74 = .ok (.aload_n 0, 1) := by decide +kernel
theorem dX7_net_75 : decode cX7_net 75 = .ok (.iconst 0, 1) := by decide +kernel
theorem dX7_net_76 : decode cX7_net 76 = .ok (.putfield 52, 3) := by decide +kernel
theorem dX7_net_79 : decode cX7_net 79 = .ok (.aload_n 0, 1) := by decide +kernel
theorem dX7_net_80 : decode cX7_net 80 = .ok (.iconst 0, 1) := by decide +kernel
theorem dX7_net_81 : decode cX7_net 81 = .ok (.putfield 101, 3) := by decide +kernel
theorem dX7_net_84 : decode cX7_net 84 = .ok (.aload_n 0, 1) := by decide +kernel
theorem dX7_net_85 : decode cX7_net 85 = .ok (.iconst 0, 1) := by decide +kernel
theorem dX7_net_86 : decode cX7_net 86 = .ok (.putfield 104, 3) := by decide +kernel
theorem dX7_net_89 : decode cX7_net 89 = .ok (.aload_n 0, 1) := by decide +kernel
theorem dX7_net_90 : decode cX7_net 90 = .ok (.getfield 17, 3) := by decide +kernel
theorem dX7_net_93 : decode cX7_net 93 = .ok (.iconst 0, 1) := by decide +kernel
theorem dX7_net_94 : decode cX7_net 94 = .ok (.iconst 0, 1) := by decide +kernel
theorem dX7_net_95 : decode cX7_net 95 = .ok (.bastore, 1) := by decide +kernel
theorem dX7_net_96 : decode cX7_net 96 = .ok (.aload_n 0, 1) := by decide +kernel
theorem dX7_net_97 : decode cX7_net 97 = .ok (.getfield 17, 3) := by decide +kernel
theorem dX7_net_100 : decode cX7_net 100 = .ok (.iconst 1, 1) := by decide +kernel
theorem dX7_net_101 : decode cX7_net 101 = .ok (.iconst 0, 1) := by decide +kernel
theorem dX7_net_102 : decode cX7_net 102 = .ok (.bastore, 1) := by decide +kernel
theorem dX7_net_103 : decode cX7_net 103 = .ok (.iload_n 1, 1) := by decide +kernel
theorem dX7_net_104 : decode cX7_net 104 = .ok (.ireturn, 1) := by decide +kernel
set_option maxRecDepth 20000 in
theorem ggX7_isNode_X7_in : GoodIn wsX7_isNode wsX7_in := goodIn_r _ [5] rfl (by decide +kernel)
set_option maxRecDepth 20000 in
theorem gX7_isNode_X7_in : GoodIn wsX7_isNode (va_wsS RX7 48 yX7_in wsX7_in) := goodIn_app (goodIn_of _ (by decide +kernel)) ggX7_isNode_X7_in
theorem dX7_isNode_0 : decode cX7_isNode 0 = .ok (.iload_n 1, 1) := by decide +kernel
theorem dX7_isNode_1 : decode cX7_isNode 1 = .ok (.i2l, 1) := by decide +kernel
theorem dX7_isNode_2 : decode cX7_isNode 2 = .ok (.lconst 0, 1) := by decide +kernel
theorem dX7_isNode_3 : decode cX7_isNode 3 = .ok (.aload_n 0, 1) := by decide +kernel
theorem dX7_isNode_4 : decode cX7_isNode 4 = .ok (.getfield 13, 3) := by decide +kernel
theorem dX7_isNode_7 : decode cX7_isNode 7 = .ok (.iconst 1, 1) := by decide +kernel
theorem dX7_isNode_8 : decode cX7_isNode 8 = .ok (.isub, 1) := by decide +kernel
theorem dX7_isNode_9 : decode cX7_isNode 9 = .ok (.i2l, 1) := by decide +kernel
theorem dX7_isNode_10 : decode cX7_isNode 10 = .ok (.invokestatic 48, 3) := by decide +kernel
theorem dX7_isNode_13 : decode cX7_isNode 13 = .ok (.ireturn, 1) := by decide +kernel
set_option maxRecDepth 20000 in
theorem ggX7_isLine_X7_lines : GoodIn wsX7_isLine wsX7_lines := goodIn_r _ [5, 6, 10, 11, 12, 13, 14, 15, 16, 17, 18, 19, 20, 21, 22, 23, 24, 25, 26, 27, 28] rfl (by decide +kernel)
set_option maxRecDepth 20000 in
theorem gX7_isLine_X7_lines : GoodIn wsX7_isLine (wsV RX7 107 RX7 yX7_lines wsX7_lines) := goodIn_app (goodIn_of _ (by decide +kernel)) ggX7_isLine_X7_lines
set_option maxRecDepth 20000 in
theorem ggX7_isLine_X7_in : GoodIn wsX7_isLine wsX7_in := goodIn_r _ [9] rfl (by decide +kernel)
set_option maxRecDepth 20000 in
theorem gX7_isLine_X7_in : GoodIn wsX7_isLine (va_wsS RX7 48 yX7_in wsX7_in) := goodIn_app (goodIn_of _ (by decide +kernel)) ggX7_isLine_X7_in
theorem dX7_isLine_0 : decode cX7_isLine 0 = .ok (.iload_n 1, 1) := by decide +kernel
theorem dX7_isLine_1 : decode cX7_isLine 1 = .ok (.i2l, 1) := by decide +kernel
theorem dX7_isLine_2 : decode cX7_isLine 2 = .ok (.lconst 0, 1) := by decide +kernel
theorem dX7_isLine_3 : decode cX7_isLine 3 = .ok (.aload_n 0, 1) := by decide +kernel
theorem dX7_isLine_4 : decode cX7_isLine 4 = .ok (.invokevirtual 107, 3) := by decide +kernel
theorem dX7_isLine_7 : decode cX7_isLine 7 = .ok (.iconst 1, 1) := by decide +kernel
theorem dX7_isLine_8 : decode cX7_isLine 8 = .ok (.isub, 1) := by decide +kernel
theorem dX7_isLine_9 : decode cX7_isLine 9 = .ok (.i2l, 1) := by decide +kernel
theorem dX7_isLine_10 : decode cX7_isLine 10 = .ok (.invokestatic 48, 3) := by decide +kernel
theorem dX7_isLine_13 : decode cX7_isLine 13 = .ok (.ireturn, 1) := by decide +kernel
set_option maxRecDepth 20000 in
theorem ggX7_line_X7_isLine : GoodIn wsX7_line wsX7_isLine := goodIn_r _ [7, 8, 9, 10, 6, 11, 2, 12, 13, 14, 15, 16, 17, 18, 19, 20, 21, 22, 23, 24, 25, 26, 27, 28, 29, 30, 31, 32, 33] rfl (by decide +kernel)
set_option maxRecDepth 20000 in
theorem gX7_line_X7_isLine : GoodIn wsX7_line (wsV RX7 111 RX7 yX7_isLine wsX7_isLine) := goodIn_app (goodIn_of _ (by decide +kernel)) ggX7_line_X7_isLine
set_option maxRecDepth 20000 in
theorem ggX7_line_X7_in : GoodIn wsX7_line wsX7_in := goodIn_r _ [14] rfl (by decide +kernel)
set_option maxRecDepth 20000 in
theorem gX7_line_X7_in : GoodIn wsX7_line (va_wsS RX7 48 yX7_in wsX7_in) := goodIn_app (goodIn_of _ (by decide +kernel)) ggX7_line_X7_in
theorem dX7_line_0 : decode cX7_line 0 = .ok (.aload_n 0, 1) := by decide +kernel
theorem dX7_line_1 : decode cX7_line 1 = .ok (.iload_n 1, 1) := by decide +kernel
theorem dX7_line_2 : decode cX7_line 2 = .ok (.invokevirtual 111, 3) := by decide +kernel
theorem dX7_line_5 : decode cX7_line 5 = .ok (.ifCond .eq 15, 3) := by decide +kernel
theorem dX7_line_8 : decode cX7_line 8 = .ok (.iload_n 2, 1) := by decide +kernel
theorem dX7_line_9 : decode cX7_line 9 = .ok (.i2l, 1) := by decide +kernel
theorem dX7_line_10 : decode cX7_line 10 = .ok (.lconst 0, 1) := by decide +kernel
theorem dX7_line_11 : decode cX7_line 11 = .ok (.ldc2_w 114, 3) := by decide +kernel
theorem dX7_line_14 : decode cX7_line 14 = .ok (.invokestatic 48, 3) := by decide +kernel
theorem dX7_line_17 : decode cX7_line 17 = .ok (.ifCond .ne 5, 3) := by decide +kernel
theorem dX7_line_20 : decode cX7_line 20 = .ok (.iconst (-1), 1) := by decide +kernel
theorem dX7_line_21 : decode cX7_line 21 = .ok (.ireturn, 1) := by decide +kernel
theorem dX7_line_22 : decode cX7_line 22 = .ok (.iload_n 2, 1) := by decide +kernel
theorem dX7_line_23 : decode cX7_line 23 = .ok (.ifCond .ne 14, 3) := by decide +kernel
theorem dX7_line_26 : decode cX7_line 26 = .ok (.aload_n 0, 1) := by decide +kernel
theorem dX7_line_27 : decode cX7_line 27 = .ok (.getfield 7, 3) := by decide +kernel
theorem dX7_line_30 : decode cX7_line 30 = .ok (.iconst 1, 1) := by decide +kernel
theorem dX7_line_31 : decode cX7_line 31 = .ok (.iload_n 1, 1) := by decide +kernel
theorem dX7_line_32 : decode cX7_line 32 = .ok (.iadd, 1) := by decide +kernel
theorem dX7_line_33 : decode cX7_line 33 = .ok (.iaload, 1) := by decide +kernel
theorem dX7_line_34 : decode cX7_line 34 = .ok (.goto 29, 3) := by decide +kernel
theorem dX7_line_37 : decode cX7_line 37 = .ok (.iload_n 2, 1) := by decide +kernel
theorem dX7_line_38 : decode cX7_line 38 = .ok (.iconst 1, 1) := by decide +kernel
theorem dX7_line_39 : decode cX7_line 39 = .ok (.if_icmp .ne 15, 3) := by decide +kernel
theorem dX7_line_42 : decode cX7_line 42 = .ok (.aload_n 0, 1) := by decide +kernel
theorem dX7_line_43 : decode cX7_line 43 = .ok (.getfield 7, 3) := by decide +kernel
theorem dX7_line_46 : decode cX7_line 46 = .ok (.bipush 11, 2) := by decide +kernel
theorem dX7_line_48 : decode cX7_line 48 = .ok (.iload_n 1, 1) := by decide +kernel
theorem dX7_line_49 : decode cX7_line 49 = .ok (.iadd, 1) := by decide +kernel
theorem dX7_line_50 : decode cX7_line 50 = .ok (.iaload, 1) := by decide +kernel
theorem dX7_line_51 : decode cX7_line 51 = .ok (.goto 12, 3) := by decide +kernel
theorem dX7_line_54 : decode cX7_line 54 = .ok (.aload_n 0, 1) := by decide +kernel
theorem dX7_line_55 : decode cX7_line 55 = .ok (.getfield 7, 3) := by decide +kernel
theorem dX7_line_58 : decode cX7_line 58 = .ok (.bipush 21, 2) := by decide +kernel
theorem dX7_line_60 : decode cX7_line 60 = .ok (.iload_n 1, 1) := by decide +kernel
theorem dX7_line_61 : decode cX7_line 61 = .ok (.iadd, 1) := by decide +kernel
theorem dX7_line_62 : decode cX7_line 62 = .ok (.iaload, 1) := by decide +kernel
theorem dX7_line_63 : decode cX7_line 63 = .ok (.ireturn, 1) := by decide +kernel
set_option maxRecDepth 20000 in
theorem ggX7_degree_X7_lines : GoodIn wsX7_degree wsX7_lines := goodIn_r _ [6, 1, 7, 8, 9, 10, 11, 12, 13, 14, 15, 16, 17, 18, 19, 20, 21, 22, 23, 24, 25] rfl (by decide +kernel)
set_option maxRecDepth 20000 in
theorem gX7_degree_X7_lines : GoodIn wsX7_degree (wsV RX7 107 RX7 yX7_lines wsX7_lines) := goodIn_app (goodIn_of _ (by decide +kernel)) ggX7_degree_X7_lines
theorem dX7_degree_0 : decode cX7_degree 0 = .ok (.iconst 0, 1) := by decide +kernel
theorem dX7_degree_1 : decode cX7_degree 1 = .ok (.istore_n 3, 1) := by decide +kernel
theorem dX7_degree_2 : decode cX7_degree 2 = .ok (.iconst 0, 1) := by decide +kernel
theorem dX7_degree_3 : decode cX7_degree 3 = .ok (.istore 4, 2) := by decide +kernel
theorem dX7_degree_5 : decode cX7_degree 5 = .ok (.iload 4, 2) := by decide +kernel
theorem dX7_degree_7 : decode cX7_degree 7 = .ok (.aload_n 0, 1) := by decide +kernel
theorem dX7_degree_8 : decode cX7_degree 8 = .ok (.invokevirtual 107, 3) := by decide +kernel
theorem dX7_degree_11 : decode cX7_degree 11 = .ok (.if_icmp .ge 59, 3) := by decide +kernel
theorem dX7_degree_14 : decode cX7_degree 14 = .ok (.iload_n 3, 1) := by decide +kernel
theorem dX7_degree_15 : decode cX7_degree 15 = .ok (.iload 4, 2) := by decide +kernel
theorem dX7_degree_17 : decode cX7_degree 17 = .ok (.iload_n 2, 1) := by decide +kernel
theorem dX7_degree_18 : decode cX7_degree 18 = .ok (.if_icmp .eq 43, 3) := by decide +kernel
theorem dX7_degree_21 : decode cX7_degree 21 = .ok (.aload_n 0, 1) := by decide +kernel
theorem dX7_degree_22 : decode cX7_degree 22 = .ok (.getfield 7, 3) := by decide +kernel
theorem dX7_degree_25 : decode cX7_degree 25 = .ok (.iconst 1, 1) := by decide +kernel
theorem dX7_degree_26 : decode cX7_degree 26 = .ok (.iload 4, 2) := by decide +kernel
theorem dX7_degree_28 : decode cX7_degree 28 = .ok (.iadd, 1) := by decide +kernel
theorem dX7_degree_29 : decode cX7_degree 29 = .ok (.iaload, 1) := by decide +kernel
theorem dX7_degree_30 : decode cX7_degree 30 = .ok (.iload_n 1, 1) := by decide +kernel
theorem dX7_degree_31 : decode cX7_degree 31 = .ok (.if_icmp .eq 17, 3) := by decide +kernel
theorem dX7_degree_34 : decode cX7_degree 34 = .ok (.aload_n 0, 1) := by decide +kernel
theorem dX7_degree_35 : decode cX7_degree 35 = .ok (.getfield 7, 3) := by decide +kernel
theorem dX7_degree_38 : decode cX7_degree 38 = .ok (.bipush 11, 2) := by decide +kernel
theorem dX7_degree_40 : decode cX7_degree 40 = .ok (.iload 4, 2) := by decide +kernel
theorem dX7_degree_42 : decode cX7_degree 42 = .ok (.iadd, 1) := by decide +kernel
theorem dX7_degree_43 : decode cX7_degree 43 = .ok (.iaload, 1) := by decide +kernel
theorem dX7_degree_44 : decode cX7_degree 44 = .ok (.iload_n 1, 1) := by decide +kernel
theorem dX7_degree_45 : decode cX7_degree 45 = .ok (.if_icmp .ne 16, 3) := by decide +kernel
theorem dX7_degree_48 : decode cX7_degree 48 = .ok (.aload_n 0, 1) := by decide +kernel
theorem dX7_degree_49 : decode cX7_degree 49 = .ok (.getfield 7, 3) := by decide +kernel
theorem dX7_degree_52 : decode cX7_degree 52 = .ok (.bipush 21, 2) := by decide +kernel
theorem dX7_degree_54 : decode cX7_degree 54 = .ok (.iload 4, 2) := by decide +kernel
theorem dX7_degree_56 : decode cX7_degree 56 = .ok (.iadd, 1) := by decide +kernel
theorem dX7_degree_57 : decode cX7_degree 57 = .ok (.iaload, 1) := by decide +kernel
theorem dX7_degree_58 : decode cX7_degree 58 = .ok (.goto 4, 3) := by decide +kernel
theorem dX7_degree_61 : decode cX7_degree 61 = .ok (.iconst 0, 1) := by decide +kernel
theorem dX7_degree_62 : decode cX7_degree 62 = .ok (.iadd, 1) := by decide +kernel
theorem dX7_degree_63 : decode cX7_degree 63 = .ok (.istore_n 3, 1) := by decide +kernel
theorem dX7_degree_64 : decode cX7_degree 64 = .ok (.iinc 4 1, 3) := by decide +kernel
theorem dX7_degree_67 : decode cX7_degree 67 = .ok (.goto (-62), 3) := by decide +kernel
theorem dX7_degree_70 : decode cX7_degree 70 = .ok (.iload_n 3, 1) := by decide +kernel
theorem dX7_degree_71 : decode cX7_degree 71 = .ok (.ireturn, 1) := by decide +kernel
set_option maxRecDepth 20000 in
theorem ggX7_whole_X7_lines : GoodIn wsX7_whole wsX7_lines := goodIn_r _ [6, 1, 7, 8, 9, 10, 11, 12, 13, 14, 15, 16, 17, 18, 19, 20, 21, 22, 23, 24, 25] rfl (by decide +kernel)
set_option maxRecDepth 20000 in
theorem gX7_whole_X7_lines : GoodIn wsX7_whole (wsV RX7 107 RX7 yX7_lines wsX7_lines) := goodIn_app (goodIn_of _ (by decide +kernel)) ggX7_whole_X7_lines
theorem dX7_whole_0 : decode cX7_whole 0 = .ok (.iconst 0, 1) := by decide +kernel
theorem dX7_whole_1 : decode cX7_whole 1 = .ok (.istore_n 1, 1) := by decide +kernel
theorem dX7_whole_2 : decode cX7_whole 2 = .ok (.iconst 0, 1) := by decide +kernel
theorem dX7_whole_3 : decode cX7_whole 3 = .ok (.istore_n 2, 1) := by decide +kernel
theorem dX7_whole_4 : decode cX7_whole 4 = .ok (.iload_n 2, 1) := by decide +kernel
theorem dX7_whole_5 : decode cX7_whole 5 = .ok (.aload_n 0, 1) := by decide +kernel
theorem dX7_whole_6 : decode cX7_whole 6 = .ok (.invokevirtual 107, 3) := by decide +kernel
theorem dX7_whole_9 : decode cX7_whole 9 = .ok (.if_icmp .ge 21, 3) := by decide +kernel
theorem dX7_whole_12 : decode cX7_whole 12 = .ok (.iload_n 1, 1) := by decide +kernel
theorem dX7_whole_13 : decode cX7_whole 13 = .ok (.aload_n 0, 1) := by decide +kernel
theorem dX7_whole_14 : decode cX7_whole 14 = .ok (.getfield 7, 3) := by decide +kernel
theorem dX7_whole_17 : decode cX7_whole 17 = .ok (.bipush 21, 2) := by decide +kernel
theorem dX7_whole_19 : decode cX7_whole 19 = .ok (.iload_n 2, 1) := by decide +kernel
theorem dX7_whole_20 : decode cX7_whole 20 = .ok (.iadd, 1) := by decide +kernel
theorem dX7_whole_21 : decode cX7_whole 21 = .ok (.iaload, 1) := by decide +kernel
theorem dX7_whole_22 : decode cX7_whole 22 = .ok (.iadd, 1) := by decide +kernel
theorem dX7_whole_23 : decode cX7_whole 23 = .ok (.istore_n 1, 1) := by decide +kernel
theorem dX7_whole_24 : decode cX7_whole 24 = .ok (.iinc 2 1, 3) := by decide +kernel
theorem dX7_whole_27 : decode cX7_whole 27 = .ok (.goto (-23), 3) := by decide +kernel
theorem dX7_whole_30 : decode cX7_whole 30 = .ok (.iload_n 1, 1) := by decide +kernel
theorem dX7_whole_31 : decode cX7_whole 31 = .ok (.ireturn, 1) := by decide +kernel
set_option maxRecDepth 20000 in
theorem ggX7_width_X7_isNode : GoodIn wsX7_width wsX7_isNode := goodIn_r _ [6, 7, 8, 9, 5, 10, 23, 24, 25, 26, 27, 28, 29, 30, 31, 32, 33, 34, 35, 36, 37, 38, 39, 40, 41] rfl (by decide +kernel)
set_option maxRecDepth 20000 in
theorem gX7_width_X7_isNode : GoodIn wsX7_width (wsV RX7 116 RX7 yX7_isNode wsX7_isNode) := goodIn_app (goodIn_of _ (by decide +kernel)) ggX7_width_X7_isNode
set_option maxRecDepth 20000 in
theorem ggX7_width_X7_degree : GoodIn wsX7_width wsX7_degree := goodIn_r _ [14, 1, 15, 16, 17, 5, 18, 23, 24, 25, 26, 27, 28, 29, 30, 31, 32, 33, 34, 35, 36, 37, 38, 39, 40, 41] rfl (by decide +kernel)
set_option maxRecDepth 20000 in
theorem gX7_width_X7_degree : GoodIn wsX7_width (wsV RX7 119 RX7 yX7_degree wsX7_degree) := goodIn_app (goodIn_of _ (by decide +kernel)) ggX7_width_X7_degree
set_option maxRecDepth 20000 in
theorem ggX7_width_X7_lineOf : GoodIn wsX7_width wsX7_lineOf := goodIn_r _ [22, 1, 23, 24, 25, 26, 27, 28, 29, 30, 31, 32, 33, 34, 35, 36, 37, 38, 39, 40, 41] rfl (by decide +kernel)
set_option maxRecDepth 20000 in
theorem gX7_width_X7_lineOf : GoodIn wsX7_width (wsV RX7 85 RX7 yX7_lineOf wsX7_lineOf) := goodIn_app (goodIn_of _ (by decide +kernel)) ggX7_width_X7_lineOf
theorem dX7_width_0 : decode cX7_width 0 = .ok (.aload_n 0, 1) := by decide +kernel
theorem dX7_width_1 : decode cX7_width 1 = .ok (.iload_n 1, 1) := by decide +kernel
theorem dX7_width_2 : decode cX7_width 2 = .ok (.invokevirtual 116, 3) := by decide +kernel
theorem dX7_width_5 : decode cX7_width 5 = .ok (.ifCond .eq 11, 3) := by decide +kernel
theorem dX7_width_8 : decode cX7_width 8 = .ok (.aload_n 0, 1) := by decide +kernel
theorem dX7_width_9 : decode cX7_width 9 = .ok (.iload_n 2, 1) := by decide +kernel
theorem dX7_width_10 : decode cX7_width 10 = .ok (.invokevirtual 116, 3) := by decide +kernel
theorem dX7_width_13 : decode cX7_width 13 = .ok (.ifCond .ne 5, 3) := by decide +kernel
theorem dX7_width_16 : decode cX7_width 16 = .ok (.iconst (-1), 1) := by decide +kernel
theorem dX7_width_17 : decode cX7_width 17 = .ok (.ireturn, 1) := by decide +kernel
theorem dX7_width_18 : decode cX7_width 18 = .ok (.iload_n 1, 1) := by decide +kernel
theorem dX7_width_19 : decode cX7_width 19 = .ok (.iload_n 2, 1) := by decide +kernel
theorem dX7_width_20 : decode cX7_width 20 = .ok (.if_icmp .ne 11, 3) := by decide +kernel
theorem dX7_width_23 : decode cX7_width 23 = .ok (.aload_n 0, 1) := by decide +kernel
theorem dX7_width_24 : decode cX7_width 24 = .ok (.iload_n 1, 1) := by decide +kernel
theorem dX7_width_25 : decode cX7_width 25 = .ok (.bipush (-9), 2) := by decide +kernel
theorem dX7_width_27 : decode cX7_width 27 = .ok (.invokevirtual 119, 3) := by decide +kernel
theorem dX7_width_30 : decode cX7_width 30 = .ok (.ireturn, 1) := by decide +kernel
theorem dX7_width_31 : decode cX7_width 31 = .ok (.aload_n 0, 1) := by decide +kernel
theorem dX7_width_32 : decode cX7_width 32 = .ok (.iconst 0, 1) := by decide +kernel
theorem dX7_width_33 : decode cX7_width 33 = .ok (.iload_n 1, 1) := by decide +kernel
theorem dX7_width_34 : decode cX7_width 34 = .ok (.iload_n 2, 1) := by decide +kernel
theorem dX7_width_35 : decode cX7_width 35 = .ok (.invokevirtual 85, 3) := by decide +kernel
theorem dX7_width_38 : decode cX7_width 38 = .ok (.istore_n 3, 1) := by decide +kernel
theorem dX7_width_39 : decode cX7_width 39 = .ok (.iload_n 3, 1) := by decide +kernel
theorem dX7_width_40 : decode cX7_width 40 = .ok (.bipush (-9), 2) := by decide +kernel
theorem dX7_width_42 : decode cX7_width 42 = .ok (.if_icmp .ne 7, 3) := by decide +kernel
theorem dX7_width_45 : decode cX7_width 45 = .ok (.iconst 0, 1) := by decide +kernel
theorem dX7_width_46 : decode cX7_width 46 = .ok (.goto 12, 3) := by decide +kernel
theorem dX7_width_49 : decode cX7_width 49 = .ok (.aload_n 0, 1) := by decide +kernel
theorem dX7_width_50 : decode cX7_width 50 = .ok (.getfield 7, 3) := by decide +kernel
theorem dX7_width_53 : decode cX7_width 53 = .ok (.bipush 21, 2) := by decide +kernel
theorem dX7_width_55 : decode cX7_width 55 = .ok (.iload_n 3, 1) := by decide +kernel
theorem dX7_width_56 : decode cX7_width 56 = .ok (.iadd, 1) := by decide +kernel
theorem dX7_width_57 : decode cX7_width 57 = .ok (.iaload, 1) := by decide +kernel
theorem dX7_width_58 : decode cX7_width 58 = .ok (.ireturn, 1) := by decide +kernel
set_option maxRecDepth 20000 in
theorem ggX7_notes_X7_copyRow : GoodIn wsX7_notes wsX7_copyRow := goodIn_r _ [7, 2, 8, 9, 10, 11, 12, 13, 14, 15, 16, 17, 18, 19, 20, 21, 22, 23, 24, 25, 26] rfl (by decide +kernel)
set_option maxRecDepth 20000 in
theorem gX7_notes_X7_copyRow : GoodIn wsX7_notes (wsV RX7 97 RX7 yX7_copyRow wsX7_copyRow) := goodIn_app (goodIn_of _ (by decide +kernel)) ggX7_notes_X7_copyRow
theorem dX7_notes_0 : decode cX7_notes 0 = .ok (.iconst 0, 1) := by decide +kernel
theorem dX7_notes_1 : decode cX7_notes 1 = .ok (.istore_n 1, 1) := by decide +kernel
theorem dX7_notes_2 : decode cX7_notes 2 = .ok (.iload_n 1, 1) := by decide +kernel
theorem dX7_notes_3 : decode cX7_notes 3 = .ok (.sipush 341, 3) := by decide +kernel
theorem dX7_notes_6 : decode cX7_notes 6 = .ok (.if_icmp .ge 36, 3) := by decide +kernel
theorem dX7_notes_9 : decode cX7_notes 9 = .ok (.aload_n 0, 1) := by decide +kernel
theorem dX7_notes_10 : decode cX7_notes 10 = .ok (.getfield 101, 3) := by decide +kernel
theorem dX7_notes_13 : decode cX7_notes 13 = .ok (.bipush 12, 2) := by decide +kernel
theorem dX7_notes_15 : decode cX7_notes 15 = .ok (.if_icmp .ne 27, 3) := by decide +kernel
theorem dX7_notes_18 : decode cX7_notes 18 = .ok (.aload_n 0, 1) := by decide +kernel
theorem dX7_notes_19 : decode cX7_notes 19 = .ok (.getfield 7, 3) := by decide +kernel
theorem dX7_notes_22 : decode cX7_notes 22 = .ok (.bipush 31, 2) := by decide +kernel
theorem dX7_notes_24 : decode cX7_notes 24 = .ok (.iload_n 1, 1) := by decide +kernel
theorem dX7_notes_25 : decode cX7_notes 25 = .ok (.iadd, 1) := by decide +kernel
theorem dX7_notes_26 : decode cX7_notes 26 = .ok (.aload_n 0, 1) := by decide +kernel
theorem dX7_notes_27 : decode cX7_notes 27 = .ok (.getfield 7, 3) := by decide +kernel
theorem dX7_notes_30 : decode cX7_notes 30 = .ok (.bipush 62, 2) := by decide +kernel
theorem dX7_notes_32 : decode cX7_notes 32 = .ok (.iload_n 1, 1) := by decide +kernel
theorem dX7_notes_33 : decode cX7_notes 33 = .ok (.iadd, 1) := by decide +kernel
theorem dX7_notes_34 : decode cX7_notes 34 = .ok (.iaload, 1) := by decide +kernel
theorem dX7_notes_35 : decode cX7_notes 35 = .ok (.iastore, 1) := by decide +kernel
theorem dX7_notes_36 : decode cX7_notes 36 = .ok (.iinc 1 1, 3) := by decide +kernel
theorem dX7_notes_39 : decode cX7_notes 39 = .ok (.goto (-37), 3) := by decide +kernel
theorem dX7_notes_42 : decode cX7_notes 42 = .ok (.aload_n 0, 1) := by decide +kernel
theorem dX7_notes_43 : decode cX7_notes 43 = .ok (.dup, 1) := by decide +kernel
theorem dX7_notes_44 : decode cX7_notes 44 = .ok (.getfield 101, 3) := by decide +kernel
theorem dX7_notes_47 : decode cX7_notes 47 = .ok (.aload_n 0, 1) := by decide +kernel
theorem dX7_notes_48 : decode cX7_notes 48 = .ok (.getfield 101, 3) := by decide +kernel
theorem dX7_notes_51 : decode cX7_notes 51 = .ok (.bipush 12, 2) := by decide +kernel
theorem dX7_notes_53 : decode cX7_notes 53 = .ok (.if_icmp .ne 7, 3) := by decide +kernel
theorem dX7_notes_56 : decode cX7_notes 56 = .ok (.iconst 1, 1) := by decide +kernel
theorem dX7_notes_57 : decode cX7_notes 57 = .ok (.goto 4, 3) := by decide +kernel
theorem dX7_notes_60 : decode cX7_notes 60 = .ok (.iconst 0, 1) := by decide +kernel
theorem dX7_notes_61 : decode cX7_notes 61 = .ok (.isub, 1) := by decide +kernel
theorem dX7_notes_62 : decode cX7_notes 62 = .ok (.putfield 101, 3) := by decide +kernel
theorem dX7_notes_65 : decode cX7_notes 65 = .ok (.aload_n 0, 1) := by decide +kernel
theorem dX7_notes_66 : decode cX7_notes 66 = .ok (.iconst 0, 1) := by decide +kernel
theorem dX7_notes_67 : decode cX7_notes 67 = .ok (.bipush 31, 2) := by decide +kernel
theorem dX7_notes_69 : decode cX7_notes 69 = .ok (.bipush 31, 2) := by decide +kernel
theorem dX7_notes_71 : decode cX7_notes 71 = .ok (.aload_n 0, 1) := by decide +kernel
theorem dX7_notes_72 : decode cX7_notes 72 = .ok (.getfield 101, 3) := by decide +kernel
theorem dX7_notes_75 : decode cX7_notes 75 = .ok (.imul, 1) := by decide +kernel
theorem dX7_notes_76 : decode cX7_notes 76 = .ok (.iadd, 1) := by decide +kernel
theorem dX7_notes_77 : decode cX7_notes 77 = .ok (.invokevirtual 97, 3) := by decide +kernel
theorem dX7_notes_80 : decode cX7_notes 80 = .ok (.aload_n 0, 1) := by decide +kernel
theorem dX7_notes_81 : decode cX7_notes 81 = .ok (.dup, 1) := by decide +kernel
theorem dX7_notes_82 : decode cX7_notes 82 = .ok (.getfield 101, 3) := by decide +kernel
theorem dX7_notes_85 : decode cX7_notes 85 = .ok (.iconst 1, 1) := by decide +kernel
theorem dX7_notes_86 : decode cX7_notes 86 = .ok (.iadd, 1) := by decide +kernel
theorem dX7_notes_87 : decode cX7_notes 87 = .ok (.putfield 101, 3) := by decide +kernel
theorem dX7_notes_90 : decode cX7_notes 90 = .ok (.return_, 1) := by decide +kernel
set_option maxRecDepth 20000 in
theorem ggX7_lays_X7_isNode : GoodIn wsX7_lays wsX7_isNode := goodIn_r _ [6, 7, 8, 9, 5, 10, 33, 34, 35, 36, 37, 38, 39, 40, 41, 42, 43, 44, 45, 46, 47, 48, 49, 50, 51] rfl (by decide +kernel)
set_option maxRecDepth 20000 in
theorem gX7_lays_X7_isNode : GoodIn wsX7_lays (wsV RX7 116 RX7 yX7_isNode wsX7_isNode) := goodIn_app (goodIn_of _ (by decide +kernel)) ggX7_lays_X7_isNode
set_option maxRecDepth 20000 in
theorem ggX7_lays_X7_in : GoodIn wsX7_lays wsX7_in := goodIn_r _ [10] rfl (by decide +kernel)
set_option maxRecDepth 20000 in
theorem gX7_lays_X7_in : GoodIn wsX7_lays (va_wsS RX7 48 yX7_in wsX7_in) := goodIn_app (goodIn_of _ (by decide +kernel)) ggX7_lays_X7_in
set_option maxRecDepth 20000 in
theorem ggX7_lays_X7_lineOf : GoodIn wsX7_lays wsX7_lineOf := goodIn_r _ [14, 15, 33, 34, 35, 36, 37, 38, 39, 40, 41, 42, 43, 44, 45, 46, 47, 48, 49, 50, 51] rfl (by decide +kernel)
set_option maxRecDepth 20000 in
theorem gX7_lays_X7_lineOf : GoodIn wsX7_lays (wsV RX7 85 RX7 yX7_lineOf wsX7_lineOf) := goodIn_app (goodIn_of _ (by decide +kernel)) ggX7_lays_X7_lineOf
set_option maxRecDepth 20000 in
theorem ggX7_lays_X7_lines : GoodIn wsX7_lays wsX7_lines := goodIn_r _ [19, 15, 33, 34, 35, 36, 37, 38, 39, 40, 41, 42, 43, 44, 45, 46, 47, 48, 49, 50, 51] rfl (by decide +kernel)
set_option maxRecDepth 20000 in
theorem gX7_lays_X7_lines : GoodIn wsX7_lays (wsV RX7 107 RX7 yX7_lines wsX7_lines) := goodIn_app (goodIn_of _ (by decide +kernel)) ggX7_lays_X7_lines
set_option maxRecDepth 20000 in
theorem ggX7_lays_X7_notes : GoodIn wsX7_lays wsX7_notes := goodIn_r _ [23, 24, 15, 25, 26, 27, 5, 28, 33, 34, 35, 36, 37, 38, 39, 40, 41, 42, 43, 44, 45, 46, 47, 48, 49, 50, 51] rfl (by decide +kernel)
set_option maxRecDepth 20000 in
theorem gX7_lays_X7_notes : GoodIn wsX7_lays (wsV RX7 125 RX7 yX7_notes wsX7_notes) := goodIn_app (goodIn_of _ (by decide +kernel)) ggX7_lays_X7_notes
set_option maxRecDepth 20000 in
theorem ggX7_lays_X7_adds : GoodIn wsX7_lays wsX7_adds := goodIn_r _ [32, 15, 33, 34, 35, 36, 37, 38, 39, 40, 41, 42, 43, 44, 45, 46, 47, 48, 49, 50, 51] rfl (by decide +kernel)
set_option maxRecDepth 20000 in
theorem gX7_lays_X7_adds : GoodIn wsX7_lays (wsV RX7 89 RX7 yX7_adds wsX7_adds) := goodIn_app (goodIn_of _ (by decide +kernel)) ggX7_lays_X7_adds
theorem dX7_lays_0 : decode cX7_lays 0 = .ok (.aload_n 0, 1) := by decide +kernel
theorem dX7_lays_1 : decode cX7_lays 1 = .ok (.iload_n 1, 1) := by decide +kernel
theorem dX7_lays_2 : decode cX7_lays 2 = .ok (.invokevirtual 116, 3) := by decide +kernel
theorem dX7_lays_5 : decode cX7_lays 5 = .ok (.ifCond .eq 28, 3) := by decide +kernel
theorem dX7_lays_8 : decode cX7_lays 8 = .ok (.aload_n 0, 1) := by decide +kernel
theorem dX7_lays_9 : decode cX7_lays 9 = .ok (.iload_n 2, 1) := by decide +kernel
theorem dX7_lays_10 : decode cX7_lays 10 = .ok (.invokevirtual 116, 3) := by decide +kernel
theorem dX7_lays_13 : decode cX7_lays 13 = .ok (.ifCond .eq 20, 3) := by decide +kernel
theorem dX7_lays_16 : decode cX7_lays 16 = .ok (.iload_n 1, 1) := by decide +kernel
theorem dX7_lays_17 : decode cX7_lays 17 = .ok (.iload_n 2, 1) := by decide +kernel
theorem dX7_lays_18 : decode cX7_lays 18 = .ok (.if_icmp .eq 15, 3) := by decide +kernel
theorem dX7_lays_21 : decode cX7_lays 21 = .ok (.iload_n 3, 1) := by decide +kernel
theorem dX7_lays_22 : decode cX7_lays 22 = .ok (.i2l, 1) := by decide +kernel
theorem dX7_lays_23 : decode cX7_lays 23 = .ok (.lconst 1, 1) := by decide +kernel
theorem dX7_lays_24 : decode cX7_lays 24 = .ok (.ldc2_w 123, 3) := by decide +kernel
theorem dX7_lays_27 : decode cX7_lays 27 = .ok (.invokestatic 48, 3) := by decide +kernel
theorem dX7_lays_30 : decode cX7_lays 30 = .ok (.ifCond .ne 5, 3) := by decide +kernel
theorem dX7_lays_33 : decode cX7_lays 33 = .ok (.iconst (-1), 1) := by decide +kernel
theorem dX7_lays_34 : decode cX7_lays 34 = .ok (.ireturn, 1) := by decide +kernel
theorem dX7_lays_35 : decode cX7_lays 35 = .ok (.aload_n 0, 1) := by decide +kernel
theorem dX7_lays_36 : decode cX7_lays 36 = .ok (.iconst 0, 1) := by decide +kernel
theorem dX7_lays_37 : decode cX7_lays 37 = .ok (.iload_n 1, 1) := by decide +kernel
theorem dX7_lays_38 : decode cX7_lays 38 = .ok (.iload_n 2, 1) := by decide +kernel
theorem dX7_lays_39 : decode cX7_lays 39 = .ok (.invokevirtual 85, 3) := by decide +kernel
theorem dX7_lays_42 : decode cX7_lays 42 = .ok (.bipush (-9), 2) := by decide +kernel
theorem dX7_lays_44 : decode cX7_lays 44 = .ok (.if_icmp .eq 6, 3) := by decide +kernel
theorem dX7_lays_47 : decode cX7_lays 47 = .ok (.bipush (-2), 2) := by decide +kernel
theorem dX7_lays_49 : decode cX7_lays 49 = .ok (.ireturn, 1) := by decide +kernel
theorem dX7_lays_50 : decode cX7_lays 50 = .ok (.aload_n 0, 1) := by decide +kernel
theorem dX7_lays_51 : decode cX7_lays 51 = .ok (.invokevirtual 107, 3) := by decide +kernel
theorem dX7_lays_54 : decode cX7_lays 54 = .ok (.bipush 10, 2) := by decide +kernel
theorem dX7_lays_56 : decode cX7_lays 56 = .ok (.if_icmp .ne 6, 3) := by decide +kernel
theorem dX7_lays_59 : decode cX7_lays 59 = .ok (.bipush (-3), 2) := by decide +kernel
theorem dX7_lays_61 : decode cX7_lays 61 = .ok (.ireturn, 1) := by decide +kernel
theorem dX7_lays_62 : decode cX7_lays 62 = .ok (.aload_n 0, 1) := by decide +kernel
theorem dX7_lays_63 : decode cX7_lays 63 = .ok (.invokevirtual 125, 3) := by decide +kernel
theorem dX7_lays_66 : decode cX7_lays 66 = .ok (.aload_n 0, 1) := by decide +kernel
theorem dX7_lays_67 : decode cX7_lays 67 = .ok (.iconst 0, 1) := by decide +kernel
theorem dX7_lays_68 : decode cX7_lays 68 = .ok (.iload_n 1, 1) := by decide +kernel
theorem dX7_lays_69 : decode cX7_lays 69 = .ok (.iload_n 2, 1) := by decide +kernel
theorem dX7_lays_70 : decode cX7_lays 70 = .ok (.iload_n 3, 1) := by decide +kernel
theorem dX7_lays_71 : decode cX7_lays 71 = .ok (.invokevirtual 89, 3) := by decide +kernel
theorem dX7_lays_74 : decode cX7_lays 74 = .ok (.aload_n 0, 1) := by decide +kernel
theorem dX7_lays_75 : decode cX7_lays 75 = .ok (.invokevirtual 107, 3) := by decide +kernel
theorem dX7_lays_78 : decode cX7_lays 78 = .ok (.ireturn, 1) := by decide +kernel
set_option maxRecDepth 20000 in
theorem ggX7_widens_X7_isLine : GoodIn wsX7_widens wsX7_isLine := goodIn_r _ [7, 8, 9, 10, 6, 11, 2, 12, 13, 14, 24, 25, 26, 27, 28, 29, 30, 31, 32, 33, 34, 35, 36, 37, 38, 39, 40, 41, 42] rfl (by decide +kernel)
set_option maxRecDepth 20000 in
theorem gX7_widens_X7_isLine : GoodIn wsX7_widens (wsV RX7 111 RX7 yX7_isLine wsX7_isLine) := goodIn_app (goodIn_of _ (by decide +kernel)) ggX7_widens_X7_isLine
set_option maxRecDepth 20000 in
theorem ggX7_widens_X7_in : GoodIn wsX7_widens wsX7_in := goodIn_r _ [14] rfl (by decide +kernel)
set_option maxRecDepth 20000 in
theorem gX7_widens_X7_in : GoodIn wsX7_widens (va_wsS RX7 48 yX7_in wsX7_in) := goodIn_app (goodIn_of _ (by decide +kernel)) ggX7_widens_X7_in
set_option maxRecDepth 20000 in
theorem ggX7_widens_X7_notes : GoodIn wsX7_widens wsX7_notes := goodIn_r _ [18, 19, 2, 20, 21, 22, 6, 23, 24, 25, 26, 27, 28, 29, 30, 31, 32, 33, 34, 35, 36, 37, 38, 39, 40, 41, 42] rfl (by decide +kernel)
set_option maxRecDepth 20000 in
theorem gX7_widens_X7_notes : GoodIn wsX7_widens (wsV RX7 125 RX7 yX7_notes wsX7_notes) := goodIn_app (goodIn_of _ (by decide +kernel)) ggX7_widens_X7_notes
theorem dX7_widens_0 : decode cX7_widens 0 = .ok (.aload_n 0, 1) := by decide +kernel
theorem dX7_widens_1 : decode cX7_widens 1 = .ok (.iload_n 1, 1) := by decide +kernel
theorem dX7_widens_2 : decode cX7_widens 2 = .ok (.invokevirtual 111, 3) := by decide +kernel
theorem dX7_widens_5 : decode cX7_widens 5 = .ok (.ifCond .eq 15, 3) := by decide +kernel
theorem dX7_widens_8 : decode cX7_widens 8 = .ok (.iload_n 2, 1) := by decide +kernel
theorem dX7_widens_9 : decode cX7_widens 9 = .ok (.i2l, 1) := by decide +kernel
theorem dX7_widens_10 : decode cX7_widens 10 = .ok (.lconst 1, 1) := by decide +kernel
theorem dX7_widens_11 : decode cX7_widens 11 = .ok (.ldc2_w 123, 3) := by decide +kernel
theorem dX7_widens_14 : decode cX7_widens 14 = .ok (.invokestatic 48, 3) := by decide +kernel
theorem dX7_widens_17 : decode cX7_widens 17 = .ok (.ifCond .ne 5, 3) := by decide +kernel
theorem dX7_widens_20 : decode cX7_widens 20 = .ok (.iconst (-1), 1) := by decide +kernel
theorem dX7_widens_21 : decode cX7_widens 21 = .ok (.ireturn, 1) := by decide +kernel
theorem dX7_widens_22 : decode cX7_widens 22 = .ok (.aload_n 0, 1) := by decide +kernel
theorem dX7_widens_23 : decode cX7_widens 23 = .ok (.getfield 7, 3) := by decide +kernel
theorem dX7_widens_26 : decode cX7_widens 26 = .ok (.bipush 21, 2) := by decide +kernel
theorem dX7_widens_28 : decode cX7_widens 28 = .ok (.iload_n 1, 1) := by decide +kernel
theorem dX7_widens_29 : decode cX7_widens 29 = .ok (.iadd, 1) := by decide +kernel
theorem dX7_widens_30 : decode cX7_widens 30 = .ok (.iaload, 1) := by decide +kernel
theorem dX7_widens_31 : decode cX7_widens 31 = .ok (.istore_n 3, 1) := by decide +kernel
theorem dX7_widens_32 : decode cX7_widens 32 = .ok (.iload_n 3, 1) := by decide +kernel
theorem dX7_widens_33 : decode cX7_widens 33 = .ok (.iload_n 2, 1) := by decide +kernel
theorem dX7_widens_34 : decode cX7_widens 34 = .ok (.if_icmp .ne 6, 3) := by decide +kernel
theorem dX7_widens_37 : decode cX7_widens 37 = .ok (.bipush (-2), 2) := by decide +kernel
theorem dX7_widens_39 : decode cX7_widens 39 = .ok (.ireturn, 1) := by decide +kernel
theorem dX7_widens_40 : decode cX7_widens 40 = .ok (.aload_n 0, 1) := by decide +kernel
theorem dX7_widens_41 : decode cX7_widens 41 = .ok (.invokevirtual 125, 3) := by decide +kernel
theorem dX7_widens_44 : decode cX7_widens 44 = .ok (.aload_n 0, 1) := by decide +kernel
theorem dX7_widens_45 : decode cX7_widens 45 = .ok (.getfield 7, 3) := by decide +kernel
theorem dX7_widens_48 : decode cX7_widens 48 = .ok (.bipush 21, 2) := by decide +kernel
theorem dX7_widens_50 : decode cX7_widens 50 = .ok (.iload_n 1, 1) := by decide +kernel
theorem dX7_widens_51 : decode cX7_widens 51 = .ok (.iadd, 1) := by decide +kernel
theorem dX7_widens_52 : decode cX7_widens 52 = .ok (.iload_n 2, 1) := by decide +kernel
theorem dX7_widens_53 : decode cX7_widens 53 = .ok (.iastore, 1) := by decide +kernel
theorem dX7_widens_54 : decode cX7_widens 54 = .ok (.iload_n 3, 1) := by decide +kernel
theorem dX7_widens_55 : decode cX7_widens 55 = .ok (.ireturn, 1) := by decide +kernel
set_option maxRecDepth 20000 in
theorem ggX7_cuts_X7_isLine : GoodIn wsX7_cuts wsX7_isLine := goodIn_r _ [6, 7, 8, 9, 5, 10, 1, 11, 12, 13, 23, 24, 25, 26, 27, 28, 29, 30, 31, 32, 33, 34, 35, 36, 37, 38, 39, 40, 41] rfl (by decide +kernel)
set_option maxRecDepth 20000 in
theorem gX7_cuts_X7_isLine : GoodIn wsX7_cuts (wsV RX7 111 RX7 yX7_isLine wsX7_isLine) := goodIn_app (goodIn_of _ (by decide +kernel)) ggX7_cuts_X7_isLine
set_option maxRecDepth 20000 in
theorem ggX7_cuts_X7_notes : GoodIn wsX7_cuts wsX7_notes := goodIn_r _ [17, 18, 1, 19, 20, 21, 5, 22, 23, 24, 25, 26, 27, 28, 29, 30, 31, 32, 33, 34, 35, 36, 37, 38, 39, 40, 41] rfl (by decide +kernel)
set_option maxRecDepth 20000 in
theorem gX7_cuts_X7_notes : GoodIn wsX7_cuts (wsV RX7 125 RX7 yX7_notes wsX7_notes) := goodIn_app (goodIn_of _ (by decide +kernel)) ggX7_cuts_X7_notes
set_option maxRecDepth 20000 in
theorem ggX7_cuts_X7_lines : GoodIn wsX7_cuts wsX7_lines := goodIn_r _ [10, 1, 23, 24, 25, 26, 27, 28, 29, 30, 31, 32, 33, 34, 35, 36, 37, 38, 39, 40, 41] rfl (by decide +kernel)
set_option maxRecDepth 20000 in
theorem gX7_cuts_X7_lines : GoodIn wsX7_cuts (wsV RX7 107 RX7 yX7_lines wsX7_lines) := goodIn_app (goodIn_of _ (by decide +kernel)) ggX7_cuts_X7_lines
theorem dX7_cuts_0 : decode cX7_cuts 0 = .ok (.aload_n 0, 1) := by decide +kernel
theorem dX7_cuts_1 : decode cX7_cuts 1 = .ok (.iload_n 1, 1) := by decide +kernel
theorem dX7_cuts_2 : decode cX7_cuts 2 = .ok (.invokevirtual 111, 3) := by decide +kernel
theorem dX7_cuts_5 : decode cX7_cuts 5 = .ok (.ifCond .ne 5, 3) := by decide +kernel
theorem dX7_cuts_8 : decode cX7_cuts 8 = .ok (.iconst (-1), 1) := by decide +kernel
theorem dX7_cuts_9 : decode cX7_cuts 9 = .ok (.ireturn, 1) := by decide +kernel
theorem dX7_cuts_10 : decode cX7_cuts 10 = .ok (.aload_n 0, 1) := by decide +kernel
theorem dX7_cuts_11 : decode cX7_cuts 11 = .ok (.invokevirtual 125, 3) := by decide +kernel
theorem dX7_cuts_14 : decode cX7_cuts 14 = .ok (.aload_n 0, 1) := by decide +kernel
theorem dX7_cuts_15 : decode cX7_cuts 15 = .ok (.getfield 7, 3) := by decide +kernel
theorem dX7_cuts_18 : decode cX7_cuts 18 = .ok (.iconst 0, 1) := by decide +kernel
theorem dX7_cuts_19 : decode cX7_cuts 19 = .ok (.dup2, 1) := by decide +kernel
theorem dX7_cuts_20 : decode cX7_cuts 20 = .ok (.iaload, 1) := by decide +kernel
theorem dX7_cuts_21 : decode cX7_cuts 21 = .ok (.iconst 1, 1) := by decide +kernel
theorem dX7_cuts_22 : decode cX7_cuts 22 = .ok (.isub, 1) := by decide +kernel
theorem dX7_cuts_23 : decode cX7_cuts 23 = .ok (.iastore, 1) := by decide +kernel
theorem dX7_cuts_24 : decode cX7_cuts 24 = .ok (.iload_n 1, 1) := by decide +kernel
theorem dX7_cuts_25 : decode cX7_cuts 25 = .ok (.istore_n 2, 1) := by decide +kernel
theorem dX7_cuts_26 : decode cX7_cuts 26 = .ok (.iload_n 2, 1) := by decide +kernel
theorem dX7_cuts_27 : decode cX7_cuts 27 = .ok (.aload_n 0, 1) := by decide +kernel
theorem dX7_cuts_28 : decode cX7_cuts 28 = .ok (.invokevirtual 107, 3) := by decide +kernel
theorem dX7_cuts_31 : decode cX7_cuts 31 = .ok (.if_icmp .ge 67, 3) := by decide +kernel
theorem dX7_cuts_34 : decode cX7_cuts 34 = .ok (.aload_n 0, 1) := by decide +kernel
theorem dX7_cuts_35 : decode cX7_cuts 35 = .ok (.getfield 7, 3) := by decide +kernel
theorem dX7_cuts_38 : decode cX7_cuts 38 = .ok (.iconst 1, 1) := by decide +kernel
theorem dX7_cuts_39 : decode cX7_cuts 39 = .ok (.iload_n 2, 1) := by decide +kernel
theorem dX7_cuts_40 : decode cX7_cuts 40 = .ok (.iadd, 1) := by decide +kernel
theorem dX7_cuts_41 : decode cX7_cuts 41 = .ok (.aload_n 0, 1) := by decide +kernel
theorem dX7_cuts_42 : decode cX7_cuts 42 = .ok (.getfield 7, 3) := by decide +kernel
theorem dX7_cuts_45 : decode cX7_cuts 45 = .ok (.iconst 1, 1) := by decide +kernel
theorem dX7_cuts_46 : decode cX7_cuts 46 = .ok (.iload_n 2, 1) := by decide +kernel
theorem dX7_cuts_47 : decode cX7_cuts 47 = .ok (.iadd, 1) := by decide +kernel
theorem dX7_cuts_48 : decode cX7_cuts 48 = .ok (.iconst 1, 1) := by decide +kernel
theorem dX7_cuts_49 : decode cX7_cuts 49 = .ok (.iadd, 1) := by decide +kernel
theorem dX7_cuts_50 : decode cX7_cuts 50 = .ok (.iaload, 1) := by decide +kernel
theorem dX7_cuts_51 : decode cX7_cuts 51 = .ok (.iastore, 1) := by decide +kernel
theorem dX7_cuts_52 : decode cX7_cuts 52 = .ok (.aload_n 0, 1) := by decide +kernel
theorem dX7_cuts_53 : decode cX7_cuts 53 = .ok (.getfield 7, 3) := by decide +kernel
theorem dX7_cuts_56 : decode cX7_cuts 56 = .ok (.bipush 11, 2) := by decide +kernel
theorem dX7_cuts_58 : decode cX7_cuts 58 = .ok (.iload_n 2, 1) := by decide +kernel
theorem dX7_cuts_59 : decode cX7_cuts 59 = .ok (.iadd, 1) := by decide +kernel
theorem dX7_cuts_60 : decode cX7_cuts 60 = .ok (.aload_n 0, 1) := by decide +kernel
theorem dX7_cuts_61 : decode cX7_cuts 61 = .ok (.getfield 7, 3) := by decide +kernel
theorem dX7_cuts_64 : decode cX7_cuts 64 = .ok (.bipush 11, 2) := by decide +kernel
theorem dX7_cuts_66 : decode cX7_cuts 66 = .ok (.iload_n 2, 1) := by decide +kernel
theorem dX7_cuts_67 : decode cX7_cuts 67 = .ok (.iadd, 1) := by decide +kernel
theorem dX7_cuts_68 : decode cX7_cuts 68 = .ok (.iconst 1, 1) := by decide +kernel
theorem dX7_cuts_69 : decode cX7_cuts 69 = .ok (.iadd, 1) := by decide +kernel
theorem dX7_cuts_70 : decode cX7_cuts 70 = .ok (.iaload, 1) := by decide +kernel
theorem dX7_cuts_71 : decode cX7_cuts 71 = .ok (.iastore, 1) := by decide +kernel
theorem dX7_cuts_72 : decode cX7_cuts 72 = .ok (.aload_n 0, 1) := by decide +kernel
theorem dX7_cuts_73 : decode cX7_cuts 73 = .ok (.getfield 7, 3) := by decide +kernel
theorem dX7_cuts_76 : decode cX7_cuts 76 = .ok (.bipush 21, 2) := by decide +kernel
theorem dX7_cuts_78 : decode cX7_cuts 78 = .ok (.iload_n 2, 1) := by decide +kernel
theorem dX7_cuts_79 : decode cX7_cuts 79 = .ok (.iadd, 1) := by decide +kernel
theorem dX7_cuts_80 : decode cX7_cuts 80 = .ok (.aload_n 0, 1) := by decide +kernel
theorem dX7_cuts_81 : decode cX7_cuts 81 = .ok (.getfield 7, 3) := by decide +kernel
theorem dX7_cuts_84 : decode cX7_cuts 84 = .ok (.bipush 21, 2) := by decide +kernel
theorem dX7_cuts_86 : decode cX7_cuts 86 = .ok (.iload_n 2, 1) := by decide +kernel
theorem dX7_cuts_87 : decode cX7_cuts 87 = .ok (.iadd, 1) := by decide +kernel
theorem dX7_cuts_88 : decode cX7_cuts 88 = .ok (.iconst 1, 1) := by decide +kernel
theorem dX7_cuts_89 : decode cX7_cuts 89 = .ok (.iadd, 1) := by decide +kernel
theorem dX7_cuts_90 : decode cX7_cuts 90 = .ok (.iaload, 1) := by decide +kernel
theorem dX7_cuts_91 : decode cX7_cuts 91 = .ok (.iastore, 1) := by decide +kernel
theorem dX7_cuts_92 : decode cX7_cuts 92 = .ok (.iinc 2 1, 3) := by decide +kernel
theorem dX7_cuts_95 : decode cX7_cuts 95 = .ok (.goto (-69), 3) := by decide +kernel
theorem dX7_cuts_98 : decode cX7_cuts 98 = .ok (.aload_n 0, 1) := by decide +kernel
theorem dX7_cuts_99 : decode cX7_cuts 99 = .ok (.invokevirtual 107, 3) := by decide +kernel
theorem dX7_cuts_102 : decode cX7_cuts 102 = .ok (.ireturn, 1) := by decide +kernel
set_option maxRecDepth 20000 in
theorem ggX7_undo_X7_copyRow : GoodIn wsX7_undo wsX7_copyRow := goodIn_r _ [6, 7, 8, 9, 10, 11, 12, 13, 14, 15, 16, 17, 18, 19, 20, 21, 22, 23, 24, 25, 26] rfl (by decide +kernel)
set_option maxRecDepth 20000 in
theorem gX7_undo_X7_copyRow : GoodIn wsX7_undo (wsV RX7 97 RX7 yX7_copyRow wsX7_copyRow) := goodIn_app (goodIn_of _ (by decide +kernel)) ggX7_undo_X7_copyRow
theorem dX7_undo_0 : decode cX7_undo 0 = .ok (.aload_n 0, 1) := by decide +kernel
theorem dX7_undo_1 : decode cX7_undo 1 = .ok (.getfield 101, 3) := by decide +kernel
theorem dX7_undo_4 : decode cX7_undo 4 = .ok (.ifCond .ne 6, 3) := by decide +kernel
theorem dX7_undo_7 : decode cX7_undo 7 = .ok (.bipush (-2), 2) := by decide +kernel
theorem dX7_undo_9 : decode cX7_undo 9 = .ok (.ireturn, 1) := by decide +kernel
theorem dX7_undo_10 : decode cX7_undo 10 = .ok (.aload_n 0, 1) := by decide +kernel
theorem dX7_undo_11 : decode cX7_undo 11 = .ok (.dup, 1) := by decide +kernel
theorem dX7_undo_12 : decode cX7_undo 12 = .ok (.getfield 101, 3) := by decide +kernel
theorem dX7_undo_15 : decode cX7_undo 15 = .ok (.iconst 1, 1) := by decide +kernel
theorem dX7_undo_16 : decode cX7_undo 16 = .ok (.isub, 1) := by decide +kernel
theorem dX7_undo_17 : decode cX7_undo 17 = .ok (.putfield 101, 3) := by decide +kernel
theorem dX7_undo_20 : decode cX7_undo 20 = .ok (.aload_n 0, 1) := by decide +kernel
theorem dX7_undo_21 : decode cX7_undo 21 = .ok (.bipush 31, 2) := by decide +kernel
theorem dX7_undo_23 : decode cX7_undo 23 = .ok (.bipush 31, 2) := by decide +kernel
theorem dX7_undo_25 : decode cX7_undo 25 = .ok (.aload_n 0, 1) := by decide +kernel
theorem dX7_undo_26 : decode cX7_undo 26 = .ok (.getfield 101, 3) := by decide +kernel
theorem dX7_undo_29 : decode cX7_undo 29 = .ok (.imul, 1) := by decide +kernel
theorem dX7_undo_30 : decode cX7_undo 30 = .ok (.iadd, 1) := by decide +kernel
theorem dX7_undo_31 : decode cX7_undo 31 = .ok (.iconst 0, 1) := by decide +kernel
theorem dX7_undo_32 : decode cX7_undo 32 = .ok (.invokevirtual 97, 3) := by decide +kernel
theorem dX7_undo_35 : decode cX7_undo 35 = .ok (.aload_n 0, 1) := by decide +kernel
theorem dX7_undo_36 : decode cX7_undo 36 = .ok (.getfield 101, 3) := by decide +kernel
theorem dX7_undo_39 : decode cX7_undo 39 = .ok (.ireturn, 1) := by decide +kernel
theorem dX7_ones_0 : decode cX7_ones 0 = .ok (.iconst 0, 1) := by decide +kernel
theorem dX7_ones_1 : decode cX7_ones 1 = .ok (.istore_n 1, 1) := by decide +kernel
theorem dX7_ones_2 : decode cX7_ones 2 = .ok (.iconst 0, 1) := by decide +kernel
theorem dX7_ones_3 : decode cX7_ones 3 = .ok (.istore_n 2, 1) := by decide +kernel
theorem dX7_ones_4 : decode cX7_ones 4 = .ok (.iload_n 2, 1) := by decide +kernel
theorem dX7_ones_5 : decode cX7_ones 5 = .ok (.bipush 10, 2) := by decide +kernel
theorem dX7_ones_7 : decode cX7_ones 7 = .ok (.if_icmp .ge 17, 3) := by decide +kernel
theorem dX7_ones_10 : decode cX7_ones 10 = .ok (.iload_n 1, 1) := by decide +kernel
theorem dX7_ones_11 : decode cX7_ones 11 = .ok (.iload_n 0, 1) := by decide +kernel
theorem dX7_ones_12 : decode cX7_ones 12 = .ok (.iload_n 2, 1) := by decide +kernel
theorem dX7_ones_13 : decode cX7_ones 13 = .ok (.ishr, 1) := by decide +kernel
theorem dX7_ones_14 : decode cX7_ones 14 = .ok (.iconst 1, 1) := by decide +kernel
theorem dX7_ones_15 : decode cX7_ones 15 = .ok (.iand, 1) := by decide +kernel
theorem dX7_ones_16 : decode cX7_ones 16 = .ok (.iadd, 1) := by decide +kernel
theorem dX7_ones_17 : decode cX7_ones 17 = .ok (.istore_n 1, 1) := by decide +kernel
theorem dX7_ones_18 : decode cX7_ones 18 = .ok (.iinc 2 1, 3) := by decide +kernel
theorem dX7_ones_21 : decode cX7_ones 21 = .ok (.goto (-17), 3) := by decide +kernel
theorem dX7_ones_24 : decode cX7_ones 24 = .ok (.iload_n 1, 1) := by decide +kernel
theorem dX7_ones_25 : decode cX7_ones 25 = .ok (.ireturn, 1) := by decide +kernel
set_option maxRecDepth 20000 in
theorem ggX7_parts_X7_lines : GoodIn wsX7_parts wsX7_lines := goodIn_r _ [7, 2, 8, 9, 10, 11, 12, 13, 14, 15, 16, 17, 18, 19, 20, 21, 22, 23, 24, 25, 26] rfl (by decide +kernel)
set_option maxRecDepth 20000 in
theorem gX7_parts_X7_lines : GoodIn wsX7_parts (wsV RX7 107 RX7 yX7_lines wsX7_lines) := goodIn_app (goodIn_of _ (by decide +kernel)) ggX7_parts_X7_lines
theorem dX7_parts_0 : decode cX7_parts 0 = .ok (.iconst 1, 1) := by decide +kernel
theorem dX7_parts_1 : decode cX7_parts 1 = .ok (.istore_n 2, 1) := by decide +kernel
theorem dX7_parts_2 : decode cX7_parts 2 = .ok (.iconst 0, 1) := by decide +kernel
theorem dX7_parts_3 : decode cX7_parts 3 = .ok (.istore_n 3, 1) := by decide +kernel
theorem dX7_parts_4 : decode cX7_parts 4 = .ok (.iload_n 3, 1) := by decide +kernel
theorem dX7_parts_5 : decode cX7_parts 5 = .ok (.bipush 6, 2) := by decide +kernel
theorem dX7_parts_7 : decode cX7_parts 7 = .ok (.if_icmp .ge 16, 3) := by decide +kernel
theorem dX7_parts_10 : decode cX7_parts 10 = .ok (.aload_n 0, 1) := by decide +kernel
theorem dX7_parts_11 : decode cX7_parts 11 = .ok (.getfield 31, 3) := by decide +kernel
theorem dX7_parts_14 : decode cX7_parts 14 = .ok (.iload_n 3, 1) := by decide +kernel
theorem dX7_parts_15 : decode cX7_parts 15 = .ok (.iload_n 3, 1) := by decide +kernel
theorem dX7_parts_16 : decode cX7_parts 16 = .ok (.iastore, 1) := by decide +kernel
theorem dX7_parts_17 : decode cX7_parts 17 = .ok (.iinc 3 1, 3) := by decide +kernel
theorem dX7_parts_20 : decode cX7_parts 20 = .ok (.goto (-16), 3) := by decide +kernel
theorem dX7_parts_23 : decode cX7_parts 23 = .ok (.iconst 0, 1) := by decide +kernel
theorem dX7_parts_24 : decode cX7_parts 24 = .ok (.istore_n 3, 1) := by decide +kernel
theorem dX7_parts_25 : decode cX7_parts 25 = .ok (.iload_n 3, 1) := by decide +kernel
theorem dX7_parts_26 : decode cX7_parts 26 = .ok (.aload_n 0, 1) := by decide +kernel
theorem dX7_parts_27 : decode cX7_parts 27 = .ok (.invokevirtual 107, 3) := by decide +kernel
theorem dX7_parts_30 : decode cX7_parts 30 = .ok (.if_icmp .ge 113, 3) := by decide +kernel
theorem dX7_parts_33 : decode cX7_parts 33 = .ok (.iload_n 1, 1) := by decide +kernel
theorem dX7_parts_34 : decode cX7_parts 34 = .ok (.iload_n 3, 1) := by decide +kernel
theorem dX7_parts_35 : decode cX7_parts 35 = .ok (.ishr, 1) := by decide +kernel
theorem dX7_parts_36 : decode cX7_parts 36 = .ok (.iconst 1, 1) := by decide +kernel
theorem dX7_parts_37 : decode cX7_parts 37 = .ok (.iand, 1) := by decide +kernel
theorem dX7_parts_38 : decode cX7_parts 38 = .ok (.iconst 1, 1) := by decide +kernel
theorem dX7_parts_39 : decode cX7_parts 39 = .ok (.if_icmp .ne 98, 3) := by decide +kernel
theorem dX7_parts_42 : decode cX7_parts 42 = .ok (.aload_n 0, 1) := by decide +kernel
theorem dX7_parts_43 : decode cX7_parts 43 = .ok (.getfield 31, 3) := by decide +kernel
theorem dX7_parts_46 : decode cX7_parts 46 = .ok (.aload_n 0, 1) := by decide +kernel
theorem dX7_parts_47 : decode cX7_parts 47 = .ok (.getfield 7, 3) := by decide +kernel
theorem dX7_parts_50 : decode cX7_parts 50 = .ok (.iconst 1, 1) := by decide +kernel
theorem dX7_parts_51 : decode cX7_parts 51 = .ok (.iload_n 3, 1) := by decide +kernel
theorem dX7_parts_52 : decode cX7_parts 52 = .ok (.iadd, 1) := by decide +kernel
theorem dX7_parts_53 : decode cX7_parts 53 = .ok (.iaload, 1) := by decide +kernel
theorem dX7_parts_54 : decode cX7_parts 54 = .ok (.iaload, 1) := by decide +kernel
theorem dX7_parts_55 : decode cX7_parts 55 = .ok (.istore 4, 2) := by decide +kernel
theorem dX7_parts_57 : decode cX7_parts 57 = .ok (.aload_n 0, 1) := by decide +kernel
theorem dX7_parts_58 : decode cX7_parts 58 = .ok (.getfield 31, 3) := by decide +kernel
theorem dX7_parts_61 : decode cX7_parts 61 = .ok (.aload_n 0, 1) := by decide +kernel
theorem dX7_parts_62 : decode cX7_parts 62 = .ok (.getfield 7, 3) := by decide +kernel
theorem dX7_parts_65 : decode cX7_parts 65 = .ok (.bipush 11, 2) := by decide +kernel
theorem dX7_parts_67 : decode cX7_parts 67 = .ok (.iload_n 3, 1) := by decide +kernel
theorem dX7_parts_68 : decode cX7_parts 68 = .ok (.iadd, 1) := by decide +kernel
theorem dX7_parts_69 : decode cX7_parts 69 = .ok (.iaload, 1) := by decide +kernel
theorem dX7_parts_70 : decode cX7_parts 70 = .ok (.iaload, 1) := by decide +kernel
theorem dX7_parts_71 : decode cX7_parts 71 = .ok (.istore 5, 2) := by decide +kernel
theorem dX7_parts_73 : decode cX7_parts 73 = .ok (.iload_n 2, 1) := by decide +kernel
theorem dX7_parts_74 : decode cX7_parts 74 = .ok (.ifCond .eq 14, 3) := by decide +kernel
theorem dX7_parts_77 : decode cX7_parts 77 = .ok (.iload 4, 2) := by decide +kernel
theorem dX7_parts_79 : decode cX7_parts 79 = .ok (.iload 5, 2) := by decide +kernel
theorem dX7_parts_81 : decode cX7_parts 81 = .ok (.if_icmp .eq 7, 3) := by decide +kernel
theorem dX7_parts_84 : decode cX7_parts 84 = .ok (.iconst 1, 1) := by decide +kernel
theorem dX7_parts_85 : decode cX7_parts 85 = .ok (.goto 4, 3) := by decide +kernel
theorem dX7_parts_88 : decode cX7_parts 88 = .ok (.iconst 0, 1) := by decide +kernel
theorem dX7_parts_89 : decode cX7_parts 89 = .ok (.istore_n 2, 1) := by decide +kernel
theorem dX7_parts_90 : decode cX7_parts 90 = .ok (.iconst 0, 1) := by decide +kernel
theorem dX7_parts_91 : decode cX7_parts 91 = .ok (.istore 6, 2) := by decide +kernel
theorem dX7_parts_93 : decode cX7_parts 93 = .ok (.iload 6, 2) := by decide +kernel
theorem dX7_parts_95 : decode cX7_parts 95 = .ok (.bipush 6, 2) := by decide +kernel
theorem dX7_parts_97 : decode cX7_parts 97 = .ok (.if_icmp .ge 40, 3) := by decide +kernel
theorem dX7_parts_100 : decode cX7_parts 100 = .ok (.aload_n 0, 1) := by decide +kernel
theorem dX7_parts_101 : decode cX7_parts 101 = .ok (.getfield 31, 3) := by decide +kernel
theorem dX7_parts_104 : decode cX7_parts 104 = .ok (.iload 6, 2) := by decide +kernel
theorem dX7_parts_106 : decode cX7_parts 106 = .ok (.aload_n 0, 1) := by decide +kernel
theorem dX7_parts_107 : decode cX7_parts 107 = .ok (.getfield 31, 3) := by decide +kernel
theorem dX7_parts_110 : decode cX7_parts 110 = .ok (.iload 6, 2) := by decide +kernel
theorem dX7_parts_112 : decode cX7_parts 112 = .ok (.iaload, 1) := by decide +kernel
theorem dX7_parts_113 : decode cX7_parts 113 = .ok (.iload 5, 2) := by decide +kernel
theorem dX7_parts_115 : decode cX7_parts 115 = .ok (.if_icmp .ne 8, 3) := by decide +kernel
theorem dX7_parts_118 : decode cX7_parts 118 = .ok (.iload 4, 2) := by decide +kernel
theorem dX7_parts_120 : decode cX7_parts 120 = .ok (.goto 10, 3) := by decide +kernel
theorem dX7_parts_123 : decode cX7_parts 123 = .ok (.aload_n 0, 1) := by decide +kernel
theorem dX7_parts_124 : decode cX7_parts 124 = .ok (.getfield 31, 3) := by decide +kernel
theorem dX7_parts_127 : decode cX7_parts 127 = .ok (.iload 6, 2) := by decide +kernel
theorem dX7_parts_129 : decode cX7_parts 129 = .ok (.iaload, 1) := by decide +kernel
theorem dX7_parts_130 : decode cX7_parts 130 = .ok (.iastore, 1) := by decide +kernel
theorem dX7_parts_131 : decode cX7_parts 131 = .ok (.iinc 6 1, 3) := by decide +kernel
theorem dX7_parts_134 : decode cX7_parts 134 = .ok (.goto (-41), 3) := by decide +kernel
theorem dX7_parts_137 : decode cX7_parts 137 = .ok (.iinc 3 1, 3) := by decide +kernel
theorem dX7_parts_140 : decode cX7_parts 140 = .ok (.goto (-115), 3) := by decide +kernel
theorem dX7_parts_143 : decode cX7_parts 143 = .ok (.iload_n 2, 1) := by decide +kernel
theorem dX7_parts_144 : decode cX7_parts 144 = .ok (.ireturn, 1) := by decide +kernel
theorem dX7_isTogether_0 : decode cX7_isTogether 0 = .ok (.iconst 1, 1) := by decide +kernel
theorem dX7_isTogether_1 : decode cX7_isTogether 1 = .ok (.istore_n 1, 1) := by decide +kernel
theorem dX7_isTogether_2 : decode cX7_isTogether 2 = .ok (.iconst 1, 1) := by decide +kernel
theorem dX7_isTogether_3 : decode cX7_isTogether 3 = .ok (.istore_n 2, 1) := by decide +kernel
theorem dX7_isTogether_4 : decode cX7_isTogether 4 = .ok (.iload_n 2, 1) := by decide +kernel
theorem dX7_isTogether_5 : decode cX7_isTogether 5 = .ok (.aload_n 0, 1) := by decide +kernel
theorem dX7_isTogether_6 : decode cX7_isTogether 6 = .ok (.getfield 13, 3) := by decide +kernel
theorem dX7_isTogether_9 : decode cX7_isTogether 9 = .ok (.if_icmp .ge 34, 3) := by decide +kernel
theorem dX7_isTogether_12 : decode cX7_isTogether 12 = .ok (.iload_n 1, 1) := by decide +kernel
theorem dX7_isTogether_13 : decode cX7_isTogether 13 = .ok (.ifCond .eq 22, 3) := by decide +kernel
theorem dX7_isTogether_16 : decode cX7_isTogether 16 = .ok (.aload_n 0, 1) := by decide +kernel
theorem dX7_isTogether_17 : decode cX7_isTogether 17 = .ok (.getfield 31, 3) := by decide +kernel
theorem dX7_isTogether_20 : decode cX7_isTogether 20 = .ok (.iload_n 2, 1) := by decide +kernel
theorem dX7_isTogether_21 : decode cX7_isTogether 21 = .ok (.iaload, 1) := by decide +kernel
theorem dX7_isTogether_22 : decode cX7_isTogether 22 = .ok (.aload_n 0, 1) := by decide +kernel
theorem dX7_isTogether_23 : decode cX7_isTogether 23 = .ok (.getfield 31, 3) := by decide +kernel
theorem dX7_isTogether_26 : decode cX7_isTogether 26 = .ok (.iconst 0, 1) := by decide +kernel
theorem dX7_isTogether_27 : decode cX7_isTogether 27 = .ok (.iaload, 1) := by decide +kernel
theorem dX7_isTogether_28 : decode cX7_isTogether 28 = .ok (.if_icmp .ne 7, 3) := by decide +kernel
theorem dX7_isTogether_31 : decode cX7_isTogether 31 = .ok (.iconst 1, 1) := by decide +kernel
theorem dX7_isTogether_32 : decode cX7_isTogether 32 = .ok (.goto 4, 3) := by decide +kernel
theorem dX7_isTogether_35 : decode cX7_isTogether 35 = .ok (.iconst 0, 1) := by decide +kernel
theorem dX7_isTogether_36 : decode cX7_isTogether 36 = .ok (.istore_n 1, 1) := by decide +kernel
theorem dX7_isTogether_37 : decode cX7_isTogether 37 = .ok (.iinc 2 1, 3) := by decide +kernel
theorem dX7_isTogether_40 : decode cX7_isTogether 40 = .ok (.goto (-36), 3) := by decide +kernel
theorem dX7_isTogether_43 : decode cX7_isTogether 43 = .ok (.iload_n 1, 1) := by decide +kernel
theorem dX7_isTogether_44 : decode cX7_isTogether 44 = .ok (.ireturn, 1) := by decide +kernel
set_option maxRecDepth 20000 in
theorem ggX7_hangs_X7_lines : GoodIn wsX7_hangs wsX7_lines := goodIn_r _ [5, 6, 17, 18, 19, 20, 21, 22, 23, 24, 25, 26, 27, 28, 29, 30, 31, 32, 33, 34, 35] rfl (by decide +kernel)
set_option maxRecDepth 20000 in
theorem gX7_hangs_X7_lines : GoodIn wsX7_hangs (wsV RX7 107 RX7 yX7_lines wsX7_lines) := goodIn_app (goodIn_of _ (by decide +kernel)) ggX7_hangs_X7_lines
set_option maxRecDepth 20000 in
theorem ggX7_hangs_X7_parts : GoodIn wsX7_hangs wsX7_parts := goodIn_r _ [10, 11, 6, 1, 2, 3, 4, 5, 17, 18, 19, 20, 21, 22, 23, 24, 25, 26, 27, 28, 29, 30, 31, 32, 33, 34, 35] rfl (by decide +kernel)
set_option maxRecDepth 20000 in
theorem gX7_hangs_X7_parts : GoodIn wsX7_hangs (wsV RX7 128 RX7 yX7_parts wsX7_parts) := goodIn_app (goodIn_of _ (by decide +kernel)) ggX7_hangs_X7_parts
set_option maxRecDepth 20000 in
theorem ggX7_hangs_X7_isTogether : GoodIn wsX7_hangs wsX7_isTogether := goodIn_r _ [15, 16, 11, 17, 18, 19, 20, 21, 22, 23, 24, 25, 26, 27, 28, 29, 30, 31, 32, 33, 34, 35] rfl (by decide +kernel)
set_option maxRecDepth 20000 in
theorem gX7_hangs_X7_isTogether : GoodIn wsX7_hangs (wsV RX7 131 RX7 yX7_isTogether wsX7_isTogether) := goodIn_app (goodIn_of _ (by decide +kernel)) ggX7_hangs_X7_isTogether
theorem dX7_hangs_0 : decode cX7_hangs 0 = .ok (.iconst 1, 1) := by decide +kernel
theorem dX7_hangs_1 : decode cX7_hangs 1 = .ok (.aload_n 0, 1) := by decide +kernel
theorem dX7_hangs_2 : decode cX7_hangs 2 = .ok (.invokevirtual 107, 3) := by decide +kernel
theorem dX7_hangs_5 : decode cX7_hangs 5 = .ok (.ishl, 1) := by decide +kernel
theorem dX7_hangs_6 : decode cX7_hangs 6 = .ok (.iconst 1, 1) := by decide +kernel
theorem dX7_hangs_7 : decode cX7_hangs 7 = .ok (.isub, 1) := by decide +kernel
theorem dX7_hangs_8 : decode cX7_hangs 8 = .ok (.istore_n 2, 1) := by decide +kernel
theorem dX7_hangs_9 : decode cX7_hangs 9 = .ok (.aload_n 0, 1) := by decide +kernel
theorem dX7_hangs_10 : decode cX7_hangs 10 = .ok (.iload_n 1, 1) := by decide +kernel
theorem dX7_hangs_11 : decode cX7_hangs 11 = .ok (.bipush (-9), 2) := by decide +kernel
theorem dX7_hangs_13 : decode cX7_hangs 13 = .ok (.if_icmp .ne 7, 3) := by decide +kernel
theorem dX7_hangs_16 : decode cX7_hangs 16 = .ok (.iload_n 2, 1) := by decide +kernel
theorem dX7_hangs_17 : decode cX7_hangs 17 = .ok (.goto 10, 3) := by decide +kernel
theorem dX7_hangs_20 : decode cX7_hangs 20 = .ok (.iload_n 2, 1) := by decide +kernel
theorem dX7_hangs_21 : decode cX7_hangs 21 = .ok (.iconst 1, 1) := by decide +kernel
theorem dX7_hangs_22 : decode cX7_hangs 22 = .ok (.iload_n 1, 1) := by decide +kernel
theorem dX7_hangs_23 : decode cX7_hangs 23 = .ok (.ishl, 1) := by decide +kernel
theorem dX7_hangs_24 : decode cX7_hangs 24 = .ok (.iconst (-1), 1) := by decide +kernel
theorem dX7_hangs_25 : decode cX7_hangs 25 = .ok (.ixor, 1) := by decide +kernel
theorem dX7_hangs_26 : decode cX7_hangs 26 = .ok (.iand, 1) := by decide +kernel
theorem dX7_hangs_27 : decode cX7_hangs 27 = .ok (.invokevirtual 128, 3) := by decide +kernel
theorem dX7_hangs_30 : decode cX7_hangs 30 = .ok (.pop, 1) := by decide +kernel
theorem dX7_hangs_31 : decode cX7_hangs 31 = .ok (.aload_n 0, 1) := by decide +kernel
theorem dX7_hangs_32 : decode cX7_hangs 32 = .ok (.invokevirtual 131, 3) := by decide +kernel
theorem dX7_hangs_35 : decode cX7_hangs 35 = .ok (.ireturn, 1) := by decide +kernel
set_option maxRecDepth 20000 in
theorem ggX7_weight_X7_lines : GoodIn wsX7_weight wsX7_lines := goodIn_r _ [6, 1, 7, 8, 9, 10, 11, 12, 13, 14, 15, 16, 17, 18, 19, 20, 21, 22, 23, 24, 25] rfl (by decide +kernel)
set_option maxRecDepth 20000 in
theorem gX7_weight_X7_lines : GoodIn wsX7_weight (wsV RX7 107 RX7 yX7_lines wsX7_lines) := goodIn_app (goodIn_of _ (by decide +kernel)) ggX7_weight_X7_lines
theorem dX7_weight_0 : decode cX7_weight 0 = .ok (.lconst 1, 1) := by decide +kernel
theorem dX7_weight_1 : decode cX7_weight 1 = .ok (.lstore_n 2, 1) := by decide +kernel
theorem dX7_weight_2 : decode cX7_weight 2 = .ok (.iconst 0, 1) := by decide +kernel
theorem dX7_weight_3 : decode cX7_weight 3 = .ok (.istore 4, 2) := by decide +kernel
theorem dX7_weight_5 : decode cX7_weight 5 = .ok (.iload 4, 2) := by decide +kernel
theorem dX7_weight_7 : decode cX7_weight 7 = .ok (.aload_n 0, 1) := by decide +kernel
theorem dX7_weight_8 : decode cX7_weight 8 = .ok (.invokevirtual 107, 3) := by decide +kernel
theorem dX7_weight_11 : decode cX7_weight 11 = .ok (.if_icmp .ge 37, 3) := by decide +kernel
theorem dX7_weight_14 : decode cX7_weight 14 = .ok (.lload_n 2, 1) := by decide +kernel
theorem dX7_weight_15 : decode cX7_weight 15 = .ok (.iload_n 1, 1) := by decide +kernel
theorem dX7_weight_16 : decode cX7_weight 16 = .ok (.iload 4, 2) := by decide +kernel
theorem dX7_weight_18 : decode cX7_weight 18 = .ok (.ishr, 1) := by decide +kernel
theorem dX7_weight_19 : decode cX7_weight 19 = .ok (.iconst 1, 1) := by decide +kernel
theorem dX7_weight_20 : decode cX7_weight 20 = .ok (.iand, 1) := by decide +kernel
theorem dX7_weight_21 : decode cX7_weight 21 = .ok (.iconst 1, 1) := by decide +kernel
theorem dX7_weight_22 : decode cX7_weight 22 = .ok (.if_icmp .ne 17, 3) := by decide +kernel
theorem dX7_weight_25 : decode cX7_weight 25 = .ok (.aload_n 0, 1) := by decide +kernel
theorem dX7_weight_26 : decode cX7_weight 26 = .ok (.getfield 7, 3) := by decide +kernel
theorem dX7_weight_29 : decode cX7_weight 29 = .ok (.bipush 21, 2) := by decide +kernel
theorem dX7_weight_31 : decode cX7_weight 31 = .ok (.iload 4, 2) := by decide +kernel
theorem dX7_weight_33 : decode cX7_weight 33 = .ok (.iadd, 1) := by decide +kernel
theorem dX7_weight_34 : decode cX7_weight 34 = .ok (.iaload, 1) := by decide +kernel
theorem dX7_weight_35 : decode cX7_weight 35 = .ok (.i2l, 1) := by decide +kernel
theorem dX7_weight_36 : decode cX7_weight 36 = .ok (.goto 4, 3) := by decide +kernel
theorem dX7_weight_39 : decode cX7_weight 39 = .ok (.lconst 1, 1) := by decide +kernel
theorem dX7_weight_40 : decode cX7_weight 40 = .ok (.lmul, 1) := by decide +kernel
theorem dX7_weight_41 : decode cX7_weight 41 = .ok (.lstore_n 2, 1) := by decide +kernel
theorem dX7_weight_42 : decode cX7_weight 42 = .ok (.iinc 4 1, 3) := by decide +kernel
theorem dX7_weight_45 : decode cX7_weight 45 = .ok (.goto (-40), 3) := by decide +kernel
theorem dX7_weight_48 : decode cX7_weight 48 = .ok (.lload_n 2, 1) := by decide +kernel
theorem dX7_weight_49 : decode cX7_weight 49 = .ok (.lreturn, 1) := by decide +kernel
set_option maxRecDepth 20000 in
theorem ggX7_isForest_X7_ones : GoodIn wsX7_isForest wsX7_ones := goodIn_r _ [5] rfl (by decide +kernel)
set_option maxRecDepth 20000 in
theorem gX7_isForest_X7_ones : GoodIn wsX7_isForest (va_wsS RX7 134 yX7_ones wsX7_ones) := goodIn_app (goodIn_of _ (by decide +kernel)) ggX7_isForest_X7_ones
set_option maxRecDepth 20000 in
theorem ggX7_isForest_X7_parts : GoodIn wsX7_isForest wsX7_parts := goodIn_r _ [9, 10, 11, 12, 13, 14, 4, 15, 16, 17, 18, 19, 20, 21, 22, 23, 24, 25, 26, 27, 28, 29, 30, 31, 32, 33, 34] rfl (by decide +kernel)
set_option maxRecDepth 20000 in
theorem gX7_isForest_X7_parts : GoodIn wsX7_isForest (wsV RX7 128 RX7 yX7_parts wsX7_parts) := goodIn_app (goodIn_of _ (by decide +kernel)) ggX7_isForest_X7_parts
theorem dX7_isForest_0 : decode cX7_isForest 0 = .ok (.iload_n 1, 1) := by decide +kernel
theorem dX7_isForest_1 : decode cX7_isForest 1 = .ok (.invokestatic 134, 3) := by decide +kernel
theorem dX7_isForest_4 : decode cX7_isForest 4 = .ok (.aload_n 0, 1) := by decide +kernel
theorem dX7_isForest_5 : decode cX7_isForest 5 = .ok (.getfield 13, 3) := by decide +kernel
theorem dX7_isForest_8 : decode cX7_isForest 8 = .ok (.iload_n 2, 1) := by decide +kernel
theorem dX7_isForest_9 : decode cX7_isForest 9 = .ok (.isub, 1) := by decide +kernel
theorem dX7_isForest_10 : decode cX7_isForest 10 = .ok (.if_icmp .ne 29, 3) := by decide +kernel
theorem dX7_isForest_13 : decode cX7_isForest 13 = .ok (.iload_n 3, 1) := by decide +kernel
theorem dX7_isForest_14 : decode cX7_isForest 14 = .ok (.bipush (-9), 2) := by decide +kernel
theorem dX7_isForest_16 : decode cX7_isForest 16 = .ok (.if_icmp .eq 11, 3) := by decide +kernel
theorem dX7_isForest_19 : decode cX7_isForest 19 = .ok (.iload_n 1, 1) := by decide +kernel
theorem dX7_isForest_20 : decode cX7_isForest 20 = .ok (.iload_n 3, 1) := by decide +kernel
theorem dX7_isForest_21 : decode cX7_isForest 21 = .ok (.ishr, 1) := by decide +kernel
theorem dX7_isForest_22 : decode cX7_isForest 22 = .ok (.iconst 1, 1) := by decide +kernel
theorem dX7_isForest_23 : decode cX7_isForest 23 = .ok (.iand, 1) := by decide +kernel
theorem dX7_isForest_24 : decode cX7_isForest 24 = .ok (.ifCond .ne 15, 3) := by decide +kernel
theorem dX7_isForest_27 : decode cX7_isForest 27 = .ok (.aload_n 0, 1) := by decide +kernel
theorem dX7_isForest_28 : decode cX7_isForest 28 = .ok (.iload_n 1, 1) := by decide +kernel
theorem dX7_isForest_29 : decode cX7_isForest 29 = .ok (.invokevirtual 128, 3) := by decide +kernel
theorem dX7_isForest_32 : decode cX7_isForest 32 = .ok (.ifCond .eq 7, 3) := by decide +kernel
theorem dX7_isForest_35 : decode cX7_isForest 35 = .ok (.iconst 1, 1) := by decide +kernel
theorem dX7_isForest_36 : decode cX7_isForest 36 = .ok (.goto 4, 3) := by decide +kernel
theorem dX7_isForest_39 : decode cX7_isForest 39 = .ok (.iconst 0, 1) := by decide +kernel
theorem dX7_isForest_40 : decode cX7_isForest 40 = .ok (.ireturn, 1) := by decide +kernel
set_option maxRecDepth 20000 in
theorem ggX7_treesBut_X7_lines : GoodIn wsX7_treesBut wsX7_lines := goodIn_r _ [5, 6, 24, 25, 26, 27, 28, 29, 30, 31, 32, 33, 34, 35, 36, 37, 38, 39, 40, 41, 42] rfl (by decide +kernel)
set_option maxRecDepth 20000 in
theorem gX7_treesBut_X7_lines : GoodIn wsX7_treesBut (wsV RX7 107 RX7 yX7_lines wsX7_lines) := goodIn_app (goodIn_of _ (by decide +kernel)) ggX7_treesBut_X7_lines
set_option maxRecDepth 20000 in
theorem ggX7_treesBut_X7_isForest : GoodIn wsX7_treesBut wsX7_isForest := goodIn_r _ [10, 11, 12, 13, 4, 14, 15, 16, 17, 18, 19, 6, 1, 2, 3, 5, 24, 25, 26, 27, 28, 29, 30, 31, 32, 33, 34, 35, 36, 37, 38, 39, 40, 41, 42] rfl (by decide +kernel)
set_option maxRecDepth 20000 in
theorem gX7_treesBut_X7_isForest : GoodIn wsX7_treesBut (wsV RX7 138 RX7 yX7_isForest wsX7_isForest) := goodIn_app (goodIn_of _ (by decide +kernel)) ggX7_treesBut_X7_isForest
set_option maxRecDepth 20000 in
theorem ggX7_treesBut_X7_weight : GoodIn wsX7_treesBut wsX7_weight := goodIn_r _ [23, 6, 1, 2, 3, 4, 5, 24, 25, 26, 27, 28, 29, 30, 31, 32, 33, 34, 35, 36, 37, 38, 39, 40, 41, 42] rfl (by decide +kernel)
set_option maxRecDepth 20000 in
theorem gX7_treesBut_X7_weight : GoodIn wsX7_treesBut (wsV RX7 141 RX7 yX7_weight wsX7_weight) := goodIn_app (goodIn_of _ (by decide +kernel)) ggX7_treesBut_X7_weight
theorem dX7_treesBut_0 : decode cX7_treesBut 0 = .ok (.lconst 0, 1) := by decide +kernel
theorem dX7_treesBut_1 : decode cX7_treesBut 1 = .ok (.lstore_n 2, 1) := by decide +kernel
theorem dX7_treesBut_2 : decode cX7_treesBut 2 = .ok (.iconst 0, 1) := by decide +kernel
theorem dX7_treesBut_3 : decode cX7_treesBut 3 = .ok (.istore 4, 2) := by decide +kernel
theorem dX7_treesBut_5 : decode cX7_treesBut 5 = .ok (.iload 4, 2) := by decide +kernel
theorem dX7_treesBut_7 : decode cX7_treesBut 7 = .ok (.iconst 1, 1) := by decide +kernel
theorem dX7_treesBut_8 : decode cX7_treesBut 8 = .ok (.aload_n 0, 1) := by decide +kernel
theorem dX7_treesBut_9 : decode cX7_treesBut 9 = .ok (.invokevirtual 107, 3) := by decide +kernel
theorem dX7_treesBut_12 : decode cX7_treesBut 12 = .ok (.ishl, 1) := by decide +kernel
theorem dX7_treesBut_13 : decode cX7_treesBut 13 = .ok (.if_icmp .ge 33, 3) := by decide +kernel
theorem dX7_treesBut_16 : decode cX7_treesBut 16 = .ok (.lload_n 2, 1) := by decide +kernel
theorem dX7_treesBut_17 : decode cX7_treesBut 17 = .ok (.aload_n 0, 1) := by decide +kernel
theorem dX7_treesBut_18 : decode cX7_treesBut 18 = .ok (.iload 4, 2) := by decide +kernel
theorem dX7_treesBut_20 : decode cX7_treesBut 20 = .ok (.iconst 1, 1) := by decide +kernel
theorem dX7_treesBut_21 : decode cX7_treesBut 21 = .ok (.iload_n 1, 1) := by decide +kernel
theorem dX7_treesBut_22 : decode cX7_treesBut 22 = .ok (.invokevirtual 138, 3) := by decide +kernel
theorem dX7_treesBut_25 : decode cX7_treesBut 25 = .ok (.ifCond .eq 12, 3) := by decide +kernel
theorem dX7_treesBut_28 : decode cX7_treesBut 28 = .ok (.aload_n 0, 1) := by decide +kernel
theorem dX7_treesBut_29 : decode cX7_treesBut 29 = .ok (.iload 4, 2) := by decide +kernel
theorem dX7_treesBut_31 : decode cX7_treesBut 31 = .ok (.invokevirtual 141, 3) := by decide +kernel
theorem dX7_treesBut_34 : decode cX7_treesBut 34 = .ok (.goto 4, 3) := by decide +kernel
theorem dX7_treesBut_37 : decode cX7_treesBut 37 = .ok (.lconst 0, 1) := by decide +kernel
theorem dX7_treesBut_38 : decode cX7_treesBut 38 = .ok (.ladd, 1) := by decide +kernel
theorem dX7_treesBut_39 : decode cX7_treesBut 39 = .ok (.lstore_n 2, 1) := by decide +kernel
theorem dX7_treesBut_40 : decode cX7_treesBut 40 = .ok (.iinc 4 1, 3) := by decide +kernel
theorem dX7_treesBut_43 : decode cX7_treesBut 43 = .ok (.goto (-38), 3) := by decide +kernel
theorem dX7_treesBut_46 : decode cX7_treesBut 46 = .ok (.lload_n 2, 1) := by decide +kernel
theorem dX7_treesBut_47 : decode cX7_treesBut 47 = .ok (.lreturn, 1) := by decide +kernel
set_option maxRecDepth 20000 in
theorem ggX7_steps_X7_lines : GoodIn wsX7_steps wsX7_lines := goodIn_r _ [7, 8, 28, 29, 30, 31, 32, 33, 34, 35, 36, 37, 38, 39, 40, 41, 42, 43, 44, 45, 46] rfl (by decide +kernel)
set_option maxRecDepth 20000 in
theorem gX7_steps_X7_lines : GoodIn wsX7_steps (wsV RX7 107 RX7 yX7_lines wsX7_lines) := goodIn_app (goodIn_of _ (by decide +kernel)) ggX7_steps_X7_lines
set_option maxRecDepth 20000 in
theorem ggX7_steps_X7_isForest : GoodIn wsX7_steps wsX7_isForest := goodIn_r _ [12, 2, 13, 14, 6, 15, 16, 17, 18, 19, 1, 8, 3, 4, 5, 7, 28, 29, 30, 31, 32, 33, 34, 35, 36, 37, 38, 39, 40, 41, 42, 43, 44, 45, 46] rfl (by decide +kernel)
set_option maxRecDepth 20000 in
theorem gX7_steps_X7_isForest : GoodIn wsX7_steps (wsV RX7 138 RX7 yX7_isForest wsX7_isForest) := goodIn_app (goodIn_of _ (by decide +kernel)) ggX7_steps_X7_isForest
set_option maxRecDepth 20000 in
theorem ggX7_steps_X7_degree : GoodIn wsX7_steps wsX7_degree := goodIn_r _ [23, 8, 3, 4, 5, 6, 7, 28, 29, 30, 31, 32, 33, 34, 35, 36, 37, 38, 39, 40, 41, 42, 43, 44, 45, 46] rfl (by decide +kernel)
set_option maxRecDepth 20000 in
theorem gX7_steps_X7_degree : GoodIn wsX7_steps (wsV RX7 119 RX7 yX7_degree wsX7_degree) := goodIn_app (goodIn_of _ (by decide +kernel)) ggX7_steps_X7_degree
set_option maxRecDepth 20000 in
theorem ggX7_steps_X7_weight : GoodIn wsX7_steps wsX7_weight := goodIn_r _ [27, 8, 3, 4, 5, 6, 7, 28, 29, 30, 31, 32, 33, 34, 35, 36, 37, 38, 39, 40, 41, 42, 43, 44, 45, 46] rfl (by decide +kernel)
set_option maxRecDepth 20000 in
theorem gX7_steps_X7_weight : GoodIn wsX7_steps (wsV RX7 141 RX7 yX7_weight wsX7_weight) := goodIn_app (goodIn_of _ (by decide +kernel)) ggX7_steps_X7_weight
theorem dX7_steps_0 : decode cX7_steps 0 = .ok (.lconst 0, 1) := by decide +kernel
theorem dX7_steps_1 : decode cX7_steps 1 = .ok (.lstore 4, 2) := by decide +kernel
theorem dX7_steps_3 : decode cX7_steps 3 = .ok (.iconst 0, 1) := by decide +kernel
theorem dX7_steps_4 : decode cX7_steps 4 = .ok (.istore 6, 2) := by decide +kernel
theorem dX7_steps_6 : decode cX7_steps 6 = .ok (.iload 6, 2) := by decide +kernel
theorem dX7_steps_8 : decode cX7_steps 8 = .ok (.iconst 1, 1) := by decide +kernel
theorem dX7_steps_9 : decode cX7_steps 9 = .ok (.aload_n 0, 1) := by decide +kernel
theorem dX7_steps_10 : decode cX7_steps 10 = .ok (.invokevirtual 107, 3) := by decide +kernel
theorem dX7_steps_13 : decode cX7_steps 13 = .ok (.ishl, 1) := by decide +kernel
theorem dX7_steps_14 : decode cX7_steps 14 = .ok (.if_icmp .ge 103, 3) := by decide +kernel
theorem dX7_steps_17 : decode cX7_steps 17 = .ok (.aload_n 0, 1) := by decide +kernel
theorem dX7_steps_18 : decode cX7_steps 18 = .ok (.iload 6, 2) := by decide +kernel
theorem dX7_steps_20 : decode cX7_steps 20 = .ok (.iconst 2, 1) := by decide +kernel
theorem dX7_steps_21 : decode cX7_steps 21 = .ok (.iload_n 3, 1) := by decide +kernel
theorem dX7_steps_22 : decode cX7_steps 22 = .ok (.invokevirtual 138, 3) := by decide +kernel
theorem dX7_steps_25 : decode cX7_steps 25 = .ok (.ifCond .eq 86, 3) := by decide +kernel
theorem dX7_steps_28 : decode cX7_steps 28 = .ok (.aload_n 0, 1) := by decide +kernel
theorem dX7_steps_29 : decode cX7_steps 29 = .ok (.getfield 31, 3) := by decide +kernel
theorem dX7_steps_32 : decode cX7_steps 32 = .ok (.iload_n 1, 1) := by decide +kernel
theorem dX7_steps_33 : decode cX7_steps 33 = .ok (.iaload, 1) := by decide +kernel
theorem dX7_steps_34 : decode cX7_steps 34 = .ok (.aload_n 0, 1) := by decide +kernel
theorem dX7_steps_35 : decode cX7_steps 35 = .ok (.getfield 31, 3) := by decide +kernel
theorem dX7_steps_38 : decode cX7_steps 38 = .ok (.iload_n 2, 1) := by decide +kernel
theorem dX7_steps_39 : decode cX7_steps 39 = .ok (.iaload, 1) := by decide +kernel
theorem dX7_steps_40 : decode cX7_steps 40 = .ok (.if_icmp .eq 71, 3) := by decide +kernel
theorem dX7_steps_43 : decode cX7_steps 43 = .ok (.lconst 0, 1) := by decide +kernel
theorem dX7_steps_44 : decode cX7_steps 44 = .ok (.lstore 7, 2) := by decide +kernel
theorem dX7_steps_46 : decode cX7_steps 46 = .ok (.iconst 0, 1) := by decide +kernel
theorem dX7_steps_47 : decode cX7_steps 47 = .ok (.istore 9, 2) := by decide +kernel
theorem dX7_steps_49 : decode cX7_steps 49 = .ok (.iload 9, 2) := by decide +kernel
theorem dX7_steps_51 : decode cX7_steps 51 = .ok (.aload_n 0, 1) := by decide +kernel
theorem dX7_steps_52 : decode cX7_steps 52 = .ok (.getfield 13, 3) := by decide +kernel
theorem dX7_steps_55 : decode cX7_steps 55 = .ok (.if_icmp .ge 42, 3) := by decide +kernel
theorem dX7_steps_58 : decode cX7_steps 58 = .ok (.lload 7, 2) := by decide +kernel
theorem dX7_steps_60 : decode cX7_steps 60 = .ok (.aload_n 0, 1) := by decide +kernel
theorem dX7_steps_61 : decode cX7_steps 61 = .ok (.getfield 31, 3) := by decide +kernel
theorem dX7_steps_64 : decode cX7_steps 64 = .ok (.iload 9, 2) := by decide +kernel
theorem dX7_steps_66 : decode cX7_steps 66 = .ok (.iaload, 1) := by decide +kernel
theorem dX7_steps_67 : decode cX7_steps 67 = .ok (.aload_n 0, 1) := by decide +kernel
theorem dX7_steps_68 : decode cX7_steps 68 = .ok (.getfield 31, 3) := by decide +kernel
theorem dX7_steps_71 : decode cX7_steps 71 = .ok (.iload_n 1, 1) := by decide +kernel
theorem dX7_steps_72 : decode cX7_steps 72 = .ok (.iaload, 1) := by decide +kernel
theorem dX7_steps_73 : decode cX7_steps 73 = .ok (.if_icmp .ne 14, 3) := by decide +kernel
theorem dX7_steps_76 : decode cX7_steps 76 = .ok (.aload_n 0, 1) := by decide +kernel
theorem dX7_steps_77 : decode cX7_steps 77 = .ok (.iload 9, 2) := by decide +kernel
theorem dX7_steps_79 : decode cX7_steps 79 = .ok (.iload_n 3, 1) := by decide +kernel
theorem dX7_steps_80 : decode cX7_steps 80 = .ok (.invokevirtual 119, 3) := by decide +kernel
theorem dX7_steps_83 : decode cX7_steps 83 = .ok (.i2l, 1) := by decide +kernel
theorem dX7_steps_84 : decode cX7_steps 84 = .ok (.goto 4, 3) := by decide +kernel
theorem dX7_steps_87 : decode cX7_steps 87 = .ok (.lconst 0, 1) := by decide +kernel
theorem dX7_steps_88 : decode cX7_steps 88 = .ok (.ladd, 1) := by decide +kernel
theorem dX7_steps_89 : decode cX7_steps 89 = .ok (.lstore 7, 2) := by decide +kernel
theorem dX7_steps_91 : decode cX7_steps 91 = .ok (.iinc 9 1, 3) := by decide +kernel
theorem dX7_steps_94 : decode cX7_steps 94 = .ok (.goto (-45), 3) := by decide +kernel
theorem dX7_steps_97 : decode cX7_steps 97 = .ok (.lload 4, 2) := by decide +kernel
theorem dX7_steps_99 : decode cX7_steps 99 = .ok (.lload 7, 2) := by decide +kernel
theorem dX7_steps_101 : decode cX7_steps 101 = .ok (.aload_n 0, 1) := by decide +kernel
theorem dX7_steps_102 : decode cX7_steps 102 = .ok (.iload 6, 2) := by decide +kernel
theorem dX7_steps_104 : decode cX7_steps 104 = .ok (.invokevirtual 141, 3) := by decide +kernel
theorem dX7_steps_107 : decode cX7_steps 107 = .ok (.lmul, 1) := by decide +kernel
theorem dX7_steps_108 : decode cX7_steps 108 = .ok (.ladd, 1) := by decide +kernel
theorem dX7_steps_109 : decode cX7_steps 109 = .ok (.lstore 4, 2) := by decide +kernel
theorem dX7_steps_111 : decode cX7_steps 111 = .ok (.iinc 6 1, 3) := by decide +kernel
theorem dX7_steps_114 : decode cX7_steps 114 = .ok (.goto (-108), 3) := by decide +kernel
theorem dX7_steps_117 : decode cX7_steps 117 = .ok (.lload 4, 2) := by decide +kernel
theorem dX7_steps_119 : decode cX7_steps 119 = .ok (.lreturn, 1) := by decide +kernel
set_option maxRecDepth 20000 in
theorem ggX7_apart_X7_lines : GoodIn wsX7_apart wsX7_lines := goodIn_r _ [6, 7, 24, 25, 26, 27, 28, 29, 30, 31, 32, 33, 34, 35, 36, 37, 38, 39, 40, 41, 42] rfl (by decide +kernel)
set_option maxRecDepth 20000 in
theorem gX7_apart_X7_lines : GoodIn wsX7_apart (wsV RX7 107 RX7 yX7_lines wsX7_lines) := goodIn_app (goodIn_of _ (by decide +kernel)) ggX7_apart_X7_lines
set_option maxRecDepth 20000 in
theorem ggX7_apart_X7_isForest : GoodIn wsX7_apart wsX7_isForest := goodIn_r _ [11, 12, 13, 14, 5, 15, 16, 17, 18, 19, 1, 7, 2, 3, 4, 6, 24, 25, 26, 27, 28, 29, 30, 31, 32, 33, 34, 35, 36, 37, 38, 39, 40, 41, 42] rfl (by decide +kernel)
set_option maxRecDepth 20000 in
theorem gX7_apart_X7_isForest : GoodIn wsX7_apart (wsV RX7 138 RX7 yX7_isForest wsX7_isForest) := goodIn_app (goodIn_of _ (by decide +kernel)) ggX7_apart_X7_isForest
set_option maxRecDepth 20000 in
theorem ggX7_apart_X7_weight : GoodIn wsX7_apart wsX7_weight := goodIn_r _ [23, 7, 2, 3, 4, 5, 6, 24, 25, 26, 27, 28, 29, 30, 31, 32, 33, 34, 35, 36, 37, 38, 39, 40, 41, 42] rfl (by decide +kernel)
set_option maxRecDepth 20000 in
theorem gX7_apart_X7_weight : GoodIn wsX7_apart (wsV RX7 141 RX7 yX7_weight wsX7_weight) := goodIn_app (goodIn_of _ (by decide +kernel)) ggX7_apart_X7_weight
theorem dX7_apart_0 : decode cX7_apart 0 = .ok (.lconst 0, 1) := by decide +kernel
theorem dX7_apart_1 : decode cX7_apart 1 = .ok (.lstore 4, 2) := by decide +kernel
theorem dX7_apart_3 : decode cX7_apart 3 = .ok (.iconst 0, 1) := by decide +kernel
theorem dX7_apart_4 : decode cX7_apart 4 = .ok (.istore 6, 2) := by decide +kernel
theorem dX7_apart_6 : decode cX7_apart 6 = .ok (.iload 6, 2) := by decide +kernel
theorem dX7_apart_8 : decode cX7_apart 8 = .ok (.iconst 1, 1) := by decide +kernel
theorem dX7_apart_9 : decode cX7_apart 9 = .ok (.aload_n 0, 1) := by decide +kernel
theorem dX7_apart_10 : decode cX7_apart 10 = .ok (.invokevirtual 107, 3) := by decide +kernel
theorem dX7_apart_13 : decode cX7_apart 13 = .ok (.ishl, 1) := by decide +kernel
theorem dX7_apart_14 : decode cX7_apart 14 = .ok (.if_icmp .ge 82, 3) := by decide +kernel
theorem dX7_apart_17 : decode cX7_apart 17 = .ok (.aload_n 0, 1) := by decide +kernel
theorem dX7_apart_18 : decode cX7_apart 18 = .ok (.iload 6, 2) := by decide +kernel
theorem dX7_apart_20 : decode cX7_apart 20 = .ok (.iconst 2, 1) := by decide +kernel
theorem dX7_apart_21 : decode cX7_apart 21 = .ok (.bipush (-9), 2) := by decide +kernel
theorem dX7_apart_23 : decode cX7_apart 23 = .ok (.invokevirtual 138, 3) := by decide +kernel
theorem dX7_apart_26 : decode cX7_apart 26 = .ok (.ifCond .eq 22, 3) := by decide +kernel
theorem dX7_apart_29 : decode cX7_apart 29 = .ok (.aload_n 0, 1) := by decide +kernel
theorem dX7_apart_30 : decode cX7_apart 30 = .ok (.getfield 31, 3) := by decide +kernel
theorem dX7_apart_33 : decode cX7_apart 33 = .ok (.iload_n 2, 1) := by decide +kernel
theorem dX7_apart_34 : decode cX7_apart 34 = .ok (.iaload, 1) := by decide +kernel
theorem dX7_apart_35 : decode cX7_apart 35 = .ok (.aload_n 0, 1) := by decide +kernel
theorem dX7_apart_36 : decode cX7_apart 36 = .ok (.getfield 31, 3) := by decide +kernel
theorem dX7_apart_39 : decode cX7_apart 39 = .ok (.iload_n 3, 1) := by decide +kernel
theorem dX7_apart_40 : decode cX7_apart 40 = .ok (.iaload, 1) := by decide +kernel
theorem dX7_apart_41 : decode cX7_apart 41 = .ok (.if_icmp .eq 7, 3) := by decide +kernel
theorem dX7_apart_44 : decode cX7_apart 44 = .ok (.iconst 1, 1) := by decide +kernel
theorem dX7_apart_45 : decode cX7_apart 45 = .ok (.goto 4, 3) := by decide +kernel
theorem dX7_apart_48 : decode cX7_apart 48 = .ok (.iconst 0, 1) := by decide +kernel
theorem dX7_apart_49 : decode cX7_apart 49 = .ok (.istore 7, 2) := by decide +kernel
theorem dX7_apart_51 : decode cX7_apart 51 = .ok (.lload 4, 2) := by decide +kernel
theorem dX7_apart_53 : decode cX7_apart 53 = .ok (.iload 7, 2) := by decide +kernel
theorem dX7_apart_55 : decode cX7_apart 55 = .ok (.ifCond .eq 31, 3) := by decide +kernel
theorem dX7_apart_58 : decode cX7_apart 58 = .ok (.iload_n 1, 1) := by decide +kernel
theorem dX7_apart_59 : decode cX7_apart 59 = .ok (.ifCond .lt 18, 3) := by decide +kernel
theorem dX7_apart_62 : decode cX7_apart 62 = .ok (.aload_n 0, 1) := by decide +kernel
theorem dX7_apart_63 : decode cX7_apart 63 = .ok (.getfield 31, 3) := by decide +kernel
theorem dX7_apart_66 : decode cX7_apart 66 = .ok (.iload_n 1, 1) := by decide +kernel
theorem dX7_apart_67 : decode cX7_apart 67 = .ok (.iaload, 1) := by decide +kernel
theorem dX7_apart_68 : decode cX7_apart 68 = .ok (.aload_n 0, 1) := by decide +kernel
theorem dX7_apart_69 : decode cX7_apart 69 = .ok (.getfield 31, 3) := by decide +kernel
theorem dX7_apart_72 : decode cX7_apart 72 = .ok (.iload_n 2, 1) := by decide +kernel
theorem dX7_apart_73 : decode cX7_apart 73 = .ok (.iaload, 1) := by decide +kernel
theorem dX7_apart_74 : decode cX7_apart 74 = .ok (.if_icmp .ne 12, 3) := by decide +kernel
theorem dX7_apart_77 : decode cX7_apart 77 = .ok (.aload_n 0, 1) := by decide +kernel
theorem dX7_apart_78 : decode cX7_apart 78 = .ok (.iload 6, 2) := by decide +kernel
theorem dX7_apart_80 : decode cX7_apart 80 = .ok (.invokevirtual 141, 3) := by decide +kernel
theorem dX7_apart_83 : decode cX7_apart 83 = .ok (.goto 4, 3) := by decide +kernel
theorem dX7_apart_86 : decode cX7_apart 86 = .ok (.lconst 0, 1) := by decide +kernel
theorem dX7_apart_87 : decode cX7_apart 87 = .ok (.ladd, 1) := by decide +kernel
theorem dX7_apart_88 : decode cX7_apart 88 = .ok (.lstore 4, 2) := by decide +kernel
theorem dX7_apart_90 : decode cX7_apart 90 = .ok (.iinc 6 1, 3) := by decide +kernel
theorem dX7_apart_93 : decode cX7_apart 93 = .ok (.goto (-87), 3) := by decide +kernel
theorem dX7_apart_96 : decode cX7_apart 96 = .ok (.lload 4, 2) := by decide +kernel
theorem dX7_apart_98 : decode cX7_apart 98 = .ok (.lreturn, 1) := by decide +kernel
theorem dX7_common_0 : decode cX7_common 0 = .ok (.lload_n 0, 1) := by decide +kernel
theorem dX7_common_1 : decode cX7_common 1 = .ok (.lstore 4, 2) := by decide +kernel
theorem dX7_common_3 : decode cX7_common 3 = .ok (.lload_n 2, 1) := by decide +kernel
theorem dX7_common_4 : decode cX7_common 4 = .ok (.lstore 6, 2) := by decide +kernel
theorem dX7_common_6 : decode cX7_common 6 = .ok (.lload 6, 2) := by decide +kernel
theorem dX7_common_8 : decode cX7_common 8 = .ok (.lconst 0, 1) := by decide +kernel
theorem dX7_common_9 : decode cX7_common 9 = .ok (.lcmp, 1) := by decide +kernel
theorem dX7_common_10 : decode cX7_common 10 = .ok (.ifCond .eq 21, 3) := by decide +kernel
theorem dX7_common_13 : decode cX7_common 13 = .ok (.lload 4, 2) := by decide +kernel
theorem dX7_common_15 : decode cX7_common 15 = .ok (.lload 6, 2) := by decide +kernel
theorem dX7_common_17 : decode cX7_common 17 = .ok (.lrem, 1) := by decide +kernel
theorem dX7_common_18 : decode cX7_common 18 = .ok (.lstore 8, 2) := by decide +kernel
theorem dX7_common_20 : decode cX7_common 20 = .ok (.lload 6, 2) := by decide +kernel
theorem dX7_common_22 : decode cX7_common 22 = .ok (.lstore 4, 2) := by decide +kernel
theorem dX7_common_24 : decode cX7_common 24 = .ok (.lload 8, 2) := by decide +kernel
theorem dX7_common_26 : decode cX7_common 26 = .ok (.lstore 6, 2) := by decide +kernel
theorem dX7_common_28 : decode cX7_common 28 = .ok (.goto (-22), 3) := by decide +kernel
theorem dX7_common_31 : decode cX7_common 31 = .ok (.lload 4, 2) := by decide +kernel
theorem dX7_common_33 : decode cX7_common 33 = .ok (.lreturn, 1) := by decide +kernel
set_option maxRecDepth 20000 in
theorem ggX7_least_X7_common : GoodIn wsX7_least wsX7_common := goodIn_r _ [4] rfl (by decide +kernel)
set_option maxRecDepth 20000 in
theorem gX7_least_X7_common : GoodIn wsX7_least (va_wsS RX7 145 yX7_common wsX7_common) := goodIn_app (goodIn_of _ (by decide +kernel)) ggX7_least_X7_common
theorem dX7_least_0 : decode cX7_least 0 = .ok (.iload 4, 2) := by decide +kernel
theorem dX7_least_2 : decode cX7_least 2 = .ok (.ifCond .ne 7, 3) := by decide +kernel
theorem dX7_least_5 : decode cX7_least 5 = .ok (.lload_n 0, 1) := by decide +kernel
theorem dX7_least_6 : decode cX7_least 6 = .ok (.goto 4, 3) := by decide +kernel
theorem dX7_least_9 : decode cX7_least 9 = .ok (.lload_n 2, 1) := by decide +kernel
theorem dX7_least_10 : decode cX7_least 10 = .ok (.lload_n 0, 1) := by decide +kernel
theorem dX7_least_11 : decode cX7_least 11 = .ok (.lload_n 2, 1) := by decide +kernel
theorem dX7_least_12 : decode cX7_least 12 = .ok (.invokestatic 145, 3) := by decide +kernel
theorem dX7_least_15 : decode cX7_least 15 = .ok (.ldiv, 1) := by decide +kernel
theorem dX7_least_16 : decode cX7_least 16 = .ok (.lreturn, 1) := by decide +kernel
set_option maxRecDepth 20000 in
theorem ggX7_hitting_X7_isNode : GoodIn wsX7_hitting wsX7_isNode := goodIn_r _ [7, 8, 9, 10, 6, 11, 59, 60, 61, 62, 63, 64, 65, 66, 67, 68, 69, 70, 71, 72, 73, 74, 75, 76, 77] rfl (by decide +kernel)
set_option maxRecDepth 20000 in
theorem gX7_hitting_X7_isNode : GoodIn wsX7_hitting (wsV RX7 116 RX7 yX7_isNode wsX7_isNode) := goodIn_app (goodIn_of _ (by decide +kernel)) ggX7_hitting_X7_isNode
set_option maxRecDepth 20000 in
theorem ggX7_hitting_X7_in : GoodIn wsX7_hitting wsX7_in := goodIn_r _ [11] rfl (by decide +kernel)
set_option maxRecDepth 20000 in
theorem gX7_hitting_X7_in : GoodIn wsX7_hitting (va_wsS RX7 48 yX7_in wsX7_in) := goodIn_app (goodIn_of _ (by decide +kernel)) ggX7_hitting_X7_in
set_option maxRecDepth 20000 in
theorem ggX7_hitting_X7_hangs : GoodIn wsX7_hitting wsX7_hangs := goodIn_r _ [15, 16, 17, 18, 6, 19, 20, 21, 22, 23, 24, 25, 26, 27, 28, 29, 8, 59, 60, 61, 62, 63, 64, 65, 66, 67, 68, 69, 70, 71, 72, 73, 74, 75, 76, 77] rfl (by decide +kernel)
set_option maxRecDepth 20000 in
theorem gX7_hitting_X7_hangs : GoodIn wsX7_hitting (wsV RX7 151 RX7 yX7_hangs wsX7_hangs) := goodIn_app (goodIn_of _ (by decide +kernel)) ggX7_hitting_X7_hangs
set_option maxRecDepth 20000 in
theorem ggX7_hitting_X7_steps : GoodIn wsX7_hitting wsX7_steps := goodIn_r _ [33, 25, 8, 16, 17, 18, 6, 19, 20, 34, 35, 36, 37, 38, 39, 40, 21, 22, 23, 24, 41, 42, 43, 44, 45, 46, 47, 48, 59, 60, 61, 62, 63, 64, 65, 66, 67, 68, 69, 70, 71, 72, 73, 74, 75, 76, 77] rfl (by decide +kernel)
set_option maxRecDepth 20000 in
theorem gX7_hitting_X7_steps : GoodIn wsX7_hitting (wsV RX7 154 RX7 yX7_steps wsX7_steps) := goodIn_app (goodIn_of _ (by decide +kernel)) ggX7_hitting_X7_steps
set_option maxRecDepth 20000 in
theorem ggX7_hitting_X7_treesBut : GoodIn wsX7_hitting wsX7_treesBut := goodIn_r _ [52, 16, 17, 18, 6, 19, 20, 34, 35, 36, 37, 8, 38, 39, 40, 21, 22, 23, 24, 25, 45, 46, 47, 48, 59, 60, 61, 62, 63, 64, 65, 66, 67, 68, 69, 70, 71, 72, 73, 74, 75, 76, 77] rfl (by decide +kernel)
set_option maxRecDepth 20000 in
theorem gX7_hitting_X7_treesBut : GoodIn wsX7_hitting (wsV RX7 158 RX7 yX7_treesBut wsX7_treesBut) := goodIn_app (goodIn_of _ (by decide +kernel)) ggX7_hitting_X7_treesBut
set_option maxRecDepth 20000 in
theorem ggX7_hitting_X7_least : GoodIn wsX7_hitting wsX7_least := goodIn_r _ [55, 56, 57, 6, 58] rfl (by decide +kernel)
set_option maxRecDepth 20000 in
theorem gX7_hitting_X7_least : GoodIn wsX7_hitting (va_wsS RX7 161 yX7_least wsX7_least) := goodIn_app (goodIn_of _ (by decide +kernel)) ggX7_hitting_X7_least
theorem dX7_hitting_0 : decode cX7_hitting 0 = .ok (.aload_n 0, 1) := by decide +kernel
theorem dX7_hitting_1 : decode cX7_hitting 1 = .ok (.iload_n 1, 1) := by decide +kernel
theorem dX7_hitting_2 : decode cX7_hitting 2 = .ok (.invokevirtual 116, 3) := by decide +kernel
theorem dX7_hitting_5 : decode cX7_hitting 5 = .ok (.ifCond .eq 21, 3) := by decide +kernel
theorem dX7_hitting_8 : decode cX7_hitting 8 = .ok (.aload_n 0, 1) := by decide +kernel
theorem dX7_hitting_9 : decode cX7_hitting 9 = .ok (.iload_n 2, 1) := by decide +kernel
theorem dX7_hitting_10 : decode cX7_hitting 10 = .ok (.invokevirtual 116, 3) := by decide +kernel
theorem dX7_hitting_13 : decode cX7_hitting 13 = .ok (.ifCond .eq 13, 3) := by decide +kernel
theorem dX7_hitting_16 : decode cX7_hitting 16 = .ok (.iload_n 3, 1) := by decide +kernel
theorem dX7_hitting_17 : decode cX7_hitting 17 = .ok (.i2l, 1) := by decide +kernel
theorem dX7_hitting_18 : decode cX7_hitting 18 = .ok (.lconst 0, 1) := by decide +kernel
theorem dX7_hitting_19 : decode cX7_hitting 19 = .ok (.lconst 1, 1) := by decide +kernel
theorem dX7_hitting_20 : decode cX7_hitting 20 = .ok (.invokestatic 48, 3) := by decide +kernel
theorem dX7_hitting_23 : decode cX7_hitting 23 = .ok (.ifCond .ne 7, 3) := by decide +kernel
theorem dX7_hitting_26 : decode cX7_hitting 26 = .ok (.ldc2_w 149, 3) := by decide +kernel
theorem dX7_hitting_29 : decode cX7_hitting 29 = .ok (.lreturn, 1) := by decide +kernel
theorem dX7_hitting_30 : decode cX7_hitting 30 = .ok (.aload_n 0, 1) := by decide +kernel
theorem dX7_hitting_31 : decode cX7_hitting 31 = .ok (.bipush (-9), 2) := by decide +kernel
theorem dX7_hitting_33 : decode cX7_hitting 33 = .ok (.invokevirtual 151, 3) := by decide +kernel
theorem dX7_hitting_36 : decode cX7_hitting 36 = .ok (.ifCond .eq 24, 3) := by decide +kernel
theorem dX7_hitting_39 : decode cX7_hitting 39 = .ok (.aload_n 0, 1) := by decide +kernel
theorem dX7_hitting_40 : decode cX7_hitting 40 = .ok (.iload_n 1, 1) := by decide +kernel
theorem dX7_hitting_41 : decode cX7_hitting 41 = .ok (.iload_n 2, 1) := by decide +kernel
theorem dX7_hitting_42 : decode cX7_hitting 42 = .ok (.bipush (-9), 2) := by decide +kernel
theorem dX7_hitting_44 : decode cX7_hitting 44 = .ok (.invokevirtual 154, 3) := by decide +kernel
theorem dX7_hitting_47 : decode cX7_hitting 47 = .ok (.aload_n 0, 1) := by decide +kernel
theorem dX7_hitting_48 : decode cX7_hitting 48 = .ok (.bipush (-9), 2) := by decide +kernel
theorem dX7_hitting_50 : decode cX7_hitting 50 = .ok (.invokevirtual 158, 3) := by decide +kernel
theorem dX7_hitting_53 : decode cX7_hitting 53 = .ok (.iload_n 3, 1) := by decide +kernel
theorem dX7_hitting_54 : decode cX7_hitting 54 = .ok (.invokestatic 161, 3) := by decide +kernel
theorem dX7_hitting_57 : decode cX7_hitting 57 = .ok (.goto 6, 3) := by decide +kernel
theorem dX7_hitting_60 : decode cX7_hitting 60 = .ok (.ldc2_w 165, 3) := by decide +kernel
theorem dX7_hitting_63 : decode cX7_hitting 63 = .ok (.lreturn, 1) := by decide +kernel
set_option maxRecDepth 20000 in
theorem ggX7_between_X7_isNode : GoodIn wsX7_between wsX7_isNode := goodIn_r _ [7, 8, 9, 10, 6, 11, 63, 64, 65, 66, 67, 68, 69, 70, 71, 72, 73, 74, 75, 76, 77, 78, 79, 80, 81] rfl (by decide +kernel)
set_option maxRecDepth 20000 in
theorem gX7_between_X7_isNode : GoodIn wsX7_between (wsV RX7 116 RX7 yX7_isNode wsX7_isNode) := goodIn_app (goodIn_of _ (by decide +kernel)) ggX7_between_X7_isNode
set_option maxRecDepth 20000 in
theorem ggX7_between_X7_in : GoodIn wsX7_between wsX7_in := goodIn_r _ [11] rfl (by decide +kernel)
set_option maxRecDepth 20000 in
theorem gX7_between_X7_in : GoodIn wsX7_between (va_wsS RX7 48 yX7_in wsX7_in) := goodIn_app (goodIn_of _ (by decide +kernel)) ggX7_between_X7_in
set_option maxRecDepth 20000 in
theorem ggX7_between_X7_hangs : GoodIn wsX7_between wsX7_hangs := goodIn_r _ [15, 16, 17, 18, 6, 19, 20, 21, 22, 23, 24, 25, 26, 27, 28, 29, 8, 63, 64, 65, 66, 67, 68, 69, 70, 71, 72, 73, 74, 75, 76, 77, 78, 79, 80, 81] rfl (by decide +kernel)
set_option maxRecDepth 20000 in
theorem gX7_between_X7_hangs : GoodIn wsX7_between (wsV RX7 151 RX7 yX7_hangs wsX7_hangs) := goodIn_app (goodIn_of _ (by decide +kernel)) ggX7_between_X7_hangs
set_option maxRecDepth 20000 in
theorem ggX7_between_X7_steps : GoodIn wsX7_between wsX7_steps := goodIn_r _ [33, 25, 8, 16, 17, 18, 6, 19, 20, 34, 35, 36, 37, 38, 39, 40, 21, 22, 23, 24, 41, 42, 43, 44, 45, 46, 47, 48, 63, 64, 65, 66, 67, 68, 69, 70, 71, 72, 73, 74, 75, 76, 77, 78, 79, 80, 81] rfl (by decide +kernel)
set_option maxRecDepth 20000 in
theorem gX7_between_X7_steps : GoodIn wsX7_between (wsV RX7 154 RX7 yX7_steps wsX7_steps) := goodIn_app (goodIn_of _ (by decide +kernel)) ggX7_between_X7_steps
set_option maxRecDepth 20000 in
theorem ggX7_between_X7_treesBut : GoodIn wsX7_between wsX7_treesBut := goodIn_r _ [52, 16, 17, 18, 6, 19, 20, 34, 35, 36, 37, 8, 38, 39, 40, 21, 22, 23, 24, 25, 45, 46, 47, 48, 63, 64, 65, 66, 67, 68, 69, 70, 71, 72, 73, 74, 75, 76, 77, 78, 79, 80, 81] rfl (by decide +kernel)
set_option maxRecDepth 20000 in
theorem gX7_between_X7_treesBut : GoodIn wsX7_between (wsV RX7 158 RX7 yX7_treesBut wsX7_treesBut) := goodIn_app (goodIn_of _ (by decide +kernel)) ggX7_between_X7_treesBut
set_option maxRecDepth 20000 in
theorem ggX7_between_X7_whole : GoodIn wsX7_between wsX7_whole := goodIn_r _ [56, 20, 16, 17, 18, 6, 19, 63, 64, 65, 66, 67, 68, 69, 70, 71, 72, 73, 74, 75, 76, 77, 78, 79, 80, 81] rfl (by decide +kernel)
set_option maxRecDepth 20000 in
theorem gX7_between_X7_whole : GoodIn wsX7_between (wsV RX7 167 RX7 yX7_whole wsX7_whole) := goodIn_app (goodIn_of _ (by decide +kernel)) ggX7_between_X7_whole
set_option maxRecDepth 20000 in
theorem ggX7_between_X7_least : GoodIn wsX7_between wsX7_least := goodIn_r _ [59, 60, 61, 6, 62] rfl (by decide +kernel)
set_option maxRecDepth 20000 in
theorem gX7_between_X7_least : GoodIn wsX7_between (va_wsS RX7 161 yX7_least wsX7_least) := goodIn_app (goodIn_of _ (by decide +kernel)) ggX7_between_X7_least
theorem dX7_between_0 : decode cX7_between 0 = .ok (.aload_n 0, 1) := by decide +kernel
theorem dX7_between_1 : decode cX7_between 1 = .ok (.iload_n 1, 1) := by decide +kernel
theorem dX7_between_2 : decode cX7_between 2 = .ok (.invokevirtual 116, 3) := by decide +kernel
theorem dX7_between_5 : decode cX7_between 5 = .ok (.ifCond .eq 32, 3) := by decide +kernel
theorem dX7_between_8 : decode cX7_between 8 = .ok (.aload_n 0, 1) := by decide +kernel
theorem dX7_between_9 : decode cX7_between 9 = .ok (.iload_n 2, 1) := by decide +kernel
theorem dX7_between_10 : decode cX7_between 10 = .ok (.invokevirtual 116, 3) := by decide +kernel
theorem dX7_between_13 : decode cX7_between 13 = .ok (.ifCond .eq 24, 3) := by decide +kernel
theorem dX7_between_16 : decode cX7_between 16 = .ok (.iload_n 3, 1) := by decide +kernel
theorem dX7_between_17 : decode cX7_between 17 = .ok (.i2l, 1) := by decide +kernel
theorem dX7_between_18 : decode cX7_between 18 = .ok (.lconst 0, 1) := by decide +kernel
theorem dX7_between_19 : decode cX7_between 19 = .ok (.lconst 1, 1) := by decide +kernel
theorem dX7_between_20 : decode cX7_between 20 = .ok (.invokestatic 48, 3) := by decide +kernel
theorem dX7_between_23 : decode cX7_between 23 = .ok (.ifCond .eq 14, 3) := by decide +kernel
theorem dX7_between_26 : decode cX7_between 26 = .ok (.iload 4, 2) := by decide +kernel
theorem dX7_between_28 : decode cX7_between 28 = .ok (.i2l, 1) := by decide +kernel
theorem dX7_between_29 : decode cX7_between 29 = .ok (.lconst 0, 1) := by decide +kernel
theorem dX7_between_30 : decode cX7_between 30 = .ok (.lconst 1, 1) := by decide +kernel
theorem dX7_between_31 : decode cX7_between 31 = .ok (.invokestatic 48, 3) := by decide +kernel
theorem dX7_between_34 : decode cX7_between 34 = .ok (.ifCond .ne 7, 3) := by decide +kernel
theorem dX7_between_37 : decode cX7_between 37 = .ok (.ldc2_w 149, 3) := by decide +kernel
theorem dX7_between_40 : decode cX7_between 40 = .ok (.lreturn, 1) := by decide +kernel
theorem dX7_between_41 : decode cX7_between 41 = .ok (.aload_n 0, 1) := by decide +kernel
theorem dX7_between_42 : decode cX7_between 42 = .ok (.bipush (-9), 2) := by decide +kernel
theorem dX7_between_44 : decode cX7_between 44 = .ok (.invokevirtual 151, 3) := by decide +kernel
theorem dX7_between_47 : decode cX7_between 47 = .ok (.ifCond .ne 7, 3) := by decide +kernel
theorem dX7_between_50 : decode cX7_between 50 = .ok (.ldc2_w 165, 3) := by decide +kernel
theorem dX7_between_53 : decode cX7_between 53 = .ok (.lreturn, 1) := by decide +kernel
theorem dX7_between_54 : decode cX7_between 54 = .ok (.aload_n 0, 1) := by decide +kernel
theorem dX7_between_55 : decode cX7_between 55 = .ok (.iload_n 1, 1) := by decide +kernel
theorem dX7_between_56 : decode cX7_between 56 = .ok (.iload_n 2, 1) := by decide +kernel
theorem dX7_between_57 : decode cX7_between 57 = .ok (.bipush (-9), 2) := by decide +kernel
theorem dX7_between_59 : decode cX7_between 59 = .ok (.invokevirtual 154, 3) := by decide +kernel
theorem dX7_between_62 : decode cX7_between 62 = .ok (.aload_n 0, 1) := by decide +kernel
theorem dX7_between_63 : decode cX7_between 63 = .ok (.iload_n 2, 1) := by decide +kernel
theorem dX7_between_64 : decode cX7_between 64 = .ok (.iload_n 1, 1) := by decide +kernel
theorem dX7_between_65 : decode cX7_between 65 = .ok (.bipush (-9), 2) := by decide +kernel
theorem dX7_between_67 : decode cX7_between 67 = .ok (.invokevirtual 154, 3) := by decide +kernel
theorem dX7_between_70 : decode cX7_between 70 = .ok (.ladd, 1) := by decide +kernel
theorem dX7_between_71 : decode cX7_between 71 = .ok (.lstore 5, 2) := by decide +kernel
theorem dX7_between_73 : decode cX7_between 73 = .ok (.aload_n 0, 1) := by decide +kernel
theorem dX7_between_74 : decode cX7_between 74 = .ok (.bipush (-9), 2) := by decide +kernel
theorem dX7_between_76 : decode cX7_between 76 = .ok (.invokevirtual 158, 3) := by decide +kernel
theorem dX7_between_79 : decode cX7_between 79 = .ok (.lstore 7, 2) := by decide +kernel
theorem dX7_between_81 : decode cX7_between 81 = .ok (.lload 5, 2) := by decide +kernel
theorem dX7_between_83 : decode cX7_between 83 = .ok (.iload_n 3, 1) := by decide +kernel
theorem dX7_between_84 : decode cX7_between 84 = .ok (.ifCond .ne 8, 3) := by decide +kernel
theorem dX7_between_87 : decode cX7_between 87 = .ok (.lload 7, 2) := by decide +kernel
theorem dX7_between_89 : decode cX7_between 89 = .ok (.goto 13, 3) := by decide +kernel
theorem dX7_between_92 : decode cX7_between 92 = .ok (.iconst 2, 1) := by decide +kernel
theorem dX7_between_93 : decode cX7_between 93 = .ok (.aload_n 0, 1) := by decide +kernel
theorem dX7_between_94 : decode cX7_between 94 = .ok (.invokevirtual 167, 3) := by decide +kernel
theorem dX7_between_97 : decode cX7_between 97 = .ok (.imul, 1) := by decide +kernel
theorem dX7_between_98 : decode cX7_between 98 = .ok (.i2l, 1) := by decide +kernel
theorem dX7_between_99 : decode cX7_between 99 = .ok (.lload 7, 2) := by decide +kernel
theorem dX7_between_101 : decode cX7_between 101 = .ok (.lmul, 1) := by decide +kernel
theorem dX7_between_102 : decode cX7_between 102 = .ok (.iload 4, 2) := by decide +kernel
theorem dX7_between_104 : decode cX7_between 104 = .ok (.invokestatic 161, 3) := by decide +kernel
theorem dX7_between_107 : decode cX7_between 107 = .ok (.lreturn, 1) := by decide +kernel
set_option maxRecDepth 20000 in
theorem ggX7_ahead_X7_isNode : GoodIn wsX7_ahead wsX7_isNode := goodIn_r _ [7, 8, 9, 10, 6, 11, 51, 52, 53, 54, 55, 56, 57, 58, 59, 60, 61, 62, 63, 64, 65, 66, 67, 68, 69] rfl (by decide +kernel)
set_option maxRecDepth 20000 in
theorem gX7_ahead_X7_isNode : GoodIn wsX7_ahead (wsV RX7 116 RX7 yX7_isNode wsX7_isNode) := goodIn_app (goodIn_of _ (by decide +kernel)) ggX7_ahead_X7_isNode
set_option maxRecDepth 20000 in
theorem ggX7_ahead_X7_in : GoodIn wsX7_ahead wsX7_in := goodIn_r _ [11] rfl (by decide +kernel)
set_option maxRecDepth 20000 in
theorem gX7_ahead_X7_in : GoodIn wsX7_ahead (va_wsS RX7 48 yX7_in wsX7_in) := goodIn_app (goodIn_of _ (by decide +kernel)) ggX7_ahead_X7_in
set_option maxRecDepth 20000 in
theorem ggX7_ahead_X7_hangs : GoodIn wsX7_ahead wsX7_hangs := goodIn_r _ [15, 16, 17, 18, 6, 19, 20, 21, 22, 23, 24, 25, 26, 27, 28, 29, 8, 51, 52, 53, 54, 55, 56, 57, 58, 59, 60, 61, 62, 63, 64, 65, 66, 67, 68, 69] rfl (by decide +kernel)
set_option maxRecDepth 20000 in
theorem gX7_ahead_X7_hangs : GoodIn wsX7_ahead (wsV RX7 151 RX7 yX7_hangs wsX7_hangs) := goodIn_app (goodIn_of _ (by decide +kernel)) ggX7_ahead_X7_hangs
set_option maxRecDepth 20000 in
theorem ggX7_ahead_X7_apart : GoodIn wsX7_ahead wsX7_apart := goodIn_r _ [33, 25, 16, 17, 18, 6, 19, 20, 34, 35, 36, 37, 8, 38, 39, 40, 21, 22, 23, 24, 41, 42, 43, 44, 51, 52, 53, 54, 55, 56, 57, 58, 59, 60, 61, 62, 63, 64, 65, 66, 67, 68, 69] rfl (by decide +kernel)
set_option maxRecDepth 20000 in
theorem gX7_ahead_X7_apart : GoodIn wsX7_ahead (wsV RX7 170 RX7 yX7_apart wsX7_apart) := goodIn_app (goodIn_of _ (by decide +kernel)) ggX7_ahead_X7_apart
set_option maxRecDepth 20000 in
theorem ggX7_ahead_X7_least : GoodIn wsX7_ahead wsX7_least := goodIn_r _ [47, 48, 49, 6, 50] rfl (by decide +kernel)
set_option maxRecDepth 20000 in
theorem gX7_ahead_X7_least : GoodIn wsX7_ahead (va_wsS RX7 161 yX7_least wsX7_least) := goodIn_app (goodIn_of _ (by decide +kernel)) ggX7_ahead_X7_least
theorem dX7_ahead_0 : decode cX7_ahead 0 = .ok (.aload_n 0, 1) := by decide +kernel
theorem dX7_ahead_1 : decode cX7_ahead 1 = .ok (.iload_n 1, 1) := by decide +kernel
theorem dX7_ahead_2 : decode cX7_ahead 2 = .ok (.invokevirtual 116, 3) := by decide +kernel
theorem dX7_ahead_5 : decode cX7_ahead 5 = .ok (.ifCond .eq 35, 3) := by decide +kernel
theorem dX7_ahead_8 : decode cX7_ahead 8 = .ok (.aload_n 0, 1) := by decide +kernel
theorem dX7_ahead_9 : decode cX7_ahead 9 = .ok (.iload_n 2, 1) := by decide +kernel
theorem dX7_ahead_10 : decode cX7_ahead 10 = .ok (.invokevirtual 116, 3) := by decide +kernel
theorem dX7_ahead_13 : decode cX7_ahead 13 = .ok (.ifCond .eq 27, 3) := by decide +kernel
theorem dX7_ahead_16 : decode cX7_ahead 16 = .ok (.aload_n 0, 1) := by decide +kernel
theorem dX7_ahead_17 : decode cX7_ahead 17 = .ok (.iload_n 3, 1) := by decide +kernel
theorem dX7_ahead_18 : decode cX7_ahead 18 = .ok (.invokevirtual 116, 3) := by decide +kernel
theorem dX7_ahead_21 : decode cX7_ahead 21 = .ok (.ifCond .eq 19, 3) := by decide +kernel
theorem dX7_ahead_24 : decode cX7_ahead 24 = .ok (.iload_n 2, 1) := by decide +kernel
theorem dX7_ahead_25 : decode cX7_ahead 25 = .ok (.iload_n 3, 1) := by decide +kernel
theorem dX7_ahead_26 : decode cX7_ahead 26 = .ok (.if_icmp .eq 14, 3) := by decide +kernel
theorem dX7_ahead_29 : decode cX7_ahead 29 = .ok (.iload 4, 2) := by decide +kernel
theorem dX7_ahead_31 : decode cX7_ahead 31 = .ok (.i2l, 1) := by decide +kernel
theorem dX7_ahead_32 : decode cX7_ahead 32 = .ok (.lconst 0, 1) := by decide +kernel
theorem dX7_ahead_33 : decode cX7_ahead 33 = .ok (.lconst 1, 1) := by decide +kernel
theorem dX7_ahead_34 : decode cX7_ahead 34 = .ok (.invokestatic 48, 3) := by decide +kernel
theorem dX7_ahead_37 : decode cX7_ahead 37 = .ok (.ifCond .ne 7, 3) := by decide +kernel
theorem dX7_ahead_40 : decode cX7_ahead 40 = .ok (.ldc2_w 149, 3) := by decide +kernel
theorem dX7_ahead_43 : decode cX7_ahead 43 = .ok (.lreturn, 1) := by decide +kernel
theorem dX7_ahead_44 : decode cX7_ahead 44 = .ok (.aload_n 0, 1) := by decide +kernel
theorem dX7_ahead_45 : decode cX7_ahead 45 = .ok (.bipush (-9), 2) := by decide +kernel
theorem dX7_ahead_47 : decode cX7_ahead 47 = .ok (.invokevirtual 151, 3) := by decide +kernel
theorem dX7_ahead_50 : decode cX7_ahead 50 = .ok (.ifCond .eq 26, 3) := by decide +kernel
theorem dX7_ahead_53 : decode cX7_ahead 53 = .ok (.aload_n 0, 1) := by decide +kernel
theorem dX7_ahead_54 : decode cX7_ahead 54 = .ok (.iload_n 1, 1) := by decide +kernel
theorem dX7_ahead_55 : decode cX7_ahead 55 = .ok (.iload_n 2, 1) := by decide +kernel
theorem dX7_ahead_56 : decode cX7_ahead 56 = .ok (.iload_n 3, 1) := by decide +kernel
theorem dX7_ahead_57 : decode cX7_ahead 57 = .ok (.invokevirtual 170, 3) := by decide +kernel
theorem dX7_ahead_60 : decode cX7_ahead 60 = .ok (.aload_n 0, 1) := by decide +kernel
theorem dX7_ahead_61 : decode cX7_ahead 61 = .ok (.bipush (-9), 2) := by decide +kernel
theorem dX7_ahead_63 : decode cX7_ahead 63 = .ok (.iload_n 2, 1) := by decide +kernel
theorem dX7_ahead_64 : decode cX7_ahead 64 = .ok (.iload_n 3, 1) := by decide +kernel
theorem dX7_ahead_65 : decode cX7_ahead 65 = .ok (.invokevirtual 170, 3) := by decide +kernel
theorem dX7_ahead_68 : decode cX7_ahead 68 = .ok (.iload 4, 2) := by decide +kernel
theorem dX7_ahead_70 : decode cX7_ahead 70 = .ok (.invokestatic 161, 3) := by decide +kernel
theorem dX7_ahead_73 : decode cX7_ahead 73 = .ok (.goto 6, 3) := by decide +kernel
theorem dX7_ahead_76 : decode cX7_ahead 76 = .ok (.ldc2_w 165, 3) := by decide +kernel
theorem dX7_ahead_79 : decode cX7_ahead 79 = .ok (.lreturn, 1) := by decide +kernel
set_option maxRecDepth 20000 in
theorem ggX7_within_X7_lines : GoodIn wsX7_within wsX7_lines := goodIn_r _ [8, 3, 9, 10, 11, 12, 13, 14, 15, 16, 17, 18, 19, 20, 21, 22, 23, 24, 25, 26, 27] rfl (by decide +kernel)
set_option maxRecDepth 20000 in
theorem gX7_within_X7_lines : GoodIn wsX7_within (wsV RX7 107 RX7 yX7_lines wsX7_lines) := goodIn_app (goodIn_of _ (by decide +kernel)) ggX7_within_X7_lines
theorem dX7_within_0 : decode cX7_within 0 = .ok (.iconst 0, 1) := by decide +kernel
theorem dX7_within_1 : decode cX7_within 1 = .ok (.istore 4, 2) := by decide +kernel
theorem dX7_within_3 : decode cX7_within 3 = .ok (.iload 4, 2) := by decide +kernel
theorem dX7_within_5 : decode cX7_within 5 = .ok (.bipush 6, 2) := by decide +kernel
theorem dX7_within_7 : decode cX7_within 7 = .ok (.if_icmp .ge 27, 3) := by decide +kernel
theorem dX7_within_10 : decode cX7_within 10 = .ok (.aload_n 0, 1) := by decide +kernel
theorem dX7_within_11 : decode cX7_within 11 = .ok (.getfield 34, 3) := by decide +kernel
theorem dX7_within_14 : decode cX7_within 14 = .ok (.iload 4, 2) := by decide +kernel
theorem dX7_within_16 : decode cX7_within 16 = .ok (.iload 4, 2) := by decide +kernel
theorem dX7_within_18 : decode cX7_within 18 = .ok (.iload_n 2, 1) := by decide +kernel
theorem dX7_within_19 : decode cX7_within 19 = .ok (.if_icmp .ne 7, 3) := by decide +kernel
theorem dX7_within_22 : decode cX7_within 22 = .ok (.lconst 1, 1) := by decide +kernel
theorem dX7_within_23 : decode cX7_within 23 = .ok (.goto 4, 3) := by decide +kernel
theorem dX7_within_26 : decode cX7_within 26 = .ok (.lconst 0, 1) := by decide +kernel
theorem dX7_within_27 : decode cX7_within 27 = .ok (.lastore, 1) := by decide +kernel
theorem dX7_within_28 : decode cX7_within 28 = .ok (.iinc 4 1, 3) := by decide +kernel
theorem dX7_within_31 : decode cX7_within 31 = .ok (.goto (-28), 3) := by decide +kernel
theorem dX7_within_34 : decode cX7_within 34 = .ok (.iconst 0, 1) := by decide +kernel
theorem dX7_within_35 : decode cX7_within 35 = .ok (.istore 4, 2) := by decide +kernel
theorem dX7_within_37 : decode cX7_within 37 = .ok (.iload 4, 2) := by decide +kernel
theorem dX7_within_39 : decode cX7_within 39 = .ok (.iload_n 3, 1) := by decide +kernel
theorem dX7_within_40 : decode cX7_within 40 = .ok (.if_icmp .ge 177, 3) := by decide +kernel
theorem dX7_within_43 : decode cX7_within 43 = .ok (.iconst 0, 1) := by decide +kernel
theorem dX7_within_44 : decode cX7_within 44 = .ok (.istore 5, 2) := by decide +kernel
theorem dX7_within_46 : decode cX7_within 46 = .ok (.iload 5, 2) := by decide +kernel
theorem dX7_within_48 : decode cX7_within 48 = .ok (.bipush 6, 2) := by decide +kernel
theorem dX7_within_50 : decode cX7_within 50 = .ok (.if_icmp .ge 17, 3) := by decide +kernel
theorem dX7_within_53 : decode cX7_within 53 = .ok (.aload_n 0, 1) := by decide +kernel
theorem dX7_within_54 : decode cX7_within 54 = .ok (.getfield 37, 3) := by decide +kernel
theorem dX7_within_57 : decode cX7_within 57 = .ok (.iload 5, 2) := by decide +kernel
theorem dX7_within_59 : decode cX7_within 59 = .ok (.lconst 0, 1) := by decide +kernel
theorem dX7_within_60 : decode cX7_within 60 = .ok (.lastore, 1) := by decide +kernel
theorem dX7_within_61 : decode cX7_within 61 = .ok (.iinc 5 1, 3) := by decide +kernel
theorem dX7_within_64 : decode cX7_within 64 = .ok (.goto (-18), 3) := by decide +kernel
theorem dX7_within_67 : decode cX7_within 67 = .ok (.iconst 0, 1) := by decide +kernel
theorem dX7_within_68 : decode cX7_within 68 = .ok (.istore 5, 2) := by decide +kernel
theorem dX7_within_70 : decode cX7_within 70 = .ok (.iload 5, 2) := by decide +kernel
theorem dX7_within_72 : decode cX7_within 72 = .ok (.aload_n 0, 1) := by decide +kernel
theorem dX7_within_73 : decode cX7_within 73 = .ok (.invokevirtual 107, 3) := by decide +kernel
theorem dX7_within_76 : decode cX7_within 76 = .ok (.if_icmp .ge 105, 3) := by decide +kernel
theorem dX7_within_79 : decode cX7_within 79 = .ok (.aload_n 0, 1) := by decide +kernel
theorem dX7_within_80 : decode cX7_within 80 = .ok (.getfield 7, 3) := by decide +kernel
theorem dX7_within_83 : decode cX7_within 83 = .ok (.iconst 1, 1) := by decide +kernel
theorem dX7_within_84 : decode cX7_within 84 = .ok (.iload 5, 2) := by decide +kernel
theorem dX7_within_86 : decode cX7_within 86 = .ok (.iadd, 1) := by decide +kernel
theorem dX7_within_87 : decode cX7_within 87 = .ok (.iaload, 1) := by decide +kernel
theorem dX7_within_88 : decode cX7_within 88 = .ok (.istore 6, 2) := by decide +kernel
theorem dX7_within_90 : decode cX7_within 90 = .ok (.aload_n 0, 1) := by decide +kernel
theorem dX7_within_91 : decode cX7_within 91 = .ok (.getfield 7, 3) := by decide +kernel
theorem dX7_within_94 : decode cX7_within 94 = .ok (.bipush 11, 2) := by decide +kernel
theorem dX7_within_96 : decode cX7_within 96 = .ok (.iload 5, 2) := by decide +kernel
theorem dX7_within_98 : decode cX7_within 98 = .ok (.iadd, 1) := by decide +kernel
theorem dX7_within_99 : decode cX7_within 99 = .ok (.iaload, 1) := by decide +kernel
theorem dX7_within_100 : decode cX7_within 100 = .ok (.istore 7, 2) := by decide +kernel
theorem dX7_within_102 : decode cX7_within 102 = .ok (.iload_n 1, 1) := by decide +kernel
theorem dX7_within_103 : decode cX7_within 103 = .ok (.iload 6, 2) := by decide +kernel
theorem dX7_within_105 : decode cX7_within 105 = .ok (.ishr, 1) := by decide +kernel
theorem dX7_within_106 : decode cX7_within 106 = .ok (.iload_n 1, 1) := by decide +kernel
theorem dX7_within_107 : decode cX7_within 107 = .ok (.iload 7, 2) := by decide +kernel
theorem dX7_within_109 : decode cX7_within 109 = .ok (.ishr, 1) := by decide +kernel
theorem dX7_within_110 : decode cX7_within 110 = .ok (.iand, 1) := by decide +kernel
theorem dX7_within_111 : decode cX7_within 111 = .ok (.iconst 1, 1) := by decide +kernel
theorem dX7_within_112 : decode cX7_within 112 = .ok (.iand, 1) := by decide +kernel
theorem dX7_within_113 : decode cX7_within 113 = .ok (.iconst 1, 1) := by decide +kernel
theorem dX7_within_114 : decode cX7_within 114 = .ok (.if_icmp .ne 61, 3) := by decide +kernel
theorem dX7_within_117 : decode cX7_within 117 = .ok (.aload_n 0, 1) := by decide +kernel
theorem dX7_within_118 : decode cX7_within 118 = .ok (.getfield 37, 3) := by decide +kernel
theorem dX7_within_121 : decode cX7_within 121 = .ok (.iload 6, 2) := by decide +kernel
theorem dX7_within_123 : decode cX7_within 123 = .ok (.dup2, 1) := by decide +kernel
theorem dX7_within_124 : decode cX7_within 124 = .ok (.laload, 1) := by decide +kernel
theorem dX7_within_125 : decode cX7_within 125 = .ok (.aload_n 0, 1) := by decide +kernel
theorem dX7_within_126 : decode cX7_within 126 = .ok (.getfield 34, 3) := by decide +kernel
theorem dX7_within_129 : decode cX7_within 129 = .ok (.iload 7, 2) := by decide +kernel
theorem dX7_within_131 : decode cX7_within 131 = .ok (.laload, 1) := by decide +kernel
theorem dX7_within_132 : decode cX7_within 132 = .ok (.aload_n 0, 1) := by decide +kernel
theorem dX7_within_133 : decode cX7_within 133 = .ok (.getfield 7, 3) := by decide +kernel
theorem dX7_within_136 : decode cX7_within 136 = .ok (.bipush 21, 2) := by decide +kernel
theorem dX7_within_138 : decode cX7_within 138 = .ok (.iload 5, 2) := by decide +kernel
theorem dX7_within_140 : decode cX7_within 140 = .ok (.iadd, 1) := by decide +kernel
theorem dX7_within_141 : decode cX7_within 141 = .ok (.iaload, 1) := by decide +kernel
theorem dX7_within_142 : decode cX7_within 142 = .ok (.i2l, 1) := by decide +kernel
theorem dX7_within_143 : decode cX7_within 143 = .ok (.lmul, 1) := by decide +kernel
theorem dX7_within_144 : decode cX7_within 144 = .ok (.ladd, 1) := by decide +kernel
theorem dX7_within_145 : decode cX7_within 145 = .ok (.lastore, 1) := by decide +kernel
theorem dX7_within_146 : decode cX7_within 146 = .ok (.aload_n 0, 1) := by decide +kernel
theorem dX7_within_147 : decode cX7_within 147 = .ok (.getfield 37, 3) := by decide +kernel
theorem dX7_within_150 : decode cX7_within 150 = .ok (.iload 7, 2) := by decide +kernel
theorem dX7_within_152 : decode cX7_within 152 = .ok (.dup2, 1) := by decide +kernel
theorem dX7_within_153 : decode cX7_within 153 = .ok (.laload, 1) := by decide +kernel
theorem dX7_within_154 : decode cX7_within 154 = .ok (.aload_n 0, 1) := by decide +kernel
theorem dX7_within_155 : decode cX7_within 155 = .ok (.getfield 34, 3) := by decide +kernel
theorem dX7_within_158 : decode cX7_within 158 = .ok (.iload 6, 2) := by decide +kernel
theorem dX7_within_160 : decode cX7_within 160 = .ok (.laload, 1) := by decide +kernel
theorem dX7_within_161 : decode cX7_within 161 = .ok (.aload_n 0, 1) := by decide +kernel
theorem dX7_within_162 : decode cX7_within 162 = .ok (.getfield 7, 3) := by decide +kernel
theorem dX7_within_165 : decode cX7_within 165 = .ok (.bipush 21, 2) := by decide +kernel
theorem dX7_within_167 : decode cX7_within 167 = .ok (.iload 5, 2) := by decide +kernel
theorem dX7_within_169 : decode cX7_within 169 = .ok (.iadd, 1) := by decide +kernel
theorem dX7_within_170 : decode cX7_within 170 = .ok (.iaload, 1) := by decide +kernel
theorem dX7_within_171 : decode cX7_within 171 = .ok (.i2l, 1) := by decide +kernel
theorem dX7_within_172 : decode cX7_within 172 = .ok (.lmul, 1) := by decide +kernel
theorem dX7_within_173 : decode cX7_within 173 = .ok (.ladd, 1) := by decide +kernel
theorem dX7_within_174 : decode cX7_within 174 = .ok (.lastore, 1) := by decide +kernel
theorem dX7_within_175 : decode cX7_within 175 = .ok (.iinc 5 1, 3) := by decide +kernel
theorem dX7_within_178 : decode cX7_within 178 = .ok (.goto (-108), 3) := by decide +kernel
theorem dX7_within_181 : decode cX7_within 181 = .ok (.iconst 0, 1) := by decide +kernel
theorem dX7_within_182 : decode cX7_within 182 = .ok (.istore 5, 2) := by decide +kernel
theorem dX7_within_184 : decode cX7_within 184 = .ok (.iload 5, 2) := by decide +kernel
theorem dX7_within_186 : decode cX7_within 186 = .ok (.bipush 6, 2) := by decide +kernel
theorem dX7_within_188 : decode cX7_within 188 = .ok (.if_icmp .ge 23, 3) := by decide +kernel
theorem dX7_within_191 : decode cX7_within 191 = .ok (.aload_n 0, 1) := by decide +kernel
theorem dX7_within_192 : decode cX7_within 192 = .ok (.getfield 34, 3) := by decide +kernel
theorem dX7_within_195 : decode cX7_within 195 = .ok (.iload 5, 2) := by decide +kernel
theorem dX7_within_197 : decode cX7_within 197 = .ok (.aload_n 0, 1) := by decide +kernel
theorem dX7_within_198 : decode cX7_within 198 = .ok (.getfield 37, 3) := by decide +kernel
theorem dX7_within_201 : decode cX7_within 201 = .ok (.iload 5, 2) := by decide +kernel
theorem dX7_within_203 : decode cX7_within 203 = .ok (.laload, 1) := by decide +kernel
theorem dX7_within_204 : decode cX7_within 204 = .ok (.lastore, 1) := by decide +kernel
theorem dX7_within_205 : decode cX7_within 205 = .ok (.iinc 5 1, 3) := by decide +kernel
theorem dX7_within_208 : decode cX7_within 208 = .ok (.goto (-24), 3) := by decide +kernel
theorem dX7_within_211 : decode cX7_within 211 = .ok (.iinc 4 1, 3) := by decide +kernel
theorem dX7_within_214 : decode cX7_within 214 = .ok (.goto (-177), 3) := by decide +kernel
theorem dX7_within_217 : decode cX7_within 217 = .ok (.lconst 0, 1) := by decide +kernel
theorem dX7_within_218 : decode cX7_within 218 = .ok (.lstore 4, 2) := by decide +kernel
theorem dX7_within_220 : decode cX7_within 220 = .ok (.iconst 0, 1) := by decide +kernel
theorem dX7_within_221 : decode cX7_within 221 = .ok (.istore 6, 2) := by decide +kernel
theorem dX7_within_223 : decode cX7_within 223 = .ok (.iload 6, 2) := by decide +kernel
theorem dX7_within_225 : decode cX7_within 225 = .ok (.bipush 6, 2) := by decide +kernel
theorem dX7_within_227 : decode cX7_within 227 = .ok (.if_icmp .ge 21, 3) := by decide +kernel
theorem dX7_within_230 : decode cX7_within 230 = .ok (.lload 4, 2) := by decide +kernel
theorem dX7_within_232 : decode cX7_within 232 = .ok (.aload_n 0, 1) := by decide +kernel
theorem dX7_within_233 : decode cX7_within 233 = .ok (.getfield 34, 3) := by decide +kernel
theorem dX7_within_236 : decode cX7_within 236 = .ok (.iload 6, 2) := by decide +kernel
theorem dX7_within_238 : decode cX7_within 238 = .ok (.laload, 1) := by decide +kernel
theorem dX7_within_239 : decode cX7_within 239 = .ok (.ladd, 1) := by decide +kernel
theorem dX7_within_240 : decode cX7_within 240 = .ok (.lstore 4, 2) := by decide +kernel
theorem dX7_within_242 : decode cX7_within 242 = .ok (.iinc 6 1, 3) := by decide +kernel
theorem dX7_within_245 : decode cX7_within 245 = .ok (.goto (-22), 3) := by decide +kernel
theorem dX7_within_248 : decode cX7_within 248 = .ok (.lload 4, 2) := by decide +kernel
theorem dX7_within_250 : decode cX7_within 250 = .ok (.lreturn, 1) := by decide +kernel
set_option maxRecDepth 20000 in
theorem ggX7_walks_X7_isNode : GoodIn wsX7_walks wsX7_isNode := goodIn_r _ [10, 4, 11, 12, 9, 13, 27, 28, 29, 30, 31, 32, 33, 34, 35, 36, 37, 38, 39, 40, 41, 42, 43, 44, 45] rfl (by decide +kernel)
set_option maxRecDepth 20000 in
theorem gX7_walks_X7_isNode : GoodIn wsX7_walks (wsV RX7 116 RX7 yX7_isNode wsX7_isNode) := goodIn_app (goodIn_of _ (by decide +kernel)) ggX7_walks_X7_isNode
set_option maxRecDepth 20000 in
theorem ggX7_walks_X7_in : GoodIn wsX7_walks wsX7_in := goodIn_r _ [13] rfl (by decide +kernel)
set_option maxRecDepth 20000 in
theorem gX7_walks_X7_in : GoodIn wsX7_walks (va_wsS RX7 48 yX7_in wsX7_in) := goodIn_app (goodIn_of _ (by decide +kernel)) ggX7_walks_X7_in
set_option maxRecDepth 20000 in
theorem ggX7_walks_X7_within : GoodIn wsX7_walks wsX7_within := goodIn_r _ [17, 5, 18, 19, 20, 21, 22, 9, 23, 27, 28, 29, 30, 31, 32, 33, 34, 35, 36, 37, 38, 39, 40, 41, 42, 43, 44, 45] rfl (by decide +kernel)
set_option maxRecDepth 20000 in
theorem gX7_walks_X7_within : GoodIn wsX7_walks (wsV RX7 175 RX7 yX7_within wsX7_within) := goodIn_app (goodIn_of _ (by decide +kernel)) ggX7_walks_X7_within
set_option maxRecDepth 20000 in
theorem ggX7_walks_X7_ones : GoodIn wsX7_walks wsX7_ones := goodIn_r _ [26] rfl (by decide +kernel)
set_option maxRecDepth 20000 in
theorem gX7_walks_X7_ones : GoodIn wsX7_walks (va_wsS RX7 134 yX7_ones wsX7_ones) := goodIn_app (goodIn_of _ (by decide +kernel)) ggX7_walks_X7_ones
theorem dX7_walks_0 : decode cX7_walks 0 = .ok (.aload_n 0, 1) := by decide +kernel
theorem dX7_walks_1 : decode cX7_walks 1 = .ok (.iload_n 1, 1) := by decide +kernel
theorem dX7_walks_2 : decode cX7_walks 2 = .ok (.invokevirtual 116, 3) := by decide +kernel
theorem dX7_walks_5 : decode cX7_walks 5 = .ok (.ifCond .eq 27, 3) := by decide +kernel
theorem dX7_walks_8 : decode cX7_walks 8 = .ok (.iload_n 2, 1) := by decide +kernel
theorem dX7_walks_9 : decode cX7_walks 9 = .ok (.i2l, 1) := by decide +kernel
theorem dX7_walks_10 : decode cX7_walks 10 = .ok (.lconst 0, 1) := by decide +kernel
theorem dX7_walks_11 : decode cX7_walks 11 = .ok (.ldc2_w 173, 3) := by decide +kernel
theorem dX7_walks_14 : decode cX7_walks 14 = .ok (.invokestatic 48, 3) := by decide +kernel
theorem dX7_walks_17 : decode cX7_walks 17 = .ok (.ifCond .eq 15, 3) := by decide +kernel
theorem dX7_walks_20 : decode cX7_walks 20 = .ok (.iload_n 3, 1) := by decide +kernel
theorem dX7_walks_21 : decode cX7_walks 21 = .ok (.i2l, 1) := by decide +kernel
theorem dX7_walks_22 : decode cX7_walks 22 = .ok (.lconst 0, 1) := by decide +kernel
theorem dX7_walks_23 : decode cX7_walks 23 = .ok (.ldc2_w 114, 3) := by decide +kernel
theorem dX7_walks_26 : decode cX7_walks 26 = .ok (.invokestatic 48, 3) := by decide +kernel
theorem dX7_walks_29 : decode cX7_walks 29 = .ok (.ifCond .ne 7, 3) := by decide +kernel
theorem dX7_walks_32 : decode cX7_walks 32 = .ok (.ldc2_w 149, 3) := by decide +kernel
theorem dX7_walks_35 : decode cX7_walks 35 = .ok (.lreturn, 1) := by decide +kernel
theorem dX7_walks_36 : decode cX7_walks 36 = .ok (.iconst 1, 1) := by decide +kernel
theorem dX7_walks_37 : decode cX7_walks 37 = .ok (.aload_n 0, 1) := by decide +kernel
theorem dX7_walks_38 : decode cX7_walks 38 = .ok (.getfield 13, 3) := by decide +kernel
theorem dX7_walks_41 : decode cX7_walks 41 = .ok (.ishl, 1) := by decide +kernel
theorem dX7_walks_42 : decode cX7_walks 42 = .ok (.iconst 1, 1) := by decide +kernel
theorem dX7_walks_43 : decode cX7_walks 43 = .ok (.isub, 1) := by decide +kernel
theorem dX7_walks_44 : decode cX7_walks 44 = .ok (.istore 4, 2) := by decide +kernel
theorem dX7_walks_46 : decode cX7_walks 46 = .ok (.iload_n 3, 1) := by decide +kernel
theorem dX7_walks_47 : decode cX7_walks 47 = .ok (.iconst 2, 1) := by decide +kernel
theorem dX7_walks_48 : decode cX7_walks 48 = .ok (.if_icmp .ge 29, 3) := by decide +kernel
theorem dX7_walks_51 : decode cX7_walks 51 = .ok (.aload_n 0, 1) := by decide +kernel
theorem dX7_walks_52 : decode cX7_walks 52 = .ok (.iload 4, 2) := by decide +kernel
theorem dX7_walks_54 : decode cX7_walks 54 = .ok (.iload_n 1, 1) := by decide +kernel
theorem dX7_walks_55 : decode cX7_walks 55 = .ok (.iload_n 2, 1) := by decide +kernel
theorem dX7_walks_56 : decode cX7_walks 56 = .ok (.invokevirtual 175, 3) := by decide +kernel
theorem dX7_walks_59 : decode cX7_walks 59 = .ok (.lstore 5, 2) := by decide +kernel
theorem dX7_walks_61 : decode cX7_walks 61 = .ok (.iload_n 3, 1) := by decide +kernel
theorem dX7_walks_62 : decode cX7_walks 62 = .ok (.ifCond .ne 8, 3) := by decide +kernel
theorem dX7_walks_65 : decode cX7_walks 65 = .ok (.lload 5, 2) := by decide +kernel
theorem dX7_walks_67 : decode cX7_walks 67 = .ok (.goto 9, 3) := by decide +kernel
theorem dX7_walks_70 : decode cX7_walks 70 = .ok (.aload_n 0, 1) := by decide +kernel
theorem dX7_walks_71 : decode cX7_walks 71 = .ok (.getfield 34, 3) := by decide +kernel
theorem dX7_walks_74 : decode cX7_walks 74 = .ok (.iload_n 1, 1) := by decide +kernel
theorem dX7_walks_75 : decode cX7_walks 75 = .ok (.laload, 1) := by decide +kernel
theorem dX7_walks_76 : decode cX7_walks 76 = .ok (.lreturn, 1) := by decide +kernel
theorem dX7_walks_77 : decode cX7_walks 77 = .ok (.lconst 0, 1) := by decide +kernel
theorem dX7_walks_78 : decode cX7_walks 78 = .ok (.lstore 5, 2) := by decide +kernel
theorem dX7_walks_80 : decode cX7_walks 80 = .ok (.iconst 1, 1) := by decide +kernel
theorem dX7_walks_81 : decode cX7_walks 81 = .ok (.istore 7, 2) := by decide +kernel
theorem dX7_walks_83 : decode cX7_walks 83 = .ok (.iload 7, 2) := by decide +kernel
theorem dX7_walks_85 : decode cX7_walks 85 = .ok (.iload 4, 2) := by decide +kernel
theorem dX7_walks_87 : decode cX7_walks 87 = .ok (.if_icmp .gt 59, 3) := by decide +kernel
theorem dX7_walks_90 : decode cX7_walks 90 = .ok (.iload 7, 2) := by decide +kernel
theorem dX7_walks_92 : decode cX7_walks 92 = .ok (.iload_n 1, 1) := by decide +kernel
theorem dX7_walks_93 : decode cX7_walks 93 = .ok (.ishr, 1) := by decide +kernel
theorem dX7_walks_94 : decode cX7_walks 94 = .ok (.iconst 1, 1) := by decide +kernel
theorem dX7_walks_95 : decode cX7_walks 95 = .ok (.iand, 1) := by decide +kernel
theorem dX7_walks_96 : decode cX7_walks 96 = .ok (.iconst 1, 1) := by decide +kernel
theorem dX7_walks_97 : decode cX7_walks 97 = .ok (.if_icmp .ne 43, 3) := by decide +kernel
theorem dX7_walks_100 : decode cX7_walks 100 = .ok (.lload 5, 2) := by decide +kernel
theorem dX7_walks_102 : decode cX7_walks 102 = .ok (.aload_n 0, 1) := by decide +kernel
theorem dX7_walks_103 : decode cX7_walks 103 = .ok (.getfield 13, 3) := by decide +kernel
theorem dX7_walks_106 : decode cX7_walks 106 = .ok (.iload 7, 2) := by decide +kernel
theorem dX7_walks_108 : decode cX7_walks 108 = .ok (.invokestatic 134, 3) := by decide +kernel
theorem dX7_walks_111 : decode cX7_walks 111 = .ok (.isub, 1) := by decide +kernel
theorem dX7_walks_112 : decode cX7_walks 112 = .ok (.iconst 2, 1) := by decide +kernel
theorem dX7_walks_113 : decode cX7_walks 113 = .ok (.irem, 1) := by decide +kernel
theorem dX7_walks_114 : decode cX7_walks 114 = .ok (.ifCond .ne 14, 3) := by decide +kernel
theorem dX7_walks_117 : decode cX7_walks 117 = .ok (.aload_n 0, 1) := by decide +kernel
theorem dX7_walks_118 : decode cX7_walks 118 = .ok (.iload 7, 2) := by decide +kernel
theorem dX7_walks_120 : decode cX7_walks 120 = .ok (.iload_n 1, 1) := by decide +kernel
theorem dX7_walks_121 : decode cX7_walks 121 = .ok (.iload_n 2, 1) := by decide +kernel
theorem dX7_walks_122 : decode cX7_walks 122 = .ok (.invokevirtual 175, 3) := by decide +kernel
theorem dX7_walks_125 : decode cX7_walks 125 = .ok (.goto 12, 3) := by decide +kernel
theorem dX7_walks_128 : decode cX7_walks 128 = .ok (.aload_n 0, 1) := by decide +kernel
theorem dX7_walks_129 : decode cX7_walks 129 = .ok (.iload 7, 2) := by decide +kernel
theorem dX7_walks_131 : decode cX7_walks 131 = .ok (.iload_n 1, 1) := by decide +kernel
theorem dX7_walks_132 : decode cX7_walks 132 = .ok (.iload_n 2, 1) := by decide +kernel
theorem dX7_walks_133 : decode cX7_walks 133 = .ok (.invokevirtual 175, 3) := by decide +kernel
theorem dX7_walks_136 : decode cX7_walks 136 = .ok (.lneg, 1) := by decide +kernel
theorem dX7_walks_137 : decode cX7_walks 137 = .ok (.ladd, 1) := by decide +kernel
theorem dX7_walks_138 : decode cX7_walks 138 = .ok (.lstore 5, 2) := by decide +kernel
theorem dX7_walks_140 : decode cX7_walks 140 = .ok (.iinc 7 1, 3) := by decide +kernel
theorem dX7_walks_143 : decode cX7_walks 143 = .ok (.goto (-60), 3) := by decide +kernel
theorem dX7_walks_146 : decode cX7_walks 146 = .ok (.lload 5, 2) := by decide +kernel
theorem dX7_walks_148 : decode cX7_walks 148 = .ok (.lreturn, 1) := by decide +kernel
set_option maxRecDepth 20000 in
theorem ggX7_trees_X7_treesBut : GoodIn wsX7_trees wsX7_treesBut := goodIn_r _ [5, 6, 7, 8, 4, 9, 10, 11, 12, 13, 14, 15, 16, 17, 18, 19, 20, 21, 22, 23, 24, 25, 26, 27, 28, 29, 30, 31, 32, 33, 34, 35, 36, 37, 38, 39, 40, 41, 42, 43, 44, 45, 46] rfl (by decide +kernel)
set_option maxRecDepth 20000 in
theorem gX7_trees_X7_treesBut : GoodIn wsX7_trees (wsV RX7 158 RX7 yX7_treesBut wsX7_treesBut) := goodIn_app (goodIn_of _ (by decide +kernel)) ggX7_trees_X7_treesBut
theorem dX7_trees_0 : decode cX7_trees 0 = .ok (.aload_n 0, 1) := by decide +kernel
theorem dX7_trees_1 : decode cX7_trees 1 = .ok (.bipush (-9), 2) := by decide +kernel
theorem dX7_trees_3 : decode cX7_trees 3 = .ok (.invokevirtual 158, 3) := by decide +kernel
theorem dX7_trees_6 : decode cX7_trees 6 = .ok (.lreturn, 1) := by decide +kernel
set_option maxRecDepth 20000 in
theorem ggX7_treesWith_X7_treesBut : GoodIn wsX7_treesWith wsX7_treesBut := goodIn_r _ [5, 6, 7, 8, 4, 9, 10, 11, 12, 13, 14, 15, 16, 17, 18, 19, 20, 21, 22, 23, 24, 25, 26, 27, 28, 29, 30, 31, 32, 33, 34, 35, 36, 37, 38, 39, 40, 41, 42, 43, 44, 45, 46] rfl (by decide +kernel)
set_option maxRecDepth 20000 in
theorem gX7_treesWith_X7_treesBut : GoodIn wsX7_treesWith (wsV RX7 158 RX7 yX7_treesBut wsX7_treesBut) := goodIn_app (goodIn_of _ (by decide +kernel)) ggX7_treesWith_X7_treesBut
theorem dX7_treesWith_0 : decode cX7_treesWith 0 = .ok (.aload_n 0, 1) := by decide +kernel
theorem dX7_treesWith_1 : decode cX7_treesWith 1 = .ok (.bipush (-9), 2) := by decide +kernel
theorem dX7_treesWith_3 : decode cX7_treesWith 3 = .ok (.invokevirtual 158, 3) := by decide +kernel
theorem dX7_treesWith_6 : decode cX7_treesWith 6 = .ok (.aload_n 0, 1) := by decide +kernel
theorem dX7_treesWith_7 : decode cX7_treesWith 7 = .ok (.iload_n 1, 1) := by decide +kernel
theorem dX7_treesWith_8 : decode cX7_treesWith 8 = .ok (.invokevirtual 158, 3) := by decide +kernel
theorem dX7_treesWith_11 : decode cX7_treesWith 11 = .ok (.lsub, 1) := by decide +kernel
theorem dX7_treesWith_12 : decode cX7_treesWith 12 = .ok (.lreturn, 1) := by decide +kernel
set_option maxRecDepth 20000 in
theorem ggX7_share_X7_isLine : GoodIn wsX7_share wsX7_isLine := goodIn_r _ [7, 8, 9, 10, 6, 11, 12, 13, 14, 15, 55, 56, 57, 58, 59, 60, 61, 62, 63, 64, 65, 66, 67, 68, 69, 70, 71, 72, 73] rfl (by decide +kernel)
set_option maxRecDepth 20000 in
theorem gX7_share_X7_isLine : GoodIn wsX7_share (wsV RX7 111 RX7 yX7_isLine wsX7_isLine) := goodIn_app (goodIn_of _ (by decide +kernel)) ggX7_share_X7_isLine
set_option maxRecDepth 20000 in
theorem ggX7_share_X7_in : GoodIn wsX7_share wsX7_in := goodIn_r _ [15] rfl (by decide +kernel)
set_option maxRecDepth 20000 in
theorem gX7_share_X7_in : GoodIn wsX7_share (va_wsS RX7 48 yX7_in wsX7_in) := goodIn_app (goodIn_of _ (by decide +kernel)) ggX7_share_X7_in
set_option maxRecDepth 20000 in
theorem ggX7_share_X7_hangs : GoodIn wsX7_share wsX7_hangs := goodIn_r _ [19, 8, 9, 10, 6, 11, 12, 20, 21, 22, 23, 24, 25, 26, 27, 28, 29, 55, 56, 57, 58, 59, 60, 61, 62, 63, 64, 65, 66, 67, 68, 69, 70, 71, 72, 73] rfl (by decide +kernel)
set_option maxRecDepth 20000 in
theorem gX7_share_X7_hangs : GoodIn wsX7_share (wsV RX7 151 RX7 yX7_hangs wsX7_hangs) := goodIn_app (goodIn_of _ (by decide +kernel)) ggX7_share_X7_hangs
set_option maxRecDepth 20000 in
theorem ggX7_share_X7_treesWith : GoodIn wsX7_share wsX7_treesWith := goodIn_r _ [33, 34, 35, 36, 6, 37, 8, 9, 10, 11, 12, 38, 39, 40, 41, 29, 42, 43, 44, 20, 21, 22, 23, 24, 45, 46, 47, 48, 55, 56, 57, 58, 59, 60, 61, 62, 63, 64, 65, 66, 67, 68, 69, 70, 71, 72, 73] rfl (by decide +kernel)
set_option maxRecDepth 20000 in
theorem gX7_share_X7_treesWith : GoodIn wsX7_share (wsV RX7 178 RX7 yX7_treesWith wsX7_treesWith) := goodIn_app (goodIn_of _ (by decide +kernel)) ggX7_share_X7_treesWith
set_option maxRecDepth 20000 in
theorem ggX7_share_X7_treesBut : GoodIn wsX7_share wsX7_treesBut := goodIn_r _ [37, 8, 9, 10, 6, 11, 12, 38, 39, 40, 41, 29, 42, 43, 44, 20, 21, 22, 23, 24, 45, 46, 47, 48, 55, 56, 57, 58, 59, 60, 61, 62, 63, 64, 65, 66, 67, 68, 69, 70, 71, 72, 73] rfl (by decide +kernel)
set_option maxRecDepth 20000 in
theorem gX7_share_X7_treesBut : GoodIn wsX7_share (wsV RX7 158 RX7 yX7_treesBut wsX7_treesBut) := goodIn_app (goodIn_of _ (by decide +kernel)) ggX7_share_X7_treesBut
set_option maxRecDepth 20000 in
theorem ggX7_share_X7_least : GoodIn wsX7_share wsX7_least := goodIn_r _ [51, 52, 53, 6, 54] rfl (by decide +kernel)
set_option maxRecDepth 20000 in
theorem gX7_share_X7_least : GoodIn wsX7_share (va_wsS RX7 161 yX7_least wsX7_least) := goodIn_app (goodIn_of _ (by decide +kernel)) ggX7_share_X7_least
theorem dX7_share_0 : decode cX7_share 0 = .ok (.aload_n 0, 1) := by decide +kernel
theorem dX7_share_1 : decode cX7_share 1 = .ok (.iload_n 1, 1) := by decide +kernel
theorem dX7_share_2 : decode cX7_share 2 = .ok (.invokevirtual 111, 3) := by decide +kernel
theorem dX7_share_5 : decode cX7_share 5 = .ok (.ifCond .eq 13, 3) := by decide +kernel
theorem dX7_share_8 : decode cX7_share 8 = .ok (.iload_n 2, 1) := by decide +kernel
theorem dX7_share_9 : decode cX7_share 9 = .ok (.i2l, 1) := by decide +kernel
theorem dX7_share_10 : decode cX7_share 10 = .ok (.lconst 0, 1) := by decide +kernel
theorem dX7_share_11 : decode cX7_share 11 = .ok (.lconst 1, 1) := by decide +kernel
theorem dX7_share_12 : decode cX7_share 12 = .ok (.invokestatic 48, 3) := by decide +kernel
theorem dX7_share_15 : decode cX7_share 15 = .ok (.ifCond .ne 7, 3) := by decide +kernel
theorem dX7_share_18 : decode cX7_share 18 = .ok (.ldc2_w 149, 3) := by decide +kernel
theorem dX7_share_21 : decode cX7_share 21 = .ok (.lreturn, 1) := by decide +kernel
theorem dX7_share_22 : decode cX7_share 22 = .ok (.aload_n 0, 1) := by decide +kernel
theorem dX7_share_23 : decode cX7_share 23 = .ok (.bipush (-9), 2) := by decide +kernel
theorem dX7_share_25 : decode cX7_share 25 = .ok (.invokevirtual 151, 3) := by decide +kernel
theorem dX7_share_28 : decode cX7_share 28 = .ok (.ifCond .eq 21, 3) := by decide +kernel
theorem dX7_share_31 : decode cX7_share 31 = .ok (.aload_n 0, 1) := by decide +kernel
theorem dX7_share_32 : decode cX7_share 32 = .ok (.iload_n 1, 1) := by decide +kernel
theorem dX7_share_33 : decode cX7_share 33 = .ok (.invokevirtual 178, 3) := by decide +kernel
theorem dX7_share_36 : decode cX7_share 36 = .ok (.aload_n 0, 1) := by decide +kernel
theorem dX7_share_37 : decode cX7_share 37 = .ok (.bipush (-9), 2) := by decide +kernel
theorem dX7_share_39 : decode cX7_share 39 = .ok (.invokevirtual 158, 3) := by decide +kernel
theorem dX7_share_42 : decode cX7_share 42 = .ok (.iload_n 2, 1) := by decide +kernel
theorem dX7_share_43 : decode cX7_share 43 = .ok (.invokestatic 161, 3) := by decide +kernel
theorem dX7_share_46 : decode cX7_share 46 = .ok (.goto 6, 3) := by decide +kernel
theorem dX7_share_49 : decode cX7_share 49 = .ok (.ldc2_w 165, 3) := by decide +kernel
theorem dX7_share_52 : decode cX7_share 52 = .ok (.lreturn, 1) := by decide +kernel
set_option maxRecDepth 20000 in
theorem ggX7_rank_X7_hangs : GoodIn wsX7_rank wsX7_hangs := goodIn_r _ [5, 6, 7, 8, 4, 9, 10, 11, 12, 13, 14, 15, 16, 17, 18, 19, 20, 40, 41, 42, 43, 44, 45, 46, 47, 48, 49, 50, 51, 52, 53, 54, 55, 56, 57, 58] rfl (by decide +kernel)
set_option maxRecDepth 20000 in
theorem gX7_rank_X7_hangs : GoodIn wsX7_rank (wsV RX7 151 RX7 yX7_hangs wsX7_hangs) := goodIn_app (goodIn_of _ (by decide +kernel)) ggX7_rank_X7_hangs
set_option maxRecDepth 20000 in
theorem ggX7_rank_X7_lines : GoodIn wsX7_rank wsX7_lines := goodIn_r _ [9, 10, 40, 41, 42, 43, 44, 45, 46, 47, 48, 49, 50, 51, 52, 53, 54, 55, 56, 57, 58] rfl (by decide +kernel)
set_option maxRecDepth 20000 in
theorem gX7_rank_X7_lines : GoodIn wsX7_rank (wsV RX7 107 RX7 yX7_lines wsX7_lines) := goodIn_app (goodIn_of _ (by decide +kernel)) ggX7_rank_X7_lines
set_option maxRecDepth 20000 in
theorem ggX7_rank_X7_treesWith : GoodIn wsX7_rank wsX7_treesWith := goodIn_r _ [24, 25, 26, 27, 4, 28, 6, 7, 8, 9, 10, 29, 30, 31, 32, 20, 33, 34, 35, 11, 12, 13, 14, 15, 36, 37, 38, 39, 40, 41, 42, 43, 44, 45, 46, 47, 48, 49, 50, 51, 52, 53, 54, 55, 56, 57, 58] rfl (by decide +kernel)
set_option maxRecDepth 20000 in
theorem gX7_rank_X7_treesWith : GoodIn wsX7_rank (wsV RX7 178 RX7 yX7_treesWith wsX7_treesWith) := goodIn_app (goodIn_of _ (by decide +kernel)) ggX7_rank_X7_treesWith
theorem dX7_rank_0 : decode cX7_rank 0 = .ok (.iload_n 1, 1) := by decide +kernel
theorem dX7_rank_1 : decode cX7_rank 1 = .ok (.ifCond .ge 5, 3) := by decide +kernel
theorem dX7_rank_4 : decode cX7_rank 4 = .ok (.iconst (-1), 1) := by decide +kernel
theorem dX7_rank_5 : decode cX7_rank 5 = .ok (.ireturn, 1) := by decide +kernel
theorem dX7_rank_6 : decode cX7_rank 6 = .ok (.aload_n 0, 1) := by decide +kernel
theorem dX7_rank_7 : decode cX7_rank 7 = .ok (.bipush (-9), 2) := by decide +kernel
theorem dX7_rank_9 : decode cX7_rank 9 = .ok (.invokevirtual 151, 3) := by decide +kernel
theorem dX7_rank_12 : decode cX7_rank 12 = .ok (.ifCond .ne 6, 3) := by decide +kernel
theorem dX7_rank_15 : decode cX7_rank 15 = .ok (.bipush (-2), 2) := by decide +kernel
theorem dX7_rank_17 : decode cX7_rank 17 = .ok (.ireturn, 1) := by decide +kernel
theorem dX7_rank_18 : decode cX7_rank 18 = .ok (.iconst 0, 1) := by decide +kernel
theorem dX7_rank_19 : decode cX7_rank 19 = .ok (.istore_n 2, 1) := by decide +kernel
theorem dX7_rank_20 : decode cX7_rank 20 = .ok (.iload_n 2, 1) := by decide +kernel
theorem dX7_rank_21 : decode cX7_rank 21 = .ok (.aload_n 0, 1) := by decide +kernel
theorem dX7_rank_22 : decode cX7_rank 22 = .ok (.invokevirtual 107, 3) := by decide +kernel
theorem dX7_rank_25 : decode cX7_rank 25 = .ok (.if_icmp .ge 80, 3) := by decide +kernel
theorem dX7_rank_28 : decode cX7_rank 28 = .ok (.iconst 0, 1) := by decide +kernel
theorem dX7_rank_29 : decode cX7_rank 29 = .ok (.istore_n 3, 1) := by decide +kernel
theorem dX7_rank_30 : decode cX7_rank 30 = .ok (.iconst 0, 1) := by decide +kernel
theorem dX7_rank_31 : decode cX7_rank 31 = .ok (.istore 4, 2) := by decide +kernel
theorem dX7_rank_33 : decode cX7_rank 33 = .ok (.iload 4, 2) := by decide +kernel
theorem dX7_rank_35 : decode cX7_rank 35 = .ok (.aload_n 0, 1) := by decide +kernel
theorem dX7_rank_36 : decode cX7_rank 36 = .ok (.invokevirtual 107, 3) := by decide +kernel
theorem dX7_rank_39 : decode cX7_rank 39 = .ok (.if_icmp .ge 53, 3) := by decide +kernel
theorem dX7_rank_42 : decode cX7_rank 42 = .ok (.iload_n 3, 1) := by decide +kernel
theorem dX7_rank_43 : decode cX7_rank 43 = .ok (.aload_n 0, 1) := by decide +kernel
theorem dX7_rank_44 : decode cX7_rank 44 = .ok (.iload 4, 2) := by decide +kernel
theorem dX7_rank_46 : decode cX7_rank 46 = .ok (.invokevirtual 178, 3) := by decide +kernel
theorem dX7_rank_49 : decode cX7_rank 49 = .ok (.aload_n 0, 1) := by decide +kernel
theorem dX7_rank_50 : decode cX7_rank 50 = .ok (.iload_n 2, 1) := by decide +kernel
theorem dX7_rank_51 : decode cX7_rank 51 = .ok (.invokevirtual 178, 3) := by decide +kernel
theorem dX7_rank_54 : decode cX7_rank 54 = .ok (.lcmp, 1) := by decide +kernel
theorem dX7_rank_55 : decode cX7_rank 55 = .ok (.ifCond .gt 24, 3) := by decide +kernel
theorem dX7_rank_58 : decode cX7_rank 58 = .ok (.aload_n 0, 1) := by decide +kernel
theorem dX7_rank_59 : decode cX7_rank 59 = .ok (.iload 4, 2) := by decide +kernel
theorem dX7_rank_61 : decode cX7_rank 61 = .ok (.invokevirtual 178, 3) := by decide +kernel
theorem dX7_rank_64 : decode cX7_rank 64 = .ok (.aload_n 0, 1) := by decide +kernel
theorem dX7_rank_65 : decode cX7_rank 65 = .ok (.iload_n 2, 1) := by decide +kernel
theorem dX7_rank_66 : decode cX7_rank 66 = .ok (.invokevirtual 178, 3) := by decide +kernel
theorem dX7_rank_69 : decode cX7_rank 69 = .ok (.lcmp, 1) := by decide +kernel
theorem dX7_rank_70 : decode cX7_rank 70 = .ok (.ifCond .ne 13, 3) := by decide +kernel
theorem dX7_rank_73 : decode cX7_rank 73 = .ok (.iload 4, 2) := by decide +kernel
theorem dX7_rank_75 : decode cX7_rank 75 = .ok (.iload_n 2, 1) := by decide +kernel
theorem dX7_rank_76 : decode cX7_rank 76 = .ok (.if_icmp .ge 7, 3) := by decide +kernel
theorem dX7_rank_79 : decode cX7_rank 79 = .ok (.iconst 1, 1) := by decide +kernel
theorem dX7_rank_80 : decode cX7_rank 80 = .ok (.goto 4, 3) := by decide +kernel
theorem dX7_rank_83 : decode cX7_rank 83 = .ok (.iconst 0, 1) := by decide +kernel
theorem dX7_rank_84 : decode cX7_rank 84 = .ok (.iadd, 1) := by decide +kernel
theorem dX7_rank_85 : decode cX7_rank 85 = .ok (.istore_n 3, 1) := by decide +kernel
theorem dX7_rank_86 : decode cX7_rank 86 = .ok (.iinc 4 1, 3) := by decide +kernel
theorem dX7_rank_89 : decode cX7_rank 89 = .ok (.goto (-56), 3) := by decide +kernel
theorem dX7_rank_92 : decode cX7_rank 92 = .ok (.iload_n 3, 1) := by decide +kernel
theorem dX7_rank_93 : decode cX7_rank 93 = .ok (.iload_n 1, 1) := by decide +kernel
theorem dX7_rank_94 : decode cX7_rank 94 = .ok (.if_icmp .ne 5, 3) := by decide +kernel
theorem dX7_rank_97 : decode cX7_rank 97 = .ok (.iload_n 2, 1) := by decide +kernel
theorem dX7_rank_98 : decode cX7_rank 98 = .ok (.ireturn, 1) := by decide +kernel
theorem dX7_rank_99 : decode cX7_rank 99 = .ok (.iinc 2 1, 3) := by decide +kernel
theorem dX7_rank_102 : decode cX7_rank 102 = .ok (.goto (-82), 3) := by decide +kernel
theorem dX7_rank_105 : decode cX7_rank 105 = .ok (.bipush (-9), 2) := by decide +kernel
theorem dX7_rank_107 : decode cX7_rank 107 = .ok (.ireturn, 1) := by decide +kernel
set_option maxRecDepth 20000 in
theorem ggX7_resists_X7_common : GoodIn wsX7_resists wsX7_common := goodIn_r _ [6] rfl (by decide +kernel)
set_option maxRecDepth 20000 in
theorem gX7_resists_X7_common : GoodIn wsX7_resists (va_wsS RX7 145 yX7_common wsX7_common) := goodIn_app (goodIn_of _ (by decide +kernel)) ggX7_resists_X7_common
theorem dX7_resists_0 : decode cX7_resists 0 = .ok (.lload 5, 2) := by decide +kernel
theorem dX7_resists_2 : decode cX7_resists 2 = .ok (.lconst 0, 1) := by decide +kernel
theorem dX7_resists_3 : decode cX7_resists 3 = .ok (.lcmp, 1) := by decide +kernel
theorem dX7_resists_4 : decode cX7_resists 4 = .ok (.ifCond .ne 7, 3) := by decide +kernel
theorem dX7_resists_7 : decode cX7_resists 7 = .ok (.lconst 1, 1) := by decide +kernel
theorem dX7_resists_8 : decode cX7_resists 8 = .ok (.goto 9, 3) := by decide +kernel
theorem dX7_resists_11 : decode cX7_resists 11 = .ok (.lload_n 3, 1) := by decide +kernel
theorem dX7_resists_12 : decode cX7_resists 12 = .ok (.lload 5, 2) := by decide +kernel
theorem dX7_resists_14 : decode cX7_resists 14 = .ok (.invokestatic 145, 3) := by decide +kernel
theorem dX7_resists_17 : decode cX7_resists 17 = .ok (.lstore 7, 2) := by decide +kernel
theorem dX7_resists_19 : decode cX7_resists 19 = .ok (.aload_n 0, 1) := by decide +kernel
theorem dX7_resists_20 : decode cX7_resists 20 = .ok (.getfield 40, 3) := by decide +kernel
theorem dX7_resists_23 : decode cX7_resists 23 = .ok (.bipush 6, 2) := by decide +kernel
theorem dX7_resists_25 : decode cX7_resists 25 = .ok (.iload_n 1, 1) := by decide +kernel
theorem dX7_resists_26 : decode cX7_resists 26 = .ok (.imul, 1) := by decide +kernel
theorem dX7_resists_27 : decode cX7_resists 27 = .ok (.iload_n 2, 1) := by decide +kernel
theorem dX7_resists_28 : decode cX7_resists 28 = .ok (.iadd, 1) := by decide +kernel
theorem dX7_resists_29 : decode cX7_resists 29 = .ok (.lload_n 3, 1) := by decide +kernel
theorem dX7_resists_30 : decode cX7_resists 30 = .ok (.lload 7, 2) := by decide +kernel
theorem dX7_resists_32 : decode cX7_resists 32 = .ok (.ldiv, 1) := by decide +kernel
theorem dX7_resists_33 : decode cX7_resists 33 = .ok (.lastore, 1) := by decide +kernel
theorem dX7_resists_34 : decode cX7_resists 34 = .ok (.aload_n 0, 1) := by decide +kernel
theorem dX7_resists_35 : decode cX7_resists 35 = .ok (.getfield 40, 3) := by decide +kernel
theorem dX7_resists_38 : decode cX7_resists 38 = .ok (.bipush 6, 2) := by decide +kernel
theorem dX7_resists_40 : decode cX7_resists 40 = .ok (.iload_n 2, 1) := by decide +kernel
theorem dX7_resists_41 : decode cX7_resists 41 = .ok (.imul, 1) := by decide +kernel
theorem dX7_resists_42 : decode cX7_resists 42 = .ok (.iload_n 1, 1) := by decide +kernel
theorem dX7_resists_43 : decode cX7_resists 43 = .ok (.iadd, 1) := by decide +kernel
theorem dX7_resists_44 : decode cX7_resists 44 = .ok (.lload_n 3, 1) := by decide +kernel
theorem dX7_resists_45 : decode cX7_resists 45 = .ok (.lload 7, 2) := by decide +kernel
theorem dX7_resists_47 : decode cX7_resists 47 = .ok (.ldiv, 1) := by decide +kernel
theorem dX7_resists_48 : decode cX7_resists 48 = .ok (.lastore, 1) := by decide +kernel
theorem dX7_resists_49 : decode cX7_resists 49 = .ok (.aload_n 0, 1) := by decide +kernel
theorem dX7_resists_50 : decode cX7_resists 50 = .ok (.getfield 43, 3) := by decide +kernel
theorem dX7_resists_53 : decode cX7_resists 53 = .ok (.bipush 6, 2) := by decide +kernel
theorem dX7_resists_55 : decode cX7_resists 55 = .ok (.iload_n 1, 1) := by decide +kernel
theorem dX7_resists_56 : decode cX7_resists 56 = .ok (.imul, 1) := by decide +kernel
theorem dX7_resists_57 : decode cX7_resists 57 = .ok (.iload_n 2, 1) := by decide +kernel
theorem dX7_resists_58 : decode cX7_resists 58 = .ok (.iadd, 1) := by decide +kernel
theorem dX7_resists_59 : decode cX7_resists 59 = .ok (.lload 5, 2) := by decide +kernel
theorem dX7_resists_61 : decode cX7_resists 61 = .ok (.lload 7, 2) := by decide +kernel
theorem dX7_resists_63 : decode cX7_resists 63 = .ok (.ldiv, 1) := by decide +kernel
theorem dX7_resists_64 : decode cX7_resists 64 = .ok (.lastore, 1) := by decide +kernel
theorem dX7_resists_65 : decode cX7_resists 65 = .ok (.aload_n 0, 1) := by decide +kernel
theorem dX7_resists_66 : decode cX7_resists 66 = .ok (.getfield 43, 3) := by decide +kernel
theorem dX7_resists_69 : decode cX7_resists 69 = .ok (.bipush 6, 2) := by decide +kernel
theorem dX7_resists_71 : decode cX7_resists 71 = .ok (.iload_n 2, 1) := by decide +kernel
theorem dX7_resists_72 : decode cX7_resists 72 = .ok (.imul, 1) := by decide +kernel
theorem dX7_resists_73 : decode cX7_resists 73 = .ok (.iload_n 1, 1) := by decide +kernel
theorem dX7_resists_74 : decode cX7_resists 74 = .ok (.iadd, 1) := by decide +kernel
theorem dX7_resists_75 : decode cX7_resists 75 = .ok (.lload 5, 2) := by decide +kernel
theorem dX7_resists_77 : decode cX7_resists 77 = .ok (.lload 7, 2) := by decide +kernel
theorem dX7_resists_79 : decode cX7_resists 79 = .ok (.ldiv, 1) := by decide +kernel
theorem dX7_resists_80 : decode cX7_resists 80 = .ok (.lastore, 1) := by decide +kernel
theorem dX7_resists_81 : decode cX7_resists 81 = .ok (.return_, 1) := by decide +kernel
theorem dX7_neighbour_0 : decode cX7_neighbour 0 = .ok (.iconst 0, 1) := by decide +kernel
theorem dX7_neighbour_1 : decode cX7_neighbour 1 = .ok (.istore_n 3, 1) := by decide +kernel
theorem dX7_neighbour_2 : decode cX7_neighbour 2 = .ok (.iconst 0, 1) := by decide +kernel
theorem dX7_neighbour_3 : decode cX7_neighbour 3 = .ok (.istore 4, 2) := by decide +kernel
theorem dX7_neighbour_5 : decode cX7_neighbour 5 = .ok (.iload 4, 2) := by decide +kernel
theorem dX7_neighbour_7 : decode cX7_neighbour 7 = .ok (.aload_n 0, 1) := by decide +kernel
theorem dX7_neighbour_8 : decode cX7_neighbour 8 = .ok (.getfield 13, 3) := by decide +kernel
theorem dX7_neighbour_11 : decode cX7_neighbour 11 = .ok (.if_icmp .ge 37, 3) := by decide +kernel
theorem dX7_neighbour_14 : decode cX7_neighbour 14 = .ok (.aload_n 0, 1) := by decide +kernel
theorem dX7_neighbour_15 : decode cX7_neighbour 15 = .ok (.getfield 43, 3) := by decide +kernel
theorem dX7_neighbour_18 : decode cX7_neighbour 18 = .ok (.bipush 6, 2) := by decide +kernel
theorem dX7_neighbour_20 : decode cX7_neighbour 20 = .ok (.iload_n 1, 1) := by decide +kernel
theorem dX7_neighbour_21 : decode cX7_neighbour 21 = .ok (.imul, 1) := by decide +kernel
theorem dX7_neighbour_22 : decode cX7_neighbour 22 = .ok (.iload 4, 2) := by decide +kernel
theorem dX7_neighbour_24 : decode cX7_neighbour 24 = .ok (.iadd, 1) := by decide +kernel
theorem dX7_neighbour_25 : decode cX7_neighbour 25 = .ok (.laload, 1) := by decide +kernel
theorem dX7_neighbour_26 : decode cX7_neighbour 26 = .ok (.lconst 0, 1) := by decide +kernel
theorem dX7_neighbour_27 : decode cX7_neighbour 27 = .ok (.lcmp, 1) := by decide +kernel
theorem dX7_neighbour_28 : decode cX7_neighbour 28 = .ok (.ifCond .le 14, 3) := by decide +kernel
theorem dX7_neighbour_31 : decode cX7_neighbour 31 = .ok (.iload_n 3, 1) := by decide +kernel
theorem dX7_neighbour_32 : decode cX7_neighbour 32 = .ok (.iload_n 2, 1) := by decide +kernel
theorem dX7_neighbour_33 : decode cX7_neighbour 33 = .ok (.if_icmp .ne 6, 3) := by decide +kernel
theorem dX7_neighbour_36 : decode cX7_neighbour 36 = .ok (.iload 4, 2) := by decide +kernel
theorem dX7_neighbour_38 : decode cX7_neighbour 38 = .ok (.ireturn, 1) := by decide +kernel
theorem dX7_neighbour_39 : decode cX7_neighbour 39 = .ok (.iinc 3 1, 3) := by decide +kernel
theorem dX7_neighbour_42 : decode cX7_neighbour 42 = .ok (.iinc 4 1, 3) := by decide +kernel
theorem dX7_neighbour_45 : decode cX7_neighbour 45 = .ok (.goto (-40), 3) := by decide +kernel
theorem dX7_neighbour_48 : decode cX7_neighbour 48 = .ok (.bipush (-9), 2) := by decide +kernel
theorem dX7_neighbour_50 : decode cX7_neighbour 50 = .ok (.ireturn, 1) := by decide +kernel
set_option maxRecDepth 20000 in
theorem ggX7_goes_X7_neighbour : GoodIn wsX7_goes wsX7_neighbour := goodIn_r _ [7, 8, 2, 16, 17, 18, 19, 20, 21, 22, 23, 24, 25, 26, 27, 28, 29, 30, 31, 32, 33, 34] rfl (by decide +kernel)
set_option maxRecDepth 20000 in
theorem gX7_goes_X7_neighbour : GoodIn wsX7_goes (wsV RX7 181 RX7 yX7_neighbour wsX7_neighbour) := goodIn_app (goodIn_of _ (by decide +kernel)) ggX7_goes_X7_neighbour
set_option maxRecDepth 20000 in
theorem ggX7_goes_X7_resists : GoodIn wsX7_goes wsX7_resists := goodIn_r _ [12, 1, 2, 13, 14, 6, 15, 16, 17, 18, 19, 20, 21, 22, 23, 24, 25, 26, 27, 28, 29, 30, 31, 32, 33, 34] rfl (by decide +kernel)
set_option maxRecDepth 20000 in
theorem gX7_goes_X7_resists : GoodIn wsX7_goes (wsV RX7 184 RX7 yX7_resists wsX7_resists) := goodIn_app (goodIn_of _ (by decide +kernel)) ggX7_goes_X7_resists
theorem dX7_goes_0 : decode cX7_goes 0 = .ok (.aload_n 0, 1) := by decide +kernel
theorem dX7_goes_1 : decode cX7_goes 1 = .ok (.iload_n 1, 1) := by decide +kernel
theorem dX7_goes_2 : decode cX7_goes 2 = .ok (.iconst 0, 1) := by decide +kernel
theorem dX7_goes_3 : decode cX7_goes 3 = .ok (.invokevirtual 181, 3) := by decide +kernel
theorem dX7_goes_6 : decode cX7_goes 6 = .ok (.istore_n 2, 1) := by decide +kernel
theorem dX7_goes_7 : decode cX7_goes 7 = .ok (.aload_n 0, 1) := by decide +kernel
theorem dX7_goes_8 : decode cX7_goes 8 = .ok (.iload_n 1, 1) := by decide +kernel
theorem dX7_goes_9 : decode cX7_goes 9 = .ok (.iconst 1, 1) := by decide +kernel
theorem dX7_goes_10 : decode cX7_goes 10 = .ok (.invokevirtual 181, 3) := by decide +kernel
theorem dX7_goes_13 : decode cX7_goes 13 = .ok (.istore_n 3, 1) := by decide +kernel
theorem dX7_goes_14 : decode cX7_goes 14 = .ok (.iload_n 3, 1) := by decide +kernel
theorem dX7_goes_15 : decode cX7_goes 15 = .ok (.bipush (-9), 2) := by decide +kernel
theorem dX7_goes_17 : decode cX7_goes 17 = .ok (.if_icmp .eq 153, 3) := by decide +kernel
theorem dX7_goes_20 : decode cX7_goes 20 = .ok (.aload_n 0, 1) := by decide +kernel
theorem dX7_goes_21 : decode cX7_goes 21 = .ok (.getfield 40, 3) := by decide +kernel
theorem dX7_goes_24 : decode cX7_goes 24 = .ok (.bipush 6, 2) := by decide +kernel
theorem dX7_goes_26 : decode cX7_goes 26 = .ok (.iload_n 1, 1) := by decide +kernel
theorem dX7_goes_27 : decode cX7_goes 27 = .ok (.imul, 1) := by decide +kernel
theorem dX7_goes_28 : decode cX7_goes 28 = .ok (.iload_n 2, 1) := by decide +kernel
theorem dX7_goes_29 : decode cX7_goes 29 = .ok (.iadd, 1) := by decide +kernel
theorem dX7_goes_30 : decode cX7_goes 30 = .ok (.laload, 1) := by decide +kernel
theorem dX7_goes_31 : decode cX7_goes 31 = .ok (.aload_n 0, 1) := by decide +kernel
theorem dX7_goes_32 : decode cX7_goes 32 = .ok (.getfield 43, 3) := by decide +kernel
theorem dX7_goes_35 : decode cX7_goes 35 = .ok (.bipush 6, 2) := by decide +kernel
theorem dX7_goes_37 : decode cX7_goes 37 = .ok (.iload_n 1, 1) := by decide +kernel
theorem dX7_goes_38 : decode cX7_goes 38 = .ok (.imul, 1) := by decide +kernel
theorem dX7_goes_39 : decode cX7_goes 39 = .ok (.iload_n 3, 1) := by decide +kernel
theorem dX7_goes_40 : decode cX7_goes 40 = .ok (.iadd, 1) := by decide +kernel
theorem dX7_goes_41 : decode cX7_goes 41 = .ok (.laload, 1) := by decide +kernel
theorem dX7_goes_42 : decode cX7_goes 42 = .ok (.lmul, 1) := by decide +kernel
theorem dX7_goes_43 : decode cX7_goes 43 = .ok (.aload_n 0, 1) := by decide +kernel
theorem dX7_goes_44 : decode cX7_goes 44 = .ok (.getfield 40, 3) := by decide +kernel
theorem dX7_goes_47 : decode cX7_goes 47 = .ok (.bipush 6, 2) := by decide +kernel
theorem dX7_goes_49 : decode cX7_goes 49 = .ok (.iload_n 1, 1) := by decide +kernel
theorem dX7_goes_50 : decode cX7_goes 50 = .ok (.imul, 1) := by decide +kernel
theorem dX7_goes_51 : decode cX7_goes 51 = .ok (.iload_n 3, 1) := by decide +kernel
theorem dX7_goes_52 : decode cX7_goes 52 = .ok (.iadd, 1) := by decide +kernel
theorem dX7_goes_53 : decode cX7_goes 53 = .ok (.laload, 1) := by decide +kernel
theorem dX7_goes_54 : decode cX7_goes 54 = .ok (.aload_n 0, 1) := by decide +kernel
theorem dX7_goes_55 : decode cX7_goes 55 = .ok (.getfield 43, 3) := by decide +kernel
theorem dX7_goes_58 : decode cX7_goes 58 = .ok (.bipush 6, 2) := by decide +kernel
theorem dX7_goes_60 : decode cX7_goes 60 = .ok (.iload_n 1, 1) := by decide +kernel
theorem dX7_goes_61 : decode cX7_goes 61 = .ok (.imul, 1) := by decide +kernel
theorem dX7_goes_62 : decode cX7_goes 62 = .ok (.iload_n 2, 1) := by decide +kernel
theorem dX7_goes_63 : decode cX7_goes 63 = .ok (.iadd, 1) := by decide +kernel
theorem dX7_goes_64 : decode cX7_goes 64 = .ok (.laload, 1) := by decide +kernel
theorem dX7_goes_65 : decode cX7_goes 65 = .ok (.lmul, 1) := by decide +kernel
theorem dX7_goes_66 : decode cX7_goes 66 = .ok (.ladd, 1) := by decide +kernel
theorem dX7_goes_67 : decode cX7_goes 67 = .ok (.lstore 4, 2) := by decide +kernel
theorem dX7_goes_69 : decode cX7_goes 69 = .ok (.aload_n 0, 1) := by decide +kernel
theorem dX7_goes_70 : decode cX7_goes 70 = .ok (.getfield 43, 3) := by decide +kernel
theorem dX7_goes_73 : decode cX7_goes 73 = .ok (.bipush 6, 2) := by decide +kernel
theorem dX7_goes_75 : decode cX7_goes 75 = .ok (.iload_n 1, 1) := by decide +kernel
theorem dX7_goes_76 : decode cX7_goes 76 = .ok (.imul, 1) := by decide +kernel
theorem dX7_goes_77 : decode cX7_goes 77 = .ok (.iload_n 2, 1) := by decide +kernel
theorem dX7_goes_78 : decode cX7_goes 78 = .ok (.iadd, 1) := by decide +kernel
theorem dX7_goes_79 : decode cX7_goes 79 = .ok (.laload, 1) := by decide +kernel
theorem dX7_goes_80 : decode cX7_goes 80 = .ok (.aload_n 0, 1) := by decide +kernel
theorem dX7_goes_81 : decode cX7_goes 81 = .ok (.getfield 43, 3) := by decide +kernel
theorem dX7_goes_84 : decode cX7_goes 84 = .ok (.bipush 6, 2) := by decide +kernel
theorem dX7_goes_86 : decode cX7_goes 86 = .ok (.iload_n 1, 1) := by decide +kernel
theorem dX7_goes_87 : decode cX7_goes 87 = .ok (.imul, 1) := by decide +kernel
theorem dX7_goes_88 : decode cX7_goes 88 = .ok (.iload_n 3, 1) := by decide +kernel
theorem dX7_goes_89 : decode cX7_goes 89 = .ok (.iadd, 1) := by decide +kernel
theorem dX7_goes_90 : decode cX7_goes 90 = .ok (.laload, 1) := by decide +kernel
theorem dX7_goes_91 : decode cX7_goes 91 = .ok (.lmul, 1) := by decide +kernel
theorem dX7_goes_92 : decode cX7_goes 92 = .ok (.lstore 6, 2) := by decide +kernel
theorem dX7_goes_94 : decode cX7_goes 94 = .ok (.aload_n 0, 1) := by decide +kernel
theorem dX7_goes_95 : decode cX7_goes 95 = .ok (.getfield 40, 3) := by decide +kernel
theorem dX7_goes_98 : decode cX7_goes 98 = .ok (.bipush 6, 2) := by decide +kernel
theorem dX7_goes_100 : decode cX7_goes 100 = .ok (.iload_n 2, 1) := by decide +kernel
theorem dX7_goes_101 : decode cX7_goes 101 = .ok (.imul, 1) := by decide +kernel
theorem dX7_goes_102 : decode cX7_goes 102 = .ok (.iload_n 3, 1) := by decide +kernel
theorem dX7_goes_103 : decode cX7_goes 103 = .ok (.iadd, 1) := by decide +kernel
theorem dX7_goes_104 : decode cX7_goes 104 = .ok (.laload, 1) := by decide +kernel
theorem dX7_goes_105 : decode cX7_goes 105 = .ok (.lstore 8, 2) := by decide +kernel
theorem dX7_goes_107 : decode cX7_goes 107 = .ok (.aload_n 0, 1) := by decide +kernel
theorem dX7_goes_108 : decode cX7_goes 108 = .ok (.getfield 43, 3) := by decide +kernel
theorem dX7_goes_111 : decode cX7_goes 111 = .ok (.bipush 6, 2) := by decide +kernel
theorem dX7_goes_113 : decode cX7_goes 113 = .ok (.iload_n 2, 1) := by decide +kernel
theorem dX7_goes_114 : decode cX7_goes 114 = .ok (.imul, 1) := by decide +kernel
theorem dX7_goes_115 : decode cX7_goes 115 = .ok (.iload_n 3, 1) := by decide +kernel
theorem dX7_goes_116 : decode cX7_goes 116 = .ok (.iadd, 1) := by decide +kernel
theorem dX7_goes_117 : decode cX7_goes 117 = .ok (.laload, 1) := by decide +kernel
theorem dX7_goes_118 : decode cX7_goes 118 = .ok (.lstore 10, 2) := by decide +kernel
theorem dX7_goes_120 : decode cX7_goes 120 = .ok (.lload 10, 2) := by decide +kernel
theorem dX7_goes_122 : decode cX7_goes 122 = .ok (.lconst 0, 1) := by decide +kernel
theorem dX7_goes_123 : decode cX7_goes 123 = .ok (.lcmp, 1) := by decide +kernel
theorem dX7_goes_124 : decode cX7_goes 124 = .ok (.ifCond .ne 16, 3) := by decide +kernel
theorem dX7_goes_127 : decode cX7_goes 127 = .ok (.aload_n 0, 1) := by decide +kernel
theorem dX7_goes_128 : decode cX7_goes 128 = .ok (.iload_n 2, 1) := by decide +kernel
theorem dX7_goes_129 : decode cX7_goes 129 = .ok (.iload_n 3, 1) := by decide +kernel
theorem dX7_goes_130 : decode cX7_goes 130 = .ok (.lload 4, 2) := by decide +kernel
theorem dX7_goes_132 : decode cX7_goes 132 = .ok (.lload 6, 2) := by decide +kernel
theorem dX7_goes_134 : decode cX7_goes 134 = .ok (.invokevirtual 184, 3) := by decide +kernel
theorem dX7_goes_137 : decode cX7_goes 137 = .ok (.goto 25, 3) := by decide +kernel
theorem dX7_goes_140 : decode cX7_goes 140 = .ok (.aload_n 0, 1) := by decide +kernel
theorem dX7_goes_141 : decode cX7_goes 141 = .ok (.iload_n 2, 1) := by decide +kernel
theorem dX7_goes_142 : decode cX7_goes 142 = .ok (.iload_n 3, 1) := by decide +kernel
theorem dX7_goes_143 : decode cX7_goes 143 = .ok (.lload 4, 2) := by decide +kernel
theorem dX7_goes_145 : decode cX7_goes 145 = .ok (.lload 8, 2) := by decide +kernel
theorem dX7_goes_147 : decode cX7_goes 147 = .ok (.lmul, 1) := by decide +kernel
theorem dX7_goes_148 : decode cX7_goes 148 = .ok (.lload 4, 2) := by decide +kernel
theorem dX7_goes_150 : decode cX7_goes 150 = .ok (.lload 10, 2) := by decide +kernel
theorem dX7_goes_152 : decode cX7_goes 152 = .ok (.lmul, 1) := by decide +kernel
theorem dX7_goes_153 : decode cX7_goes 153 = .ok (.lload 8, 2) := by decide +kernel
theorem dX7_goes_155 : decode cX7_goes 155 = .ok (.lload 6, 2) := by decide +kernel
theorem dX7_goes_157 : decode cX7_goes 157 = .ok (.lmul, 1) := by decide +kernel
theorem dX7_goes_158 : decode cX7_goes 158 = .ok (.ladd, 1) := by decide +kernel
theorem dX7_goes_159 : decode cX7_goes 159 = .ok (.invokevirtual 184, 3) := by decide +kernel
theorem dX7_goes_162 : decode cX7_goes 162 = .ok (.aload_n 0, 1) := by decide +kernel
theorem dX7_goes_163 : decode cX7_goes 163 = .ok (.iload_n 1, 1) := by decide +kernel
theorem dX7_goes_164 : decode cX7_goes 164 = .ok (.iload_n 3, 1) := by decide +kernel
theorem dX7_goes_165 : decode cX7_goes 165 = .ok (.lconst 0, 1) := by decide +kernel
theorem dX7_goes_166 : decode cX7_goes 166 = .ok (.lconst 0, 1) := by decide +kernel
theorem dX7_goes_167 : decode cX7_goes 167 = .ok (.invokevirtual 184, 3) := by decide +kernel
theorem dX7_goes_170 : decode cX7_goes 170 = .ok (.aload_n 0, 1) := by decide +kernel
theorem dX7_goes_171 : decode cX7_goes 171 = .ok (.iload_n 1, 1) := by decide +kernel
theorem dX7_goes_172 : decode cX7_goes 172 = .ok (.iload_n 2, 1) := by decide +kernel
theorem dX7_goes_173 : decode cX7_goes 173 = .ok (.lconst 0, 1) := by decide +kernel
theorem dX7_goes_174 : decode cX7_goes 174 = .ok (.lconst 0, 1) := by decide +kernel
theorem dX7_goes_175 : decode cX7_goes 175 = .ok (.invokevirtual 184, 3) := by decide +kernel
theorem dX7_goes_178 : decode cX7_goes 178 = .ok (.return_, 1) := by decide +kernel
set_option maxRecDepth 20000 in
theorem ggX7_reduced_X7_isNode : GoodIn wsX7_reduced wsX7_isNode := goodIn_r _ [13, 6, 14, 15, 12, 16, 49, 50, 51, 52, 53, 54, 55, 56, 57, 58, 59, 60, 61, 62, 63, 64, 65, 66, 67] rfl (by decide +kernel)
set_option maxRecDepth 20000 in
theorem gX7_reduced_X7_isNode : GoodIn wsX7_reduced (wsV RX7 116 RX7 yX7_isNode wsX7_isNode) := goodIn_app (goodIn_of _ (by decide +kernel)) ggX7_reduced_X7_isNode
set_option maxRecDepth 20000 in
theorem ggX7_reduced_X7_in : GoodIn wsX7_reduced wsX7_in := goodIn_r _ [16] rfl (by decide +kernel)
set_option maxRecDepth 20000 in
theorem gX7_reduced_X7_in : GoodIn wsX7_reduced (va_wsS RX7 48 yX7_in wsX7_in) := goodIn_app (goodIn_of _ (by decide +kernel)) ggX7_reduced_X7_in
set_option maxRecDepth 20000 in
theorem ggX7_reduced_X7_hangs : GoodIn wsX7_reduced wsX7_hangs := goodIn_r _ [20, 21, 22, 23, 12, 24, 5, 25, 26, 27, 28, 29, 30, 31, 32, 33, 6, 49, 50, 51, 52, 53, 54, 55, 56, 57, 58, 59, 60, 61, 62, 63, 64, 65, 66, 67] rfl (by decide +kernel)
set_option maxRecDepth 20000 in
theorem gX7_reduced_X7_hangs : GoodIn wsX7_reduced (wsV RX7 151 RX7 yX7_hangs wsX7_hangs) := goodIn_app (goodIn_of _ (by decide +kernel)) ggX7_reduced_X7_hangs
set_option maxRecDepth 20000 in
theorem ggX7_reduced_X7_lines : GoodIn wsX7_reduced wsX7_lines := goodIn_r _ [24, 5, 49, 50, 51, 52, 53, 54, 55, 56, 57, 58, 59, 60, 61, 62, 63, 64, 65, 66, 67] rfl (by decide +kernel)
set_option maxRecDepth 20000 in
theorem gX7_reduced_X7_lines : GoodIn wsX7_reduced (wsV RX7 107 RX7 yX7_lines wsX7_lines) := goodIn_app (goodIn_of _ (by decide +kernel)) ggX7_reduced_X7_lines
set_option maxRecDepth 20000 in
theorem ggX7_reduced_X7_resists : GoodIn wsX7_reduced wsX7_resists := goodIn_r _ [37, 8, 4, 38, 39, 12, 40, 49, 50, 51, 52, 53, 54, 55, 56, 57, 58, 59, 60, 61, 62, 63, 64, 65, 66, 67] rfl (by decide +kernel)
set_option maxRecDepth 20000 in
theorem gX7_reduced_X7_resists : GoodIn wsX7_reduced (wsV RX7 184 RX7 yX7_resists wsX7_resists) := goodIn_app (goodIn_of _ (by decide +kernel)) ggX7_reduced_X7_resists
set_option maxRecDepth 20000 in
theorem ggX7_reduced_X7_neighbour : GoodIn wsX7_reduced wsX7_neighbour := goodIn_r _ [44, 6, 4, 49, 50, 51, 52, 53, 54, 55, 56, 57, 58, 59, 60, 61, 62, 63, 64, 65, 66, 67] rfl (by decide +kernel)
set_option maxRecDepth 20000 in
theorem gX7_reduced_X7_neighbour : GoodIn wsX7_reduced (wsV RX7 181 RX7 yX7_neighbour wsX7_neighbour) := goodIn_app (goodIn_of _ (by decide +kernel)) ggX7_reduced_X7_neighbour
set_option maxRecDepth 20000 in
theorem ggX7_reduced_X7_goes : GoodIn wsX7_reduced wsX7_goes := goodIn_r _ [48, 8, 4, 41, 42, 43, 12, 44, 6, 34, 35, 36, 37, 38, 39, 40, 49, 50, 51, 52, 53, 54, 55, 56, 57, 58, 59, 60, 61, 62, 63, 64, 65, 66, 67] rfl (by decide +kernel)
set_option maxRecDepth 20000 in
theorem gX7_reduced_X7_goes : GoodIn wsX7_reduced (wsV RX7 188 RX7 yX7_goes wsX7_goes) := goodIn_app (goodIn_of _ (by decide +kernel)) ggX7_reduced_X7_goes
theorem dX7_reduced_0 : decode cX7_reduced 0 = .ok (.aload_n 0, 1) := by decide +kernel
theorem dX7_reduced_1 : decode cX7_reduced 1 = .ok (.iload_n 1, 1) := by decide +kernel
theorem dX7_reduced_2 : decode cX7_reduced 2 = .ok (.invokevirtual 116, 3) := by decide +kernel
theorem dX7_reduced_5 : decode cX7_reduced 5 = .ok (.ifCond .eq 28, 3) := by decide +kernel
theorem dX7_reduced_8 : decode cX7_reduced 8 = .ok (.aload_n 0, 1) := by decide +kernel
theorem dX7_reduced_9 : decode cX7_reduced 9 = .ok (.iload_n 2, 1) := by decide +kernel
theorem dX7_reduced_10 : decode cX7_reduced 10 = .ok (.invokevirtual 116, 3) := by decide +kernel
theorem dX7_reduced_13 : decode cX7_reduced 13 = .ok (.ifCond .eq 20, 3) := by decide +kernel
theorem dX7_reduced_16 : decode cX7_reduced 16 = .ok (.iload_n 1, 1) := by decide +kernel
theorem dX7_reduced_17 : decode cX7_reduced 17 = .ok (.iload_n 2, 1) := by decide +kernel
theorem dX7_reduced_18 : decode cX7_reduced 18 = .ok (.if_icmp .eq 15, 3) := by decide +kernel
theorem dX7_reduced_21 : decode cX7_reduced 21 = .ok (.iload_n 3, 1) := by decide +kernel
theorem dX7_reduced_22 : decode cX7_reduced 22 = .ok (.i2l, 1) := by decide +kernel
theorem dX7_reduced_23 : decode cX7_reduced 23 = .ok (.lconst 0, 1) := by decide +kernel
theorem dX7_reduced_24 : decode cX7_reduced 24 = .ok (.ldc2_w 114, 3) := by decide +kernel
theorem dX7_reduced_27 : decode cX7_reduced 27 = .ok (.invokestatic 48, 3) := by decide +kernel
theorem dX7_reduced_30 : decode cX7_reduced 30 = .ok (.ifCond .ne 7, 3) := by decide +kernel
theorem dX7_reduced_33 : decode cX7_reduced 33 = .ok (.ldc2_w 149, 3) := by decide +kernel
theorem dX7_reduced_36 : decode cX7_reduced 36 = .ok (.lreturn, 1) := by decide +kernel
theorem dX7_reduced_37 : decode cX7_reduced 37 = .ok (.aload_n 0, 1) := by decide +kernel
theorem dX7_reduced_38 : decode cX7_reduced 38 = .ok (.bipush (-9), 2) := by decide +kernel
theorem dX7_reduced_40 : decode cX7_reduced 40 = .ok (.invokevirtual 151, 3) := by decide +kernel
theorem dX7_reduced_43 : decode cX7_reduced 43 = .ok (.ifCond .ne 7, 3) := by decide +kernel
theorem dX7_reduced_46 : decode cX7_reduced 46 = .ok (.ldc2_w 165, 3) := by decide +kernel
theorem dX7_reduced_49 : decode cX7_reduced 49 = .ok (.lreturn, 1) := by decide +kernel
theorem dX7_reduced_50 : decode cX7_reduced 50 = .ok (.iconst 0, 1) := by decide +kernel
theorem dX7_reduced_51 : decode cX7_reduced 51 = .ok (.istore 4, 2) := by decide +kernel
theorem dX7_reduced_53 : decode cX7_reduced 53 = .ok (.iload 4, 2) := by decide +kernel
theorem dX7_reduced_55 : decode cX7_reduced 55 = .ok (.bipush 36, 2) := by decide +kernel
theorem dX7_reduced_57 : decode cX7_reduced 57 = .ok (.if_icmp .ge 17, 3) := by decide +kernel
theorem dX7_reduced_60 : decode cX7_reduced 60 = .ok (.aload_n 0, 1) := by decide +kernel
theorem dX7_reduced_61 : decode cX7_reduced 61 = .ok (.getfield 43, 3) := by decide +kernel
theorem dX7_reduced_64 : decode cX7_reduced 64 = .ok (.iload 4, 2) := by decide +kernel
theorem dX7_reduced_66 : decode cX7_reduced 66 = .ok (.lconst 0, 1) := by decide +kernel
theorem dX7_reduced_67 : decode cX7_reduced 67 = .ok (.lastore, 1) := by decide +kernel
theorem dX7_reduced_68 : decode cX7_reduced 68 = .ok (.iinc 4 1, 3) := by decide +kernel
theorem dX7_reduced_71 : decode cX7_reduced 71 = .ok (.goto (-18), 3) := by decide +kernel
theorem dX7_reduced_74 : decode cX7_reduced 74 = .ok (.iconst 0, 1) := by decide +kernel
theorem dX7_reduced_75 : decode cX7_reduced 75 = .ok (.istore 4, 2) := by decide +kernel
theorem dX7_reduced_77 : decode cX7_reduced 77 = .ok (.iload 4, 2) := by decide +kernel
theorem dX7_reduced_79 : decode cX7_reduced 79 = .ok (.aload_n 0, 1) := by decide +kernel
theorem dX7_reduced_80 : decode cX7_reduced 80 = .ok (.invokevirtual 107, 3) := by decide +kernel
theorem dX7_reduced_83 : decode cX7_reduced 83 = .ok (.if_icmp .ge 44, 3) := by decide +kernel
theorem dX7_reduced_86 : decode cX7_reduced 86 = .ok (.aload_n 0, 1) := by decide +kernel
theorem dX7_reduced_87 : decode cX7_reduced 87 = .ok (.aload_n 0, 1) := by decide +kernel
theorem dX7_reduced_88 : decode cX7_reduced 88 = .ok (.getfield 7, 3) := by decide +kernel
theorem dX7_reduced_91 : decode cX7_reduced 91 = .ok (.iconst 1, 1) := by decide +kernel
theorem dX7_reduced_92 : decode cX7_reduced 92 = .ok (.iload 4, 2) := by decide +kernel
theorem dX7_reduced_94 : decode cX7_reduced 94 = .ok (.iadd, 1) := by decide +kernel
theorem dX7_reduced_95 : decode cX7_reduced 95 = .ok (.iaload, 1) := by decide +kernel
theorem dX7_reduced_96 : decode cX7_reduced 96 = .ok (.aload_n 0, 1) := by decide +kernel
theorem dX7_reduced_97 : decode cX7_reduced 97 = .ok (.getfield 7, 3) := by decide +kernel
theorem dX7_reduced_100 : decode cX7_reduced 100 = .ok (.bipush 11, 2) := by decide +kernel
theorem dX7_reduced_102 : decode cX7_reduced 102 = .ok (.iload 4, 2) := by decide +kernel
theorem dX7_reduced_104 : decode cX7_reduced 104 = .ok (.iadd, 1) := by decide +kernel
theorem dX7_reduced_105 : decode cX7_reduced 105 = .ok (.iaload, 1) := by decide +kernel
theorem dX7_reduced_106 : decode cX7_reduced 106 = .ok (.lconst 1, 1) := by decide +kernel
theorem dX7_reduced_107 : decode cX7_reduced 107 = .ok (.aload_n 0, 1) := by decide +kernel
theorem dX7_reduced_108 : decode cX7_reduced 108 = .ok (.getfield 7, 3) := by decide +kernel
theorem dX7_reduced_111 : decode cX7_reduced 111 = .ok (.bipush 21, 2) := by decide +kernel
theorem dX7_reduced_113 : decode cX7_reduced 113 = .ok (.iload 4, 2) := by decide +kernel
theorem dX7_reduced_115 : decode cX7_reduced 115 = .ok (.iadd, 1) := by decide +kernel
theorem dX7_reduced_116 : decode cX7_reduced 116 = .ok (.iaload, 1) := by decide +kernel
theorem dX7_reduced_117 : decode cX7_reduced 117 = .ok (.i2l, 1) := by decide +kernel
theorem dX7_reduced_118 : decode cX7_reduced 118 = .ok (.invokevirtual 184, 3) := by decide +kernel
theorem dX7_reduced_121 : decode cX7_reduced 121 = .ok (.iinc 4 1, 3) := by decide +kernel
theorem dX7_reduced_124 : decode cX7_reduced 124 = .ok (.goto (-47), 3) := by decide +kernel
theorem dX7_reduced_127 : decode cX7_reduced 127 = .ok (.iconst 1, 1) := by decide +kernel
theorem dX7_reduced_128 : decode cX7_reduced 128 = .ok (.istore 4, 2) := by decide +kernel
theorem dX7_reduced_130 : decode cX7_reduced 130 = .ok (.iload 4, 2) := by decide +kernel
theorem dX7_reduced_132 : decode cX7_reduced 132 = .ok (.ifCond .eq 87, 3) := by decide +kernel
theorem dX7_reduced_135 : decode cX7_reduced 135 = .ok (.iconst 0, 1) := by decide +kernel
theorem dX7_reduced_136 : decode cX7_reduced 136 = .ok (.istore 5, 2) := by decide +kernel
theorem dX7_reduced_138 : decode cX7_reduced 138 = .ok (.iload 5, 2) := by decide +kernel
theorem dX7_reduced_140 : decode cX7_reduced 140 = .ok (.aload_n 0, 1) := by decide +kernel
theorem dX7_reduced_141 : decode cX7_reduced 141 = .ok (.getfield 13, 3) := by decide +kernel
theorem dX7_reduced_144 : decode cX7_reduced 144 = .ok (.if_icmp .ge 45, 3) := by decide +kernel
theorem dX7_reduced_147 : decode cX7_reduced 147 = .ok (.iload 5, 2) := by decide +kernel
theorem dX7_reduced_149 : decode cX7_reduced 149 = .ok (.iload_n 1, 1) := by decide +kernel
theorem dX7_reduced_150 : decode cX7_reduced 150 = .ok (.if_icmp .eq 33, 3) := by decide +kernel
theorem dX7_reduced_153 : decode cX7_reduced 153 = .ok (.iload 5, 2) := by decide +kernel
theorem dX7_reduced_155 : decode cX7_reduced 155 = .ok (.iload_n 2, 1) := by decide +kernel
theorem dX7_reduced_156 : decode cX7_reduced 156 = .ok (.if_icmp .eq 27, 3) := by decide +kernel
theorem dX7_reduced_159 : decode cX7_reduced 159 = .ok (.aload_n 0, 1) := by decide +kernel
theorem dX7_reduced_160 : decode cX7_reduced 160 = .ok (.iload 5, 2) := by decide +kernel
theorem dX7_reduced_162 : decode cX7_reduced 162 = .ok (.iconst 0, 1) := by decide +kernel
theorem dX7_reduced_163 : decode cX7_reduced 163 = .ok (.invokevirtual 181, 3) := by decide +kernel
theorem dX7_reduced_166 : decode cX7_reduced 166 = .ok (.bipush (-9), 2) := by decide +kernel
theorem dX7_reduced_168 : decode cX7_reduced 168 = .ok (.if_icmp .eq 15, 3) := by decide +kernel
theorem dX7_reduced_171 : decode cX7_reduced 171 = .ok (.aload_n 0, 1) := by decide +kernel
theorem dX7_reduced_172 : decode cX7_reduced 172 = .ok (.iload 5, 2) := by decide +kernel
theorem dX7_reduced_174 : decode cX7_reduced 174 = .ok (.iconst 2, 1) := by decide +kernel
theorem dX7_reduced_175 : decode cX7_reduced 175 = .ok (.invokevirtual 181, 3) := by decide +kernel
theorem dX7_reduced_178 : decode cX7_reduced 178 = .ok (.bipush (-9), 2) := by decide +kernel
theorem dX7_reduced_180 : decode cX7_reduced 180 = .ok (.if_icmp .eq 9, 3) := by decide +kernel
theorem dX7_reduced_183 : decode cX7_reduced 183 = .ok (.iinc 5 1, 3) := by decide +kernel
theorem dX7_reduced_186 : decode cX7_reduced 186 = .ok (.goto (-48), 3) := by decide +kernel
theorem dX7_reduced_189 : decode cX7_reduced 189 = .ok (.iload 5, 2) := by decide +kernel
theorem dX7_reduced_191 : decode cX7_reduced 191 = .ok (.aload_n 0, 1) := by decide +kernel
theorem dX7_reduced_192 : decode cX7_reduced 192 = .ok (.getfield 13, 3) := by decide +kernel
theorem dX7_reduced_195 : decode cX7_reduced 195 = .ok (.if_icmp .ge 7, 3) := by decide +kernel
theorem dX7_reduced_198 : decode cX7_reduced 198 = .ok (.iconst 1, 1) := by decide +kernel
theorem dX7_reduced_199 : decode cX7_reduced 199 = .ok (.goto 4, 3) := by decide +kernel
theorem dX7_reduced_202 : decode cX7_reduced 202 = .ok (.iconst 0, 1) := by decide +kernel
theorem dX7_reduced_203 : decode cX7_reduced 203 = .ok (.istore 4, 2) := by decide +kernel
theorem dX7_reduced_205 : decode cX7_reduced 205 = .ok (.iload 4, 2) := by decide +kernel
theorem dX7_reduced_207 : decode cX7_reduced 207 = .ok (.ifCond .eq 9, 3) := by decide +kernel
theorem dX7_reduced_210 : decode cX7_reduced 210 = .ok (.aload_n 0, 1) := by decide +kernel
theorem dX7_reduced_211 : decode cX7_reduced 211 = .ok (.iload 5, 2) := by decide +kernel
theorem dX7_reduced_213 : decode cX7_reduced 213 = .ok (.invokevirtual 188, 3) := by decide +kernel
theorem dX7_reduced_216 : decode cX7_reduced 216 = .ok (.goto (-86), 3) := by decide +kernel
theorem dX7_reduced_219 : decode cX7_reduced 219 = .ok (.iconst 0, 1) := by decide +kernel
theorem dX7_reduced_220 : decode cX7_reduced 220 = .ok (.istore 5, 2) := by decide +kernel
theorem dX7_reduced_222 : decode cX7_reduced 222 = .ok (.iconst 0, 1) := by decide +kernel
theorem dX7_reduced_223 : decode cX7_reduced 223 = .ok (.istore 6, 2) := by decide +kernel
theorem dX7_reduced_225 : decode cX7_reduced 225 = .ok (.iload 6, 2) := by decide +kernel
theorem dX7_reduced_227 : decode cX7_reduced 227 = .ok (.bipush 36, 2) := by decide +kernel
theorem dX7_reduced_229 : decode cX7_reduced 229 = .ok (.if_icmp .ge 44, 3) := by decide +kernel
theorem dX7_reduced_232 : decode cX7_reduced 232 = .ok (.iload 5, 2) := by decide +kernel
theorem dX7_reduced_234 : decode cX7_reduced 234 = .ok (.aload_n 0, 1) := by decide +kernel
theorem dX7_reduced_235 : decode cX7_reduced 235 = .ok (.getfield 43, 3) := by decide +kernel
theorem dX7_reduced_238 : decode cX7_reduced 238 = .ok (.iload 6, 2) := by decide +kernel
theorem dX7_reduced_240 : decode cX7_reduced 240 = .ok (.laload, 1) := by decide +kernel
theorem dX7_reduced_241 : decode cX7_reduced 241 = .ok (.lconst 0, 1) := by decide +kernel
theorem dX7_reduced_242 : decode cX7_reduced 242 = .ok (.lcmp, 1) := by decide +kernel
theorem dX7_reduced_243 : decode cX7_reduced 243 = .ok (.ifCond .le 20, 3) := by decide +kernel
theorem dX7_reduced_246 : decode cX7_reduced 246 = .ok (.iload 6, 2) := by decide +kernel
theorem dX7_reduced_248 : decode cX7_reduced 248 = .ok (.bipush 6, 2) := by decide +kernel
theorem dX7_reduced_250 : decode cX7_reduced 250 = .ok (.idiv, 1) := by decide +kernel
theorem dX7_reduced_251 : decode cX7_reduced 251 = .ok (.iload 6, 2) := by decide +kernel
theorem dX7_reduced_253 : decode cX7_reduced 253 = .ok (.bipush 6, 2) := by decide +kernel
theorem dX7_reduced_255 : decode cX7_reduced 255 = .ok (.irem, 1) := by decide +kernel
theorem dX7_reduced_256 : decode cX7_reduced 256 = .ok (.if_icmp .ge 7, 3) := by decide +kernel
theorem dX7_reduced_259 : decode cX7_reduced 259 = .ok (.iconst 1, 1) := by decide +kernel
theorem dX7_reduced_260 : decode cX7_reduced 260 = .ok (.goto 4, 3) := by decide +kernel
theorem dX7_reduced_263 : decode cX7_reduced 263 = .ok (.iconst 0, 1) := by decide +kernel
theorem dX7_reduced_264 : decode cX7_reduced 264 = .ok (.iadd, 1) := by decide +kernel
theorem dX7_reduced_265 : decode cX7_reduced 265 = .ok (.istore 5, 2) := by decide +kernel
theorem dX7_reduced_267 : decode cX7_reduced 267 = .ok (.iinc 6 1, 3) := by decide +kernel
theorem dX7_reduced_270 : decode cX7_reduced 270 = .ok (.goto (-45), 3) := by decide +kernel
theorem dX7_reduced_273 : decode cX7_reduced 273 = .ok (.iload_n 3, 1) := by decide +kernel
theorem dX7_reduced_274 : decode cX7_reduced 274 = .ok (.ifCond .ne 7, 3) := by decide +kernel
theorem dX7_reduced_277 : decode cX7_reduced 277 = .ok (.iload 5, 2) := by decide +kernel
theorem dX7_reduced_279 : decode cX7_reduced 279 = .ok (.i2l, 1) := by decide +kernel
theorem dX7_reduced_280 : decode cX7_reduced 280 = .ok (.lreturn, 1) := by decide +kernel
theorem dX7_reduced_281 : decode cX7_reduced 281 = .ok (.iload 5, 2) := by decide +kernel
theorem dX7_reduced_283 : decode cX7_reduced 283 = .ok (.iconst 1, 1) := by decide +kernel
theorem dX7_reduced_284 : decode cX7_reduced 284 = .ok (.if_icmp .le 9, 3) := by decide +kernel
theorem dX7_reduced_287 : decode cX7_reduced 287 = .ok (.ldc2_w 192, 3) := by decide +kernel
theorem dX7_reduced_290 : decode cX7_reduced 290 = .ok (.goto 33, 3) := by decide +kernel
theorem dX7_reduced_293 : decode cX7_reduced 293 = .ok (.iload_n 3, 1) := by decide +kernel
theorem dX7_reduced_294 : decode cX7_reduced 294 = .ok (.iconst 1, 1) := by decide +kernel
theorem dX7_reduced_295 : decode cX7_reduced 295 = .ok (.if_icmp .ne 17, 3) := by decide +kernel
theorem dX7_reduced_298 : decode cX7_reduced 298 = .ok (.aload_n 0, 1) := by decide +kernel
theorem dX7_reduced_299 : decode cX7_reduced 299 = .ok (.getfield 40, 3) := by decide +kernel
theorem dX7_reduced_302 : decode cX7_reduced 302 = .ok (.bipush 6, 2) := by decide +kernel
theorem dX7_reduced_304 : decode cX7_reduced 304 = .ok (.iload_n 1, 1) := by decide +kernel
theorem dX7_reduced_305 : decode cX7_reduced 305 = .ok (.imul, 1) := by decide +kernel
theorem dX7_reduced_306 : decode cX7_reduced 306 = .ok (.iload_n 2, 1) := by decide +kernel
theorem dX7_reduced_307 : decode cX7_reduced 307 = .ok (.iadd, 1) := by decide +kernel
theorem dX7_reduced_308 : decode cX7_reduced 308 = .ok (.laload, 1) := by decide +kernel
theorem dX7_reduced_309 : decode cX7_reduced 309 = .ok (.goto 14, 3) := by decide +kernel
theorem dX7_reduced_312 : decode cX7_reduced 312 = .ok (.aload_n 0, 1) := by decide +kernel
theorem dX7_reduced_313 : decode cX7_reduced 313 = .ok (.getfield 43, 3) := by decide +kernel
theorem dX7_reduced_316 : decode cX7_reduced 316 = .ok (.bipush 6, 2) := by decide +kernel
theorem dX7_reduced_318 : decode cX7_reduced 318 = .ok (.iload_n 1, 1) := by decide +kernel
theorem dX7_reduced_319 : decode cX7_reduced 319 = .ok (.imul, 1) := by decide +kernel
theorem dX7_reduced_320 : decode cX7_reduced 320 = .ok (.iload_n 2, 1) := by decide +kernel
theorem dX7_reduced_321 : decode cX7_reduced 321 = .ok (.iadd, 1) := by decide +kernel
theorem dX7_reduced_322 : decode cX7_reduced 322 = .ok (.laload, 1) := by decide +kernel
theorem dX7_reduced_323 : decode cX7_reduced 323 = .ok (.lreturn, 1) := by decide +kernel
set_option maxRecDepth 20000 in
theorem ggX7_worst_X7_isNode : GoodIn wsX7_worst wsX7_isNode := goodIn_r _ [5, 6, 7, 8, 4, 9, 51, 52, 53, 54, 55, 56, 57, 58, 59, 60, 61, 62, 63, 64, 65, 66, 67, 68, 69] rfl (by decide +kernel)
set_option maxRecDepth 20000 in
theorem gX7_worst_X7_isNode : GoodIn wsX7_worst (wsV RX7 116 RX7 yX7_isNode wsX7_isNode) := goodIn_app (goodIn_of _ (by decide +kernel)) ggX7_worst_X7_isNode
set_option maxRecDepth 20000 in
theorem ggX7_worst_X7_hangs : GoodIn wsX7_worst wsX7_hangs := goodIn_r _ [13, 14, 15, 16, 4, 17, 18, 19, 20, 21, 22, 23, 24, 25, 26, 27, 6, 51, 52, 53, 54, 55, 56, 57, 58, 59, 60, 61, 62, 63, 64, 65, 66, 67, 68, 69] rfl (by decide +kernel)
set_option maxRecDepth 20000 in
theorem gX7_worst_X7_hangs : GoodIn wsX7_worst (wsV RX7 151 RX7 yX7_hangs wsX7_hangs) := goodIn_app (goodIn_of _ (by decide +kernel)) ggX7_worst_X7_hangs
set_option maxRecDepth 20000 in
theorem ggX7_worst_X7_lines : GoodIn wsX7_worst wsX7_lines := goodIn_r _ [17, 18, 51, 52, 53, 54, 55, 56, 57, 58, 59, 60, 61, 62, 63, 64, 65, 66, 67, 68, 69] rfl (by decide +kernel)
set_option maxRecDepth 20000 in
theorem gX7_worst_X7_lines : GoodIn wsX7_worst (wsV RX7 107 RX7 yX7_lines wsX7_lines) := goodIn_app (goodIn_of _ (by decide +kernel)) ggX7_worst_X7_lines
set_option maxRecDepth 20000 in
theorem ggX7_worst_X7_steps : GoodIn wsX7_worst wsX7_steps := goodIn_r _ [31, 23, 6, 14, 15, 16, 4, 17, 18, 32, 33, 34, 35, 36, 37, 38, 19, 20, 21, 22, 39, 40, 41, 42, 43, 44, 45, 46, 51, 52, 53, 54, 55, 56, 57, 58, 59, 60, 61, 62, 63, 64, 65, 66, 67, 68, 69] rfl (by decide +kernel)
set_option maxRecDepth 20000 in
theorem gX7_worst_X7_steps : GoodIn wsX7_worst (wsV RX7 154 RX7 yX7_steps wsX7_steps) := goodIn_app (goodIn_of _ (by decide +kernel)) ggX7_worst_X7_steps
set_option maxRecDepth 20000 in
theorem ggX7_worst_X7_treesBut : GoodIn wsX7_worst wsX7_treesBut := goodIn_r _ [50, 14, 15, 16, 4, 17, 18, 32, 33, 34, 35, 6, 36, 37, 38, 19, 20, 21, 22, 23, 43, 44, 45, 46, 51, 52, 53, 54, 55, 56, 57, 58, 59, 60, 61, 62, 63, 64, 65, 66, 67, 68, 69] rfl (by decide +kernel)
set_option maxRecDepth 20000 in
theorem gX7_worst_X7_treesBut : GoodIn wsX7_worst (wsV RX7 158 RX7 yX7_treesBut wsX7_treesBut) := goodIn_app (goodIn_of _ (by decide +kernel)) ggX7_worst_X7_treesBut
theorem dX7_worst_0 : decode cX7_worst 0 = .ok (.aload_n 0, 1) := by decide +kernel
theorem dX7_worst_1 : decode cX7_worst 1 = .ok (.iload_n 1, 1) := by decide +kernel
theorem dX7_worst_2 : decode cX7_worst 2 = .ok (.invokevirtual 116, 3) := by decide +kernel
theorem dX7_worst_5 : decode cX7_worst 5 = .ok (.ifCond .eq 16, 3) := by decide +kernel
theorem dX7_worst_8 : decode cX7_worst 8 = .ok (.aload_n 0, 1) := by decide +kernel
theorem dX7_worst_9 : decode cX7_worst 9 = .ok (.iload_n 2, 1) := by decide +kernel
theorem dX7_worst_10 : decode cX7_worst 10 = .ok (.invokevirtual 116, 3) := by decide +kernel
theorem dX7_worst_13 : decode cX7_worst 13 = .ok (.ifCond .eq 8, 3) := by decide +kernel
theorem dX7_worst_16 : decode cX7_worst 16 = .ok (.iload_n 1, 1) := by decide +kernel
theorem dX7_worst_17 : decode cX7_worst 17 = .ok (.iload_n 2, 1) := by decide +kernel
theorem dX7_worst_18 : decode cX7_worst 18 = .ok (.if_icmp .ne 5, 3) := by decide +kernel
theorem dX7_worst_21 : decode cX7_worst 21 = .ok (.iconst (-1), 1) := by decide +kernel
theorem dX7_worst_22 : decode cX7_worst 22 = .ok (.ireturn, 1) := by decide +kernel
theorem dX7_worst_23 : decode cX7_worst 23 = .ok (.aload_n 0, 1) := by decide +kernel
theorem dX7_worst_24 : decode cX7_worst 24 = .ok (.bipush (-9), 2) := by decide +kernel
theorem dX7_worst_26 : decode cX7_worst 26 = .ok (.invokevirtual 151, 3) := by decide +kernel
theorem dX7_worst_29 : decode cX7_worst 29 = .ok (.ifCond .ne 6, 3) := by decide +kernel
theorem dX7_worst_32 : decode cX7_worst 32 = .ok (.bipush (-2), 2) := by decide +kernel
theorem dX7_worst_34 : decode cX7_worst 34 = .ok (.ireturn, 1) := by decide +kernel
theorem dX7_worst_35 : decode cX7_worst 35 = .ok (.bipush (-9), 2) := by decide +kernel
theorem dX7_worst_37 : decode cX7_worst 37 = .ok (.istore_n 3, 1) := by decide +kernel
theorem dX7_worst_38 : decode cX7_worst 38 = .ok (.lconst 0, 1) := by decide +kernel
theorem dX7_worst_39 : decode cX7_worst 39 = .ok (.lstore 4, 2) := by decide +kernel
theorem dX7_worst_41 : decode cX7_worst 41 = .ok (.lconst 1, 1) := by decide +kernel
theorem dX7_worst_42 : decode cX7_worst 42 = .ok (.lstore 6, 2) := by decide +kernel
theorem dX7_worst_44 : decode cX7_worst 44 = .ok (.iconst 0, 1) := by decide +kernel
theorem dX7_worst_45 : decode cX7_worst 45 = .ok (.istore 8, 2) := by decide +kernel
theorem dX7_worst_47 : decode cX7_worst 47 = .ok (.iload 8, 2) := by decide +kernel
theorem dX7_worst_49 : decode cX7_worst 49 = .ok (.aload_n 0, 1) := by decide +kernel
theorem dX7_worst_50 : decode cX7_worst 50 = .ok (.invokevirtual 107, 3) := by decide +kernel
theorem dX7_worst_53 : decode cX7_worst 53 = .ok (.if_icmp .ge 67, 3) := by decide +kernel
theorem dX7_worst_56 : decode cX7_worst 56 = .ok (.aload_n 0, 1) := by decide +kernel
theorem dX7_worst_57 : decode cX7_worst 57 = .ok (.iload 8, 2) := by decide +kernel
theorem dX7_worst_59 : decode cX7_worst 59 = .ok (.invokevirtual 151, 3) := by decide +kernel
theorem dX7_worst_62 : decode cX7_worst 62 = .ok (.ifCond .eq 52, 3) := by decide +kernel
theorem dX7_worst_65 : decode cX7_worst 65 = .ok (.aload_n 0, 1) := by decide +kernel
theorem dX7_worst_66 : decode cX7_worst 66 = .ok (.iload_n 1, 1) := by decide +kernel
theorem dX7_worst_67 : decode cX7_worst 67 = .ok (.iload_n 2, 1) := by decide +kernel
theorem dX7_worst_68 : decode cX7_worst 68 = .ok (.iload 8, 2) := by decide +kernel
theorem dX7_worst_70 : decode cX7_worst 70 = .ok (.invokevirtual 154, 3) := by decide +kernel
theorem dX7_worst_73 : decode cX7_worst 73 = .ok (.lstore 9, 2) := by decide +kernel
theorem dX7_worst_75 : decode cX7_worst 75 = .ok (.aload_n 0, 1) := by decide +kernel
theorem dX7_worst_76 : decode cX7_worst 76 = .ok (.iload 8, 2) := by decide +kernel
theorem dX7_worst_78 : decode cX7_worst 78 = .ok (.invokevirtual 158, 3) := by decide +kernel
theorem dX7_worst_81 : decode cX7_worst 81 = .ok (.lstore 11, 2) := by decide +kernel
theorem dX7_worst_83 : decode cX7_worst 83 = .ok (.iload_n 3, 1) := by decide +kernel
theorem dX7_worst_84 : decode cX7_worst 84 = .ok (.bipush (-9), 2) := by decide +kernel
theorem dX7_worst_86 : decode cX7_worst 86 = .ok (.if_icmp .eq 17, 3) := by decide +kernel
theorem dX7_worst_89 : decode cX7_worst 89 = .ok (.lload 9, 2) := by decide +kernel
theorem dX7_worst_91 : decode cX7_worst 91 = .ok (.lload 6, 2) := by decide +kernel
theorem dX7_worst_93 : decode cX7_worst 93 = .ok (.lmul, 1) := by decide +kernel
theorem dX7_worst_94 : decode cX7_worst 94 = .ok (.lload 4, 2) := by decide +kernel
theorem dX7_worst_96 : decode cX7_worst 96 = .ok (.lload 11, 2) := by decide +kernel
theorem dX7_worst_98 : decode cX7_worst 98 = .ok (.lmul, 1) := by decide +kernel
theorem dX7_worst_99 : decode cX7_worst 99 = .ok (.lcmp, 1) := by decide +kernel
theorem dX7_worst_100 : decode cX7_worst 100 = .ok (.ifCond .le 14, 3) := by decide +kernel
theorem dX7_worst_103 : decode cX7_worst 103 = .ok (.iload 8, 2) := by decide +kernel
theorem dX7_worst_105 : decode cX7_worst 105 = .ok (.istore_n 3, 1) := by decide +kernel
theorem dX7_worst_106 : decode cX7_worst 106 = .ok (.lload 9, 2) := by decide +kernel
theorem dX7_worst_108 : decode cX7_worst 108 = .ok (.lstore 4, 2) := by decide +kernel
theorem dX7_worst_110 : decode cX7_worst 110 = .ok (.lload 11, 2) := by decide +kernel
theorem dX7_worst_112 : decode cX7_worst 112 = .ok (.lstore 6, 2) := by decide +kernel
theorem dX7_worst_114 : decode cX7_worst 114 = .ok (.iinc 8 1, 3) := by decide +kernel
theorem dX7_worst_117 : decode cX7_worst 117 = .ok (.goto (-70), 3) := by decide +kernel
theorem dX7_worst_120 : decode cX7_worst 120 = .ok (.iload_n 3, 1) := by decide +kernel
theorem dX7_worst_121 : decode cX7_worst 121 = .ok (.ireturn, 1) := by decide +kernel
theorem dX7_power_0 : decode cX7_power 0 = .ok (.lconst 1, 1) := by decide +kernel
theorem dX7_power_1 : decode cX7_power 1 = .ok (.lstore_n 3, 1) := by decide +kernel
theorem dX7_power_2 : decode cX7_power 2 = .ok (.iconst 0, 1) := by decide +kernel
theorem dX7_power_3 : decode cX7_power 3 = .ok (.istore 5, 2) := by decide +kernel
theorem dX7_power_5 : decode cX7_power 5 = .ok (.iload 5, 2) := by decide +kernel
theorem dX7_power_7 : decode cX7_power 7 = .ok (.iload_n 2, 1) := by decide +kernel
theorem dX7_power_8 : decode cX7_power 8 = .ok (.if_icmp .ge 13, 3) := by decide +kernel
theorem dX7_power_11 : decode cX7_power 11 = .ok (.lload_n 3, 1) := by decide +kernel
theorem dX7_power_12 : decode cX7_power 12 = .ok (.lload_n 0, 1) := by decide +kernel
theorem dX7_power_13 : decode cX7_power 13 = .ok (.lmul, 1) := by decide +kernel
theorem dX7_power_14 : decode cX7_power 14 = .ok (.lstore_n 3, 1) := by decide +kernel
theorem dX7_power_15 : decode cX7_power 15 = .ok (.iinc 5 1, 3) := by decide +kernel
theorem dX7_power_18 : decode cX7_power 18 = .ok (.goto (-13), 3) := by decide +kernel
theorem dX7_power_21 : decode cX7_power 21 = .ok (.lload_n 3, 1) := by decide +kernel
theorem dX7_power_22 : decode cX7_power 22 = .ok (.lreturn, 1) := by decide +kernel
set_option maxRecDepth 20000 in
theorem ggX7_odds_X7_in : GoodIn wsX7_odds wsX7_in := goodIn_r _ [6] rfl (by decide +kernel)
set_option maxRecDepth 20000 in
theorem gX7_odds_X7_in : GoodIn wsX7_odds (va_wsS RX7 48 yX7_in wsX7_in) := goodIn_app (goodIn_of _ (by decide +kernel)) ggX7_odds_X7_in
set_option maxRecDepth 20000 in
theorem ggX7_odds_X7_lines : GoodIn wsX7_odds wsX7_lines := goodIn_r _ [10, 11, 34, 35, 36, 37, 38, 39, 40, 41, 42, 43, 44, 45, 46, 47, 48, 49, 50, 51, 52] rfl (by decide +kernel)
set_option maxRecDepth 20000 in
theorem gX7_odds_X7_lines : GoodIn wsX7_odds (wsV RX7 107 RX7 yX7_lines wsX7_lines) := goodIn_app (goodIn_of _ (by decide +kernel)) ggX7_odds_X7_lines
set_option maxRecDepth 20000 in
theorem ggX7_odds_X7_parts : GoodIn wsX7_odds wsX7_parts := goodIn_r _ [15, 16, 11, 7, 8, 9, 5, 10, 34, 35, 36, 37, 38, 39, 40, 41, 42, 43, 44, 45, 46, 47, 48, 49, 50, 51, 52] rfl (by decide +kernel)
set_option maxRecDepth 20000 in
theorem gX7_odds_X7_parts : GoodIn wsX7_odds (wsV RX7 128 RX7 yX7_parts wsX7_parts) := goodIn_app (goodIn_of _ (by decide +kernel)) ggX7_odds_X7_parts
set_option maxRecDepth 20000 in
theorem ggX7_odds_X7_isTogether : GoodIn wsX7_odds wsX7_isTogether := goodIn_r _ [20, 21, 16, 34, 35, 36, 37, 38, 39, 40, 41, 42, 43, 44, 45, 46, 47, 48, 49, 50, 51, 52] rfl (by decide +kernel)
set_option maxRecDepth 20000 in
theorem gX7_odds_X7_isTogether : GoodIn wsX7_odds (wsV RX7 131 RX7 yX7_isTogether wsX7_isTogether) := goodIn_app (goodIn_of _ (by decide +kernel)) ggX7_odds_X7_isTogether
set_option maxRecDepth 20000 in
theorem ggX7_odds_X7_ones : GoodIn wsX7_odds wsX7_ones := goodIn_r _ [24] rfl (by decide +kernel)
set_option maxRecDepth 20000 in
theorem gX7_odds_X7_ones : GoodIn wsX7_odds (va_wsS RX7 134 yX7_ones wsX7_ones) := goodIn_app (goodIn_of _ (by decide +kernel)) ggX7_odds_X7_ones
set_option maxRecDepth 20000 in
theorem ggX7_odds_X7_power : GoodIn wsX7_odds wsX7_power := goodIn_r _ [27] rfl (by decide +kernel)
set_option maxRecDepth 20000 in
theorem gX7_odds_X7_power : GoodIn wsX7_odds (va_wsS RX7 196 yX7_power wsX7_power) := goodIn_app (goodIn_of _ (by decide +kernel)) ggX7_odds_X7_power
set_option maxRecDepth 20000 in
theorem ggX7_odds_X7_least : GoodIn wsX7_odds wsX7_least := goodIn_r _ [30, 31, 32, 5, 33] rfl (by decide +kernel)
set_option maxRecDepth 20000 in
theorem gX7_odds_X7_least : GoodIn wsX7_odds (va_wsS RX7 161 yX7_least wsX7_least) := goodIn_app (goodIn_of _ (by decide +kernel)) ggX7_odds_X7_least
theorem dX7_odds_0 : decode cX7_odds 0 = .ok (.iload_n 1, 1) := by decide +kernel
theorem dX7_odds_1 : decode cX7_odds 1 = .ok (.i2l, 1) := by decide +kernel
theorem dX7_odds_2 : decode cX7_odds 2 = .ok (.lconst 0, 1) := by decide +kernel
theorem dX7_odds_3 : decode cX7_odds 3 = .ok (.ldc2_w 194, 3) := by decide +kernel
theorem dX7_odds_6 : decode cX7_odds 6 = .ok (.invokestatic 48, 3) := by decide +kernel
theorem dX7_odds_9 : decode cX7_odds 9 = .ok (.ifCond .eq 13, 3) := by decide +kernel
theorem dX7_odds_12 : decode cX7_odds 12 = .ok (.iload_n 2, 1) := by decide +kernel
theorem dX7_odds_13 : decode cX7_odds 13 = .ok (.i2l, 1) := by decide +kernel
theorem dX7_odds_14 : decode cX7_odds 14 = .ok (.lconst 0, 1) := by decide +kernel
theorem dX7_odds_15 : decode cX7_odds 15 = .ok (.lconst 1, 1) := by decide +kernel
theorem dX7_odds_16 : decode cX7_odds 16 = .ok (.invokestatic 48, 3) := by decide +kernel
theorem dX7_odds_19 : decode cX7_odds 19 = .ok (.ifCond .ne 7, 3) := by decide +kernel
theorem dX7_odds_22 : decode cX7_odds 22 = .ok (.ldc2_w 149, 3) := by decide +kernel
theorem dX7_odds_25 : decode cX7_odds 25 = .ok (.lreturn, 1) := by decide +kernel
theorem dX7_odds_26 : decode cX7_odds 26 = .ok (.lconst 0, 1) := by decide +kernel
theorem dX7_odds_27 : decode cX7_odds 27 = .ok (.lstore_n 3, 1) := by decide +kernel
theorem dX7_odds_28 : decode cX7_odds 28 = .ok (.iconst 0, 1) := by decide +kernel
theorem dX7_odds_29 : decode cX7_odds 29 = .ok (.istore 5, 2) := by decide +kernel
theorem dX7_odds_31 : decode cX7_odds 31 = .ok (.iload 5, 2) := by decide +kernel
theorem dX7_odds_33 : decode cX7_odds 33 = .ok (.iconst 1, 1) := by decide +kernel
theorem dX7_odds_34 : decode cX7_odds 34 = .ok (.aload_n 0, 1) := by decide +kernel
theorem dX7_odds_35 : decode cX7_odds 35 = .ok (.invokevirtual 107, 3) := by decide +kernel
theorem dX7_odds_38 : decode cX7_odds 38 = .ok (.ishl, 1) := by decide +kernel
theorem dX7_odds_39 : decode cX7_odds 39 = .ok (.if_icmp .ge 59, 3) := by decide +kernel
theorem dX7_odds_42 : decode cX7_odds 42 = .ok (.aload_n 0, 1) := by decide +kernel
theorem dX7_odds_43 : decode cX7_odds 43 = .ok (.iload 5, 2) := by decide +kernel
theorem dX7_odds_45 : decode cX7_odds 45 = .ok (.invokevirtual 128, 3) := by decide +kernel
theorem dX7_odds_48 : decode cX7_odds 48 = .ok (.pop, 1) := by decide +kernel
theorem dX7_odds_49 : decode cX7_odds 49 = .ok (.lload_n 3, 1) := by decide +kernel
theorem dX7_odds_50 : decode cX7_odds 50 = .ok (.aload_n 0, 1) := by decide +kernel
theorem dX7_odds_51 : decode cX7_odds 51 = .ok (.invokevirtual 131, 3) := by decide +kernel
theorem dX7_odds_54 : decode cX7_odds 54 = .ok (.ifCond .eq 35, 3) := by decide +kernel
theorem dX7_odds_57 : decode cX7_odds 57 = .ok (.bipush 10, 2) := by decide +kernel
theorem dX7_odds_59 : decode cX7_odds 59 = .ok (.iload_n 1, 1) := by decide +kernel
theorem dX7_odds_60 : decode cX7_odds 60 = .ok (.isub, 1) := by decide +kernel
theorem dX7_odds_61 : decode cX7_odds 61 = .ok (.i2l, 1) := by decide +kernel
theorem dX7_odds_62 : decode cX7_odds 62 = .ok (.iload 5, 2) := by decide +kernel
theorem dX7_odds_64 : decode cX7_odds 64 = .ok (.invokestatic 134, 3) := by decide +kernel
theorem dX7_odds_67 : decode cX7_odds 67 = .ok (.invokestatic 196, 3) := by decide +kernel
theorem dX7_odds_70 : decode cX7_odds 70 = .ok (.iload_n 1, 1) := by decide +kernel
theorem dX7_odds_71 : decode cX7_odds 71 = .ok (.i2l, 1) := by decide +kernel
theorem dX7_odds_72 : decode cX7_odds 72 = .ok (.aload_n 0, 1) := by decide +kernel
theorem dX7_odds_73 : decode cX7_odds 73 = .ok (.invokevirtual 107, 3) := by decide +kernel
theorem dX7_odds_76 : decode cX7_odds 76 = .ok (.iload 5, 2) := by decide +kernel
theorem dX7_odds_78 : decode cX7_odds 78 = .ok (.invokestatic 134, 3) := by decide +kernel
theorem dX7_odds_81 : decode cX7_odds 81 = .ok (.isub, 1) := by decide +kernel
theorem dX7_odds_82 : decode cX7_odds 82 = .ok (.invokestatic 196, 3) := by decide +kernel
theorem dX7_odds_85 : decode cX7_odds 85 = .ok (.lmul, 1) := by decide +kernel
theorem dX7_odds_86 : decode cX7_odds 86 = .ok (.goto 4, 3) := by decide +kernel
theorem dX7_odds_89 : decode cX7_odds 89 = .ok (.lconst 0, 1) := by decide +kernel
theorem dX7_odds_90 : decode cX7_odds 90 = .ok (.ladd, 1) := by decide +kernel
theorem dX7_odds_91 : decode cX7_odds 91 = .ok (.lstore_n 3, 1) := by decide +kernel
theorem dX7_odds_92 : decode cX7_odds 92 = .ok (.iinc 5 1, 3) := by decide +kernel
theorem dX7_odds_95 : decode cX7_odds 95 = .ok (.goto (-64), 3) := by decide +kernel
theorem dX7_odds_98 : decode cX7_odds 98 = .ok (.lload_n 3, 1) := by decide +kernel
theorem dX7_odds_99 : decode cX7_odds 99 = .ok (.ldc2_w 194, 3) := by decide +kernel
theorem dX7_odds_102 : decode cX7_odds 102 = .ok (.aload_n 0, 1) := by decide +kernel
theorem dX7_odds_103 : decode cX7_odds 103 = .ok (.invokevirtual 107, 3) := by decide +kernel
theorem dX7_odds_106 : decode cX7_odds 106 = .ok (.invokestatic 196, 3) := by decide +kernel
theorem dX7_odds_109 : decode cX7_odds 109 = .ok (.iload_n 2, 1) := by decide +kernel
theorem dX7_odds_110 : decode cX7_odds 110 = .ok (.invokestatic 161, 3) := by decide +kernel
theorem dX7_odds_113 : decode cX7_odds 113 = .ok (.lreturn, 1) := by decide +kernel
theorem dX7_sees_0 : decode cX7_sees 0 = .ok (.lload_n 1, 1) := by decide +kernel
theorem dX7_sees_1 : decode cX7_sees 1 = .ok (.lconst 0, 1) := by decide +kernel
theorem dX7_sees_2 : decode cX7_sees 2 = .ok (.lcmp, 1) := by decide +kernel
theorem dX7_sees_3 : decode cX7_sees 3 = .ok (.ifCond .ge 5, 3) := by decide +kernel
theorem dX7_sees_6 : decode cX7_sees 6 = .ok (.iconst (-1), 1) := by decide +kernel
theorem dX7_sees_7 : decode cX7_sees 7 = .ok (.ireturn, 1) := by decide +kernel
theorem dX7_sees_8 : decode cX7_sees 8 = .ok (.aload_n 0, 1) := by decide +kernel
theorem dX7_sees_9 : decode cX7_sees 9 = .ok (.getfield 104, 3) := by decide +kernel
theorem dX7_sees_12 : decode cX7_sees 12 = .ok (.bipush 6, 2) := by decide +kernel
theorem dX7_sees_14 : decode cX7_sees 14 = .ok (.if_icmp .ne 6, 3) := by decide +kernel
theorem dX7_sees_17 : decode cX7_sees 17 = .ok (.bipush (-3), 2) := by decide +kernel
theorem dX7_sees_19 : decode cX7_sees 19 = .ok (.ireturn, 1) := by decide +kernel
theorem dX7_sees_20 : decode cX7_sees 20 = .ok (.aload_n 0, 1) := by decide +kernel
theorem dX7_sees_21 : decode cX7_sees 21 = .ok (.getfield 24, 3) := by decide +kernel
theorem dX7_sees_24 : decode cX7_sees 24 = .ok (.aload_n 0, 1) := by decide +kernel
theorem dX7_sees_25 : decode cX7_sees 25 = .ok (.getfield 104, 3) := by decide +kernel
theorem dX7_sees_28 : decode cX7_sees 28 = .ok (.lload_n 1, 1) := by decide +kernel
theorem dX7_sees_29 : decode cX7_sees 29 = .ok (.lastore, 1) := by decide +kernel
theorem dX7_sees_30 : decode cX7_sees 30 = .ok (.aload_n 0, 1) := by decide +kernel
theorem dX7_sees_31 : decode cX7_sees 31 = .ok (.dup, 1) := by decide +kernel
theorem dX7_sees_32 : decode cX7_sees 32 = .ok (.getfield 104, 3) := by decide +kernel
theorem dX7_sees_35 : decode cX7_sees 35 = .ok (.iconst 1, 1) := by decide +kernel
theorem dX7_sees_36 : decode cX7_sees 36 = .ok (.iadd, 1) := by decide +kernel
theorem dX7_sees_37 : decode cX7_sees 37 = .ok (.putfield 104, 3) := by decide +kernel
theorem dX7_sees_40 : decode cX7_sees 40 = .ok (.aload_n 0, 1) := by decide +kernel
theorem dX7_sees_41 : decode cX7_sees 41 = .ok (.getfield 104, 3) := by decide +kernel
theorem dX7_sees_44 : decode cX7_sees 44 = .ok (.ireturn, 1) := by decide +kernel
theorem dX7_forget_0 : decode cX7_forget 0 = .ok (.aload_n 0, 1) := by decide +kernel
theorem dX7_forget_1 : decode cX7_forget 1 = .ok (.getfield 104, 3) := by decide +kernel
theorem dX7_forget_4 : decode cX7_forget 4 = .ok (.istore_n 1, 1) := by decide +kernel
theorem dX7_forget_5 : decode cX7_forget 5 = .ok (.aload_n 0, 1) := by decide +kernel
theorem dX7_forget_6 : decode cX7_forget 6 = .ok (.iconst 0, 1) := by decide +kernel
theorem dX7_forget_7 : decode cX7_forget 7 = .ok (.putfield 104, 3) := by decide +kernel
theorem dX7_forget_10 : decode cX7_forget 10 = .ok (.iload_n 1, 1) := by decide +kernel
theorem dX7_forget_11 : decode cX7_forget 11 = .ok (.ireturn, 1) := by decide +kernel
set_option maxRecDepth 20000 in
theorem ggX7_unseen_X7_lines : GoodIn wsX7_unseen wsX7_lines := goodIn_r _ [7, 8, 30, 31, 32, 33, 34, 35, 36, 37, 38, 39, 40, 41, 42, 43, 44, 45, 46, 47, 48] rfl (by decide +kernel)
set_option maxRecDepth 20000 in
theorem gX7_unseen_X7_lines : GoodIn wsX7_unseen (wsV RX7 107 RX7 yX7_lines wsX7_lines) := goodIn_app (goodIn_of _ (by decide +kernel)) ggX7_unseen_X7_lines
set_option maxRecDepth 20000 in
theorem ggX7_unseen_X7_treesBut : GoodIn wsX7_unseen wsX7_treesBut := goodIn_r _ [12, 3, 4, 5, 6, 7, 8, 13, 14, 15, 16, 17, 18, 19, 20, 21, 22, 23, 24, 25, 26, 27, 28, 29, 30, 31, 32, 33, 34, 35, 36, 37, 38, 39, 40, 41, 42, 43, 44, 45, 46, 47, 48] rfl (by decide +kernel)
set_option maxRecDepth 20000 in
theorem gX7_unseen_X7_treesBut : GoodIn wsX7_unseen (wsV RX7 158 RX7 yX7_treesBut wsX7_treesBut) := goodIn_app (goodIn_of _ (by decide +kernel)) ggX7_unseen_X7_treesBut
theorem dX7_unseen_0 : decode cX7_unseen 0 = .ok (.iconst 0, 1) := by decide +kernel
theorem dX7_unseen_1 : decode cX7_unseen 1 = .ok (.istore_n 1, 1) := by decide +kernel
theorem dX7_unseen_2 : decode cX7_unseen 2 = .ok (.iconst 0, 1) := by decide +kernel
theorem dX7_unseen_3 : decode cX7_unseen 3 = .ok (.istore_n 2, 1) := by decide +kernel
theorem dX7_unseen_4 : decode cX7_unseen 4 = .ok (.iload_n 2, 1) := by decide +kernel
theorem dX7_unseen_5 : decode cX7_unseen 5 = .ok (.aload_n 0, 1) := by decide +kernel
theorem dX7_unseen_6 : decode cX7_unseen 6 = .ok (.invokevirtual 107, 3) := by decide +kernel
theorem dX7_unseen_9 : decode cX7_unseen 9 = .ok (.if_icmp .ge 69, 3) := by decide +kernel
theorem dX7_unseen_12 : decode cX7_unseen 12 = .ok (.iconst 1, 1) := by decide +kernel
theorem dX7_unseen_13 : decode cX7_unseen 13 = .ok (.istore_n 3, 1) := by decide +kernel
theorem dX7_unseen_14 : decode cX7_unseen 14 = .ok (.iconst 0, 1) := by decide +kernel
theorem dX7_unseen_15 : decode cX7_unseen 15 = .ok (.istore 4, 2) := by decide +kernel
theorem dX7_unseen_17 : decode cX7_unseen 17 = .ok (.iload 4, 2) := by decide +kernel
theorem dX7_unseen_19 : decode cX7_unseen 19 = .ok (.aload_n 0, 1) := by decide +kernel
theorem dX7_unseen_20 : decode cX7_unseen 20 = .ok (.getfield 104, 3) := by decide +kernel
theorem dX7_unseen_23 : decode cX7_unseen 23 = .ok (.if_icmp .ge 35, 3) := by decide +kernel
theorem dX7_unseen_26 : decode cX7_unseen 26 = .ok (.iload_n 3, 1) := by decide +kernel
theorem dX7_unseen_27 : decode cX7_unseen 27 = .ok (.ifCond .eq 23, 3) := by decide +kernel
theorem dX7_unseen_30 : decode cX7_unseen 30 = .ok (.aload_n 0, 1) := by decide +kernel
theorem dX7_unseen_31 : decode cX7_unseen 31 = .ok (.iload_n 2, 1) := by decide +kernel
theorem dX7_unseen_32 : decode cX7_unseen 32 = .ok (.invokevirtual 158, 3) := by decide +kernel
theorem dX7_unseen_35 : decode cX7_unseen 35 = .ok (.aload_n 0, 1) := by decide +kernel
theorem dX7_unseen_36 : decode cX7_unseen 36 = .ok (.getfield 24, 3) := by decide +kernel
theorem dX7_unseen_39 : decode cX7_unseen 39 = .ok (.iload 4, 2) := by decide +kernel
theorem dX7_unseen_41 : decode cX7_unseen 41 = .ok (.laload, 1) := by decide +kernel
theorem dX7_unseen_42 : decode cX7_unseen 42 = .ok (.lcmp, 1) := by decide +kernel
theorem dX7_unseen_43 : decode cX7_unseen 43 = .ok (.ifCond .ne 7, 3) := by decide +kernel
theorem dX7_unseen_46 : decode cX7_unseen 46 = .ok (.iconst 1, 1) := by decide +kernel
theorem dX7_unseen_47 : decode cX7_unseen 47 = .ok (.goto 4, 3) := by decide +kernel
theorem dX7_unseen_50 : decode cX7_unseen 50 = .ok (.iconst 0, 1) := by decide +kernel
theorem dX7_unseen_51 : decode cX7_unseen 51 = .ok (.istore_n 3, 1) := by decide +kernel
theorem dX7_unseen_52 : decode cX7_unseen 52 = .ok (.iinc 4 1, 3) := by decide +kernel
theorem dX7_unseen_55 : decode cX7_unseen 55 = .ok (.goto (-38), 3) := by decide +kernel
theorem dX7_unseen_58 : decode cX7_unseen 58 = .ok (.iload_n 1, 1) := by decide +kernel
theorem dX7_unseen_59 : decode cX7_unseen 59 = .ok (.iload_n 3, 1) := by decide +kernel
theorem dX7_unseen_60 : decode cX7_unseen 60 = .ok (.ifCond .eq 9, 3) := by decide +kernel
theorem dX7_unseen_63 : decode cX7_unseen 63 = .ok (.iconst 1, 1) := by decide +kernel
theorem dX7_unseen_64 : decode cX7_unseen 64 = .ok (.iload_n 2, 1) := by decide +kernel
theorem dX7_unseen_65 : decode cX7_unseen 65 = .ok (.ishl, 1) := by decide +kernel
theorem dX7_unseen_66 : decode cX7_unseen 66 = .ok (.goto 4, 3) := by decide +kernel
theorem dX7_unseen_69 : decode cX7_unseen 69 = .ok (.iconst 0, 1) := by decide +kernel
theorem dX7_unseen_70 : decode cX7_unseen 70 = .ok (.ior, 1) := by decide +kernel
theorem dX7_unseen_71 : decode cX7_unseen 71 = .ok (.istore_n 1, 1) := by decide +kernel
theorem dX7_unseen_72 : decode cX7_unseen 72 = .ok (.iinc 2 1, 3) := by decide +kernel
theorem dX7_unseen_75 : decode cX7_unseen 75 = .ok (.goto (-71), 3) := by decide +kernel
theorem dX7_unseen_78 : decode cX7_unseen 78 = .ok (.iload_n 1, 1) := by decide +kernel
theorem dX7_unseen_79 : decode cX7_unseen 79 = .ok (.ireturn, 1) := by decide +kernel
set_option maxRecDepth 20000 in
theorem ggX7_keep_X7_in : GoodIn wsX7_keep wsX7_in := goodIn_r _ [6] rfl (by decide +kernel)
set_option maxRecDepth 20000 in
theorem gX7_keep_X7_in : GoodIn wsX7_keep (va_wsS RX7 48 yX7_in wsX7_in) := goodIn_app (goodIn_of _ (by decide +kernel)) ggX7_keep_X7_in
set_option maxRecDepth 20000 in
theorem ggX7_keep_X7_copyRow : GoodIn wsX7_keep wsX7_copyRow := goodIn_r _ [10, 11, 12, 13, 14, 15, 16, 17, 18, 19, 20, 21, 22, 23, 24, 25, 26, 27, 28, 29, 30] rfl (by decide +kernel)
set_option maxRecDepth 20000 in
theorem gX7_keep_X7_copyRow : GoodIn wsX7_keep (wsV RX7 97 RX7 yX7_copyRow wsX7_copyRow) := goodIn_app (goodIn_of _ (by decide +kernel)) ggX7_keep_X7_copyRow
theorem dX7_keep_0 : decode cX7_keep 0 = .ok (.iload_n 1, 1) := by decide +kernel
theorem dX7_keep_1 : decode cX7_keep 1 = .ok (.i2l, 1) := by decide +kernel
theorem dX7_keep_2 : decode cX7_keep 2 = .ok (.lconst 0, 1) := by decide +kernel
theorem dX7_keep_3 : decode cX7_keep 3 = .ok (.lconst 1, 1) := by decide +kernel
theorem dX7_keep_4 : decode cX7_keep 4 = .ok (.invokestatic 48, 3) := by decide +kernel
theorem dX7_keep_7 : decode cX7_keep 7 = .ok (.ifCond .ne 5, 3) := by decide +kernel
theorem dX7_keep_10 : decode cX7_keep 10 = .ok (.iconst (-1), 1) := by decide +kernel
theorem dX7_keep_11 : decode cX7_keep 11 = .ok (.ireturn, 1) := by decide +kernel
theorem dX7_keep_12 : decode cX7_keep 12 = .ok (.aload_n 0, 1) := by decide +kernel
theorem dX7_keep_13 : decode cX7_keep 13 = .ok (.iconst 0, 1) := by decide +kernel
theorem dX7_keep_14 : decode cX7_keep 14 = .ok (.sipush 403, 3) := by decide +kernel
theorem dX7_keep_17 : decode cX7_keep 17 = .ok (.bipush 31, 2) := by decide +kernel
theorem dX7_keep_19 : decode cX7_keep 19 = .ok (.iload_n 1, 1) := by decide +kernel
theorem dX7_keep_20 : decode cX7_keep 20 = .ok (.imul, 1) := by decide +kernel
theorem dX7_keep_21 : decode cX7_keep 21 = .ok (.iadd, 1) := by decide +kernel
theorem dX7_keep_22 : decode cX7_keep 22 = .ok (.invokevirtual 97, 3) := by decide +kernel
theorem dX7_keep_25 : decode cX7_keep 25 = .ok (.aload_n 0, 1) := by decide +kernel
theorem dX7_keep_26 : decode cX7_keep 26 = .ok (.getfield 17, 3) := by decide +kernel
theorem dX7_keep_29 : decode cX7_keep 29 = .ok (.iload_n 1, 1) := by decide +kernel
theorem dX7_keep_30 : decode cX7_keep 30 = .ok (.iconst 1, 1) := by decide +kernel
theorem dX7_keep_31 : decode cX7_keep 31 = .ok (.bastore, 1) := by decide +kernel
theorem dX7_keep_32 : decode cX7_keep 32 = .ok (.aload_n 0, 1) := by decide +kernel
theorem dX7_keep_33 : decode cX7_keep 33 = .ok (.getfield 13, 3) := by decide +kernel
theorem dX7_keep_36 : decode cX7_keep 36 = .ok (.ireturn, 1) := by decide +kernel
set_option maxRecDepth 20000 in
theorem ggX7_back_X7_in : GoodIn wsX7_back wsX7_in := goodIn_r _ [7] rfl (by decide +kernel)
set_option maxRecDepth 20000 in
theorem gX7_back_X7_in : GoodIn wsX7_back (va_wsS RX7 48 yX7_in wsX7_in) := goodIn_app (goodIn_of _ (by decide +kernel)) ggX7_back_X7_in
set_option maxRecDepth 20000 in
theorem ggX7_back_X7_copyRow : GoodIn wsX7_back wsX7_copyRow := goodIn_r _ [11, 12, 13, 14, 15, 16, 17, 18, 19, 20, 21, 22, 23, 24, 25, 26, 27, 28, 29, 30, 31] rfl (by decide +kernel)
set_option maxRecDepth 20000 in
theorem gX7_back_X7_copyRow : GoodIn wsX7_back (wsV RX7 97 RX7 yX7_copyRow wsX7_copyRow) := goodIn_app (goodIn_of _ (by decide +kernel)) ggX7_back_X7_copyRow
theorem dX7_back_0 : decode cX7_back 0 = .ok (.iload_n 1, 1) := by decide +kernel
theorem dX7_back_1 : decode cX7_back 1 = .ok (.i2l, 1) := by decide +kernel
theorem dX7_back_2 : decode cX7_back 2 = .ok (.lconst 0, 1) := by decide +kernel
theorem dX7_back_3 : decode cX7_back 3 = .ok (.lconst 1, 1) := by decide +kernel
theorem dX7_back_4 : decode cX7_back 4 = .ok (.invokestatic 48, 3) := by decide +kernel
theorem dX7_back_7 : decode cX7_back 7 = .ok (.ifCond .ne 5, 3) := by decide +kernel
theorem dX7_back_10 : decode cX7_back 10 = .ok (.iconst (-1), 1) := by decide +kernel
theorem dX7_back_11 : decode cX7_back 11 = .ok (.ireturn, 1) := by decide +kernel
theorem dX7_back_12 : decode cX7_back 12 = .ok (.aload_n 0, 1) := by decide +kernel
theorem dX7_back_13 : decode cX7_back 13 = .ok (.getfield 17, 3) := by decide +kernel
theorem dX7_back_16 : decode cX7_back 16 = .ok (.iload_n 1, 1) := by decide +kernel
theorem dX7_back_17 : decode cX7_back 17 = .ok (.baload, 1) := by decide +kernel
theorem dX7_back_18 : decode cX7_back 18 = .ok (.ifCond .ne 6, 3) := by decide +kernel
theorem dX7_back_21 : decode cX7_back 21 = .ok (.bipush (-2), 2) := by decide +kernel
theorem dX7_back_23 : decode cX7_back 23 = .ok (.ireturn, 1) := by decide +kernel
theorem dX7_back_24 : decode cX7_back 24 = .ok (.aload_n 0, 1) := by decide +kernel
theorem dX7_back_25 : decode cX7_back 25 = .ok (.sipush 403, 3) := by decide +kernel
theorem dX7_back_28 : decode cX7_back 28 = .ok (.bipush 31, 2) := by decide +kernel
theorem dX7_back_30 : decode cX7_back 30 = .ok (.iload_n 1, 1) := by decide +kernel
theorem dX7_back_31 : decode cX7_back 31 = .ok (.imul, 1) := by decide +kernel
theorem dX7_back_32 : decode cX7_back 32 = .ok (.iadd, 1) := by decide +kernel
theorem dX7_back_33 : decode cX7_back 33 = .ok (.iconst 0, 1) := by decide +kernel
theorem dX7_back_34 : decode cX7_back 34 = .ok (.invokevirtual 97, 3) := by decide +kernel
theorem dX7_back_37 : decode cX7_back 37 = .ok (.aload_n 0, 1) := by decide +kernel
theorem dX7_back_38 : decode cX7_back 38 = .ok (.iconst 0, 1) := by decide +kernel
theorem dX7_back_39 : decode cX7_back 39 = .ok (.putfield 101, 3) := by decide +kernel
theorem dX7_back_42 : decode cX7_back 42 = .ok (.aload_n 0, 1) := by decide +kernel
theorem dX7_back_43 : decode cX7_back 43 = .ok (.getfield 13, 3) := by decide +kernel
theorem dX7_back_46 : decode cX7_back 46 = .ok (.ireturn, 1) := by decide +kernel
set_option maxRecDepth 20000 in
theorem ggX7_count_X7_lines : GoodIn wsX7_count wsX7_lines := goodIn_r _ [9, 10, 28, 29, 30, 31, 32, 33, 34, 35, 36, 37, 38, 39, 40, 41, 42, 43, 44, 45, 46] rfl (by decide +kernel)
set_option maxRecDepth 20000 in
theorem gX7_count_X7_lines : GoodIn wsX7_count (wsV RX7 107 RX7 yX7_lines wsX7_lines) := goodIn_app (goodIn_of _ (by decide +kernel)) ggX7_count_X7_lines
set_option maxRecDepth 20000 in
theorem ggX7_count_X7_whole : GoodIn wsX7_count wsX7_whole := goodIn_r _ [14, 10, 5, 6, 7, 8, 9, 28, 29, 30, 31, 32, 33, 34, 35, 36, 37, 38, 39, 40, 41, 42, 43, 44, 45, 46] rfl (by decide +kernel)
set_option maxRecDepth 20000 in
theorem gX7_count_X7_whole : GoodIn wsX7_count (wsV RX7 167 RX7 yX7_whole wsX7_whole) := goodIn_app (goodIn_of _ (by decide +kernel)) ggX7_count_X7_whole
set_option maxRecDepth 20000 in
theorem ggX7_count_X7_hangs : GoodIn wsX7_count wsX7_hangs := goodIn_r _ [18, 5, 6, 7, 8, 9, 10, 19, 20, 21, 22, 23, 24, 25, 26, 27, 1, 28, 29, 30, 31, 32, 33, 34, 35, 36, 37, 38, 39, 40, 41, 42, 43, 44, 45, 46] rfl (by decide +kernel)
set_option maxRecDepth 20000 in
theorem gX7_count_X7_hangs : GoodIn wsX7_count (wsV RX7 151 RX7 yX7_hangs wsX7_hangs) := goodIn_app (goodIn_of _ (by decide +kernel)) ggX7_count_X7_hangs
theorem dX7_count_0 : decode cX7_count 0 = .ok (.iload_n 1, 1) := by decide +kernel
theorem dX7_count_1 : decode cX7_count 1 = .ok (.tableswitch 88 0 6 #[43, 48, 53, 58, 73, 78, 83], 43) := by decide +kernel
theorem dX7_count_44 : decode cX7_count 44 = .ok (.aload_n 0, 1) := by decide +kernel
theorem dX7_count_45 : decode cX7_count 45 = .ok (.getfield 13, 3) := by decide +kernel
theorem dX7_count_48 : decode cX7_count 48 = .ok (.ireturn, 1) := by decide +kernel
theorem dX7_count_49 : decode cX7_count 49 = .ok (.aload_n 0, 1) := by decide +kernel
theorem dX7_count_50 : decode cX7_count 50 = .ok (.invokevirtual 107, 3) := by decide +kernel
theorem dX7_count_53 : decode cX7_count 53 = .ok (.ireturn, 1) := by decide +kernel
theorem dX7_count_54 : decode cX7_count 54 = .ok (.aload_n 0, 1) := by decide +kernel
theorem dX7_count_55 : decode cX7_count 55 = .ok (.invokevirtual 167, 3) := by decide +kernel
theorem dX7_count_58 : decode cX7_count 58 = .ok (.ireturn, 1) := by decide +kernel
theorem dX7_count_59 : decode cX7_count 59 = .ok (.aload_n 0, 1) := by decide +kernel
theorem dX7_count_60 : decode cX7_count 60 = .ok (.bipush (-9), 2) := by decide +kernel
theorem dX7_count_62 : decode cX7_count 62 = .ok (.invokevirtual 151, 3) := by decide +kernel
theorem dX7_count_65 : decode cX7_count 65 = .ok (.ifCond .eq 7, 3) := by decide +kernel
theorem dX7_count_68 : decode cX7_count 68 = .ok (.iconst 1, 1) := by decide +kernel
theorem dX7_count_69 : decode cX7_count 69 = .ok (.goto 4, 3) := by decide +kernel
theorem dX7_count_72 : decode cX7_count 72 = .ok (.iconst 0, 1) := by decide +kernel
theorem dX7_count_73 : decode cX7_count 73 = .ok (.ireturn, 1) := by decide +kernel
theorem dX7_count_74 : decode cX7_count 74 = .ok (.aload_n 0, 1) := by decide +kernel
theorem dX7_count_75 : decode cX7_count 75 = .ok (.getfield 104, 3) := by decide +kernel
theorem dX7_count_78 : decode cX7_count 78 = .ok (.ireturn, 1) := by decide +kernel
theorem dX7_count_79 : decode cX7_count 79 = .ok (.aload_n 0, 1) := by decide +kernel
theorem dX7_count_80 : decode cX7_count 80 = .ok (.getfield 52, 3) := by decide +kernel
theorem dX7_count_83 : decode cX7_count 83 = .ok (.ireturn, 1) := by decide +kernel
theorem dX7_count_84 : decode cX7_count 84 = .ok (.aload_n 0, 1) := by decide +kernel
theorem dX7_count_85 : decode cX7_count 85 = .ok (.getfield 101, 3) := by decide +kernel
theorem dX7_count_88 : decode cX7_count 88 = .ok (.ireturn, 1) := by decide +kernel
theorem dX7_count_89 : decode cX7_count 89 = .ok (.iconst (-1), 1) := by decide +kernel
theorem dX7_count_90 : decode cX7_count 90 = .ok (.ireturn, 1) := by decide +kernel
