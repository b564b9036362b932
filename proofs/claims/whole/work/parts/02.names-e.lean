theorem dX4_count_111 : decode cX4_count 111 = .ok (.iload_n 3, 1) := by decide +kernel
theorem dX4_count_112 : decode cX4_count 112 = .ok (.goto 19, 3) := by decide +kernel
theorem dX4_count_115 : decode cX4_count 115 = .ok (.iload_n 1, 1) := by decide +kernel
theorem dX4_count_116 : decode cX4_count 116 = .ok (.iconst 3, 1) := by decide +kernel
theorem dX4_count_117 : decode cX4_count 117 = .ok (.if_icmp .ne 10, 3) := by decide +kernel
theorem dX4_count_120 : decode cX4_count 120 = .ok (.aload_n 0, 1) := by decide +kernel
theorem dX4_count_121 : decode cX4_count 121 = .ok (.getfield 56, 3) := by decide +kernel
theorem dX4_count_124 : decode cX4_count 124 = .ok (.goto 7, 3) := by decide +kernel
theorem dX4_count_127 : decode cX4_count 127 = .ok (.aload_n 0, 1) := by decide +kernel
theorem dX4_count_128 : decode cX4_count 128 = .ok (.getfield 59, 3) := by decide +kernel
theorem dX4_count_131 : decode cX4_count 131 = .ok (.ireturn, 1) := by decide +kernel
set_option maxRecDepth 20000 in
theorem ggX4_root_X4_rootOf : GoodIn wsX4_root wsX4_rootOf := goodIn_r _ [6, 7, 8, 9, 10, 11, 12, 13, 14, 15, 16, 17, 18, 19, 20, 21, 22, 23, 24, 25, 26] (by decide +kernel) (by decide +kernel)
set_option maxRecDepth 20000 in
theorem gX4_root_X4_rootOf : GoodIn wsX4_root (wsV RX4 69 RX4 yX4_rootOf wsX4_rootOf) := goodIn_app (goodIn_of _ (by decide +kernel)) ggX4_root_X4_rootOf
theorem dX4_root_0 : decode cX4_root 0 = .ok (.aload_n 0, 1) := by decide +kernel
theorem dX4_root_1 : decode cX4_root 1 = .ok (.iconst 0, 1) := by decide +kernel
theorem dX4_root_2 : decode cX4_root 2 = .ok (.putfield 45, 3) := by decide +kernel
theorem dX4_root_5 : decode cX4_root 5 = .ok (.aload_n 0, 1) := by decide +kernel
theorem dX4_root_6 : decode cX4_root 6 = .ok (.iload_n 1, 1) := by decide +kernel
theorem dX4_root_7 : decode cX4_root 7 = .ok (.invokevirtual 69, 3) := by decide +kernel
theorem dX4_root_10 : decode cX4_root 10 = .ok (.ireturn, 1) := by decide +kernel
theorem dX4_sizeOf_0 : decode cX4_sizeOf 0 = .ok (.iconst 0, 1) := by decide +kernel
theorem dX4_sizeOf_1 : decode cX4_sizeOf 1 = .ok (.istore_n 2, 1) := by decide +kernel
theorem dX4_sizeOf_2 : decode cX4_sizeOf 2 = .ok (.iconst 0, 1) := by decide +kernel
theorem dX4_sizeOf_3 : decode cX4_sizeOf 3 = .ok (.istore_n 3, 1) := by decide +kernel
theorem dX4_sizeOf_4 : decode cX4_sizeOf 4 = .ok (.iload_n 3, 1) := by decide +kernel
theorem dX4_sizeOf_5 : decode cX4_sizeOf 5 = .ok (.aload_n 0, 1) := by decide +kernel
theorem dX4_sizeOf_6 : decode cX4_sizeOf 6 = .ok (.getfield 49, 3) := by decide +kernel
theorem dX4_sizeOf_9 : decode cX4_sizeOf 9 = .ok (.if_icmp .ge 32, 3) := by decide +kernel
theorem dX4_sizeOf_12 : decode cX4_sizeOf 12 = .ok (.iload_n 2, 1) := by decide +kernel
theorem dX4_sizeOf_13 : decode cX4_sizeOf 13 = .ok (.aload_n 0, 1) := by decide +kernel
theorem dX4_sizeOf_14 : decode cX4_sizeOf 14 = .ok (.getfield 32, 3) := by decide +kernel
theorem dX4_sizeOf_17 : decode cX4_sizeOf 17 = .ok (.sipush 200, 3) := by decide +kernel
theorem dX4_sizeOf_20 : decode cX4_sizeOf 20 = .ok (.iload_n 1, 1) := by decide +kernel
theorem dX4_sizeOf_21 : decode cX4_sizeOf 21 = .ok (.imul, 1) := by decide +kernel
theorem dX4_sizeOf_22 : decode cX4_sizeOf 22 = .ok (.iload_n 3, 1) := by decide +kernel
theorem dX4_sizeOf_23 : decode cX4_sizeOf 23 = .ok (.iadd, 1) := by decide +kernel
theorem dX4_sizeOf_24 : decode cX4_sizeOf 24 = .ok (.baload, 1) := by decide +kernel
theorem dX4_sizeOf_25 : decode cX4_sizeOf 25 = .ok (.ifCond .eq 7, 3) := by decide +kernel
theorem dX4_sizeOf_28 : decode cX4_sizeOf 28 = .ok (.iconst 1, 1) := by decide +kernel
theorem dX4_sizeOf_29 : decode cX4_sizeOf 29 = .ok (.goto 4, 3) := by decide +kernel
theorem dX4_sizeOf_32 : decode cX4_sizeOf 32 = .ok (.iconst 0, 1) := by decide +kernel
theorem dX4_sizeOf_33 : decode cX4_sizeOf 33 = .ok (.iadd, 1) := by decide +kernel
theorem dX4_sizeOf_34 : decode cX4_sizeOf 34 = .ok (.istore_n 2, 1) := by decide +kernel
theorem dX4_sizeOf_35 : decode cX4_sizeOf 35 = .ok (.iinc 3 1, 3) := by decide +kernel
theorem dX4_sizeOf_38 : decode cX4_sizeOf 38 = .ok (.goto (-34), 3) := by decide +kernel
theorem dX4_sizeOf_41 : decode cX4_sizeOf 41 = .ok (.iload_n 2, 1) := by decide +kernel
theorem dX4_sizeOf_42 : decode cX4_sizeOf 42 = .ok (.ireturn, 1) := by decide +kernel
theorem dX4_bits_0 : decode cX4_bits 0 = .ok (.iconst 0, 1) := by decide +kernel
theorem dX4_bits_1 : decode cX4_bits 1 = .ok (.istore_n 1, 1) := by decide +kernel
theorem dX4_bits_2 : decode cX4_bits 2 = .ok (.iconst 0, 1) := by decide +kernel
theorem dX4_bits_3 : decode cX4_bits 3 = .ok (.istore_n 2, 1) := by decide +kernel
theorem dX4_bits_4 : decode cX4_bits 4 = .ok (.iload_n 2, 1) := by decide +kernel
theorem dX4_bits_5 : decode cX4_bits 5 = .ok (.bipush 8, 2) := by decide +kernel
theorem dX4_bits_7 : decode cX4_bits 7 = .ok (.if_icmp .ge 17, 3) := by decide +kernel
theorem dX4_bits_10 : decode cX4_bits 10 = .ok (.iload_n 1, 1) := by decide +kernel
theorem dX4_bits_11 : decode cX4_bits 11 = .ok (.iload_n 0, 1) := by decide +kernel
theorem dX4_bits_12 : decode cX4_bits 12 = .ok (.iload_n 2, 1) := by decide +kernel
theorem dX4_bits_13 : decode cX4_bits 13 = .ok (.ishr, 1) := by decide +kernel
theorem dX4_bits_14 : decode cX4_bits 14 = .ok (.iconst 1, 1) := by decide +kernel
theorem dX4_bits_15 : decode cX4_bits 15 = .ok (.iand, 1) := by decide +kernel
theorem dX4_bits_16 : decode cX4_bits 16 = .ok (.iadd, 1) := by decide +kernel
theorem dX4_bits_17 : decode cX4_bits 17 = .ok (.istore_n 1, 1) := by decide +kernel
theorem dX4_bits_18 : decode cX4_bits 18 = .ok (.iinc 2 1, 3) := by decide +kernel
theorem dX4_bits_21 : decode cX4_bits 21 = .ok (.goto (-17), 3) := by decide +kernel
theorem dX4_bits_24 : decode cX4_bits 24 = .ok (.iload_n 1, 1) := by decide +kernel
theorem dX4_bits_25 : decode cX4_bits 25 = .ok (.ireturn, 1) := by decide +kernel
set_option maxRecDepth 20000 in
theorem ggX4_mayBeFound_X4_isIn : GoodIn wsX4_mayBeFound wsX4_isIn := goodIn_r _ [4] (by decide +kernel) (by decide +kernel)
set_option maxRecDepth 20000 in
theorem gX4_mayBeFound_X4_isIn : GoodIn wsX4_mayBeFound (va_wsS RX4 52 yX4_isIn wsX4_isIn) := goodIn_app (goodIn_of _ (by decide +kernel)) ggX4_mayBeFound_X4_isIn
theorem dX4_mayBeFound_0 : decode cX4_mayBeFound 0 = .ok (.iload_n 0, 1) := by decide +kernel
theorem dX4_mayBeFound_1 : decode cX4_mayBeFound 1 = .ok (.tableswitch 107 0 5 #[39, 41, 50, 82, 89, 98], 39) := by decide +kernel
theorem dX4_mayBeFound_40 : decode cX4_mayBeFound 40 = .ok (.iconst 1, 1) := by decide +kernel
theorem dX4_mayBeFound_41 : decode cX4_mayBeFound 41 = .ok (.ireturn, 1) := by decide +kernel
theorem dX4_mayBeFound_42 : decode cX4_mayBeFound 42 = .ok (.iload_n 1, 1) := by decide +kernel
theorem dX4_mayBeFound_43 : decode cX4_mayBeFound 43 = .ok (.iconst 0, 1) := by decide +kernel
theorem dX4_mayBeFound_44 : decode cX4_mayBeFound 44 = .ok (.sipush 255, 3) := by decide +kernel
theorem dX4_mayBeFound_47 : decode cX4_mayBeFound 47 = .ok (.invokestatic 52, 3) := by decide +kernel
theorem dX4_mayBeFound_50 : decode cX4_mayBeFound 50 = .ok (.ireturn, 1) := by decide +kernel
theorem dX4_mayBeFound_51 : decode cX4_mayBeFound 51 = .ok (.iload_n 1, 1) := by decide +kernel
theorem dX4_mayBeFound_52 : decode cX4_mayBeFound 52 = .ok (.sipush (-1000), 3) := by decide +kernel
theorem dX4_mayBeFound_55 : decode cX4_mayBeFound 55 = .ok (.sipush 1000, 3) := by decide +kernel
theorem dX4_mayBeFound_58 : decode cX4_mayBeFound 58 = .ok (.invokestatic 52, 3) := by decide +kernel
theorem dX4_mayBeFound_61 : decode cX4_mayBeFound 61 = .ok (.ifCond .eq 20, 3) := by decide +kernel
theorem dX4_mayBeFound_64 : decode cX4_mayBeFound 64 = .ok (.iload_n 2, 1) := by decide +kernel
theorem dX4_mayBeFound_65 : decode cX4_mayBeFound 65 = .ok (.sipush (-1000), 3) := by decide +kernel
theorem dX4_mayBeFound_68 : decode cX4_mayBeFound 68 = .ok (.sipush 1000, 3) := by decide +kernel
theorem dX4_mayBeFound_71 : decode cX4_mayBeFound 71 = .ok (.invokestatic 52, 3) := by decide +kernel
theorem dX4_mayBeFound_74 : decode cX4_mayBeFound 74 = .ok (.ifCond .eq 7, 3) := by decide +kernel
theorem dX4_mayBeFound_77 : decode cX4_mayBeFound 77 = .ok (.iconst 1, 1) := by decide +kernel
theorem dX4_mayBeFound_78 : decode cX4_mayBeFound 78 = .ok (.goto 4, 3) := by decide +kernel
theorem dX4_mayBeFound_81 : decode cX4_mayBeFound 81 = .ok (.iconst 0, 1) := by decide +kernel
theorem dX4_mayBeFound_82 : decode cX4_mayBeFound 82 = .ok (.ireturn, 1) := by decide +kernel
theorem dX4_mayBeFound_83 : decode cX4_mayBeFound 83 = .ok (.iload_n 1, 1) := by decide +kernel
theorem dX4_mayBeFound_84 : decode cX4_mayBeFound 84 = .ok (.iconst 0, 1) := by decide +kernel
theorem dX4_mayBeFound_85 : decode cX4_mayBeFound 85 = .ok (.iconst 2, 1) := by decide +kernel
theorem dX4_mayBeFound_86 : decode cX4_mayBeFound 86 = .ok (.invokestatic 52, 3) := by decide +kernel
theorem dX4_mayBeFound_89 : decode cX4_mayBeFound 89 = .ok (.ireturn, 1) := by decide +kernel
theorem dX4_mayBeFound_90 : decode cX4_mayBeFound 90 = .ok (.iload_n 1, 1) := by decide +kernel
theorem dX4_mayBeFound_91 : decode cX4_mayBeFound 91 = .ok (.iconst 0, 1) := by decide +kernel
theorem dX4_mayBeFound_92 : decode cX4_mayBeFound 92 = .ok (.sipush 999, 3) := by decide +kernel
theorem dX4_mayBeFound_95 : decode cX4_mayBeFound 95 = .ok (.invokestatic 52, 3) := by decide +kernel
theorem dX4_mayBeFound_98 : decode cX4_mayBeFound 98 = .ok (.ireturn, 1) := by decide +kernel
theorem dX4_mayBeFound_99 : decode cX4_mayBeFound 99 = .ok (.iload_n 1, 1) := by decide +kernel
theorem dX4_mayBeFound_100 : decode cX4_mayBeFound 100 = .ok (.iconst 0, 1) := by decide +kernel
theorem dX4_mayBeFound_101 : decode cX4_mayBeFound 101 = .ok (.sipush 999, 3) := by decide +kernel
theorem dX4_mayBeFound_104 : decode cX4_mayBeFound 104 = .ok (.invokestatic 52, 3) := by decide +kernel
theorem dX4_mayBeFound_107 : decode cX4_mayBeFound 107 = .ok (.ireturn, 1) := by decide +kernel
theorem dX4_mayBeFound_108 : decode cX4_mayBeFound 108 = .ok (.iconst 0, 1) := by decide +kernel
theorem dX4_mayBeFound_109 : decode cX4_mayBeFound 109 = .ok (.ireturn, 1) := by decide +kernel
set_option maxRecDepth 20000 in
theorem ggX4_isFound_X4_isIn : GoodIn wsX4_isFound wsX4_isIn := goodIn_r _ [9] (by decide +kernel) (by decide +kernel)
set_option maxRecDepth 20000 in
theorem gX4_isFound_X4_isIn : GoodIn wsX4_isFound (va_wsS RX4 52 yX4_isIn wsX4_isIn) := goodIn_app (goodIn_of _ (by decide +kernel)) ggX4_isFound_X4_isIn
theorem dX4_isFound_0 : decode cX4_isFound 0 = .ok (.iload_n 2, 1) := by decide +kernel
theorem dX4_isFound_1 : decode cX4_isFound 1 = .ok (.tableswitch 110 0 4 #[35, 37, 55, 68, 84], 35) := by decide +kernel
theorem dX4_isFound_36 : decode cX4_isFound 36 = .ok (.iconst 1, 1) := by decide +kernel
theorem dX4_isFound_37 : decode cX4_isFound 37 = .ok (.ireturn, 1) := by decide +kernel
theorem dX4_isFound_38 : decode cX4_isFound 38 = .ok (.aload_n 0, 1) := by decide +kernel
theorem dX4_isFound_39 : decode cX4_isFound 39 = .ok (.getfield 16, 3) := by decide +kernel
theorem dX4_isFound_42 : decode cX4_isFound 42 = .ok (.iload_n 1, 1) := by decide +kernel
theorem dX4_isFound_43 : decode cX4_isFound 43 = .ok (.iaload, 1) := by decide +kernel
theorem dX4_isFound_44 : decode cX4_isFound 44 = .ok (.iload_n 3, 1) := by decide +kernel
theorem dX4_isFound_45 : decode cX4_isFound 45 = .ok (.iand, 1) := by decide +kernel
theorem dX4_isFound_46 : decode cX4_isFound 46 = .ok (.iload_n 3, 1) := by decide +kernel
theorem dX4_isFound_47 : decode cX4_isFound 47 = .ok (.if_icmp .ne 7, 3) := by decide +kernel
theorem dX4_isFound_50 : decode cX4_isFound 50 = .ok (.iconst 1, 1) := by decide +kernel
theorem dX4_isFound_51 : decode cX4_isFound 51 = .ok (.goto 4, 3) := by decide +kernel
theorem dX4_isFound_54 : decode cX4_isFound 54 = .ok (.iconst 0, 1) := by decide +kernel
theorem dX4_isFound_55 : decode cX4_isFound 55 = .ok (.ireturn, 1) := by decide +kernel
theorem dX4_isFound_56 : decode cX4_isFound 56 = .ok (.aload_n 0, 1) := by decide +kernel
theorem dX4_isFound_57 : decode cX4_isFound 57 = .ok (.getfield 13, 3) := by decide +kernel
theorem dX4_isFound_60 : decode cX4_isFound 60 = .ok (.iload_n 1, 1) := by decide +kernel
theorem dX4_isFound_61 : decode cX4_isFound 61 = .ok (.iaload, 1) := by decide +kernel
theorem dX4_isFound_62 : decode cX4_isFound 62 = .ok (.iload_n 3, 1) := by decide +kernel
theorem dX4_isFound_63 : decode cX4_isFound 63 = .ok (.iload 4, 2) := by decide +kernel
theorem dX4_isFound_65 : decode cX4_isFound 65 = .ok (.invokestatic 52, 3) := by decide +kernel
theorem dX4_isFound_68 : decode cX4_isFound 68 = .ok (.ireturn, 1) := by decide +kernel
theorem dX4_isFound_69 : decode cX4_isFound 69 = .ok (.aload_n 0, 1) := by decide +kernel
theorem dX4_isFound_70 : decode cX4_isFound 70 = .ok (.getfield 7, 3) := by decide +kernel
theorem dX4_isFound_73 : decode cX4_isFound 73 = .ok (.iload_n 1, 1) := by decide +kernel
theorem dX4_isFound_74 : decode cX4_isFound 74 = .ok (.iaload, 1) := by decide +kernel
theorem dX4_isFound_75 : decode cX4_isFound 75 = .ok (.iload_n 3, 1) := by decide +kernel
theorem dX4_isFound_76 : decode cX4_isFound 76 = .ok (.if_icmp .ne 7, 3) := by decide +kernel
theorem dX4_isFound_79 : decode cX4_isFound 79 = .ok (.iconst 1, 1) := by decide +kernel
theorem dX4_isFound_80 : decode cX4_isFound 80 = .ok (.goto 4, 3) := by decide +kernel
theorem dX4_isFound_83 : decode cX4_isFound 83 = .ok (.iconst 0, 1) := by decide +kernel
theorem dX4_isFound_84 : decode cX4_isFound 84 = .ok (.ireturn, 1) := by decide +kernel
theorem dX4_isFound_85 : decode cX4_isFound 85 = .ok (.aload_n 0, 1) := by decide +kernel
theorem dX4_isFound_86 : decode cX4_isFound 86 = .ok (.getfield 7, 3) := by decide +kernel
theorem dX4_isFound_89 : decode cX4_isFound 89 = .ok (.iload_n 1, 1) := by decide +kernel
theorem dX4_isFound_90 : decode cX4_isFound 90 = .ok (.iaload, 1) := by decide +kernel
theorem dX4_isFound_91 : decode cX4_isFound 91 = .ok (.iconst 2, 1) := by decide +kernel
theorem dX4_isFound_92 : decode cX4_isFound 92 = .ok (.if_icmp .ne 17, 3) := by decide +kernel
theorem dX4_isFound_95 : decode cX4_isFound 95 = .ok (.aload_n 0, 1) := by decide +kernel
theorem dX4_isFound_96 : decode cX4_isFound 96 = .ok (.getfield 22, 3) := by decide +kernel
theorem dX4_isFound_99 : decode cX4_isFound 99 = .ok (.iload_n 1, 1) := by decide +kernel
theorem dX4_isFound_100 : decode cX4_isFound 100 = .ok (.iaload, 1) := by decide +kernel
theorem dX4_isFound_101 : decode cX4_isFound 101 = .ok (.iload_n 3, 1) := by decide +kernel
theorem dX4_isFound_102 : decode cX4_isFound 102 = .ok (.if_icmp .ne 7, 3) := by decide +kernel
theorem dX4_isFound_105 : decode cX4_isFound 105 = .ok (.iconst 1, 1) := by decide +kernel
theorem dX4_isFound_106 : decode cX4_isFound 106 = .ok (.goto 4, 3) := by decide +kernel
theorem dX4_isFound_109 : decode cX4_isFound 109 = .ok (.iconst 0, 1) := by decide +kernel
theorem dX4_isFound_110 : decode cX4_isFound 110 = .ok (.ireturn, 1) := by decide +kernel
theorem dX4_isFound_111 : decode cX4_isFound 111 = .ok (.aload_n 0, 1) := by decide +kernel
theorem dX4_isFound_112 : decode cX4_isFound 112 = .ok (.getfield 19, 3) := by decide +kernel
theorem dX4_isFound_115 : decode cX4_isFound 115 = .ok (.iload_n 1, 1) := by decide +kernel
theorem dX4_isFound_116 : decode cX4_isFound 116 = .ok (.iaload, 1) := by decide +kernel
theorem dX4_isFound_117 : decode cX4_isFound 117 = .ok (.iload_n 3, 1) := by decide +kernel
theorem dX4_isFound_118 : decode cX4_isFound 118 = .ok (.if_icmp .ne 7, 3) := by decide +kernel
theorem dX4_isFound_121 : decode cX4_isFound 121 = .ok (.iconst 1, 1) := by decide +kernel
theorem dX4_isFound_122 : decode cX4_isFound 122 = .ok (.goto 4, 3) := by decide +kernel
theorem dX4_isFound_125 : decode cX4_isFound 125 = .ok (.iconst 0, 1) := by decide +kernel
theorem dX4_isFound_126 : decode cX4_isFound 126 = .ok (.ireturn, 1) := by decide +kernel
set_option maxRecDepth 20000 in
theorem ggX4_find_X4_mayBeFound : GoodIn wsX4_find wsX4_mayBeFound := goodIn_r _ [11, 12, 13, 10, 14] (by decide +kernel) (by decide +kernel)
set_option maxRecDepth 20000 in
theorem gX4_find_X4_mayBeFound : GoodIn wsX4_find (va_wsS RX4 94 yX4_mayBeFound wsX4_mayBeFound) := goodIn_app (goodIn_of _ (by decide +kernel)) ggX4_find_X4_mayBeFound
set_option maxRecDepth 20000 in
theorem ggX4_find_X4_isFound : GoodIn wsX4_find wsX4_isFound := goodIn_r _ [18, 19, 7, 20, 21, 22, 12, 13, 10, 14, 30, 31, 32, 33, 34, 35, 36, 37, 38, 39, 40, 41, 42, 43, 44, 45] (by decide +kernel) (by decide +kernel)
set_option maxRecDepth 20000 in
theorem gX4_find_X4_isFound : GoodIn wsX4_find (wsV RX4 97 RX4 yX4_isFound wsX4_isFound) := goodIn_app (goodIn_of _ (by decide +kernel)) ggX4_find_X4_isFound
set_option maxRecDepth 20000 in
theorem ggX4_find_X4_bits : GoodIn wsX4_find wsX4_bits := goodIn_r _ [25] (by decide +kernel) (by decide +kernel)
set_option maxRecDepth 20000 in
theorem gX4_find_X4_bits : GoodIn wsX4_find (va_wsS RX4 101 yX4_bits wsX4_bits) := goodIn_app (goodIn_of _ (by decide +kernel)) ggX4_find_X4_bits
set_option maxRecDepth 20000 in
theorem ggX4_find_X4_sizeOf : GoodIn wsX4_find wsX4_sizeOf := goodIn_r _ [29, 3, 4, 30, 31, 32, 33, 34, 35, 36, 37, 38, 39, 40, 41, 42, 43, 44, 45] (by decide +kernel) (by decide +kernel)
set_option maxRecDepth 20000 in
theorem gX4_find_X4_sizeOf : GoodIn wsX4_find (wsV RX4 104 RX4 yX4_sizeOf wsX4_sizeOf) := goodIn_app (goodIn_of _ (by decide +kernel)) ggX4_find_X4_sizeOf
theorem dX4_find_0 : decode cX4_find 0 = .ok (.aload_n 0, 1) := by decide +kernel
theorem dX4_find_1 : decode cX4_find 1 = .ok (.iconst 0, 1) := by decide +kernel
theorem dX4_find_2 : decode cX4_find 2 = .ok (.putfield 45, 3) := by decide +kernel
theorem dX4_find_5 : decode cX4_find 5 = .ok (.iload_n 1, 1) := by decide +kernel
theorem dX4_find_6 : decode cX4_find 6 = .ok (.iload_n 2, 1) := by decide +kernel
theorem dX4_find_7 : decode cX4_find 7 = .ok (.iload_n 3, 1) := by decide +kernel
theorem dX4_find_8 : decode cX4_find 8 = .ok (.invokestatic 94, 3) := by decide +kernel
theorem dX4_find_11 : decode cX4_find 11 = .ok (.ifCond .ne 6, 3) := by decide +kernel
theorem dX4_find_14 : decode cX4_find 14 = .ok (.bipush (-2), 2) := by decide +kernel
theorem dX4_find_16 : decode cX4_find 16 = .ok (.ireturn, 1) := by decide +kernel
theorem dX4_find_17 : decode cX4_find 17 = .ok (.aload_n 0, 1) := by decide +kernel
theorem dX4_find_18 : decode cX4_find 18 = .ok (.getfield 59, 3) := by decide +kernel
theorem dX4_find_21 : decode cX4_find 21 = .ok (.bipush 8, 2) := by decide +kernel
theorem dX4_find_23 : decode cX4_find 23 = .ok (.if_icmp .ne 6, 3) := by decide +kernel
theorem dX4_find_26 : decode cX4_find 26 = .ok (.bipush (-4), 2) := by decide +kernel
theorem dX4_find_28 : decode cX4_find 28 = .ok (.ireturn, 1) := by decide +kernel
theorem dX4_find_29 : decode cX4_find 29 = .ok (.iconst 0, 1) := by decide +kernel
theorem dX4_find_30 : decode cX4_find 30 = .ok (.istore 4, 2) := by decide +kernel
theorem dX4_find_32 : decode cX4_find 32 = .ok (.iload 4, 2) := by decide +kernel
theorem dX4_find_34 : decode cX4_find 34 = .ok (.aload_n 0, 1) := by decide +kernel
theorem dX4_find_35 : decode cX4_find 35 = .ok (.getfield 49, 3) := by decide +kernel
theorem dX4_find_38 : decode cX4_find 38 = .ok (.if_icmp .ge 107, 3) := by decide +kernel
theorem dX4_find_41 : decode cX4_find 41 = .ok (.aload_n 0, 1) := by decide +kernel
theorem dX4_find_42 : decode cX4_find 42 = .ok (.getfield 32, 3) := by decide +kernel
theorem dX4_find_45 : decode cX4_find 45 = .ok (.sipush 200, 3) := by decide +kernel
theorem dX4_find_48 : decode cX4_find 48 = .ok (.aload_n 0, 1) := by decide +kernel
theorem dX4_find_49 : decode cX4_find 49 = .ok (.getfield 59, 3) := by decide +kernel
theorem dX4_find_52 : decode cX4_find 52 = .ok (.imul, 1) := by decide +kernel
theorem dX4_find_53 : decode cX4_find 53 = .ok (.iload 4, 2) := by decide +kernel
theorem dX4_find_55 : decode cX4_find 55 = .ok (.iadd, 1) := by decide +kernel
theorem dX4_find_56 : decode cX4_find 56 = .ok (.aload_n 0, 1) := by decide +kernel
theorem dX4_find_57 : decode cX4_find 57 = .ok (.getfield 25, 3) := by decide +kernel
theorem dX4_find_60 : decode cX4_find 60 = .ok (.iload 4, 2) := by decide +kernel
theorem dX4_find_62 : decode cX4_find 62 = .ok (.baload, 1) := by decide +kernel
theorem dX4_find_63 : decode cX4_find 63 = .ok (.ifCond .eq 19, 3) := by decide +kernel
theorem dX4_find_66 : decode cX4_find 66 = .ok (.aload_n 0, 1) := by decide +kernel
theorem dX4_find_67 : decode cX4_find 67 = .ok (.iload 4, 2) := by decide +kernel
theorem dX4_find_69 : decode cX4_find 69 = .ok (.iload_n 1, 1) := by decide +kernel
theorem dX4_find_70 : decode cX4_find 70 = .ok (.iload_n 2, 1) := by decide +kernel
theorem dX4_find_71 : decode cX4_find 71 = .ok (.iload_n 3, 1) := by decide +kernel
theorem dX4_find_72 : decode cX4_find 72 = .ok (.invokevirtual 97, 3) := by decide +kernel
theorem dX4_find_75 : decode cX4_find 75 = .ok (.ifCond .eq 7, 3) := by decide +kernel
theorem dX4_find_78 : decode cX4_find 78 = .ok (.iconst 1, 1) := by decide +kernel
theorem dX4_find_79 : decode cX4_find 79 = .ok (.goto 4, 3) := by decide +kernel
theorem dX4_find_82 : decode cX4_find 82 = .ok (.iconst 0, 1) := by decide +kernel
theorem dX4_find_83 : decode cX4_find 83 = .ok (.bastore, 1) := by decide +kernel
theorem dX4_find_84 : decode cX4_find 84 = .ok (.aload_n 0, 1) := by decide +kernel
theorem dX4_find_85 : decode cX4_find 85 = .ok (.getfield 35, 3) := by decide +kernel
theorem dX4_find_88 : decode cX4_find 88 = .ok (.sipush 200, 3) := by decide +kernel
theorem dX4_find_91 : decode cX4_find 91 = .ok (.aload_n 0, 1) := by decide +kernel
theorem dX4_find_92 : decode cX4_find 92 = .ok (.getfield 59, 3) := by decide +kernel
theorem dX4_find_95 : decode cX4_find 95 = .ok (.imul, 1) := by decide +kernel
theorem dX4_find_96 : decode cX4_find 96 = .ok (.iload 4, 2) := by decide +kernel
theorem dX4_find_98 : decode cX4_find 98 = .ok (.iadd, 1) := by decide +kernel
theorem dX4_find_99 : decode cX4_find 99 = .ok (.iload_n 1, 1) := by decide +kernel
theorem dX4_find_100 : decode cX4_find 100 = .ok (.iconst 1, 1) := by decide +kernel
theorem dX4_find_101 : decode cX4_find 101 = .ok (.if_icmp .ne 11, 3) := by decide +kernel
theorem dX4_find_104 : decode cX4_find 104 = .ok (.iload_n 2, 1) := by decide +kernel
theorem dX4_find_105 : decode cX4_find 105 = .ok (.invokestatic 101, 3) := by decide +kernel
theorem dX4_find_108 : decode cX4_find 108 = .ok (.i2l, 1) := by decide +kernel
theorem dX4_find_109 : decode cX4_find 109 = .ok (.goto 29, 3) := by decide +kernel
theorem dX4_find_112 : decode cX4_find 112 = .ok (.iload_n 1, 1) := by decide +kernel
theorem dX4_find_113 : decode cX4_find 113 = .ok (.iconst 2, 1) := by decide +kernel
theorem dX4_find_114 : decode cX4_find 114 = .ok (.if_icmp .ne 14, 3) := by decide +kernel
theorem dX4_find_117 : decode cX4_find 117 = .ok (.aload_n 0, 1) := by decide +kernel
theorem dX4_find_118 : decode cX4_find 118 = .ok (.getfield 13, 3) := by decide +kernel
theorem dX4_find_121 : decode cX4_find 121 = .ok (.iload 4, 2) := by decide +kernel
theorem dX4_find_123 : decode cX4_find 123 = .ok (.iaload, 1) := by decide +kernel
theorem dX4_find_124 : decode cX4_find 124 = .ok (.i2l, 1) := by decide +kernel
theorem dX4_find_125 : decode cX4_find 125 = .ok (.goto 13, 3) := by decide +kernel
theorem dX4_find_128 : decode cX4_find 128 = .ok (.iload_n 1, 1) := by decide +kernel
theorem dX4_find_129 : decode cX4_find 129 = .ok (.iconst 4, 1) := by decide +kernel
theorem dX4_find_130 : decode cX4_find 130 = .ok (.if_icmp .lt 7, 3) := by decide +kernel
theorem dX4_find_133 : decode cX4_find 133 = .ok (.lconst 1, 1) := by decide +kernel
theorem dX4_find_134 : decode cX4_find 134 = .ok (.goto 4, 3) := by decide +kernel
theorem dX4_find_137 : decode cX4_find 137 = .ok (.lconst 0, 1) := by decide +kernel
theorem dX4_find_138 : decode cX4_find 138 = .ok (.lastore, 1) := by decide +kernel
theorem dX4_find_139 : decode cX4_find 139 = .ok (.iinc 4 1, 3) := by decide +kernel
theorem dX4_find_142 : decode cX4_find 142 = .ok (.goto (-110), 3) := by decide +kernel
theorem dX4_find_145 : decode cX4_find 145 = .ok (.aload_n 0, 1) := by decide +kernel
theorem dX4_find_146 : decode cX4_find 146 = .ok (.dup, 1) := by decide +kernel
theorem dX4_find_147 : decode cX4_find 147 = .ok (.getfield 59, 3) := by decide +kernel
theorem dX4_find_150 : decode cX4_find 150 = .ok (.iconst 1, 1) := by decide +kernel
theorem dX4_find_151 : decode cX4_find 151 = .ok (.iadd, 1) := by decide +kernel
theorem dX4_find_152 : decode cX4_find 152 = .ok (.putfield 59, 3) := by decide +kernel
theorem dX4_find_155 : decode cX4_find 155 = .ok (.aload_n 0, 1) := by decide +kernel
theorem dX4_find_156 : decode cX4_find 156 = .ok (.aload_n 0, 1) := by decide +kernel
theorem dX4_find_157 : decode cX4_find 157 = .ok (.getfield 59, 3) := by decide +kernel
theorem dX4_find_160 : decode cX4_find 160 = .ok (.iconst 1, 1) := by decide +kernel
theorem dX4_find_161 : decode cX4_find 161 = .ok (.isub, 1) := by decide +kernel
theorem dX4_find_162 : decode cX4_find 162 = .ok (.invokevirtual 104, 3) := by decide +kernel
theorem dX4_find_165 : decode cX4_find 165 = .ok (.ireturn, 1) := by decide +kernel
set_option maxRecDepth 20000 in
theorem ggX4_join_X4_isIn : GoodIn wsX4_join wsX4_isIn := goodIn_r _ [9] (by decide +kernel) (by decide +kernel)
set_option maxRecDepth 20000 in
theorem gX4_join_X4_isIn : GoodIn wsX4_join (va_wsS RX4 52 yX4_isIn wsX4_isIn) := goodIn_app (goodIn_of _ (by decide +kernel)) ggX4_join_X4_isIn
set_option maxRecDepth 20000 in
theorem ggX4_join_X4_sizeOf : GoodIn wsX4_join wsX4_sizeOf := goodIn_r _ [13, 3, 4, 14, 15, 16, 17, 18, 19, 20, 21, 22, 23, 24, 25, 26, 27, 28, 29] (by decide +kernel) (by decide +kernel)
set_option maxRecDepth 20000 in
theorem gX4_join_X4_sizeOf : GoodIn wsX4_join (wsV RX4 104 RX4 yX4_sizeOf wsX4_sizeOf) := goodIn_app (goodIn_of _ (by decide +kernel)) ggX4_join_X4_sizeOf
theorem dX4_join_0 : decode cX4_join 0 = .ok (.aload_n 0, 1) := by decide +kernel
theorem dX4_join_1 : decode cX4_join 1 = .ok (.iconst 0, 1) := by decide +kernel
theorem dX4_join_2 : decode cX4_join 2 = .ok (.putfield 45, 3) := by decide +kernel
theorem dX4_join_5 : decode cX4_join 5 = .ok (.iload_n 1, 1) := by decide +kernel
theorem dX4_join_6 : decode cX4_join 6 = .ok (.iconst 0, 1) := by decide +kernel
theorem dX4_join_7 : decode cX4_join 7 = .ok (.iconst 2, 1) := by decide +kernel
theorem dX4_join_8 : decode cX4_join 8 = .ok (.invokestatic 52, 3) := by decide +kernel
theorem dX4_join_11 : decode cX4_join 11 = .ok (.ifCond .ne 6, 3) := by decide +kernel
theorem dX4_join_14 : decode cX4_join 14 = .ok (.bipush (-2), 2) := by decide +kernel
theorem dX4_join_16 : decode cX4_join 16 = .ok (.ireturn, 1) := by decide +kernel
theorem dX4_join_17 : decode cX4_join 17 = .ok (.aload_n 0, 1) := by decide +kernel
theorem dX4_join_18 : decode cX4_join 18 = .ok (.getfield 59, 3) := by decide +kernel
theorem dX4_join_21 : decode cX4_join 21 = .ok (.iconst 2, 1) := by decide +kernel
theorem dX4_join_22 : decode cX4_join 22 = .ok (.if_icmp .ge 6, 3) := by decide +kernel
theorem dX4_join_25 : decode cX4_join 25 = .ok (.bipush (-3), 2) := by decide +kernel
theorem dX4_join_27 : decode cX4_join 27 = .ok (.ireturn, 1) := by decide +kernel
theorem dX4_join_28 : decode cX4_join 28 = .ok (.sipush 200, 3) := by decide +kernel
theorem dX4_join_31 : decode cX4_join 31 = .ok (.aload_n 0, 1) := by decide +kernel
theorem dX4_join_32 : decode cX4_join 32 = .ok (.getfield 59, 3) := by decide +kernel
theorem dX4_join_35 : decode cX4_join 35 = .ok (.iconst 2, 1) := by decide +kernel
theorem dX4_join_36 : decode cX4_join 36 = .ok (.isub, 1) := by decide +kernel
theorem dX4_join_37 : decode cX4_join 37 = .ok (.imul, 1) := by decide +kernel
theorem dX4_join_38 : decode cX4_join 38 = .ok (.istore_n 2, 1) := by decide +kernel
theorem dX4_join_39 : decode cX4_join 39 = .ok (.sipush 200, 3) := by decide +kernel
theorem dX4_join_42 : decode cX4_join 42 = .ok (.aload_n 0, 1) := by decide +kernel
theorem dX4_join_43 : decode cX4_join 43 = .ok (.getfield 59, 3) := by decide +kernel
theorem dX4_join_46 : decode cX4_join 46 = .ok (.iconst 1, 1) := by decide +kernel
theorem dX4_join_47 : decode cX4_join 47 = .ok (.isub, 1) := by decide +kernel
theorem dX4_join_48 : decode cX4_join 48 = .ok (.imul, 1) := by decide +kernel
theorem dX4_join_49 : decode cX4_join 49 = .ok (.istore_n 3, 1) := by decide +kernel
theorem dX4_join_50 : decode cX4_join 50 = .ok (.iconst 0, 1) := by decide +kernel
theorem dX4_join_51 : decode cX4_join 51 = .ok (.istore 4, 2) := by decide +kernel
theorem dX4_join_53 : decode cX4_join 53 = .ok (.iload 4, 2) := by decide +kernel
theorem dX4_join_55 : decode cX4_join 55 = .ok (.aload_n 0, 1) := by decide +kernel
theorem dX4_join_56 : decode cX4_join 56 = .ok (.getfield 49, 3) := by decide +kernel
theorem dX4_join_59 : decode cX4_join 59 = .ok (.if_icmp .ge 151, 3) := by decide +kernel
theorem dX4_join_62 : decode cX4_join 62 = .ok (.aload_n 0, 1) := by decide +kernel
theorem dX4_join_63 : decode cX4_join 63 = .ok (.getfield 32, 3) := by decide +kernel
theorem dX4_join_66 : decode cX4_join 66 = .ok (.iload_n 2, 1) := by decide +kernel
theorem dX4_join_67 : decode cX4_join 67 = .ok (.iload 4, 2) := by decide +kernel
theorem dX4_join_69 : decode cX4_join 69 = .ok (.iadd, 1) := by decide +kernel
theorem dX4_join_70 : decode cX4_join 70 = .ok (.baload, 1) := by decide +kernel
theorem dX4_join_71 : decode cX4_join 71 = .ok (.istore 5, 2) := by decide +kernel
theorem dX4_join_73 : decode cX4_join 73 = .ok (.aload_n 0, 1) := by decide +kernel
theorem dX4_join_74 : decode cX4_join 74 = .ok (.getfield 32, 3) := by decide +kernel
theorem dX4_join_77 : decode cX4_join 77 = .ok (.iload_n 3, 1) := by decide +kernel
theorem dX4_join_78 : decode cX4_join 78 = .ok (.iload 4, 2) := by decide +kernel
theorem dX4_join_80 : decode cX4_join 80 = .ok (.iadd, 1) := by decide +kernel
theorem dX4_join_81 : decode cX4_join 81 = .ok (.baload, 1) := by decide +kernel
theorem dX4_join_82 : decode cX4_join 82 = .ok (.istore 6, 2) := by decide +kernel
theorem dX4_join_84 : decode cX4_join 84 = .ok (.iload_n 1, 1) := by decide +kernel
theorem dX4_join_85 : decode cX4_join 85 = .ok (.iconst 2, 1) := by decide +kernel
theorem dX4_join_86 : decode cX4_join 86 = .ok (.if_icmp .ge 49, 3) := by decide +kernel
theorem dX4_join_89 : decode cX4_join 89 = .ok (.aload_n 0, 1) := by decide +kernel
theorem dX4_join_90 : decode cX4_join 90 = .ok (.getfield 35, 3) := by decide +kernel
theorem dX4_join_93 : decode cX4_join 93 = .ok (.iload_n 2, 1) := by decide +kernel
theorem dX4_join_94 : decode cX4_join 94 = .ok (.iload 4, 2) := by decide +kernel
theorem dX4_join_96 : decode cX4_join 96 = .ok (.iadd, 1) := by decide +kernel
theorem dX4_join_97 : decode cX4_join 97 = .ok (.iload 5, 2) := by decide +kernel
theorem dX4_join_99 : decode cX4_join 99 = .ok (.ifCond .eq 15, 3) := by decide +kernel
theorem dX4_join_102 : decode cX4_join 102 = .ok (.aload_n 0, 1) := by decide +kernel
theorem dX4_join_103 : decode cX4_join 103 = .ok (.getfield 35, 3) := by decide +kernel
theorem dX4_join_106 : decode cX4_join 106 = .ok (.iload_n 2, 1) := by decide +kernel
theorem dX4_join_107 : decode cX4_join 107 = .ok (.iload 4, 2) := by decide +kernel
theorem dX4_join_109 : decode cX4_join 109 = .ok (.iadd, 1) := by decide +kernel
theorem dX4_join_110 : decode cX4_join 110 = .ok (.laload, 1) := by decide +kernel
theorem dX4_join_111 : decode cX4_join 111 = .ok (.goto 4, 3) := by decide +kernel
theorem dX4_join_114 : decode cX4_join 114 = .ok (.lconst 0, 1) := by decide +kernel
theorem dX4_join_115 : decode cX4_join 115 = .ok (.iload 6, 2) := by decide +kernel
theorem dX4_join_117 : decode cX4_join 117 = .ok (.ifCond .eq 15, 3) := by decide +kernel
theorem dX4_join_120 : decode cX4_join 120 = .ok (.aload_n 0, 1) := by decide +kernel
theorem dX4_join_121 : decode cX4_join 121 = .ok (.getfield 35, 3) := by decide +kernel
theorem dX4_join_124 : decode cX4_join 124 = .ok (.iload_n 3, 1) := by decide +kernel
theorem dX4_join_125 : decode cX4_join 125 = .ok (.iload 4, 2) := by decide +kernel
theorem dX4_join_127 : decode cX4_join 127 = .ok (.iadd, 1) := by decide +kernel
theorem dX4_join_128 : decode cX4_join 128 = .ok (.laload, 1) := by decide +kernel
theorem dX4_join_129 : decode cX4_join 129 = .ok (.goto 4, 3) := by decide +kernel
theorem dX4_join_132 : decode cX4_join 132 = .ok (.lconst 0, 1) := by decide +kernel
theorem dX4_join_133 : decode cX4_join 133 = .ok (.ladd, 1) := by decide +kernel
theorem dX4_join_134 : decode cX4_join 134 = .ok (.lastore, 1) := by decide +kernel
theorem dX4_join_135 : decode cX4_join 135 = .ok (.aload_n 0, 1) := by decide +kernel
theorem dX4_join_136 : decode cX4_join 136 = .ok (.getfield 32, 3) := by decide +kernel
theorem dX4_join_139 : decode cX4_join 139 = .ok (.iload_n 2, 1) := by decide +kernel
theorem dX4_join_140 : decode cX4_join 140 = .ok (.iload 4, 2) := by decide +kernel
theorem dX4_join_142 : decode cX4_join 142 = .ok (.iadd, 1) := by decide +kernel
theorem dX4_join_143 : decode cX4_join 143 = .ok (.iload_n 1, 1) := by decide +kernel
theorem dX4_join_144 : decode cX4_join 144 = .ok (.ifCond .ne 21, 3) := by decide +kernel
theorem dX4_join_147 : decode cX4_join 147 = .ok (.iload 5, 2) := by decide +kernel
theorem dX4_join_149 : decode cX4_join 149 = .ok (.ifCond .eq 12, 3) := by decide +kernel
theorem dX4_join_152 : decode cX4_join 152 = .ok (.iload 6, 2) := by decide +kernel
theorem dX4_join_154 : decode cX4_join 154 = .ok (.ifCond .eq 7, 3) := by decide +kernel
theorem dX4_join_157 : decode cX4_join 157 = .ok (.iconst 1, 1) := by decide +kernel
theorem dX4_join_158 : decode cX4_join 158 = .ok (.goto 45, 3) := by decide +kernel
theorem dX4_join_161 : decode cX4_join 161 = .ok (.iconst 0, 1) := by decide +kernel
theorem dX4_join_162 : decode cX4_join 162 = .ok (.goto 41, 3) := by decide +kernel
theorem dX4_join_165 : decode cX4_join 165 = .ok (.iload_n 1, 1) := by decide +kernel
theorem dX4_join_166 : decode cX4_join 166 = .ok (.iconst 1, 1) := by decide +kernel
theorem dX4_join_167 : decode cX4_join 167 = .ok (.if_icmp .ne 21, 3) := by decide +kernel
theorem dX4_join_170 : decode cX4_join 170 = .ok (.iload 5, 2) := by decide +kernel
theorem dX4_join_172 : decode cX4_join 172 = .ok (.ifCond .ne 8, 3) := by decide +kernel
theorem dX4_join_175 : decode cX4_join 175 = .ok (.iload 6, 2) := by decide +kernel
theorem dX4_join_177 : decode cX4_join 177 = .ok (.ifCond .eq 7, 3) := by decide +kernel
theorem dX4_join_180 : decode cX4_join 180 = .ok (.iconst 1, 1) := by decide +kernel
theorem dX4_join_181 : decode cX4_join 181 = .ok (.goto 22, 3) := by decide +kernel
theorem dX4_join_184 : decode cX4_join 184 = .ok (.iconst 0, 1) := by decide +kernel
theorem dX4_join_185 : decode cX4_join 185 = .ok (.goto 18, 3) := by decide +kernel
theorem dX4_join_188 : decode cX4_join 188 = .ok (.iload 5, 2) := by decide +kernel
theorem dX4_join_190 : decode cX4_join 190 = .ok (.ifCond .eq 12, 3) := by decide +kernel
theorem dX4_join_193 : decode cX4_join 193 = .ok (.iload 6, 2) := by decide +kernel
theorem dX4_join_195 : decode cX4_join 195 = .ok (.ifCond .ne 7, 3) := by decide +kernel
theorem dX4_join_198 : decode cX4_join 198 = .ok (.iconst 1, 1) := by decide +kernel
theorem dX4_join_199 : decode cX4_join 199 = .ok (.goto 4, 3) := by decide +kernel
theorem dX4_join_202 : decode cX4_join 202 = .ok (.iconst 0, 1) := by decide +kernel
theorem dX4_join_203 : decode cX4_join 203 = .ok (.bastore, 1) := by decide +kernel
theorem dX4_join_204 : decode cX4_join 204 = .ok (.iinc 4 1, 3) := by decide +kernel
theorem dX4_join_207 : decode cX4_join 207 = .ok (.goto (-154), 3) := by decide +kernel
theorem dX4_join_210 : decode cX4_join 210 = .ok (.aload_n 0, 1) := by decide +kernel
theorem dX4_join_211 : decode cX4_join 211 = .ok (.dup, 1) := by decide +kernel
theorem dX4_join_212 : decode cX4_join 212 = .ok (.getfield 59, 3) := by decide +kernel
theorem dX4_join_215 : decode cX4_join 215 = .ok (.iconst 1, 1) := by decide +kernel
theorem dX4_join_216 : decode cX4_join 216 = .ok (.isub, 1) := by decide +kernel
theorem dX4_join_217 : decode cX4_join 217 = .ok (.putfield 59, 3) := by decide +kernel
theorem dX4_join_220 : decode cX4_join 220 = .ok (.aload_n 0, 1) := by decide +kernel
theorem dX4_join_221 : decode cX4_join 221 = .ok (.aload_n 0, 1) := by decide +kernel
theorem dX4_join_222 : decode cX4_join 222 = .ok (.getfield 59, 3) := by decide +kernel
theorem dX4_join_225 : decode cX4_join 225 = .ok (.iconst 1, 1) := by decide +kernel
theorem dX4_join_226 : decode cX4_join 226 = .ok (.isub, 1) := by decide +kernel
theorem dX4_join_227 : decode cX4_join 227 = .ok (.invokevirtual 104, 3) := by decide +kernel
theorem dX4_join_230 : decode cX4_join 230 = .ok (.ireturn, 1) := by decide +kernel
theorem dX4_takeLast_0 : decode cX4_takeLast 0 = .ok (.sipush 200, 3) := by decide +kernel
theorem dX4_takeLast_3 : decode cX4_takeLast 3 = .ok (.aload_n 0, 1) := by decide +kernel
theorem dX4_takeLast_4 : decode cX4_takeLast 4 = .ok (.getfield 59, 3) := by decide +kernel
theorem dX4_takeLast_7 : decode cX4_takeLast 7 = .ok (.iconst 1, 1) := by decide +kernel
theorem dX4_takeLast_8 : decode cX4_takeLast 8 = .ok (.isub, 1) := by decide +kernel
theorem dX4_takeLast_9 : decode cX4_takeLast 9 = .ok (.imul, 1) := by decide +kernel
theorem dX4_takeLast_10 : decode cX4_takeLast 10 = .ok (.istore_n 1, 1) := by decide +kernel
theorem dX4_takeLast_11 : decode cX4_takeLast 11 = .ok (.iconst 0, 1) := by decide +kernel
theorem dX4_takeLast_12 : decode cX4_takeLast 12 = .ok (.istore_n 2, 1) := by decide +kernel
theorem dX4_takeLast_13 : decode cX4_takeLast 13 = .ok (.iload_n 2, 1) := by decide +kernel
theorem dX4_takeLast_14 : decode cX4_takeLast 14 = .ok (.aload_n 0, 1) := by decide +kernel
theorem dX4_takeLast_15 : decode cX4_takeLast 15 = .ok (.getfield 49, 3) := by decide +kernel
theorem dX4_takeLast_18 : decode cX4_takeLast 18 = .ok (.if_icmp .ge 55, 3) := by decide +kernel
theorem dX4_takeLast_21 : decode cX4_takeLast 21 = .ok (.aload_n 0, 1) := by decide +kernel
theorem dX4_takeLast_22 : decode cX4_takeLast 22 = .ok (.getfield 39, 3) := by decide +kernel
theorem dX4_takeLast_25 : decode cX4_takeLast 25 = .ok (.iload_n 2, 1) := by decide +kernel
theorem dX4_takeLast_26 : decode cX4_takeLast 26 = .ok (.aload_n 0, 1) := by decide +kernel
theorem dX4_takeLast_27 : decode cX4_takeLast 27 = .ok (.getfield 32, 3) := by decide +kernel
theorem dX4_takeLast_30 : decode cX4_takeLast 30 = .ok (.iload_n 1, 1) := by decide +kernel
theorem dX4_takeLast_31 : decode cX4_takeLast 31 = .ok (.iload_n 2, 1) := by decide +kernel
theorem dX4_takeLast_32 : decode cX4_takeLast 32 = .ok (.iadd, 1) := by decide +kernel
theorem dX4_takeLast_33 : decode cX4_takeLast 33 = .ok (.baload, 1) := by decide +kernel
theorem dX4_takeLast_34 : decode cX4_takeLast 34 = .ok (.bastore, 1) := by decide +kernel
theorem dX4_takeLast_35 : decode cX4_takeLast 35 = .ok (.aload_n 0, 1) := by decide +kernel
theorem dX4_takeLast_36 : decode cX4_takeLast 36 = .ok (.getfield 42, 3) := by decide +kernel
theorem dX4_takeLast_39 : decode cX4_takeLast 39 = .ok (.iload_n 2, 1) := by decide +kernel
theorem dX4_takeLast_40 : decode cX4_takeLast 40 = .ok (.aload_n 0, 1) := by decide +kernel
theorem dX4_takeLast_41 : decode cX4_takeLast 41 = .ok (.getfield 35, 3) := by decide +kernel
theorem dX4_takeLast_44 : decode cX4_takeLast 44 = .ok (.iload_n 1, 1) := by decide +kernel
theorem dX4_takeLast_45 : decode cX4_takeLast 45 = .ok (.iload_n 2, 1) := by decide +kernel
theorem dX4_takeLast_46 : decode cX4_takeLast 46 = .ok (.iadd, 1) := by decide +kernel
theorem dX4_takeLast_47 : decode cX4_takeLast 47 = .ok (.laload, 1) := by decide +kernel
theorem dX4_takeLast_48 : decode cX4_takeLast 48 = .ok (.lastore, 1) := by decide +kernel
theorem dX4_takeLast_49 : decode cX4_takeLast 49 = .ok (.aload_n 0, 1) := by decide +kernel
theorem dX4_takeLast_50 : decode cX4_takeLast 50 = .ok (.getfield 32, 3) := by decide +kernel
theorem dX4_takeLast_53 : decode cX4_takeLast 53 = .ok (.iload_n 1, 1) := by decide +kernel
theorem dX4_takeLast_54 : decode cX4_takeLast 54 = .ok (.iload_n 2, 1) := by decide +kernel
theorem dX4_takeLast_55 : decode cX4_takeLast 55 = .ok (.iadd, 1) := by decide +kernel
theorem dX4_takeLast_56 : decode cX4_takeLast 56 = .ok (.iconst 0, 1) := by decide +kernel
theorem dX4_takeLast_57 : decode cX4_takeLast 57 = .ok (.bastore, 1) := by decide +kernel
theorem dX4_takeLast_58 : decode cX4_takeLast 58 = .ok (.aload_n 0, 1) := by decide +kernel
theorem dX4_takeLast_59 : decode cX4_takeLast 59 = .ok (.getfield 35, 3) := by decide +kernel
theorem dX4_takeLast_62 : decode cX4_takeLast 62 = .ok (.iload_n 1, 1) := by decide +kernel
theorem dX4_takeLast_63 : decode cX4_takeLast 63 = .ok (.iload_n 2, 1) := by decide +kernel
theorem dX4_takeLast_64 : decode cX4_takeLast 64 = .ok (.iadd, 1) := by decide +kernel
theorem dX4_takeLast_65 : decode cX4_takeLast 65 = .ok (.lconst 0, 1) := by decide +kernel
theorem dX4_takeLast_66 : decode cX4_takeLast 66 = .ok (.lastore, 1) := by decide +kernel
theorem dX4_takeLast_67 : decode cX4_takeLast 67 = .ok (.iinc 2 1, 3) := by decide +kernel
theorem dX4_takeLast_70 : decode cX4_takeLast 70 = .ok (.goto (-57), 3) := by decide +kernel
theorem dX4_takeLast_73 : decode cX4_takeLast 73 = .ok (.return_, 1) := by decide +kernel
set_option maxRecDepth 20000 in
theorem ggX4_up_X4_isIn : GoodIn wsX4_up wsX4_isIn := goodIn_r _ [13] (by decide +kernel) (by decide +kernel)
set_option maxRecDepth 20000 in
theorem gX4_up_X4_isIn : GoodIn wsX4_up (va_wsS RX4 52 yX4_isIn wsX4_isIn) := goodIn_app (goodIn_of _ (by decide +kernel)) ggX4_up_X4_isIn
set_option maxRecDepth 20000 in
theorem ggX4_up_X4_takeLast : GoodIn wsX4_up wsX4_takeLast := goodIn_r _ [17, 2, 4, 6, 5, 8, 7, 30, 31, 32, 33, 34, 35, 36, 37, 38, 39, 40, 41, 42, 43, 44, 45] (by decide +kernel) (by decide +kernel)
set_option maxRecDepth 20000 in
theorem gX4_up_X4_takeLast : GoodIn wsX4_up (wsV RX4 107 RX4 yX4_takeLast wsX4_takeLast) := goodIn_app (goodIn_of _ (by decide +kernel)) ggX4_up_X4_takeLast
set_option maxRecDepth 20000 in
theorem ggX4_up_X4_isAbove : GoodIn wsX4_up wsX4_isAbove := goodIn_r _ [21, 22, 23, 24, 12, 25, 9, 30, 31, 32, 33, 34, 35, 36, 37, 38, 39, 40, 41, 42, 43, 44, 45] (by decide +kernel) (by decide +kernel)
set_option maxRecDepth 20000 in
theorem gX4_up_X4_isAbove : GoodIn wsX4_up (wsV RX4 83 RX4 yX4_isAbove wsX4_isAbove) := goodIn_app (goodIn_of _ (by decide +kernel)) ggX4_up_X4_isAbove
set_option maxRecDepth 20000 in
theorem ggX4_up_X4_sizeOf : GoodIn wsX4_up wsX4_sizeOf := goodIn_r _ [29, 4, 5, 30, 31, 32, 33, 34, 35, 36, 37, 38, 39, 40, 41, 42, 43, 44, 45] (by decide +kernel) (by decide +kernel)
set_option maxRecDepth 20000 in
theorem gX4_up_X4_sizeOf : GoodIn wsX4_up (wsV RX4 104 RX4 yX4_sizeOf wsX4_sizeOf) := goodIn_app (goodIn_of _ (by decide +kernel)) ggX4_up_X4_sizeOf
theorem dX4_up_0 : decode cX4_up 0 = .ok (.aload_n 0, 1) := by decide +kernel
theorem dX4_up_1 : decode cX4_up 1 = .ok (.iconst 0, 1) := by decide +kernel
theorem dX4_up_2 : decode cX4_up 2 = .ok (.putfield 45, 3) := by decide +kernel
theorem dX4_up_5 : decode cX4_up 5 = .ok (.iload_n 1, 1) := by decide +kernel
theorem dX4_up_6 : decode cX4_up 6 = .ok (.iconst 1, 1) := by decide +kernel
theorem dX4_up_7 : decode cX4_up 7 = .ok (.iconst 2, 1) := by decide +kernel
theorem dX4_up_8 : decode cX4_up 8 = .ok (.invokestatic 52, 3) := by decide +kernel
theorem dX4_up_11 : decode cX4_up 11 = .ok (.ifCond .eq 12, 3) := by decide +kernel
theorem dX4_up_14 : decode cX4_up 14 = .ok (.iload_n 2, 1) := by decide +kernel
theorem dX4_up_15 : decode cX4_up 15 = .ok (.iconst 0, 1) := by decide +kernel
theorem dX4_up_16 : decode cX4_up 16 = .ok (.iconst 4, 1) := by decide +kernel
theorem dX4_up_17 : decode cX4_up 17 = .ok (.invokestatic 52, 3) := by decide +kernel
theorem dX4_up_20 : decode cX4_up 20 = .ok (.ifCond .ne 6, 3) := by decide +kernel
theorem dX4_up_23 : decode cX4_up 23 = .ok (.bipush (-2), 2) := by decide +kernel
theorem dX4_up_25 : decode cX4_up 25 = .ok (.ireturn, 1) := by decide +kernel
theorem dX4_up_26 : decode cX4_up 26 = .ok (.aload_n 0, 1) := by decide +kernel
theorem dX4_up_27 : decode cX4_up 27 = .ok (.getfield 59, 3) := by decide +kernel
theorem dX4_up_30 : decode cX4_up 30 = .ok (.ifCond .ne 6, 3) := by decide +kernel
theorem dX4_up_33 : decode cX4_up 33 = .ok (.bipush (-3), 2) := by decide +kernel
theorem dX4_up_35 : decode cX4_up 35 = .ok (.ireturn, 1) := by decide +kernel
theorem dX4_up_36 : decode cX4_up 36 = .ok (.aload_n 0, 1) := by decide +kernel
theorem dX4_up_37 : decode cX4_up 37 = .ok (.invokevirtual 107, 3) := by decide +kernel
theorem dX4_up_40 : decode cX4_up 40 = .ok (.aload_n 0, 1) := by decide +kernel
theorem dX4_up_41 : decode cX4_up 41 = .ok (.iconst 1, 1) := by decide +kernel
theorem dX4_up_42 : decode cX4_up 42 = .ok (.putfield 62, 3) := by decide +kernel
theorem dX4_up_45 : decode cX4_up 45 = .ok (.iconst 0, 1) := by decide +kernel
theorem dX4_up_46 : decode cX4_up 46 = .ok (.istore_n 3, 1) := by decide +kernel
theorem dX4_up_47 : decode cX4_up 47 = .ok (.iload_n 3, 1) := by decide +kernel
theorem dX4_up_48 : decode cX4_up 48 = .ok (.aload_n 0, 1) := by decide +kernel
theorem dX4_up_49 : decode cX4_up 49 = .ok (.getfield 49, 3) := by decide +kernel
theorem dX4_up_52 : decode cX4_up 52 = .ok (.if_icmp .ge 41, 3) := by decide +kernel
theorem dX4_up_55 : decode cX4_up 55 = .ok (.aload_n 0, 1) := by decide +kernel
theorem dX4_up_56 : decode cX4_up 56 = .ok (.getfield 32, 3) := by decide +kernel
theorem dX4_up_59 : decode cX4_up 59 = .ok (.sipush 1600, 3) := by decide +kernel
theorem dX4_up_62 : decode cX4_up 62 = .ok (.iload_n 3, 1) := by decide +kernel
theorem dX4_up_63 : decode cX4_up 63 = .ok (.iadd, 1) := by decide +kernel
theorem dX4_up_64 : decode cX4_up 64 = .ok (.aload_n 0, 1) := by decide +kernel
theorem dX4_up_65 : decode cX4_up 65 = .ok (.getfield 39, 3) := by decide +kernel
theorem dX4_up_68 : decode cX4_up 68 = .ok (.iload_n 3, 1) := by decide +kernel
theorem dX4_up_69 : decode cX4_up 69 = .ok (.baload, 1) := by decide +kernel
theorem dX4_up_70 : decode cX4_up 70 = .ok (.bastore, 1) := by decide +kernel
theorem dX4_up_71 : decode cX4_up 71 = .ok (.aload_n 0, 1) := by decide +kernel
theorem dX4_up_72 : decode cX4_up 72 = .ok (.getfield 35, 3) := by decide +kernel
theorem dX4_up_75 : decode cX4_up 75 = .ok (.sipush 1600, 3) := by decide +kernel
theorem dX4_up_78 : decode cX4_up 78 = .ok (.iload_n 3, 1) := by decide +kernel
theorem dX4_up_79 : decode cX4_up 79 = .ok (.iadd, 1) := by decide +kernel
theorem dX4_up_80 : decode cX4_up 80 = .ok (.aload_n 0, 1) := by decide +kernel
theorem dX4_up_81 : decode cX4_up 81 = .ok (.getfield 42, 3) := by decide +kernel
theorem dX4_up_84 : decode cX4_up 84 = .ok (.iload_n 3, 1) := by decide +kernel
theorem dX4_up_85 : decode cX4_up 85 = .ok (.laload, 1) := by decide +kernel
theorem dX4_up_86 : decode cX4_up 86 = .ok (.lastore, 1) := by decide +kernel
theorem dX4_up_87 : decode cX4_up 87 = .ok (.iinc 3 1, 3) := by decide +kernel
theorem dX4_up_90 : decode cX4_up 90 = .ok (.goto (-43), 3) := by decide +kernel
theorem dX4_up_93 : decode cX4_up 93 = .ok (.sipush 200, 3) := by decide +kernel
theorem dX4_up_96 : decode cX4_up 96 = .ok (.aload_n 0, 1) := by decide +kernel
theorem dX4_up_97 : decode cX4_up 97 = .ok (.getfield 59, 3) := by decide +kernel
theorem dX4_up_100 : decode cX4_up 100 = .ok (.iconst 1, 1) := by decide +kernel
theorem dX4_up_101 : decode cX4_up 101 = .ok (.isub, 1) := by decide +kernel
theorem dX4_up_102 : decode cX4_up 102 = .ok (.imul, 1) := by decide +kernel
theorem dX4_up_103 : decode cX4_up 103 = .ok (.istore_n 3, 1) := by decide +kernel
theorem dX4_up_104 : decode cX4_up 104 = .ok (.iconst 0, 1) := by decide +kernel
theorem dX4_up_105 : decode cX4_up 105 = .ok (.istore 4, 2) := by decide +kernel
theorem dX4_up_107 : decode cX4_up 107 = .ok (.iload 4, 2) := by decide +kernel
theorem dX4_up_109 : decode cX4_up 109 = .ok (.aload_n 0, 1) := by decide +kernel
theorem dX4_up_110 : decode cX4_up 110 = .ok (.getfield 49, 3) := by decide +kernel
theorem dX4_up_113 : decode cX4_up 113 = .ok (.if_icmp .ge 223, 3) := by decide +kernel
theorem dX4_up_116 : decode cX4_up 116 = .ok (.aload_n 0, 1) := by decide +kernel
theorem dX4_up_117 : decode cX4_up 117 = .ok (.getfield 7, 3) := by decide +kernel
theorem dX4_up_120 : decode cX4_up 120 = .ok (.iload 4, 2) := by decide +kernel
theorem dX4_up_122 : decode cX4_up 122 = .ok (.iaload, 1) := by decide +kernel
theorem dX4_up_123 : decode cX4_up 123 = .ok (.iload_n 1, 1) := by decide +kernel
theorem dX4_up_124 : decode cX4_up 124 = .ok (.if_icmp .eq 6, 3) := by decide +kernel
theorem dX4_up_127 : decode cX4_up 127 = .ok (.goto 203, 3) := by decide +kernel
theorem dX4_up_130 : decode cX4_up 130 = .ok (.lconst 0, 1) := by decide +kernel
theorem dX4_up_131 : decode cX4_up 131 = .ok (.lstore 5, 2) := by decide +kernel
theorem dX4_up_133 : decode cX4_up 133 = .ok (.lconst 0, 1) := by decide +kernel
theorem dX4_up_134 : decode cX4_up 134 = .ok (.lstore 7, 2) := by decide +kernel
theorem dX4_up_136 : decode cX4_up 136 = .ok (.lconst 0, 1) := by decide +kernel
theorem dX4_up_137 : decode cX4_up 137 = .ok (.lstore 9, 2) := by decide +kernel
theorem dX4_up_139 : decode cX4_up 139 = .ok (.iconst 0, 1) := by decide +kernel
theorem dX4_up_140 : decode cX4_up 140 = .ok (.istore 11, 2) := by decide +kernel
theorem dX4_up_142 : decode cX4_up 142 = .ok (.iconst 0, 1) := by decide +kernel
theorem dX4_up_143 : decode cX4_up 143 = .ok (.istore 12, 2) := by decide +kernel
theorem dX4_up_145 : decode cX4_up 145 = .ok (.iload 12, 2) := by decide +kernel
theorem dX4_up_147 : decode cX4_up 147 = .ok (.aload_n 0, 1) := by decide +kernel
theorem dX4_up_148 : decode cX4_up 148 = .ok (.getfield 49, 3) := by decide +kernel
theorem dX4_up_151 : decode cX4_up 151 = .ok (.if_icmp .ge 109, 3) := by decide +kernel
theorem dX4_up_154 : decode cX4_up 154 = .ok (.aload_n 0, 1) := by decide +kernel
theorem dX4_up_155 : decode cX4_up 155 = .ok (.getfield 39, 3) := by decide +kernel
theorem dX4_up_158 : decode cX4_up 158 = .ok (.iload 12, 2) := by decide +kernel
theorem dX4_up_160 : decode cX4_up 160 = .ok (.baload, 1) := by decide +kernel
theorem dX4_up_161 : decode cX4_up 161 = .ok (.ifCond .eq 93, 3) := by decide +kernel
theorem dX4_up_164 : decode cX4_up 164 = .ok (.aload_n 0, 1) := by decide +kernel
theorem dX4_up_165 : decode cX4_up 165 = .ok (.iload 4, 2) := by decide +kernel
theorem dX4_up_167 : decode cX4_up 167 = .ok (.iload 12, 2) := by decide +kernel
theorem dX4_up_169 : decode cX4_up 169 = .ok (.invokevirtual 83, 3) := by decide +kernel
theorem dX4_up_172 : decode cX4_up 172 = .ok (.ifCond .eq 82, 3) := by decide +kernel
theorem dX4_up_175 : decode cX4_up 175 = .ok (.lload 5, 2) := by decide +kernel
theorem dX4_up_177 : decode cX4_up 177 = .ok (.aload_n 0, 1) := by decide +kernel
theorem dX4_up_178 : decode cX4_up 178 = .ok (.getfield 42, 3) := by decide +kernel
theorem dX4_up_181 : decode cX4_up 181 = .ok (.iload 12, 2) := by decide +kernel
theorem dX4_up_183 : decode cX4_up 183 = .ok (.laload, 1) := by decide +kernel
theorem dX4_up_184 : decode cX4_up 184 = .ok (.ladd, 1) := by decide +kernel
theorem dX4_up_185 : decode cX4_up 185 = .ok (.lstore 5, 2) := by decide +kernel
theorem dX4_up_187 : decode cX4_up 187 = .ok (.iload 11, 2) := by decide +kernel
theorem dX4_up_189 : decode cX4_up 189 = .ok (.ifCond .eq 16, 3) := by decide +kernel
theorem dX4_up_192 : decode cX4_up 192 = .ok (.aload_n 0, 1) := by decide +kernel
theorem dX4_up_193 : decode cX4_up 193 = .ok (.getfield 42, 3) := by decide +kernel
theorem dX4_up_196 : decode cX4_up 196 = .ok (.iload 12, 2) := by decide +kernel
theorem dX4_up_198 : decode cX4_up 198 = .ok (.laload, 1) := by decide +kernel
theorem dX4_up_199 : decode cX4_up 199 = .ok (.lload 7, 2) := by decide +kernel
theorem dX4_up_201 : decode cX4_up 201 = .ok (.lcmp, 1) := by decide +kernel
theorem dX4_up_202 : decode cX4_up 202 = .ok (.ifCond .le 13, 3) := by decide +kernel
theorem dX4_up_205 : decode cX4_up 205 = .ok (.aload_n 0, 1) := by decide +kernel
theorem dX4_up_206 : decode cX4_up 206 = .ok (.getfield 42, 3) := by decide +kernel
theorem dX4_up_209 : decode cX4_up 209 = .ok (.iload 12, 2) := by decide +kernel
theorem dX4_up_211 : decode cX4_up 211 = .ok (.laload, 1) := by decide +kernel
theorem dX4_up_212 : decode cX4_up 212 = .ok (.goto 5, 3) := by decide +kernel
theorem dX4_up_215 : decode cX4_up 215 = .ok (.lload 7, 2) := by decide +kernel
theorem dX4_up_217 : decode cX4_up 217 = .ok (.lstore 7, 2) := by decide +kernel
theorem dX4_up_219 : decode cX4_up 219 = .ok (.iload 11, 2) := by decide +kernel
theorem dX4_up_221 : decode cX4_up 221 = .ok (.ifCond .eq 16, 3) := by decide +kernel
theorem dX4_up_224 : decode cX4_up 224 = .ok (.aload_n 0, 1) := by decide +kernel
theorem dX4_up_225 : decode cX4_up 225 = .ok (.getfield 42, 3) := by decide +kernel
theorem dX4_up_228 : decode cX4_up 228 = .ok (.iload 12, 2) := by decide +kernel
theorem dX4_up_230 : decode cX4_up 230 = .ok (.laload, 1) := by decide +kernel
theorem dX4_up_231 : decode cX4_up 231 = .ok (.lload 9, 2) := by decide +kernel
theorem dX4_up_233 : decode cX4_up 233 = .ok (.lcmp, 1) := by decide +kernel
theorem dX4_up_234 : decode cX4_up 234 = .ok (.ifCond .ge 13, 3) := by decide +kernel
theorem dX4_up_237 : decode cX4_up 237 = .ok (.aload_n 0, 1) := by decide +kernel
theorem dX4_up_238 : decode cX4_up 238 = .ok (.getfield 42, 3) := by decide +kernel
theorem dX4_up_241 : decode cX4_up 241 = .ok (.iload 12, 2) := by decide +kernel
theorem dX4_up_243 : decode cX4_up 243 = .ok (.laload, 1) := by decide +kernel
theorem dX4_up_244 : decode cX4_up 244 = .ok (.goto 5, 3) := by decide +kernel
theorem dX4_up_247 : decode cX4_up 247 = .ok (.lload 9, 2) := by decide +kernel
theorem dX4_up_249 : decode cX4_up 249 = .ok (.lstore 9, 2) := by decide +kernel
theorem dX4_up_251 : decode cX4_up 251 = .ok (.iinc 11 1, 3) := by decide +kernel
theorem dX4_up_254 : decode cX4_up 254 = .ok (.iinc 12 1, 3) := by decide +kernel
theorem dX4_up_257 : decode cX4_up 257 = .ok (.goto (-112), 3) := by decide +kernel
theorem dX4_up_260 : decode cX4_up 260 = .ok (.iload 11, 2) := by decide +kernel
theorem dX4_up_262 : decode cX4_up 262 = .ok (.ifCond .le 68, 3) := by decide +kernel
theorem dX4_up_265 : decode cX4_up 265 = .ok (.aload_n 0, 1) := by decide +kernel
theorem dX4_up_266 : decode cX4_up 266 = .ok (.getfield 32, 3) := by decide +kernel
theorem dX4_up_269 : decode cX4_up 269 = .ok (.iload_n 3, 1) := by decide +kernel
theorem dX4_up_270 : decode cX4_up 270 = .ok (.iload 4, 2) := by decide +kernel
theorem dX4_up_272 : decode cX4_up 272 = .ok (.iadd, 1) := by decide +kernel
theorem dX4_up_273 : decode cX4_up 273 = .ok (.iconst 1, 1) := by decide +kernel
theorem dX4_up_274 : decode cX4_up 274 = .ok (.bastore, 1) := by decide +kernel
theorem dX4_up_275 : decode cX4_up 275 = .ok (.aload_n 0, 1) := by decide +kernel
theorem dX4_up_276 : decode cX4_up 276 = .ok (.getfield 35, 3) := by decide +kernel
theorem dX4_up_279 : decode cX4_up 279 = .ok (.iload_n 3, 1) := by decide +kernel
theorem dX4_up_280 : decode cX4_up 280 = .ok (.iload 4, 2) := by decide +kernel
theorem dX4_up_282 : decode cX4_up 282 = .ok (.iadd, 1) := by decide +kernel
theorem dX4_up_283 : decode cX4_up 283 = .ok (.iload_n 2, 1) := by decide +kernel
theorem dX4_up_284 : decode cX4_up 284 = .ok (.ifCond .ne 8, 3) := by decide +kernel
theorem dX4_up_287 : decode cX4_up 287 = .ok (.lload 5, 2) := by decide +kernel
theorem dX4_up_289 : decode cX4_up 289 = .ok (.goto 40, 3) := by decide +kernel
theorem dX4_up_292 : decode cX4_up 292 = .ok (.iload_n 2, 1) := by decide +kernel
theorem dX4_up_293 : decode cX4_up 293 = .ok (.iconst 1, 1) := by decide +kernel
theorem dX4_up_294 : decode cX4_up 294 = .ok (.if_icmp .ne 8, 3) := by decide +kernel
theorem dX4_up_297 : decode cX4_up 297 = .ok (.lload 7, 2) := by decide +kernel
theorem dX4_up_299 : decode cX4_up 299 = .ok (.goto 30, 3) := by decide +kernel
theorem dX4_up_302 : decode cX4_up 302 = .ok (.iload_n 2, 1) := by decide +kernel
theorem dX4_up_303 : decode cX4_up 303 = .ok (.iconst 2, 1) := by decide +kernel
theorem dX4_up_304 : decode cX4_up 304 = .ok (.if_icmp .ne 8, 3) := by decide +kernel
theorem dX4_up_307 : decode cX4_up 307 = .ok (.lload 9, 2) := by decide +kernel
theorem dX4_up_309 : decode cX4_up 309 = .ok (.goto 20, 3) := by decide +kernel
theorem dX4_up_312 : decode cX4_up 312 = .ok (.iload_n 2, 1) := by decide +kernel
theorem dX4_up_313 : decode cX4_up 313 = .ok (.iconst 3, 1) := by decide +kernel
theorem dX4_up_314 : decode cX4_up 314 = .ok (.if_icmp .ne 9, 3) := by decide +kernel
theorem dX4_up_317 : decode cX4_up 317 = .ok (.iload 11, 2) := by decide +kernel
theorem dX4_up_319 : decode cX4_up 319 = .ok (.i2l, 1) := by decide +kernel
theorem dX4_up_320 : decode cX4_up 320 = .ok (.goto 9, 3) := by decide +kernel
theorem dX4_up_323 : decode cX4_up 323 = .ok (.lload 5, 2) := by decide +kernel
theorem dX4_up_325 : decode cX4_up 325 = .ok (.iload 11, 2) := by decide +kernel
theorem dX4_up_327 : decode cX4_up 327 = .ok (.i2l, 1) := by decide +kernel
theorem dX4_up_328 : decode cX4_up 328 = .ok (.ldiv, 1) := by decide +kernel
theorem dX4_up_329 : decode cX4_up 329 = .ok (.lastore, 1) := by decide +kernel
theorem dX4_up_330 : decode cX4_up 330 = .ok (.iinc 4 1, 3) := by decide +kernel
theorem dX4_up_333 : decode cX4_up 333 = .ok (.goto (-226), 3) := by decide +kernel
theorem dX4_up_336 : decode cX4_up 336 = .ok (.aload_n 0, 1) := by decide +kernel
theorem dX4_up_337 : decode cX4_up 337 = .ok (.aload_n 0, 1) := by decide +kernel
theorem dX4_up_338 : decode cX4_up 338 = .ok (.getfield 59, 3) := by decide +kernel
theorem dX4_up_341 : decode cX4_up 341 = .ok (.iconst 1, 1) := by decide +kernel
theorem dX4_up_342 : decode cX4_up 342 = .ok (.isub, 1) := by decide +kernel
theorem dX4_up_343 : decode cX4_up 343 = .ok (.invokevirtual 104, 3) := by decide +kernel
theorem dX4_up_346 : decode cX4_up 346 = .ok (.ireturn, 1) := by decide +kernel
set_option maxRecDepth 20000 in
theorem ggX4_down_X4_isIn : GoodIn wsX4_down wsX4_isIn := goodIn_r _ [12] (by decide +kernel) (by decide +kernel)
set_option maxRecDepth 20000 in
theorem gX4_down_X4_isIn : GoodIn wsX4_down (va_wsS RX4 52 yX4_isIn wsX4_isIn) := goodIn_app (goodIn_of _ (by decide +kernel)) ggX4_down_X4_isIn
set_option maxRecDepth 20000 in
theorem ggX4_down_X4_takeLast : GoodIn wsX4_down wsX4_takeLast := goodIn_r _ [16, 2, 3, 5, 6, 8, 7, 25, 26, 27, 28, 29, 30, 31, 32, 33, 34, 35, 36, 37, 38, 39, 40] (by decide +kernel) (by decide +kernel)
set_option maxRecDepth 20000 in
theorem gX4_down_X4_takeLast : GoodIn wsX4_down (wsV RX4 107 RX4 yX4_takeLast wsX4_takeLast) := goodIn_app (goodIn_of _ (by decide +kernel)) ggX4_down_X4_takeLast
set_option maxRecDepth 20000 in
theorem ggX4_down_X4_parent : GoodIn wsX4_down wsX4_parent := goodIn_r _ [20, 4, 25, 26, 27, 28, 29, 30, 31, 32, 33, 34, 35, 36, 37, 38, 39, 40] (by decide +kernel) (by decide +kernel)
set_option maxRecDepth 20000 in
theorem gX4_down_X4_parent : GoodIn wsX4_down (wsV RX4 80 RX4 yX4_parent wsX4_parent) := goodIn_app (goodIn_of _ (by decide +kernel)) ggX4_down_X4_parent
set_option maxRecDepth 20000 in
theorem ggX4_down_X4_sizeOf : GoodIn wsX4_down wsX4_sizeOf := goodIn_r _ [24, 3, 6, 25, 26, 27, 28, 29, 30, 31, 32, 33, 34, 35, 36, 37, 38, 39, 40] (by decide +kernel) (by decide +kernel)
set_option maxRecDepth 20000 in
theorem gX4_down_X4_sizeOf : GoodIn wsX4_down (wsV RX4 104 RX4 yX4_sizeOf wsX4_sizeOf) := goodIn_app (goodIn_of _ (by decide +kernel)) ggX4_down_X4_sizeOf
theorem dX4_down_0 : decode cX4_down 0 = .ok (.aload_n 0, 1) := by decide +kernel
theorem dX4_down_1 : decode cX4_down 1 = .ok (.iconst 0, 1) := by decide +kernel
theorem dX4_down_2 : decode cX4_down 2 = .ok (.putfield 45, 3) := by decide +kernel
theorem dX4_down_5 : decode cX4_down 5 = .ok (.iload_n 1, 1) := by decide +kernel
theorem dX4_down_6 : decode cX4_down 6 = .ok (.iconst 0, 1) := by decide +kernel
theorem dX4_down_7 : decode cX4_down 7 = .ok (.iconst 1, 1) := by decide +kernel
theorem dX4_down_8 : decode cX4_down 8 = .ok (.invokestatic 52, 3) := by decide +kernel
theorem dX4_down_11 : decode cX4_down 11 = .ok (.ifCond .ne 6, 3) := by decide +kernel
theorem dX4_down_14 : decode cX4_down 14 = .ok (.bipush (-2), 2) := by decide +kernel
theorem dX4_down_16 : decode cX4_down 16 = .ok (.ireturn, 1) := by decide +kernel
theorem dX4_down_17 : decode cX4_down 17 = .ok (.aload_n 0, 1) := by decide +kernel
theorem dX4_down_18 : decode cX4_down 18 = .ok (.getfield 59, 3) := by decide +kernel
theorem dX4_down_21 : decode cX4_down 21 = .ok (.ifCond .ne 6, 3) := by decide +kernel
theorem dX4_down_24 : decode cX4_down 24 = .ok (.bipush (-3), 2) := by decide +kernel
theorem dX4_down_26 : decode cX4_down 26 = .ok (.ireturn, 1) := by decide +kernel
theorem dX4_down_27 : decode cX4_down 27 = .ok (.aload_n 0, 1) := by decide +kernel
theorem dX4_down_28 : decode cX4_down 28 = .ok (.invokevirtual 107, 3) := by decide +kernel
theorem dX4_down_31 : decode cX4_down 31 = .ok (.sipush 200, 3) := by decide +kernel
theorem dX4_down_34 : decode cX4_down 34 = .ok (.aload_n 0, 1) := by decide +kernel
theorem dX4_down_35 : decode cX4_down 35 = .ok (.getfield 59, 3) := by decide +kernel
theorem dX4_down_38 : decode cX4_down 38 = .ok (.iconst 1, 1) := by decide +kernel
theorem dX4_down_39 : decode cX4_down 39 = .ok (.isub, 1) := by decide +kernel
theorem dX4_down_40 : decode cX4_down 40 = .ok (.imul, 1) := by decide +kernel
theorem dX4_down_41 : decode cX4_down 41 = .ok (.istore_n 2, 1) := by decide +kernel
theorem dX4_down_42 : decode cX4_down 42 = .ok (.iconst 0, 1) := by decide +kernel
theorem dX4_down_43 : decode cX4_down 43 = .ok (.istore_n 3, 1) := by decide +kernel
theorem dX4_down_44 : decode cX4_down 44 = .ok (.iload_n 3, 1) := by decide +kernel
theorem dX4_down_45 : decode cX4_down 45 = .ok (.aload_n 0, 1) := by decide +kernel
theorem dX4_down_46 : decode cX4_down 46 = .ok (.getfield 49, 3) := by decide +kernel
theorem dX4_down_49 : decode cX4_down 49 = .ok (.if_icmp .ge 79, 3) := by decide +kernel
theorem dX4_down_52 : decode cX4_down 52 = .ok (.aload_n 0, 1) := by decide +kernel
theorem dX4_down_53 : decode cX4_down 53 = .ok (.iload_n 3, 1) := by decide +kernel
theorem dX4_down_54 : decode cX4_down 54 = .ok (.invokevirtual 80, 3) := by decide +kernel
theorem dX4_down_57 : decode cX4_down 57 = .ok (.istore 4, 2) := by decide +kernel
theorem dX4_down_59 : decode cX4_down 59 = .ok (.iload 4, 2) := by decide +kernel
theorem dX4_down_61 : decode cX4_down 61 = .ok (.ifCond .lt 61, 3) := by decide +kernel
theorem dX4_down_64 : decode cX4_down 64 = .ok (.aload_n 0, 1) := by decide +kernel
theorem dX4_down_65 : decode cX4_down 65 = .ok (.getfield 7, 3) := by decide +kernel
theorem dX4_down_68 : decode cX4_down 68 = .ok (.iload_n 3, 1) := by decide +kernel
theorem dX4_down_69 : decode cX4_down 69 = .ok (.iaload, 1) := by decide +kernel
theorem dX4_down_70 : decode cX4_down 70 = .ok (.iload_n 1, 1) := by decide +kernel
theorem dX4_down_71 : decode cX4_down 71 = .ok (.if_icmp .ne 51, 3) := by decide +kernel
theorem dX4_down_74 : decode cX4_down 74 = .ok (.aload_n 0, 1) := by decide +kernel
theorem dX4_down_75 : decode cX4_down 75 = .ok (.getfield 39, 3) := by decide +kernel
theorem dX4_down_78 : decode cX4_down 78 = .ok (.iload 4, 2) := by decide +kernel
theorem dX4_down_80 : decode cX4_down 80 = .ok (.baload, 1) := by decide +kernel
theorem dX4_down_81 : decode cX4_down 81 = .ok (.ifCond .eq 30, 3) := by decide +kernel
theorem dX4_down_84 : decode cX4_down 84 = .ok (.aload_n 0, 1) := by decide +kernel
theorem dX4_down_85 : decode cX4_down 85 = .ok (.getfield 32, 3) := by decide +kernel
theorem dX4_down_88 : decode cX4_down 88 = .ok (.iload_n 2, 1) := by decide +kernel
theorem dX4_down_89 : decode cX4_down 89 = .ok (.iload_n 3, 1) := by decide +kernel
theorem dX4_down_90 : decode cX4_down 90 = .ok (.iadd, 1) := by decide +kernel
theorem dX4_down_91 : decode cX4_down 91 = .ok (.iconst 1, 1) := by decide +kernel
theorem dX4_down_92 : decode cX4_down 92 = .ok (.bastore, 1) := by decide +kernel
theorem dX4_down_93 : decode cX4_down 93 = .ok (.aload_n 0, 1) := by decide +kernel
theorem dX4_down_94 : decode cX4_down 94 = .ok (.getfield 35, 3) := by decide +kernel
theorem dX4_down_97 : decode cX4_down 97 = .ok (.iload_n 2, 1) := by decide +kernel
theorem dX4_down_98 : decode cX4_down 98 = .ok (.iload_n 3, 1) := by decide +kernel
theorem dX4_down_99 : decode cX4_down 99 = .ok (.iadd, 1) := by decide +kernel
theorem dX4_down_100 : decode cX4_down 100 = .ok (.dup2, 1) := by decide +kernel
theorem dX4_down_101 : decode cX4_down 101 = .ok (.laload, 1) := by decide +kernel
theorem dX4_down_102 : decode cX4_down 102 = .ok (.aload_n 0, 1) := by decide +kernel
theorem dX4_down_103 : decode cX4_down 103 = .ok (.getfield 42, 3) := by decide +kernel
theorem dX4_down_106 : decode cX4_down 106 = .ok (.iload 4, 2) := by decide +kernel
theorem dX4_down_108 : decode cX4_down 108 = .ok (.laload, 1) := by decide +kernel
theorem dX4_down_109 : decode cX4_down 109 = .ok (.ladd, 1) := by decide +kernel
theorem dX4_down_110 : decode cX4_down 110 = .ok (.lastore, 1) := by decide +kernel
theorem dX4_down_111 : decode cX4_down 111 = .ok (.aload_n 0, 1) := by decide +kernel
theorem dX4_down_112 : decode cX4_down 112 = .ok (.iload 4, 2) := by decide +kernel
theorem dX4_down_114 : decode cX4_down 114 = .ok (.invokevirtual 80, 3) := by decide +kernel
theorem dX4_down_117 : decode cX4_down 117 = .ok (.istore 4, 2) := by decide +kernel
theorem dX4_down_119 : decode cX4_down 119 = .ok (.goto (-60), 3) := by decide +kernel
theorem dX4_down_122 : decode cX4_down 122 = .ok (.iinc 3 1, 3) := by decide +kernel
theorem dX4_down_125 : decode cX4_down 125 = .ok (.goto (-81), 3) := by decide +kernel
theorem dX4_down_128 : decode cX4_down 128 = .ok (.aload_n 0, 1) := by decide +kernel
theorem dX4_down_129 : decode cX4_down 129 = .ok (.aload_n 0, 1) := by decide +kernel
theorem dX4_down_130 : decode cX4_down 130 = .ok (.getfield 59, 3) := by decide +kernel
theorem dX4_down_133 : decode cX4_down 133 = .ok (.iconst 1, 1) := by decide +kernel
theorem dX4_down_134 : decode cX4_down 134 = .ok (.isub, 1) := by decide +kernel
theorem dX4_down_135 : decode cX4_down 135 = .ok (.invokevirtual 104, 3) := by decide +kernel
theorem dX4_down_138 : decode cX4_down 138 = .ok (.ireturn, 1) := by decide +kernel
set_option maxRecDepth 20000 in
theorem ggX4_over_X4_takeLast : GoodIn wsX4_over wsX4_takeLast := goodIn_r _ [16, 2, 3, 4, 9, 11, 10, 21, 22, 23, 24, 25, 26, 27, 28, 29, 30, 31, 32, 33, 34, 35, 36] (by decide +kernel) (by decide +kernel)
set_option maxRecDepth 20000 in
theorem gX4_over_X4_takeLast : GoodIn wsX4_over (wsV RX4 107 RX4 yX4_takeLast wsX4_takeLast) := goodIn_app (goodIn_of _ (by decide +kernel)) ggX4_over_X4_takeLast
set_option maxRecDepth 20000 in
theorem ggX4_over_X4_sizeOf : GoodIn wsX4_over wsX4_sizeOf := goodIn_r _ [20, 3, 9, 21, 22, 23, 24, 25, 26, 27, 28, 29, 30, 31, 32, 33, 34, 35, 36] (by decide +kernel) (by decide +kernel)
set_option maxRecDepth 20000 in
theorem gX4_over_X4_sizeOf : GoodIn wsX4_over (wsV RX4 104 RX4 yX4_sizeOf wsX4_sizeOf) := goodIn_app (goodIn_of _ (by decide +kernel)) ggX4_over_X4_sizeOf
theorem dX4_over_0 : decode cX4_over 0 = .ok (.aload_n 0, 1) := by decide +kernel
theorem dX4_over_1 : decode cX4_over 1 = .ok (.iconst 0, 1) := by decide +kernel
theorem dX4_over_2 : decode cX4_over 2 = .ok (.putfield 45, 3) := by decide +kernel
theorem dX4_over_5 : decode cX4_over 5 = .ok (.aload_n 0, 1) := by decide +kernel
theorem dX4_over_6 : decode cX4_over 6 = .ok (.getfield 59, 3) := by decide +kernel
theorem dX4_over_9 : decode cX4_over 9 = .ok (.ifCond .ne 6, 3) := by decide +kernel
theorem dX4_over_12 : decode cX4_over 12 = .ok (.bipush (-3), 2) := by decide +kernel
theorem dX4_over_14 : decode cX4_over 14 = .ok (.ireturn, 1) := by decide +kernel
theorem dX4_over_15 : decode cX4_over 15 = .ok (.aload_n 0, 1) := by decide +kernel
theorem dX4_over_16 : decode cX4_over 16 = .ok (.invokevirtual 107, 3) := by decide +kernel
theorem dX4_over_19 : decode cX4_over 19 = .ok (.sipush 200, 3) := by decide +kernel
theorem dX4_over_22 : decode cX4_over 22 = .ok (.aload_n 0, 1) := by decide +kernel
theorem dX4_over_23 : decode cX4_over 23 = .ok (.getfield 59, 3) := by decide +kernel
theorem dX4_over_26 : decode cX4_over 26 = .ok (.iconst 1, 1) := by decide +kernel
theorem dX4_over_27 : decode cX4_over 27 = .ok (.isub, 1) := by decide +kernel
theorem dX4_over_28 : decode cX4_over 28 = .ok (.imul, 1) := by decide +kernel
theorem dX4_over_29 : decode cX4_over 29 = .ok (.istore_n 1, 1) := by decide +kernel
theorem dX4_over_30 : decode cX4_over 30 = .ok (.iconst 0, 1) := by decide +kernel
theorem dX4_over_31 : decode cX4_over 31 = .ok (.istore_n 2, 1) := by decide +kernel
theorem dX4_over_32 : decode cX4_over 32 = .ok (.iload_n 2, 1) := by decide +kernel
theorem dX4_over_33 : decode cX4_over 33 = .ok (.aload_n 0, 1) := by decide +kernel
theorem dX4_over_34 : decode cX4_over 34 = .ok (.getfield 49, 3) := by decide +kernel
theorem dX4_over_37 : decode cX4_over 37 = .ok (.if_icmp .ge 91, 3) := by decide +kernel
theorem dX4_over_40 : decode cX4_over 40 = .ok (.iconst 0, 1) := by decide +kernel
theorem dX4_over_41 : decode cX4_over 41 = .ok (.istore_n 3, 1) := by decide +kernel
theorem dX4_over_42 : decode cX4_over 42 = .ok (.iload_n 3, 1) := by decide +kernel
theorem dX4_over_43 : decode cX4_over 43 = .ok (.aload_n 0, 1) := by decide +kernel
theorem dX4_over_44 : decode cX4_over 44 = .ok (.getfield 49, 3) := by decide +kernel
theorem dX4_over_47 : decode cX4_over 47 = .ok (.if_icmp .ge 75, 3) := by decide +kernel
theorem dX4_over_50 : decode cX4_over 50 = .ok (.aload_n 0, 1) := by decide +kernel
theorem dX4_over_51 : decode cX4_over 51 = .ok (.getfield 39, 3) := by decide +kernel
theorem dX4_over_54 : decode cX4_over 54 = .ok (.iload_n 2, 1) := by decide +kernel
theorem dX4_over_55 : decode cX4_over 55 = .ok (.baload, 1) := by decide +kernel
theorem dX4_over_56 : decode cX4_over 56 = .ok (.ifCond .eq 66, 3) := by decide +kernel
theorem dX4_over_59 : decode cX4_over 59 = .ok (.aload_n 0, 1) := by decide +kernel
theorem dX4_over_60 : decode cX4_over 60 = .ok (.getfield 7, 3) := by decide +kernel
theorem dX4_over_63 : decode cX4_over 63 = .ok (.iload_n 2, 1) := by decide +kernel
theorem dX4_over_64 : decode cX4_over 64 = .ok (.iaload, 1) := by decide +kernel
theorem dX4_over_65 : decode cX4_over 65 = .ok (.iconst 2, 1) := by decide +kernel
theorem dX4_over_66 : decode cX4_over 66 = .ok (.if_icmp .ne 56, 3) := by decide +kernel
theorem dX4_over_69 : decode cX4_over 69 = .ok (.aload_n 0, 1) := by decide +kernel
theorem dX4_over_70 : decode cX4_over 70 = .ok (.getfield 25, 3) := by decide +kernel
theorem dX4_over_73 : decode cX4_over 73 = .ok (.iload_n 3, 1) := by decide +kernel
theorem dX4_over_74 : decode cX4_over 74 = .ok (.baload, 1) := by decide +kernel
theorem dX4_over_75 : decode cX4_over 75 = .ok (.ifCond .eq 41, 3) := by decide +kernel
theorem dX4_over_78 : decode cX4_over 78 = .ok (.aload_n 0, 1) := by decide +kernel
theorem dX4_over_79 : decode cX4_over 79 = .ok (.getfield 19, 3) := by decide +kernel
theorem dX4_over_82 : decode cX4_over 82 = .ok (.iload_n 3, 1) := by decide +kernel
theorem dX4_over_83 : decode cX4_over 83 = .ok (.iaload, 1) := by decide +kernel
theorem dX4_over_84 : decode cX4_over 84 = .ok (.aload_n 0, 1) := by decide +kernel
theorem dX4_over_85 : decode cX4_over 85 = .ok (.getfield 22, 3) := by decide +kernel
theorem dX4_over_88 : decode cX4_over 88 = .ok (.iload_n 2, 1) := by decide +kernel
theorem dX4_over_89 : decode cX4_over 89 = .ok (.iaload, 1) := by decide +kernel
theorem dX4_over_90 : decode cX4_over 90 = .ok (.if_icmp .ne 26, 3) := by decide +kernel
theorem dX4_over_93 : decode cX4_over 93 = .ok (.aload_n 0, 1) := by decide +kernel
theorem dX4_over_94 : decode cX4_over 94 = .ok (.getfield 32, 3) := by decide +kernel
theorem dX4_over_97 : decode cX4_over 97 = .ok (.iload_n 1, 1) := by decide +kernel
theorem dX4_over_98 : decode cX4_over 98 = .ok (.iload_n 3, 1) := by decide +kernel
theorem dX4_over_99 : decode cX4_over 99 = .ok (.iadd, 1) := by decide +kernel
theorem dX4_over_100 : decode cX4_over 100 = .ok (.iconst 1, 1) := by decide +kernel
theorem dX4_over_101 : decode cX4_over 101 = .ok (.bastore, 1) := by decide +kernel
theorem dX4_over_102 : decode cX4_over 102 = .ok (.aload_n 0, 1) := by decide +kernel
theorem dX4_over_103 : decode cX4_over 103 = .ok (.getfield 35, 3) := by decide +kernel
theorem dX4_over_106 : decode cX4_over 106 = .ok (.iload_n 1, 1) := by decide +kernel
theorem dX4_over_107 : decode cX4_over 107 = .ok (.iload_n 3, 1) := by decide +kernel
theorem dX4_over_108 : decode cX4_over 108 = .ok (.iadd, 1) := by decide +kernel
theorem dX4_over_109 : decode cX4_over 109 = .ok (.aload_n 0, 1) := by decide +kernel
theorem dX4_over_110 : decode cX4_over 110 = .ok (.getfield 42, 3) := by decide +kernel
theorem dX4_over_113 : decode cX4_over 113 = .ok (.iload_n 2, 1) := by decide +kernel
theorem dX4_over_114 : decode cX4_over 114 = .ok (.laload, 1) := by decide +kernel
theorem dX4_over_115 : decode cX4_over 115 = .ok (.lastore, 1) := by decide +kernel
theorem dX4_over_116 : decode cX4_over 116 = .ok (.iinc 3 1, 3) := by decide +kernel
theorem dX4_over_119 : decode cX4_over 119 = .ok (.goto (-77), 3) := by decide +kernel
theorem dX4_over_122 : decode cX4_over 122 = .ok (.iinc 2 1, 3) := by decide +kernel
theorem dX4_over_125 : decode cX4_over 125 = .ok (.goto (-93), 3) := by decide +kernel
theorem dX4_over_128 : decode cX4_over 128 = .ok (.aload_n 0, 1) := by decide +kernel
theorem dX4_over_129 : decode cX4_over 129 = .ok (.aload_n 0, 1) := by decide +kernel
theorem dX4_over_130 : decode cX4_over 130 = .ok (.getfield 59, 3) := by decide +kernel
theorem dX4_over_133 : decode cX4_over 133 = .ok (.iconst 1, 1) := by decide +kernel
theorem dX4_over_134 : decode cX4_over 134 = .ok (.isub, 1) := by decide +kernel
theorem dX4_over_135 : decode cX4_over 135 = .ok (.invokevirtual 104, 3) := by decide +kernel
theorem dX4_over_138 : decode cX4_over 138 = .ok (.ireturn, 1) := by decide +kernel
theorem dX4_again_0 : decode cX4_again 0 = .ok (.aload_n 0, 1) := by decide +kernel
theorem dX4_again_1 : decode cX4_again 1 = .ok (.iconst 0, 1) := by decide +kernel
theorem dX4_again_2 : decode cX4_again 2 = .ok (.putfield 45, 3) := by decide +kernel
theorem dX4_again_5 : decode cX4_again 5 = .ok (.aload_n 0, 1) := by decide +kernel
theorem dX4_again_6 : decode cX4_again 6 = .ok (.getfield 59, 3) := by decide +kernel
theorem dX4_again_9 : decode cX4_again 9 = .ok (.ifCond .ne 6, 3) := by decide +kernel
theorem dX4_again_12 : decode cX4_again 12 = .ok (.bipush (-3), 2) := by decide +kernel
theorem dX4_again_14 : decode cX4_again 14 = .ok (.ireturn, 1) := by decide +kernel
theorem dX4_again_15 : decode cX4_again 15 = .ok (.aload_n 0, 1) := by decide +kernel
theorem dX4_again_16 : decode cX4_again 16 = .ok (.getfield 59, 3) := by decide +kernel
theorem dX4_again_19 : decode cX4_again 19 = .ok (.bipush 8, 2) := by decide +kernel
theorem dX4_again_21 : decode cX4_again 21 = .ok (.if_icmp .ne 6, 3) := by decide +kernel
theorem dX4_again_24 : decode cX4_again 24 = .ok (.bipush (-4), 2) := by decide +kernel
theorem dX4_again_26 : decode cX4_again 26 = .ok (.ireturn, 1) := by decide +kernel
theorem dX4_again_27 : decode cX4_again 27 = .ok (.iconst 0, 1) := by decide +kernel
theorem dX4_again_28 : decode cX4_again 28 = .ok (.istore_n 1, 1) := by decide +kernel
theorem dX4_again_29 : decode cX4_again 29 = .ok (.iload_n 1, 1) := by decide +kernel
theorem dX4_again_30 : decode cX4_again 30 = .ok (.aload_n 0, 1) := by decide +kernel
theorem dX4_again_31 : decode cX4_again 31 = .ok (.getfield 49, 3) := by decide +kernel
theorem dX4_again_34 : decode cX4_again 34 = .ok (.if_icmp .ge 73, 3) := by decide +kernel
theorem dX4_again_37 : decode cX4_again 37 = .ok (.aload_n 0, 1) := by decide +kernel
theorem dX4_again_38 : decode cX4_again 38 = .ok (.getfield 32, 3) := by decide +kernel
theorem dX4_again_41 : decode cX4_again 41 = .ok (.sipush 200, 3) := by decide +kernel
theorem dX4_again_44 : decode cX4_again 44 = .ok (.aload_n 0, 1) := by decide +kernel
theorem dX4_again_45 : decode cX4_again 45 = .ok (.getfield 59, 3) := by decide +kernel
theorem dX4_again_48 : decode cX4_again 48 = .ok (.imul, 1) := by decide +kernel
theorem dX4_again_49 : decode cX4_again 49 = .ok (.iload_n 1, 1) := by decide +kernel
theorem dX4_again_50 : decode cX4_again 50 = .ok (.iadd, 1) := by decide +kernel
theorem dX4_again_51 : decode cX4_again 51 = .ok (.aload_n 0, 1) := by decide +kernel
theorem dX4_again_52 : decode cX4_again 52 = .ok (.getfield 32, 3) := by decide +kernel
theorem dX4_again_55 : decode cX4_again 55 = .ok (.sipush 200, 3) := by decide +kernel
theorem dX4_again_58 : decode cX4_again 58 = .ok (.aload_n 0, 1) := by decide +kernel
theorem dX4_again_59 : decode cX4_again 59 = .ok (.getfield 59, 3) := by decide +kernel
theorem dX4_again_62 : decode cX4_again 62 = .ok (.iconst 1, 1) := by decide +kernel
theorem dX4_again_63 : decode cX4_again 63 = .ok (.isub, 1) := by decide +kernel
theorem dX4_again_64 : decode cX4_again 64 = .ok (.imul, 1) := by decide +kernel
theorem dX4_again_65 : decode cX4_again 65 = .ok (.iload_n 1, 1) := by decide +kernel
theorem dX4_again_66 : decode cX4_again 66 = .ok (.iadd, 1) := by decide +kernel
theorem dX4_again_67 : decode cX4_again 67 = .ok (.baload, 1) := by decide +kernel
theorem dX4_again_68 : decode cX4_again 68 = .ok (.bastore, 1) := by decide +kernel
theorem dX4_again_69 : decode cX4_again 69 = .ok (.aload_n 0, 1) := by decide +kernel
theorem dX4_again_70 : decode cX4_again 70 = .ok (.getfield 35, 3) := by decide +kernel
theorem dX4_again_73 : decode cX4_again 73 = .ok (.sipush 200, 3) := by decide +kernel
theorem dX4_again_76 : decode cX4_again 76 = .ok (.aload_n 0, 1) := by decide +kernel
theorem dX4_again_77 : decode cX4_again 77 = .ok (.getfield 59, 3) := by decide +kernel
theorem dX4_again_80 : decode cX4_again 80 = .ok (.imul, 1) := by decide +kernel
theorem dX4_again_81 : decode cX4_again 81 = .ok (.iload_n 1, 1) := by decide +kernel
theorem dX4_again_82 : decode cX4_again 82 = .ok (.iadd, 1) := by decide +kernel
theorem dX4_again_83 : decode cX4_again 83 = .ok (.aload_n 0, 1) := by decide +kernel
theorem dX4_again_84 : decode cX4_again 84 = .ok (.getfield 35, 3) := by decide +kernel
theorem dX4_again_87 : decode cX4_again 87 = .ok (.sipush 200, 3) := by decide +kernel
theorem dX4_again_90 : decode cX4_again 90 = .ok (.aload_n 0, 1) := by decide +kernel
theorem dX4_again_91 : decode cX4_again 91 = .ok (.getfield 59, 3) := by decide +kernel
theorem dX4_again_94 : decode cX4_again 94 = .ok (.iconst 1, 1) := by decide +kernel
theorem dX4_again_95 : decode cX4_again 95 = .ok (.isub, 1) := by decide +kernel
theorem dX4_again_96 : decode cX4_again 96 = .ok (.imul, 1) := by decide +kernel
theorem dX4_again_97 : decode cX4_again 97 = .ok (.iload_n 1, 1) := by decide +kernel
theorem dX4_again_98 : decode cX4_again 98 = .ok (.iadd, 1) := by decide +kernel
theorem dX4_again_99 : decode cX4_again 99 = .ok (.laload, 1) := by decide +kernel
theorem dX4_again_100 : decode cX4_again 100 = .ok (.lastore, 1) := by decide +kernel
theorem dX4_again_101 : decode cX4_again 101 = .ok (.iinc 1 1, 3) := by decide +kernel
theorem dX4_again_104 : decode cX4_again 104 = .ok (.goto (-75), 3) := by decide +kernel
theorem dX4_again_107 : decode cX4_again 107 = .ok (.aload_n 0, 1) := by decide +kernel
theorem dX4_again_108 : decode cX4_again 108 = .ok (.dup, 1) := by decide +kernel
theorem dX4_again_109 : decode cX4_again 109 = .ok (.getfield 59, 3) := by decide +kernel
theorem dX4_again_112 : decode cX4_again 112 = .ok (.iconst 1, 1) := by decide +kernel
theorem dX4_again_113 : decode cX4_again 113 = .ok (.iadd, 1) := by decide +kernel
theorem dX4_again_114 : decode cX4_again 114 = .ok (.putfield 59, 3) := by decide +kernel
theorem dX4_again_117 : decode cX4_again 117 = .ok (.aload_n 0, 1) := by decide +kernel
theorem dX4_again_118 : decode cX4_again 118 = .ok (.getfield 59, 3) := by decide +kernel
theorem dX4_again_121 : decode cX4_again 121 = .ok (.ireturn, 1) := by decide +kernel
theorem dX4_pop_0 : decode cX4_pop 0 = .ok (.aload_n 0, 1) := by decide +kernel
theorem dX4_pop_1 : decode cX4_pop 1 = .ok (.iconst 0, 1) := by decide +kernel
theorem dX4_pop_2 : decode cX4_pop 2 = .ok (.putfield 45, 3) := by decide +kernel
theorem dX4_pop_5 : decode cX4_pop 5 = .ok (.aload_n 0, 1) := by decide +kernel
theorem dX4_pop_6 : decode cX4_pop 6 = .ok (.getfield 59, 3) := by decide +kernel
theorem dX4_pop_9 : decode cX4_pop 9 = .ok (.ifCond .ne 6, 3) := by decide +kernel
theorem dX4_pop_12 : decode cX4_pop 12 = .ok (.bipush (-3), 2) := by decide +kernel
theorem dX4_pop_14 : decode cX4_pop 14 = .ok (.ireturn, 1) := by decide +kernel
theorem dX4_pop_15 : decode cX4_pop 15 = .ok (.aload_n 0, 1) := by decide +kernel
theorem dX4_pop_16 : decode cX4_pop 16 = .ok (.dup, 1) := by decide +kernel
theorem dX4_pop_17 : decode cX4_pop 17 = .ok (.getfield 59, 3) := by decide +kernel
theorem dX4_pop_20 : decode cX4_pop 20 = .ok (.iconst 1, 1) := by decide +kernel
theorem dX4_pop_21 : decode cX4_pop 21 = .ok (.isub, 1) := by decide +kernel
theorem dX4_pop_22 : decode cX4_pop 22 = .ok (.putfield 59, 3) := by decide +kernel
theorem dX4_pop_25 : decode cX4_pop 25 = .ok (.aload_n 0, 1) := by decide +kernel
theorem dX4_pop_26 : decode cX4_pop 26 = .ok (.getfield 59, 3) := by decide +kernel
theorem dX4_pop_29 : decode cX4_pop 29 = .ok (.ireturn, 1) := by decide +kernel
set_option maxRecDepth 20000 in
theorem ggX4_kth_X4_isAbove : GoodIn wsX4_kth wsX4_isAbove := goodIn_r _ [8, 9, 10, 11, 7, 12, 13, 14, 15, 16, 17, 18, 19, 20, 21, 22, 23, 24, 25, 26, 27, 28, 29] (by decide +kernel) (by decide +kernel)
set_option maxRecDepth 20000 in
theorem gX4_kth_X4_isAbove : GoodIn wsX4_kth (wsV RX4 83 RX4 yX4_isAbove wsX4_isAbove) := goodIn_app (goodIn_of _ (by decide +kernel)) ggX4_kth_X4_isAbove
theorem dX4_kth_0 : decode cX4_kth 0 = .ok (.iconst 0, 1) := by decide +kernel
theorem dX4_kth_1 : decode cX4_kth 1 = .ok (.istore 4, 2) := by decide +kernel
theorem dX4_kth_3 : decode cX4_kth 3 = .ok (.iconst (-1), 1) := by decide +kernel
theorem dX4_kth_4 : decode cX4_kth 4 = .ok (.istore 5, 2) := by decide +kernel
theorem dX4_kth_6 : decode cX4_kth 6 = .ok (.iconst 0, 1) := by decide +kernel
theorem dX4_kth_7 : decode cX4_kth 7 = .ok (.istore 6, 2) := by decide +kernel
theorem dX4_kth_9 : decode cX4_kth 9 = .ok (.iload 6, 2) := by decide +kernel
theorem dX4_kth_11 : decode cX4_kth 11 = .ok (.aload_n 0, 1) := by decide +kernel
theorem dX4_kth_12 : decode cX4_kth 12 = .ok (.getfield 49, 3) := by decide +kernel
theorem dX4_kth_15 : decode cX4_kth 15 = .ok (.if_icmp .ge 174, 3) := by decide +kernel
theorem dX4_kth_18 : decode cX4_kth 18 = .ok (.aload_n 0, 1) := by decide +kernel
theorem dX4_kth_19 : decode cX4_kth 19 = .ok (.getfield 32, 3) := by decide +kernel
theorem dX4_kth_22 : decode cX4_kth 22 = .ok (.sipush 200, 3) := by decide +kernel
theorem dX4_kth_25 : decode cX4_kth 25 = .ok (.iload_n 1, 1) := by decide +kernel
theorem dX4_kth_26 : decode cX4_kth 26 = .ok (.imul, 1) := by decide +kernel
theorem dX4_kth_27 : decode cX4_kth 27 = .ok (.iload 6, 2) := by decide +kernel
theorem dX4_kth_29 : decode cX4_kth 29 = .ok (.iadd, 1) := by decide +kernel
theorem dX4_kth_30 : decode cX4_kth 30 = .ok (.baload, 1) := by decide +kernel
theorem dX4_kth_31 : decode cX4_kth 31 = .ok (.ifCond .eq 152, 3) := by decide +kernel
theorem dX4_kth_34 : decode cX4_kth 34 = .ok (.iload_n 2, 1) := by decide +kernel
theorem dX4_kth_35 : decode cX4_kth 35 = .ok (.ifCond .lt 16, 3) := by decide +kernel
theorem dX4_kth_38 : decode cX4_kth 38 = .ok (.aload_n 0, 1) := by decide +kernel
theorem dX4_kth_39 : decode cX4_kth 39 = .ok (.iload_n 2, 1) := by decide +kernel
theorem dX4_kth_40 : decode cX4_kth 40 = .ok (.iload 6, 2) := by decide +kernel
theorem dX4_kth_42 : decode cX4_kth 42 = .ok (.invokevirtual 83, 3) := by decide +kernel
theorem dX4_kth_45 : decode cX4_kth 45 = .ok (.ifCond .ne 6, 3) := by decide +kernel
theorem dX4_kth_48 : decode cX4_kth 48 = .ok (.goto 135, 3) := by decide +kernel
theorem dX4_kth_51 : decode cX4_kth 51 = .ok (.iinc 4 1, 3) := by decide +kernel
theorem dX4_kth_54 : decode cX4_kth 54 = .ok (.iconst 0, 1) := by decide +kernel
theorem dX4_kth_55 : decode cX4_kth 55 = .ok (.istore 7, 2) := by decide +kernel
theorem dX4_kth_57 : decode cX4_kth 57 = .ok (.iconst 0, 1) := by decide +kernel
theorem dX4_kth_58 : decode cX4_kth 58 = .ok (.istore 8, 2) := by decide +kernel
theorem dX4_kth_60 : decode cX4_kth 60 = .ok (.iload 8, 2) := by decide +kernel
theorem dX4_kth_62 : decode cX4_kth 62 = .ok (.aload_n 0, 1) := by decide +kernel
theorem dX4_kth_63 : decode cX4_kth 63 = .ok (.getfield 49, 3) := by decide +kernel
theorem dX4_kth_66 : decode cX4_kth 66 = .ok (.if_icmp .ge 102, 3) := by decide +kernel
theorem dX4_kth_69 : decode cX4_kth 69 = .ok (.aload_n 0, 1) := by decide +kernel
theorem dX4_kth_70 : decode cX4_kth 70 = .ok (.getfield 32, 3) := by decide +kernel
theorem dX4_kth_73 : decode cX4_kth 73 = .ok (.sipush 200, 3) := by decide +kernel
theorem dX4_kth_76 : decode cX4_kth 76 = .ok (.iload_n 1, 1) := by decide +kernel
theorem dX4_kth_77 : decode cX4_kth 77 = .ok (.imul, 1) := by decide +kernel
theorem dX4_kth_78 : decode cX4_kth 78 = .ok (.iload 8, 2) := by decide +kernel
theorem dX4_kth_80 : decode cX4_kth 80 = .ok (.iadd, 1) := by decide +kernel
theorem dX4_kth_81 : decode cX4_kth 81 = .ok (.baload, 1) := by decide +kernel
theorem dX4_kth_82 : decode cX4_kth 82 = .ok (.ifCond .eq 80, 3) := by decide +kernel
theorem dX4_kth_85 : decode cX4_kth 85 = .ok (.iload_n 2, 1) := by decide +kernel
theorem dX4_kth_86 : decode cX4_kth 86 = .ok (.ifCond .lt 13, 3) := by decide +kernel
theorem dX4_kth_89 : decode cX4_kth 89 = .ok (.aload_n 0, 1) := by decide +kernel
theorem dX4_kth_90 : decode cX4_kth 90 = .ok (.iload_n 2, 1) := by decide +kernel
theorem dX4_kth_91 : decode cX4_kth 91 = .ok (.iload 8, 2) := by decide +kernel
theorem dX4_kth_93 : decode cX4_kth 93 = .ok (.invokevirtual 83, 3) := by decide +kernel
theorem dX4_kth_96 : decode cX4_kth 96 = .ok (.ifCond .eq 66, 3) := by decide +kernel
theorem dX4_kth_99 : decode cX4_kth 99 = .ok (.aload_n 0, 1) := by decide +kernel
theorem dX4_kth_100 : decode cX4_kth 100 = .ok (.getfield 35, 3) := by decide +kernel
theorem dX4_kth_103 : decode cX4_kth 103 = .ok (.sipush 200, 3) := by decide +kernel
theorem dX4_kth_106 : decode cX4_kth 106 = .ok (.iload_n 1, 1) := by decide +kernel
theorem dX4_kth_107 : decode cX4_kth 107 = .ok (.imul, 1) := by decide +kernel
theorem dX4_kth_108 : decode cX4_kth 108 = .ok (.iload 8, 2) := by decide +kernel
theorem dX4_kth_110 : decode cX4_kth 110 = .ok (.iadd, 1) := by decide +kernel
theorem dX4_kth_111 : decode cX4_kth 111 = .ok (.laload, 1) := by decide +kernel
theorem dX4_kth_112 : decode cX4_kth 112 = .ok (.lstore 9, 2) := by decide +kernel
theorem dX4_kth_114 : decode cX4_kth 114 = .ok (.aload_n 0, 1) := by decide +kernel
theorem dX4_kth_115 : decode cX4_kth 115 = .ok (.getfield 35, 3) := by decide +kernel
theorem dX4_kth_118 : decode cX4_kth 118 = .ok (.sipush 200, 3) := by decide +kernel
theorem dX4_kth_121 : decode cX4_kth 121 = .ok (.iload_n 1, 1) := by decide +kernel
theorem dX4_kth_122 : decode cX4_kth 122 = .ok (.imul, 1) := by decide +kernel
theorem dX4_kth_123 : decode cX4_kth 123 = .ok (.iload 6, 2) := by decide +kernel
theorem dX4_kth_125 : decode cX4_kth 125 = .ok (.iadd, 1) := by decide +kernel
theorem dX4_kth_126 : decode cX4_kth 126 = .ok (.laload, 1) := by decide +kernel
theorem dX4_kth_127 : decode cX4_kth 127 = .ok (.lstore 11, 2) := by decide +kernel
theorem dX4_kth_129 : decode cX4_kth 129 = .ok (.iload 7, 2) := by decide +kernel
theorem dX4_kth_131 : decode cX4_kth 131 = .ok (.lload 9, 2) := by decide +kernel
theorem dX4_kth_133 : decode cX4_kth 133 = .ok (.lload 11, 2) := by decide +kernel
theorem dX4_kth_135 : decode cX4_kth 135 = .ok (.lcmp, 1) := by decide +kernel
theorem dX4_kth_136 : decode cX4_kth 136 = .ok (.ifCond .gt 18, 3) := by decide +kernel
theorem dX4_kth_139 : decode cX4_kth 139 = .ok (.lload 9, 2) := by decide +kernel
theorem dX4_kth_141 : decode cX4_kth 141 = .ok (.lload 11, 2) := by decide +kernel
theorem dX4_kth_143 : decode cX4_kth 143 = .ok (.lcmp, 1) := by decide +kernel
theorem dX4_kth_144 : decode cX4_kth 144 = .ok (.ifCond .ne 14, 3) := by decide +kernel
theorem dX4_kth_147 : decode cX4_kth 147 = .ok (.iload 8, 2) := by decide +kernel
theorem dX4_kth_149 : decode cX4_kth 149 = .ok (.iload 6, 2) := by decide +kernel
theorem dX4_kth_151 : decode cX4_kth 151 = .ok (.if_icmp .ge 7, 3) := by decide +kernel
theorem dX4_kth_154 : decode cX4_kth 154 = .ok (.iconst 1, 1) := by decide +kernel
theorem dX4_kth_155 : decode cX4_kth 155 = .ok (.goto 4, 3) := by decide +kernel
theorem dX4_kth_158 : decode cX4_kth 158 = .ok (.iconst 0, 1) := by decide +kernel
theorem dX4_kth_159 : decode cX4_kth 159 = .ok (.iadd, 1) := by decide +kernel
theorem dX4_kth_160 : decode cX4_kth 160 = .ok (.istore 7, 2) := by decide +kernel
theorem dX4_kth_162 : decode cX4_kth 162 = .ok (.iinc 8 1, 3) := by decide +kernel
theorem dX4_kth_165 : decode cX4_kth 165 = .ok (.goto (-105), 3) := by decide +kernel
theorem dX4_kth_168 : decode cX4_kth 168 = .ok (.iload 7, 2) := by decide +kernel
theorem dX4_kth_170 : decode cX4_kth 170 = .ok (.iload_n 3, 1) := by decide +kernel
theorem dX4_kth_171 : decode cX4_kth 171 = .ok (.if_icmp .ne 8, 3) := by decide +kernel
theorem dX4_kth_174 : decode cX4_kth 174 = .ok (.iload 6, 2) := by decide +kernel
theorem dX4_kth_176 : decode cX4_kth 176 = .ok (.goto 5, 3) := by decide +kernel
theorem dX4_kth_179 : decode cX4_kth 179 = .ok (.iload 5, 2) := by decide +kernel
theorem dX4_kth_181 : decode cX4_kth 181 = .ok (.istore 5, 2) := by decide +kernel
theorem dX4_kth_183 : decode cX4_kth 183 = .ok (.iinc 6 1, 3) := by decide +kernel
theorem dX4_kth_186 : decode cX4_kth 186 = .ok (.goto (-177), 3) := by decide +kernel
theorem dX4_kth_189 : decode cX4_kth 189 = .ok (.iload_n 3, 1) := by decide +kernel
theorem dX4_kth_190 : decode cX4_kth 190 = .ok (.iconst (-1), 1) := by decide +kernel
theorem dX4_kth_191 : decode cX4_kth 191 = .ok (.if_icmp .ne 8, 3) := by decide +kernel
theorem dX4_kth_194 : decode cX4_kth 194 = .ok (.iload 4, 2) := by decide +kernel
theorem dX4_kth_196 : decode cX4_kth 196 = .ok (.goto 5, 3) := by decide +kernel
theorem dX4_kth_199 : decode cX4_kth 199 = .ok (.iload 5, 2) := by decide +kernel
theorem dX4_kth_201 : decode cX4_kth 201 = .ok (.ireturn, 1) := by decide +kernel
set_option maxRecDepth 20000 in
theorem ggX4_hit_X4_kth : GoodIn wsX4_hit wsX4_kth := goodIn_r _ [7, 8, 9, 10, 11, 12, 13, 6, 14, 15, 16, 17, 18, 19, 20, 21, 22, 23, 24, 25, 26, 27, 28, 29, 30, 31, 32, 33, 34, 35] (by decide +kernel) (by decide +kernel)
set_option maxRecDepth 20000 in
theorem gX4_hit_X4_kth : GoodIn wsX4_hit (wsV RX4 110 RX4 yX4_kth wsX4_kth) := goodIn_app (goodIn_of _ (by decide +kernel)) ggX4_hit_X4_kth
theorem dX4_hit_0 : decode cX4_hit 0 = .ok (.aload_n 0, 1) := by decide +kernel
theorem dX4_hit_1 : decode cX4_hit 1 = .ok (.iconst 0, 1) := by decide +kernel
theorem dX4_hit_2 : decode cX4_hit 2 = .ok (.putfield 45, 3) := by decide +kernel
theorem dX4_hit_5 : decode cX4_hit 5 = .ok (.aload_n 0, 1) := by decide +kernel
theorem dX4_hit_6 : decode cX4_hit 6 = .ok (.getfield 59, 3) := by decide +kernel
theorem dX4_hit_9 : decode cX4_hit 9 = .ok (.ifCond .ne 8, 3) := by decide +kernel
theorem dX4_hit_12 : decode cX4_hit 12 = .ok (.bipush (-3), 2) := by decide +kernel
theorem dX4_hit_14 : decode cX4_hit 14 = .ok (.goto 15, 3) := by decide +kernel
theorem dX4_hit_17 : decode cX4_hit 17 = .ok (.aload_n 0, 1) := by decide +kernel
theorem dX4_hit_18 : decode cX4_hit 18 = .ok (.aload_n 0, 1) := by decide +kernel
theorem dX4_hit_19 : decode cX4_hit 19 = .ok (.getfield 59, 3) := by decide +kernel
theorem dX4_hit_22 : decode cX4_hit 22 = .ok (.iconst 1, 1) := by decide +kernel
theorem dX4_hit_23 : decode cX4_hit 23 = .ok (.isub, 1) := by decide +kernel
theorem dX4_hit_24 : decode cX4_hit 24 = .ok (.iconst (-1), 1) := by decide +kernel
theorem dX4_hit_25 : decode cX4_hit 25 = .ok (.iload_n 1, 1) := by decide +kernel
theorem dX4_hit_26 : decode cX4_hit 26 = .ok (.invokevirtual 110, 3) := by decide +kernel
theorem dX4_hit_29 : decode cX4_hit 29 = .ok (.ireturn, 1) := by decide +kernel
set_option maxRecDepth 20000 in
theorem ggX4_score_X4_isObject : GoodIn wsX4_score wsX4_isObject := goodIn_r _ [10, 11, 12, 13, 9, 14, 15, 16, 17, 18, 19, 20, 21, 22, 23, 24, 25, 26, 27, 28, 29, 30] (by decide +kernel) (by decide +kernel)
set_option maxRecDepth 20000 in
theorem gX4_score_X4_isObject : GoodIn wsX4_score (wsV RX4 87 RX4 yX4_isObject wsX4_isObject) := goodIn_app (goodIn_of _ (by decide +kernel)) ggX4_score_X4_isObject
theorem dX4_score_0 : decode cX4_score 0 = .ok (.aload_n 0, 1) := by decide +kernel
theorem dX4_score_1 : decode cX4_score 1 = .ok (.iconst 0, 1) := by decide +kernel
theorem dX4_score_2 : decode cX4_score 2 = .ok (.putfield 45, 3) := by decide +kernel
theorem dX4_score_5 : decode cX4_score 5 = .ok (.aload_n 0, 1) := by decide +kernel
theorem dX4_score_6 : decode cX4_score 6 = .ok (.getfield 59, 3) := by decide +kernel
theorem dX4_score_9 : decode cX4_score 9 = .ok (.ifCond .eq 31, 3) := by decide +kernel
theorem dX4_score_12 : decode cX4_score 12 = .ok (.aload_n 0, 1) := by decide +kernel
theorem dX4_score_13 : decode cX4_score 13 = .ok (.iload_n 1, 1) := by decide +kernel
theorem dX4_score_14 : decode cX4_score 14 = .ok (.invokevirtual 87, 3) := by decide +kernel
theorem dX4_score_17 : decode cX4_score 17 = .ok (.ifCond .eq 23, 3) := by decide +kernel
theorem dX4_score_20 : decode cX4_score 20 = .ok (.aload_n 0, 1) := by decide +kernel
theorem dX4_score_21 : decode cX4_score 21 = .ok (.getfield 32, 3) := by decide +kernel
theorem dX4_score_24 : decode cX4_score 24 = .ok (.sipush 200, 3) := by decide +kernel
theorem dX4_score_27 : decode cX4_score 27 = .ok (.aload_n 0, 1) := by decide +kernel
theorem dX4_score_28 : decode cX4_score 28 = .ok (.getfield 59, 3) := by decide +kernel
theorem dX4_score_31 : decode cX4_score 31 = .ok (.iconst 1, 1) := by decide +kernel
theorem dX4_score_32 : decode cX4_score 32 = .ok (.isub, 1) := by decide +kernel
theorem dX4_score_33 : decode cX4_score 33 = .ok (.imul, 1) := by decide +kernel
theorem dX4_score_34 : decode cX4_score 34 = .ok (.iload_n 1, 1) := by decide +kernel
theorem dX4_score_35 : decode cX4_score 35 = .ok (.iadd, 1) := by decide +kernel
theorem dX4_score_36 : decode cX4_score 36 = .ok (.baload, 1) := by decide +kernel
theorem dX4_score_37 : decode cX4_score 37 = .ok (.ifCond .ne 9, 3) := by decide +kernel
theorem dX4_score_40 : decode cX4_score 40 = .ok (.ldc2_w 114, 3) := by decide +kernel
theorem dX4_score_43 : decode cX4_score 43 = .ok (.goto 20, 3) := by decide +kernel
theorem dX4_score_46 : decode cX4_score 46 = .ok (.aload_n 0, 1) := by decide +kernel
theorem dX4_score_47 : decode cX4_score 47 = .ok (.getfield 35, 3) := by decide +kernel
theorem dX4_score_50 : decode cX4_score 50 = .ok (.sipush 200, 3) := by decide +kernel
theorem dX4_score_53 : decode cX4_score 53 = .ok (.aload_n 0, 1) := by decide +kernel
theorem dX4_score_54 : decode cX4_score 54 = .ok (.getfield 59, 3) := by decide +kernel
theorem dX4_score_57 : decode cX4_score 57 = .ok (.iconst 1, 1) := by decide +kernel
theorem dX4_score_58 : decode cX4_score 58 = .ok (.isub, 1) := by decide +kernel
theorem dX4_score_59 : decode cX4_score 59 = .ok (.imul, 1) := by decide +kernel
theorem dX4_score_60 : decode cX4_score 60 = .ok (.iload_n 1, 1) := by decide +kernel
theorem dX4_score_61 : decode cX4_score 61 = .ok (.iadd, 1) := by decide +kernel
theorem dX4_score_62 : decode cX4_score 62 = .ok (.laload, 1) := by decide +kernel
theorem dX4_score_63 : decode cX4_score 63 = .ok (.lreturn, 1) := by decide +kernel
set_option maxRecDepth 20000 in
theorem ggX4_family_X4_isObject : GoodIn wsX4_family wsX4_isObject := goodIn_r _ [7, 8, 9, 10, 6, 11, 27, 28, 29, 30, 31, 32, 33, 34, 35, 36, 37, 38, 39, 40, 41, 42] (by decide +kernel) (by decide +kernel)
set_option maxRecDepth 20000 in
theorem gX4_family_X4_isObject : GoodIn wsX4_family (wsV RX4 87 RX4 yX4_isObject wsX4_isObject) := goodIn_app (goodIn_of _ (by decide +kernel)) ggX4_family_X4_isObject
set_option maxRecDepth 20000 in
theorem ggX4_family_X4_kth : GoodIn wsX4_family wsX4_kth := goodIn_r _ [15, 8, 16, 17, 18, 19, 20, 6, 21, 22, 23, 24, 25, 26, 27, 28, 29, 30, 31, 32, 33, 34, 35, 36, 37, 38, 39, 40, 41, 42] (by decide +kernel) (by decide +kernel)
set_option maxRecDepth 20000 in
theorem gX4_family_X4_kth : GoodIn wsX4_family (wsV RX4 110 RX4 yX4_kth wsX4_kth) := goodIn_app (goodIn_of _ (by decide +kernel)) ggX4_family_X4_kth
theorem dX4_family_0 : decode cX4_family 0 = .ok (.aload_n 0, 1) := by decide +kernel
theorem dX4_family_1 : decode cX4_family 1 = .ok (.iconst 0, 1) := by decide +kernel
theorem dX4_family_2 : decode cX4_family 2 = .ok (.putfield 45, 3) := by decide +kernel
theorem dX4_family_5 : decode cX4_family 5 = .ok (.aload_n 0, 1) := by decide +kernel
theorem dX4_family_6 : decode cX4_family 6 = .ok (.iload_n 1, 1) := by decide +kernel
theorem dX4_family_7 : decode cX4_family 7 = .ok (.invokevirtual 87, 3) := by decide +kernel
theorem dX4_family_10 : decode cX4_family 10 = .ok (.ifCond .eq 10, 3) := by decide +kernel
theorem dX4_family_13 : decode cX4_family 13 = .ok (.aload_n 0, 1) := by decide +kernel
theorem dX4_family_14 : decode cX4_family 14 = .ok (.getfield 62, 3) := by decide +kernel
theorem dX4_family_17 : decode cX4_family 17 = .ok (.ifCond .ne 7, 3) := by decide +kernel
theorem dX4_family_20 : decode cX4_family 20 = .ok (.iconst (-1), 1) := by decide +kernel
theorem dX4_family_21 : decode cX4_family 21 = .ok (.goto 11, 3) := by decide +kernel
theorem dX4_family_24 : decode cX4_family 24 = .ok (.aload_n 0, 1) := by decide +kernel
theorem dX4_family_25 : decode cX4_family 25 = .ok (.bipush 8, 2) := by decide +kernel
theorem dX4_family_27 : decode cX4_family 27 = .ok (.iload_n 1, 1) := by decide +kernel
theorem dX4_family_28 : decode cX4_family 28 = .ok (.iload_n 2, 1) := by decide +kernel
theorem dX4_family_29 : decode cX4_family 29 = .ok (.invokevirtual 110, 3) := by decide +kernel
theorem dX4_family_32 : decode cX4_family 32 = .ok (.ireturn, 1) := by decide +kernel
set_option maxRecDepth 20000 in
theorem ggX4_share_X4_sizeOf : GoodIn wsX4_share wsX4_sizeOf := goodIn_r _ [9, 10, 11, 12, 13, 14, 15, 16, 17, 18, 19, 20, 21, 22, 23, 24, 25, 26, 27] (by decide +kernel) (by decide +kernel)
set_option maxRecDepth 20000 in
theorem gX4_share_X4_sizeOf : GoodIn wsX4_share (wsV RX4 104 RX4 yX4_sizeOf wsX4_sizeOf) := goodIn_app (goodIn_of _ (by decide +kernel)) ggX4_share_X4_sizeOf
theorem dX4_share_0 : decode cX4_share 0 = .ok (.aload_n 0, 1) := by decide +kernel
theorem dX4_share_1 : decode cX4_share 1 = .ok (.iconst 0, 1) := by decide +kernel
theorem dX4_share_2 : decode cX4_share 2 = .ok (.putfield 45, 3) := by decide +kernel
theorem dX4_share_5 : decode cX4_share 5 = .ok (.aload_n 0, 1) := by decide +kernel
theorem dX4_share_6 : decode cX4_share 6 = .ok (.getfield 59, 3) := by decide +kernel
theorem dX4_share_9 : decode cX4_share 9 = .ok (.iconst 2, 1) := by decide +kernel
theorem dX4_share_10 : decode cX4_share 10 = .ok (.if_icmp .ge 7, 3) := by decide +kernel
theorem dX4_share_13 : decode cX4_share 13 = .ok (.ldc2_w 114, 3) := by decide +kernel
theorem dX4_share_16 : decode cX4_share 16 = .ok (.lreturn, 1) := by decide +kernel
theorem dX4_share_17 : decode cX4_share 17 = .ok (.aload_n 0, 1) := by decide +kernel
theorem dX4_share_18 : decode cX4_share 18 = .ok (.aload_n 0, 1) := by decide +kernel
theorem dX4_share_19 : decode cX4_share 19 = .ok (.getfield 59, 3) := by decide +kernel
theorem dX4_share_22 : decode cX4_share 22 = .ok (.iconst 2, 1) := by decide +kernel
theorem dX4_share_23 : decode cX4_share 23 = .ok (.isub, 1) := by decide +kernel
theorem dX4_share_24 : decode cX4_share 24 = .ok (.invokevirtual 104, 3) := by decide +kernel
theorem dX4_share_27 : decode cX4_share 27 = .ok (.istore_n 1, 1) := by decide +kernel
theorem dX4_share_28 : decode cX4_share 28 = .ok (.iload_n 1, 1) := by decide +kernel
theorem dX4_share_29 : decode cX4_share 29 = .ok (.ifCond .ne 10, 3) := by decide +kernel
theorem dX4_share_32 : decode cX4_share 32 = .ok (.aload_n 0, 1) := by decide +kernel
theorem dX4_share_33 : decode cX4_share 33 = .ok (.iconst 1, 1) := by decide +kernel
theorem dX4_share_34 : decode cX4_share 34 = .ok (.putfield 45, 3) := by decide +kernel
theorem dX4_share_37 : decode cX4_share 37 = .ok (.lconst 0, 1) := by decide +kernel
theorem dX4_share_38 : decode cX4_share 38 = .ok (.lreturn, 1) := by decide +kernel
theorem dX4_share_39 : decode cX4_share 39 = .ok (.ldc2_w 116, 3) := by decide +kernel
theorem dX4_share_42 : decode cX4_share 42 = .ok (.aload_n 0, 1) := by decide +kernel
theorem dX4_share_43 : decode cX4_share 43 = .ok (.aload_n 0, 1) := by decide +kernel
theorem dX4_share_44 : decode cX4_share 44 = .ok (.getfield 59, 3) := by decide +kernel
theorem dX4_share_47 : decode cX4_share 47 = .ok (.iconst 1, 1) := by decide +kernel
theorem dX4_share_48 : decode cX4_share 48 = .ok (.isub, 1) := by decide +kernel
theorem dX4_share_49 : decode cX4_share 49 = .ok (.invokevirtual 104, 3) := by decide +kernel
theorem dX4_share_52 : decode cX4_share 52 = .ok (.i2l, 1) := by decide +kernel
theorem dX4_share_53 : decode cX4_share 53 = .ok (.lmul, 1) := by decide +kernel
theorem dX4_share_54 : decode cX4_share 54 = .ok (.iload_n 1, 1) := by decide +kernel
theorem dX4_share_55 : decode cX4_share 55 = .ok (.i2l, 1) := by decide +kernel
theorem dX4_share_56 : decode cX4_share 56 = .ok (.ldiv, 1) := by decide +kernel
theorem dX4_share_57 : decode cX4_share 57 = .ok (.lreturn, 1) := by decide +kernel
theorem dJ6_bitCount_0f7a4_0 : decode cJ6_bitCount_0f7a4 0 = .ok (.iload_n 0, 1) := by decide +kernel
theorem dJ6_bitCount_0f7a4_1 : decode cJ6_bitCount_0f7a4 1 = .ok (.iload_n 0, 1) := by decide +kernel
theorem dJ6_bitCount_0f7a4_2 : decode cJ6_bitCount_0f7a4 2 = .ok (.iconst 1, 1) := by decide +kernel
theorem dJ6_bitCount_0f7a4_3 : decode cJ6_bitCount_0f7a4 3 = .ok (.iushr, 1) := by decide +kernel
theorem dJ6_bitCount_0f7a4_4 : decode cJ6_bitCount_0f7a4 4 = .ok (.ldc_w 265, 3) := by decide +kernel
theorem dJ6_bitCount_0f7a4_7 : decode cJ6_bitCount_0f7a4 7 = .ok (.iand, 1) := by decide +kernel
theorem dJ6_bitCount_0f7a4_8 : decode cJ6_bitCount_0f7a4 8 = .ok (.isub, 1) := by decide +kernel
theorem dJ6_bitCount_0f7a4_9 : decode cJ6_bitCount_0f7a4 9 = .ok (.istore_n 0, 1) := by decide +kernel
theorem dJ6_bitCount_0f7a4_10 : decode cJ6_bitCount_0f7a4 10 = .ok (.iload_n 0, 1) := by decide +kernel
theorem dJ6_bitCount_0f7a4_11 : decode cJ6_bitCount_0f7a4 11 = .ok (.ldc_w 266, 3) := by decide +kernel
theorem dJ6_bitCount_0f7a4_14 : decode cJ6_bitCount_0f7a4 14 = .ok (.iand, 1) := by decide +kernel
theorem dJ6_bitCount_0f7a4_15 : decode cJ6_bitCount_0f7a4 15 = .ok (.iload_n 0, 1) := by decide +kernel
theorem dJ6_bitCount_0f7a4_16 : decode cJ6_bitCount_0f7a4 16 = .ok (.iconst 2, 1) := by decide +kernel
theorem dJ6_bitCount_0f7a4_17 : decode cJ6_bitCount_0f7a4 17 = .ok (.iushr, 1) := by decide +kernel
theorem dJ6_bitCount_0f7a4_18 : decode cJ6_bitCount_0f7a4 18 = .ok (.ldc_w 266, 3) := by decide +kernel
theorem dJ6_bitCount_0f7a4_21 : decode cJ6_bitCount_0f7a4 21 = .ok (.iand, 1) := by decide +kernel
theorem dJ6_bitCount_0f7a4_22 : decode cJ6_bitCount_0f7a4 22 = .ok (.iadd, 1) := by decide +kernel
theorem dJ6_bitCount_0f7a4_23 : decode cJ6_bitCount_0f7a4 23 = .ok (.istore_n 0, 1) := by decide +kernel
theorem dJ6_bitCount_0f7a4_24 : decode cJ6_bitCount_0f7a4 24 = .ok (.iload_n 0, 1) := by decide +kernel
theorem dJ6_bitCount_0f7a4_25 : decode cJ6_bitCount_0f7a4 25 = .ok (.iload_n 0, 1) := by decide +kernel
theorem dJ6_bitCount_0f7a4_26 : decode cJ6_bitCount_0f7a4 26 = .ok (.iconst 4, 1) := by decide +kernel
theorem dJ6_bitCount_0f7a4_27 : decode cJ6_bitCount_0f7a4 27 = .ok (.iushr, 1) := by decide +kernel
theorem dJ6_bitCount_0f7a4_28 : decode cJ6_bitCount_0f7a4 28 = .ok (.iadd, 1) := by decide +kernel
theorem dJ6_bitCount_0f7a4_29 : decode cJ6_bitCount_0f7a4 29 = .ok (.ldc_w 267, 3) := by decide +kernel
theorem dJ6_bitCount_0f7a4_32 : decode cJ6_bitCount_0f7a4 32 = .ok (.iand, 1) := by decide +kernel
theorem dJ6_bitCount_0f7a4_33 : decode cJ6_bitCount_0f7a4 33 = .ok (.istore_n 0, 1) := by decide +kernel
theorem dJ6_bitCount_0f7a4_34 : decode cJ6_bitCount_0f7a4 34 = .ok (.iload_n 0, 1) := by decide +kernel
theorem dJ6_bitCount_0f7a4_35 : decode cJ6_bitCount_0f7a4 35 = .ok (.iload_n 0, 1) := by decide +kernel
theorem dJ6_bitCount_0f7a4_36 : decode cJ6_bitCount_0f7a4 36 = .ok (.bipush 8, 2) := by decide +kernel
theorem dJ6_bitCount_0f7a4_38 : decode cJ6_bitCount_0f7a4 38 = .ok (.iushr, 1) := by decide +kernel
theorem dJ6_bitCount_0f7a4_39 : decode cJ6_bitCount_0f7a4 39 = .ok (.iadd, 1) := by decide +kernel
theorem dJ6_bitCount_0f7a4_40 : decode cJ6_bitCount_0f7a4 40 = .ok (.istore_n 0, 1) := by decide +kernel
theorem dJ6_bitCount_0f7a4_41 : decode cJ6_bitCount_0f7a4 41 = .ok (.iload_n 0, 1) := by decide +kernel
theorem dJ6_bitCount_0f7a4_42 : decode cJ6_bitCount_0f7a4 42 = .ok (.iload_n 0, 1) := by decide +kernel
theorem dJ6_bitCount_0f7a4_43 : decode cJ6_bitCount_0f7a4 43 = .ok (.bipush 16, 2) := by decide +kernel
theorem dJ6_bitCount_0f7a4_45 : decode cJ6_bitCount_0f7a4 45 = .ok (.iushr, 1) := by decide +kernel
theorem dJ6_bitCount_0f7a4_46 : decode cJ6_bitCount_0f7a4 46 = .ok (.iadd, 1) := by decide +kernel
theorem dJ6_bitCount_0f7a4_47 : decode cJ6_bitCount_0f7a4 47 = .ok (.istore_n 0, 1) := by decide +kernel
theorem dJ6_bitCount_0f7a4_48 : decode cJ6_bitCount_0f7a4 48 = .ok (.iload_n 0, 1) := by decide +kernel
theorem dJ6_bitCount_0f7a4_49 : decode cJ6_bitCount_0f7a4 49 = .ok (.bipush 63, 2) := by decide +kernel
theorem dJ6_bitCount_0f7a4_51 : decode cJ6_bitCount_0f7a4 51 = .ok (.iand, 1) := by decide +kernel
theorem dJ6_bitCount_0f7a4_52 : decode cJ6_bitCount_0f7a4 52 = .ok (.ireturn, 1) := by decide +kernel
theorem dJ9_max_f86c9_0 : decode cJ9_max_f86c9 0 = .ok (.lload_n 0, 1) := by decide +kernel
theorem dJ9_max_f86c9_1 : decode cJ9_max_f86c9 1 = .ok (.lload_n 2, 1) := by decide +kernel
theorem dJ9_max_f86c9_2 : decode cJ9_max_f86c9 2 = .ok (.lcmp, 1) := by decide +kernel
theorem dJ9_max_f86c9_3 : decode cJ9_max_f86c9 3 = .ok (.ifCond .lt 7, 3) := by decide +kernel
theorem dJ9_max_f86c9_6 : decode cJ9_max_f86c9 6 = .ok (.lload_n 0, 1) := by decide +kernel
theorem dJ9_max_f86c9_7 : decode cJ9_max_f86c9 7 = .ok (.goto 4, 3) := by decide +kernel
theorem dJ9_max_f86c9_10 : decode cJ9_max_f86c9 10 = .ok (.lload_n 2, 1) := by decide +kernel
theorem dJ9_max_f86c9_11 : decode cJ9_max_f86c9 11 = .ok (.lreturn, 1) := by decide +kernel
theorem dJ9_min_7cf53_0 : decode cJ9_min_7cf53 0 = .ok (.iload_n 0, 1) := by decide +kernel
theorem dJ9_min_7cf53_1 : decode cJ9_min_7cf53 1 = .ok (.iload_n 1, 1) := by decide +kernel
theorem dJ9_min_7cf53_2 : decode cJ9_min_7cf53 2 = .ok (.if_icmp .gt 7, 3) := by decide +kernel
theorem dJ9_min_7cf53_5 : decode cJ9_min_7cf53 5 = .ok (.iload_n 0, 1) := by decide +kernel
theorem dJ9_min_7cf53_6 : decode cJ9_min_7cf53 6 = .ok (.goto 4, 3) := by decide +kernel
theorem dJ9_min_7cf53_9 : decode cJ9_min_7cf53 9 = .ok (.iload_n 1, 1) := by decide +kernel
theorem dJ9_min_7cf53_10 : decode cJ9_min_7cf53 10 = .ok (.ireturn, 1) := by decide +kernel
theorem dJ9_min_f86c9_0 : decode cJ9_min_f86c9 0 = .ok (.lload_n 0, 1) := by decide +kernel
theorem dJ9_min_f86c9_1 : decode cJ9_min_f86c9 1 = .ok (.lload_n 2, 1) := by decide +kernel
theorem dJ9_min_f86c9_2 : decode cJ9_min_f86c9 2 = .ok (.lcmp, 1) := by decide +kernel
theorem dJ9_min_f86c9_3 : decode cJ9_min_f86c9 3 = .ok (.ifCond .gt 7, 3) := by decide +kernel
theorem dJ9_min_f86c9_6 : decode cJ9_min_f86c9 6 = .ok (.lload_n 0, 1) := by decide +kernel
theorem dJ9_min_f86c9_7 : decode cJ9_min_f86c9 7 = .ok (.goto 4, 3) := by decide +kernel
theorem dJ9_min_f86c9_10 : decode cJ9_min_f86c9 10 = .ok (.lload_n 2, 1) := by decide +kernel
theorem dJ9_min_f86c9_11 : decode cJ9_min_f86c9 11 = .ok (.lreturn, 1) := by decide +kernel
set_option maxRecDepth 20000 in
theorem ggL_share_X3_share : GoodIn wsL_share wsX3_share := goodIn_ca (goodIn_r _ [6, 7, 8, 9, 10, 11, 12, 13, 14, 15, 16, 17, 18, 19, 20, 21, 22, 23, 24] (by decide +kernel) (by decide +kernel)) (goodIn_sub (fun _ h => List.mem_cons_of_mem _ (List.mem_append_right _ h)) (by decide +kernel))
set_option maxRecDepth 20000 in
theorem gL_share_X3_share : GoodIn wsL_share (wsV RL 7 RX3 yX3_share wsX3_share) := goodIn_app (goodIn_of _ (by decide +kernel)) ggL_share_X3_share
theorem dL_share_0 : decode cL_share 0 = .ok (.aload_n 1, 1) := by decide +kernel
theorem dL_share_1 : decode cL_share 1 = .ok (.iconst 0, 1) := by decide +kernel
theorem dL_share_2 : decode cL_share 2 = .ok (.aload_n 0, 1) := by decide +kernel
theorem dL_share_3 : decode cL_share 3 = .ok (.invokevirtual 7, 3) := by decide +kernel
theorem dL_share_6 : decode cL_share 6 = .ok (.lastore, 1) := by decide +kernel
theorem dL_share_7 : decode cL_share 7 = .ok (.goto 6, 3) := by decide +kernel
theorem dL_share_10 : decode cL_share 10 = .ok (.astore_n 2, 1) := by decide +kernel
theorem dL_share_11 : decode cL_share 11 = .ok (.iconst 1, 1) := by decide +kernel
theorem dL_share_12 : decode cL_share 12 = .ok (.ireturn, 1) := by decide +kernel
theorem dL_share_13 : decode cL_share 13 = .ok (.iconst 0, 1) := by decide +kernel
theorem dL_share_14 : decode cL_share 14 = .ok (.ireturn, 1) := by decide +kernel
abbrev vwCl : List vw_C := [(RX0, TX0, 3), (RX1, TX1, 7), (RX2, TX2, 3), (RX3, TX3, 8), (RX4, TX4, 16)]
