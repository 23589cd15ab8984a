theorem dX9_odd_0 : decode cX9_odd 0 = .ok (.lconst 0, 1) := by decide +kernel
theorem dX9_odd_1 : decode cX9_odd 1 = .ok (.lstore 4, 2) := by decide +kernel
theorem dX9_odd_3 : decode cX9_odd 3 = .ok (.iconst 0, 1) := by decide +kernel
theorem dX9_odd_4 : decode cX9_odd 4 = .ok (.istore 6, 2) := by decide +kernel
theorem dX9_odd_6 : decode cX9_odd 6 = .ok (.iload 6, 2) := by decide +kernel
theorem dX9_odd_8 : decode cX9_odd 8 = .ok (.aload_n 0, 1) := by decide +kernel
theorem dX9_odd_9 : decode cX9_odd 9 = .ok (.getfield 7, 3) := by decide +kernel
theorem dX9_odd_12 : decode cX9_odd 12 = .ok (.if_icmp .ge 36, 3) := by decide +kernel
theorem dX9_odd_15 : decode cX9_odd 15 = .ok (.iload_n 1, 1) := by decide +kernel
theorem dX9_odd_16 : decode cX9_odd 16 = .ok (.iload 6, 2) := by decide +kernel
theorem dX9_odd_18 : decode cX9_odd 18 = .ok (.ishr, 1) := by decide +kernel
theorem dX9_odd_19 : decode cX9_odd 19 = .ok (.iconst 1, 1) := by decide +kernel
theorem dX9_odd_20 : decode cX9_odd 20 = .ok (.iand, 1) := by decide +kernel
theorem dX9_odd_21 : decode cX9_odd 21 = .ok (.iconst 1, 1) := by decide +kernel
theorem dX9_odd_22 : decode cX9_odd 22 = .ok (.if_icmp .ne 20, 3) := by decide +kernel
theorem dX9_odd_25 : decode cX9_odd 25 = .ok (.lload 4, 2) := by decide +kernel
theorem dX9_odd_27 : decode cX9_odd 27 = .ok (.lload_n 2, 1) := by decide +kernel
theorem dX9_odd_28 : decode cX9_odd 28 = .ok (.iload_n 1, 1) := by decide +kernel
theorem dX9_odd_29 : decode cX9_odd 29 = .ok (.iconst 1, 1) := by decide +kernel
theorem dX9_odd_30 : decode cX9_odd 30 = .ok (.iload 6, 2) := by decide +kernel
theorem dX9_odd_32 : decode cX9_odd 32 = .ok (.ishl, 1) := by decide +kernel
theorem dX9_odd_33 : decode cX9_odd 33 = .ok (.iconst (-1), 1) := by decide +kernel
theorem dX9_odd_34 : decode cX9_odd 34 = .ok (.ixor, 1) := by decide +kernel
theorem dX9_odd_35 : decode cX9_odd 35 = .ok (.iand, 1) := by decide +kernel
theorem dX9_odd_36 : decode cX9_odd 36 = .ok (.lshr, 1) := by decide +kernel
theorem dX9_odd_37 : decode cX9_odd 37 = .ok (.lconst 1, 1) := by decide +kernel
theorem dX9_odd_38 : decode cX9_odd 38 = .ok (.land, 1) := by decide +kernel
theorem dX9_odd_39 : decode cX9_odd 39 = .ok (.lxor, 1) := by decide +kernel
theorem dX9_odd_40 : decode cX9_odd 40 = .ok (.lstore 4, 2) := by decide +kernel
theorem dX9_odd_42 : decode cX9_odd 42 = .ok (.iinc 6 1, 3) := by decide +kernel
theorem dX9_odd_45 : decode cX9_odd 45 = .ok (.goto (-39), 3) := by decide +kernel
theorem dX9_odd_48 : decode cX9_odd 48 = .ok (.lload 4, 2) := by decide +kernel
theorem dX9_odd_50 : decode cX9_odd 50 = .ok (.lconst 1, 1) := by decide +kernel
theorem dX9_odd_51 : decode cX9_odd 51 = .ok (.lcmp, 1) := by decide +kernel
theorem dX9_odd_52 : decode cX9_odd 52 = .ok (.ifCond .ne 7, 3) := by decide +kernel
theorem dX9_odd_55 : decode cX9_odd 55 = .ok (.iconst 1, 1) := by decide +kernel
theorem dX9_odd_56 : decode cX9_odd 56 = .ok (.goto 4, 3) := by decide +kernel
theorem dX9_odd_59 : decode cX9_odd 59 = .ok (.iconst 0, 1) := by decide +kernel
theorem dX9_odd_60 : decode cX9_odd 60 = .ok (.ireturn, 1) := by decide +kernel
set_option maxRecDepth 20000 in
theorem ggX9_rise_X9_all : GoodIn wsX9_rise wsX9_all := goodIn_r _ [5, 6, 19, 20, 21, 22, 23, 24, 25, 26, 27, 28, 29, 30, 31, 32, 33, 34, 35, 36, 37, 38, 39, 40, 41, 42, 43, 44, 45] (by decide +kernel) (by decide +kernel)
set_option maxRecDepth 20000 in
theorem gX9_rise_X9_all : GoodIn wsX9_rise (wsV RX9 55 RX9 yX9_all wsX9_all) := goodIn_app (goodIn_of _ (by decide +kernel)) ggX9_rise_X9_all
set_option maxRecDepth 20000 in
theorem ggX9_rise_X9_size : GoodIn wsX9_rise wsX9_size := goodIn_r _ [9] (by decide +kernel) (by decide +kernel)
set_option maxRecDepth 20000 in
theorem gX9_rise_X9_size : GoodIn wsX9_rise (va_wsS RX9 90 yX9_size wsX9_size) := goodIn_app (goodIn_of _ (by decide +kernel)) ggX9_rise_X9_size
set_option maxRecDepth 20000 in
theorem ggX9_rise_X9_isFace : GoodIn wsX9_rise wsX9_isFace := goodIn_r _ [13, 14, 19, 20, 21, 22, 23, 24, 25, 26, 27, 28, 29, 30, 31, 32, 33, 34, 35, 36, 37, 38, 39, 40, 41, 42, 43, 44, 45] (by decide +kernel) (by decide +kernel)
set_option maxRecDepth 20000 in
theorem gX9_rise_X9_isFace : GoodIn wsX9_rise (wsV RX9 85 RX9 yX9_isFace wsX9_isFace) := goodIn_app (goodIn_of _ (by decide +kernel)) ggX9_rise_X9_isFace
set_option maxRecDepth 20000 in
theorem ggX9_rise_X9_odd : GoodIn wsX9_rise wsX9_odd := goodIn_r _ [18, 6, 19, 20, 21, 22, 23, 24, 25, 26, 27, 28, 29, 30, 31, 32, 33, 34, 35, 36, 37, 38, 39, 40, 41, 42, 43, 44, 45] (by decide +kernel) (by decide +kernel)
set_option maxRecDepth 20000 in
theorem gX9_rise_X9_odd : GoodIn wsX9_rise (wsV RX9 121 RX9 yX9_odd wsX9_odd) := goodIn_app (goodIn_of _ (by decide +kernel)) ggX9_rise_X9_odd
theorem dX9_rise_0 : decode cX9_rise 0 = .ok (.lconst 0, 1) := by decide +kernel
theorem dX9_rise_1 : decode cX9_rise 1 = .ok (.lstore 5, 2) := by decide +kernel
theorem dX9_rise_3 : decode cX9_rise 3 = .ok (.iconst 0, 1) := by decide +kernel
theorem dX9_rise_4 : decode cX9_rise 4 = .ok (.istore 7, 2) := by decide +kernel
theorem dX9_rise_6 : decode cX9_rise 6 = .ok (.iload 7, 2) := by decide +kernel
theorem dX9_rise_8 : decode cX9_rise 8 = .ok (.aload_n 0, 1) := by decide +kernel
theorem dX9_rise_9 : decode cX9_rise 9 = .ok (.invokevirtual 55, 3) := by decide +kernel
theorem dX9_rise_12 : decode cX9_rise 12 = .ok (.if_icmp .gt 65, 3) := by decide +kernel
theorem dX9_rise_15 : decode cX9_rise 15 = .ok (.iload 7, 2) := by decide +kernel
theorem dX9_rise_17 : decode cX9_rise 17 = .ok (.invokestatic 90, 3) := by decide +kernel
theorem dX9_rise_20 : decode cX9_rise 20 = .ok (.iload 4, 2) := by decide +kernel
theorem dX9_rise_22 : decode cX9_rise 22 = .ok (.iconst 1, 1) := by decide +kernel
theorem dX9_rise_23 : decode cX9_rise 23 = .ok (.iadd, 1) := by decide +kernel
theorem dX9_rise_24 : decode cX9_rise 24 = .ok (.if_icmp .ne 47, 3) := by decide +kernel
theorem dX9_rise_27 : decode cX9_rise 27 = .ok (.iload 7, 2) := by decide +kernel
theorem dX9_rise_29 : decode cX9_rise 29 = .ok (.iload_n 3, 1) := by decide +kernel
theorem dX9_rise_30 : decode cX9_rise 30 = .ok (.iconst (-1), 1) := by decide +kernel
theorem dX9_rise_31 : decode cX9_rise 31 = .ok (.ixor, 1) := by decide +kernel
theorem dX9_rise_32 : decode cX9_rise 32 = .ok (.iand, 1) := by decide +kernel
theorem dX9_rise_33 : decode cX9_rise 33 = .ok (.ifCond .ne 38, 3) := by decide +kernel
theorem dX9_rise_36 : decode cX9_rise 36 = .ok (.aload_n 0, 1) := by decide +kernel
theorem dX9_rise_37 : decode cX9_rise 37 = .ok (.iload 7, 2) := by decide +kernel
theorem dX9_rise_39 : decode cX9_rise 39 = .ok (.invokevirtual 85, 3) := by decide +kernel
theorem dX9_rise_42 : decode cX9_rise 42 = .ok (.ifCond .ne 6, 3) := by decide +kernel
theorem dX9_rise_45 : decode cX9_rise 45 = .ok (.goto 26, 3) := by decide +kernel
theorem dX9_rise_48 : decode cX9_rise 48 = .ok (.lload 5, 2) := by decide +kernel
theorem dX9_rise_50 : decode cX9_rise 50 = .ok (.aload_n 0, 1) := by decide +kernel
theorem dX9_rise_51 : decode cX9_rise 51 = .ok (.iload 7, 2) := by decide +kernel
theorem dX9_rise_53 : decode cX9_rise 53 = .ok (.lload_n 1, 1) := by decide +kernel
theorem dX9_rise_54 : decode cX9_rise 54 = .ok (.invokevirtual 121, 3) := by decide +kernel
theorem dX9_rise_57 : decode cX9_rise 57 = .ok (.ifCond .eq 10, 3) := by decide +kernel
theorem dX9_rise_60 : decode cX9_rise 60 = .ok (.lconst 1, 1) := by decide +kernel
theorem dX9_rise_61 : decode cX9_rise 61 = .ok (.iload 7, 2) := by decide +kernel
theorem dX9_rise_63 : decode cX9_rise 63 = .ok (.lshl, 1) := by decide +kernel
theorem dX9_rise_64 : decode cX9_rise 64 = .ok (.goto 4, 3) := by decide +kernel
theorem dX9_rise_67 : decode cX9_rise 67 = .ok (.lconst 0, 1) := by decide +kernel
theorem dX9_rise_68 : decode cX9_rise 68 = .ok (.lor, 1) := by decide +kernel
theorem dX9_rise_69 : decode cX9_rise 69 = .ok (.lstore 5, 2) := by decide +kernel
theorem dX9_rise_71 : decode cX9_rise 71 = .ok (.iinc 7 1, 3) := by decide +kernel
theorem dX9_rise_74 : decode cX9_rise 74 = .ok (.goto (-68), 3) := by decide +kernel
theorem dX9_rise_77 : decode cX9_rise 77 = .ok (.lload 5, 2) := by decide +kernel
theorem dX9_rise_79 : decode cX9_rise 79 = .ok (.lreturn, 1) := by decide +kernel
set_option maxRecDepth 20000 in
theorem ggX9_closed_X9_all : GoodIn wsX9_closed wsX9_all := goodIn_r _ [7, 8, 28, 29, 30, 31, 32, 33, 34, 35, 36, 37, 38, 39, 40, 41, 42, 43, 44, 45, 46, 47, 48, 49, 50, 51, 52, 53, 54] (by decide +kernel) (by decide +kernel)
set_option maxRecDepth 20000 in
theorem gX9_closed_X9_all : GoodIn wsX9_closed (wsV RX9 55 RX9 yX9_all wsX9_all) := goodIn_app (goodIn_of _ (by decide +kernel)) ggX9_closed_X9_all
set_option maxRecDepth 20000 in
theorem ggX9_closed_X9_size : GoodIn wsX9_closed wsX9_size := goodIn_r _ [11] (by decide +kernel) (by decide +kernel)
set_option maxRecDepth 20000 in
theorem gX9_closed_X9_size : GoodIn wsX9_closed (va_wsS RX9 90 yX9_size wsX9_size) := goodIn_app (goodIn_of _ (by decide +kernel)) ggX9_closed_X9_size
set_option maxRecDepth 20000 in
theorem ggX9_closed_X9_isFace : GoodIn wsX9_closed wsX9_isFace := goodIn_r _ [15, 16, 28, 29, 30, 31, 32, 33, 34, 35, 36, 37, 38, 39, 40, 41, 42, 43, 44, 45, 46, 47, 48, 49, 50, 51, 52, 53, 54] (by decide +kernel) (by decide +kernel)
set_option maxRecDepth 20000 in
theorem gX9_closed_X9_isFace : GoodIn wsX9_closed (wsV RX9 85 RX9 yX9_isFace wsX9_isFace) := goodIn_app (goodIn_of _ (by decide +kernel)) ggX9_closed_X9_isFace
set_option maxRecDepth 20000 in
theorem ggX9_closed_X9_rise : GoodIn wsX9_closed wsX9_rise := goodIn_r _ [20, 3, 4, 5, 6, 7, 8, 9, 10, 11, 12, 13, 14, 15, 16, 21, 22, 23, 24, 28, 29, 30, 31, 32, 33, 34, 35, 36, 37, 38, 39, 40, 41, 42, 43, 44, 45, 46, 47, 48, 49, 50, 51, 52, 53, 54] (by decide +kernel) (by decide +kernel)
set_option maxRecDepth 20000 in
theorem gX9_closed_X9_rise : GoodIn wsX9_closed (wsV RX9 125 RX9 yX9_rise wsX9_rise) := goodIn_app (goodIn_of _ (by decide +kernel)) ggX9_closed_X9_rise
set_option maxRecDepth 20000 in
theorem ggX9_closed_X9_highest : GoodIn wsX9_closed wsX9_highest := goodIn_r _ [27] (by decide +kernel) (by decide +kernel)
set_option maxRecDepth 20000 in
theorem gX9_closed_X9_highest : GoodIn wsX9_closed (va_wsS RX9 129 yX9_highest wsX9_highest) := goodIn_app (goodIn_of _ (by decide +kernel)) ggX9_closed_X9_highest
theorem dX9_closed_0 : decode cX9_closed 0 = .ok (.iconst 0, 1) := by decide +kernel
theorem dX9_closed_1 : decode cX9_closed 1 = .ok (.istore 4, 2) := by decide +kernel
theorem dX9_closed_3 : decode cX9_closed 3 = .ok (.iconst 0, 1) := by decide +kernel
theorem dX9_closed_4 : decode cX9_closed 4 = .ok (.istore 5, 2) := by decide +kernel
theorem dX9_closed_6 : decode cX9_closed 6 = .ok (.iconst 0, 1) := by decide +kernel
theorem dX9_closed_7 : decode cX9_closed 7 = .ok (.istore 6, 2) := by decide +kernel
theorem dX9_closed_9 : decode cX9_closed 9 = .ok (.iload 6, 2) := by decide +kernel
theorem dX9_closed_11 : decode cX9_closed 11 = .ok (.aload_n 0, 1) := by decide +kernel
theorem dX9_closed_12 : decode cX9_closed 12 = .ok (.invokevirtual 55, 3) := by decide +kernel
theorem dX9_closed_15 : decode cX9_closed 15 = .ok (.if_icmp .gt 156, 3) := by decide +kernel
theorem dX9_closed_18 : decode cX9_closed 18 = .ok (.iload 6, 2) := by decide +kernel
theorem dX9_closed_20 : decode cX9_closed 20 = .ok (.invokestatic 90, 3) := by decide +kernel
theorem dX9_closed_23 : decode cX9_closed 23 = .ok (.iload_n 2, 1) := by decide +kernel
theorem dX9_closed_24 : decode cX9_closed 24 = .ok (.if_icmp .ne 141, 3) := by decide +kernel
theorem dX9_closed_27 : decode cX9_closed 27 = .ok (.iload 6, 2) := by decide +kernel
theorem dX9_closed_29 : decode cX9_closed 29 = .ok (.iload_n 1, 1) := by decide +kernel
theorem dX9_closed_30 : decode cX9_closed 30 = .ok (.iconst (-1), 1) := by decide +kernel
theorem dX9_closed_31 : decode cX9_closed 31 = .ok (.ixor, 1) := by decide +kernel
theorem dX9_closed_32 : decode cX9_closed 32 = .ok (.iand, 1) := by decide +kernel
theorem dX9_closed_33 : decode cX9_closed 33 = .ok (.ifCond .ne 132, 3) := by decide +kernel
theorem dX9_closed_36 : decode cX9_closed 36 = .ok (.aload_n 0, 1) := by decide +kernel
theorem dX9_closed_37 : decode cX9_closed 37 = .ok (.iload 6, 2) := by decide +kernel
theorem dX9_closed_39 : decode cX9_closed 39 = .ok (.invokevirtual 85, 3) := by decide +kernel
theorem dX9_closed_42 : decode cX9_closed 42 = .ok (.ifCond .ne 6, 3) := by decide +kernel
theorem dX9_closed_45 : decode cX9_closed 45 = .ok (.goto 120, 3) := by decide +kernel
theorem dX9_closed_48 : decode cX9_closed 48 = .ok (.lconst 1, 1) := by decide +kernel
theorem dX9_closed_49 : decode cX9_closed 49 = .ok (.iload 6, 2) := by decide +kernel
theorem dX9_closed_51 : decode cX9_closed 51 = .ok (.lshl, 1) := by decide +kernel
theorem dX9_closed_52 : decode cX9_closed 52 = .ok (.lstore 7, 2) := by decide +kernel
theorem dX9_closed_54 : decode cX9_closed 54 = .ok (.aload_n 0, 1) := by decide +kernel
theorem dX9_closed_55 : decode cX9_closed 55 = .ok (.lload 7, 2) := by decide +kernel
theorem dX9_closed_57 : decode cX9_closed 57 = .ok (.iload_n 1, 1) := by decide +kernel
theorem dX9_closed_58 : decode cX9_closed 58 = .ok (.iload_n 2, 1) := by decide +kernel
theorem dX9_closed_59 : decode cX9_closed 59 = .ok (.invokevirtual 125, 3) := by decide +kernel
theorem dX9_closed_62 : decode cX9_closed 62 = .ok (.lstore 9, 2) := by decide +kernel
theorem dX9_closed_64 : decode cX9_closed 64 = .ok (.iconst 0, 1) := by decide +kernel
theorem dX9_closed_65 : decode cX9_closed 65 = .ok (.istore 11, 2) := by decide +kernel
theorem dX9_closed_67 : decode cX9_closed 67 = .ok (.iload 11, 2) := by decide +kernel
theorem dX9_closed_69 : decode cX9_closed 69 = .ok (.iload 4, 2) := by decide +kernel
theorem dX9_closed_71 : decode cX9_closed 71 = .ok (.if_icmp .ge 54, 3) := by decide +kernel
theorem dX9_closed_74 : decode cX9_closed 74 = .ok (.lload 9, 2) := by decide +kernel
theorem dX9_closed_76 : decode cX9_closed 76 = .ok (.aload_n 0, 1) := by decide +kernel
theorem dX9_closed_77 : decode cX9_closed 77 = .ok (.getfield 28, 3) := by decide +kernel
theorem dX9_closed_80 : decode cX9_closed 80 = .ok (.iload 11, 2) := by decide +kernel
theorem dX9_closed_82 : decode cX9_closed 82 = .ok (.laload, 1) := by decide +kernel
theorem dX9_closed_83 : decode cX9_closed 83 = .ok (.invokestatic 129, 3) := by decide +kernel
theorem dX9_closed_86 : decode cX9_closed 86 = .ok (.land, 1) := by decide +kernel
theorem dX9_closed_87 : decode cX9_closed 87 = .ok (.lconst 0, 1) := by decide +kernel
theorem dX9_closed_88 : decode cX9_closed 88 = .ok (.lcmp, 1) := by decide +kernel
theorem dX9_closed_89 : decode cX9_closed 89 = .ok (.ifCond .ne 6, 3) := by decide +kernel
theorem dX9_closed_92 : decode cX9_closed 92 = .ok (.goto 27, 3) := by decide +kernel
theorem dX9_closed_95 : decode cX9_closed 95 = .ok (.lload 9, 2) := by decide +kernel
theorem dX9_closed_97 : decode cX9_closed 97 = .ok (.aload_n 0, 1) := by decide +kernel
theorem dX9_closed_98 : decode cX9_closed 98 = .ok (.getfield 28, 3) := by decide +kernel
theorem dX9_closed_101 : decode cX9_closed 101 = .ok (.iload 11, 2) := by decide +kernel
theorem dX9_closed_103 : decode cX9_closed 103 = .ok (.laload, 1) := by decide +kernel
theorem dX9_closed_104 : decode cX9_closed 104 = .ok (.lxor, 1) := by decide +kernel
theorem dX9_closed_105 : decode cX9_closed 105 = .ok (.lstore 9, 2) := by decide +kernel
theorem dX9_closed_107 : decode cX9_closed 107 = .ok (.lload 7, 2) := by decide +kernel
theorem dX9_closed_109 : decode cX9_closed 109 = .ok (.aload_n 0, 1) := by decide +kernel
theorem dX9_closed_110 : decode cX9_closed 110 = .ok (.getfield 31, 3) := by decide +kernel
theorem dX9_closed_113 : decode cX9_closed 113 = .ok (.iload 11, 2) := by decide +kernel
theorem dX9_closed_115 : decode cX9_closed 115 = .ok (.laload, 1) := by decide +kernel
theorem dX9_closed_116 : decode cX9_closed 116 = .ok (.lxor, 1) := by decide +kernel
theorem dX9_closed_117 : decode cX9_closed 117 = .ok (.lstore 7, 2) := by decide +kernel
theorem dX9_closed_119 : decode cX9_closed 119 = .ok (.iinc 11 1, 3) := by decide +kernel
theorem dX9_closed_122 : decode cX9_closed 122 = .ok (.goto (-55), 3) := by decide +kernel
theorem dX9_closed_125 : decode cX9_closed 125 = .ok (.lload 9, 2) := by decide +kernel
theorem dX9_closed_127 : decode cX9_closed 127 = .ok (.lconst 0, 1) := by decide +kernel
theorem dX9_closed_128 : decode cX9_closed 128 = .ok (.lcmp, 1) := by decide +kernel
theorem dX9_closed_129 : decode cX9_closed 129 = .ok (.ifCond .ne 15, 3) := by decide +kernel
theorem dX9_closed_132 : decode cX9_closed 132 = .ok (.aload_n 3, 1) := by decide +kernel
theorem dX9_closed_133 : decode cX9_closed 133 = .ok (.iload 5, 2) := by decide +kernel
theorem dX9_closed_135 : decode cX9_closed 135 = .ok (.lload 7, 2) := by decide +kernel
theorem dX9_closed_137 : decode cX9_closed 137 = .ok (.lastore, 1) := by decide +kernel
theorem dX9_closed_138 : decode cX9_closed 138 = .ok (.iinc 5 1, 3) := by decide +kernel
theorem dX9_closed_141 : decode cX9_closed 141 = .ok (.goto 24, 3) := by decide +kernel
theorem dX9_closed_144 : decode cX9_closed 144 = .ok (.aload_n 0, 1) := by decide +kernel
theorem dX9_closed_145 : decode cX9_closed 145 = .ok (.getfield 28, 3) := by decide +kernel
theorem dX9_closed_148 : decode cX9_closed 148 = .ok (.iload 4, 2) := by decide +kernel
theorem dX9_closed_150 : decode cX9_closed 150 = .ok (.lload 9, 2) := by decide +kernel
theorem dX9_closed_152 : decode cX9_closed 152 = .ok (.lastore, 1) := by decide +kernel
theorem dX9_closed_153 : decode cX9_closed 153 = .ok (.aload_n 0, 1) := by decide +kernel
theorem dX9_closed_154 : decode cX9_closed 154 = .ok (.getfield 31, 3) := by decide +kernel
theorem dX9_closed_157 : decode cX9_closed 157 = .ok (.iload 4, 2) := by decide +kernel
theorem dX9_closed_159 : decode cX9_closed 159 = .ok (.lload 7, 2) := by decide +kernel
theorem dX9_closed_161 : decode cX9_closed 161 = .ok (.lastore, 1) := by decide +kernel
theorem dX9_closed_162 : decode cX9_closed 162 = .ok (.iinc 4 1, 3) := by decide +kernel
theorem dX9_closed_165 : decode cX9_closed 165 = .ok (.iinc 6 1, 3) := by decide +kernel
theorem dX9_closed_168 : decode cX9_closed 168 = .ok (.goto (-159), 3) := by decide +kernel
theorem dX9_closed_171 : decode cX9_closed 171 = .ok (.iload 5, 2) := by decide +kernel
theorem dX9_closed_173 : decode cX9_closed 173 = .ok (.ireturn, 1) := by decide +kernel
theorem dX9_highest_0 : decode cX9_highest 0 = .ok (.bipush 63, 2) := by decide +kernel
theorem dX9_highest_2 : decode cX9_highest 2 = .ok (.istore_n 2, 1) := by decide +kernel
theorem dX9_highest_3 : decode cX9_highest 3 = .ok (.lload_n 0, 1) := by decide +kernel
theorem dX9_highest_4 : decode cX9_highest 4 = .ok (.iload_n 2, 1) := by decide +kernel
theorem dX9_highest_5 : decode cX9_highest 5 = .ok (.lshr, 1) := by decide +kernel
theorem dX9_highest_6 : decode cX9_highest 6 = .ok (.lconst 1, 1) := by decide +kernel
theorem dX9_highest_7 : decode cX9_highest 7 = .ok (.land, 1) := by decide +kernel
theorem dX9_highest_8 : decode cX9_highest 8 = .ok (.lconst 0, 1) := by decide +kernel
theorem dX9_highest_9 : decode cX9_highest 9 = .ok (.lcmp, 1) := by decide +kernel
theorem dX9_highest_10 : decode cX9_highest 10 = .ok (.ifCond .ne 9, 3) := by decide +kernel
theorem dX9_highest_13 : decode cX9_highest 13 = .ok (.iinc 2 (-1), 3) := by decide +kernel
theorem dX9_highest_16 : decode cX9_highest 16 = .ok (.goto (-13), 3) := by decide +kernel
theorem dX9_highest_19 : decode cX9_highest 19 = .ok (.lconst 1, 1) := by decide +kernel
theorem dX9_highest_20 : decode cX9_highest 20 = .ok (.iload_n 2, 1) := by decide +kernel
theorem dX9_highest_21 : decode cX9_highest 21 = .ok (.lshl, 1) := by decide +kernel
theorem dX9_highest_22 : decode cX9_highest 22 = .ok (.lreturn, 1) := by decide +kernel
set_option maxRecDepth 20000 in
theorem ggX9_product_X9_all : GoodIn wsX9_product wsX9_all := goodIn_r _ [5, 6, 15, 16, 17, 18, 19, 20, 21, 22, 23, 24, 25, 26, 27, 28, 29, 30, 31, 32, 33, 34, 35, 36, 37, 38, 39, 40, 41] (by decide +kernel) (by decide +kernel)
set_option maxRecDepth 20000 in
theorem gX9_product_X9_all : GoodIn wsX9_product (wsV RX9 55 RX9 yX9_all wsX9_all) := goodIn_app (goodIn_of _ (by decide +kernel)) ggX9_product_X9_all
set_option maxRecDepth 20000 in
theorem ggX9_product_X9_size : GoodIn wsX9_product wsX9_size := goodIn_r _ [9] (by decide +kernel) (by decide +kernel)
set_option maxRecDepth 20000 in
theorem gX9_product_X9_size : GoodIn wsX9_product (va_wsS RX9 90 yX9_size wsX9_size) := goodIn_app (goodIn_of _ (by decide +kernel)) ggX9_product_X9_size
set_option maxRecDepth 20000 in
theorem ggX9_product_X9_isFace : GoodIn wsX9_product wsX9_isFace := goodIn_r _ [13, 14, 15, 16, 17, 18, 19, 20, 21, 22, 23, 24, 25, 26, 27, 28, 29, 30, 31, 32, 33, 34, 35, 36, 37, 38, 39, 40, 41] (by decide +kernel) (by decide +kernel)
set_option maxRecDepth 20000 in
theorem gX9_product_X9_isFace : GoodIn wsX9_product (wsV RX9 85 RX9 yX9_isFace wsX9_isFace) := goodIn_app (goodIn_of _ (by decide +kernel)) ggX9_product_X9_isFace
theorem dX9_product_0 : decode cX9_product 0 = .ok (.lconst 0, 1) := by decide +kernel
theorem dX9_product_1 : decode cX9_product 1 = .ok (.lstore 9, 2) := by decide +kernel
theorem dX9_product_3 : decode cX9_product 3 = .ok (.iconst 0, 1) := by decide +kernel
theorem dX9_product_4 : decode cX9_product 4 = .ok (.istore 11, 2) := by decide +kernel
theorem dX9_product_6 : decode cX9_product 6 = .ok (.iload 11, 2) := by decide +kernel
theorem dX9_product_8 : decode cX9_product 8 = .ok (.aload_n 0, 1) := by decide +kernel
theorem dX9_product_9 : decode cX9_product 9 = .ok (.invokevirtual 55, 3) := by decide +kernel
theorem dX9_product_12 : decode cX9_product 12 = .ok (.if_icmp .gt 83, 3) := by decide +kernel
theorem dX9_product_15 : decode cX9_product 15 = .ok (.iload 11, 2) := by decide +kernel
theorem dX9_product_17 : decode cX9_product 17 = .ok (.iload_n 3, 1) := by decide +kernel
theorem dX9_product_18 : decode cX9_product 18 = .ok (.iload 7, 2) := by decide +kernel
theorem dX9_product_20 : decode cX9_product 20 = .ok (.ior, 1) := by decide +kernel
theorem dX9_product_21 : decode cX9_product 21 = .ok (.iconst (-1), 1) := by decide +kernel
theorem dX9_product_22 : decode cX9_product 22 = .ok (.ixor, 1) := by decide +kernel
theorem dX9_product_23 : decode cX9_product 23 = .ok (.iand, 1) := by decide +kernel
theorem dX9_product_24 : decode cX9_product 24 = .ok (.ifCond .ne 65, 3) := by decide +kernel
theorem dX9_product_27 : decode cX9_product 27 = .ok (.iload 11, 2) := by decide +kernel
theorem dX9_product_29 : decode cX9_product 29 = .ok (.iload_n 3, 1) := by decide +kernel
theorem dX9_product_30 : decode cX9_product 30 = .ok (.iand, 1) := by decide +kernel
theorem dX9_product_31 : decode cX9_product 31 = .ok (.invokestatic 90, 3) := by decide +kernel
theorem dX9_product_34 : decode cX9_product 34 = .ok (.iload 4, 2) := by decide +kernel
theorem dX9_product_36 : decode cX9_product 36 = .ok (.if_icmp .ne 53, 3) := by decide +kernel
theorem dX9_product_39 : decode cX9_product 39 = .ok (.iload 11, 2) := by decide +kernel
theorem dX9_product_41 : decode cX9_product 41 = .ok (.iload 7, 2) := by decide +kernel
theorem dX9_product_43 : decode cX9_product 43 = .ok (.iand, 1) := by decide +kernel
theorem dX9_product_44 : decode cX9_product 44 = .ok (.invokestatic 90, 3) := by decide +kernel
theorem dX9_product_47 : decode cX9_product 47 = .ok (.iload 8, 2) := by decide +kernel
theorem dX9_product_49 : decode cX9_product 49 = .ok (.if_icmp .ne 40, 3) := by decide +kernel
theorem dX9_product_52 : decode cX9_product 52 = .ok (.aload_n 0, 1) := by decide +kernel
theorem dX9_product_53 : decode cX9_product 53 = .ok (.iload 11, 2) := by decide +kernel
theorem dX9_product_55 : decode cX9_product 55 = .ok (.invokevirtual 85, 3) := by decide +kernel
theorem dX9_product_58 : decode cX9_product 58 = .ok (.ifCond .ne 6, 3) := by decide +kernel
theorem dX9_product_61 : decode cX9_product 61 = .ok (.goto 28, 3) := by decide +kernel
theorem dX9_product_64 : decode cX9_product 64 = .ok (.lload 9, 2) := by decide +kernel
theorem dX9_product_66 : decode cX9_product 66 = .ok (.lload_n 1, 1) := by decide +kernel
theorem dX9_product_67 : decode cX9_product 67 = .ok (.iload 11, 2) := by decide +kernel
theorem dX9_product_69 : decode cX9_product 69 = .ok (.iload_n 3, 1) := by decide +kernel
theorem dX9_product_70 : decode cX9_product 70 = .ok (.iand, 1) := by decide +kernel
theorem dX9_product_71 : decode cX9_product 71 = .ok (.lshr, 1) := by decide +kernel
theorem dX9_product_72 : decode cX9_product 72 = .ok (.lload 5, 2) := by decide +kernel
theorem dX9_product_74 : decode cX9_product 74 = .ok (.iload 11, 2) := by decide +kernel
theorem dX9_product_76 : decode cX9_product 76 = .ok (.iload 7, 2) := by decide +kernel
theorem dX9_product_78 : decode cX9_product 78 = .ok (.iand, 1) := by decide +kernel
theorem dX9_product_79 : decode cX9_product 79 = .ok (.lshr, 1) := by decide +kernel
theorem dX9_product_80 : decode cX9_product 80 = .ok (.land, 1) := by decide +kernel
theorem dX9_product_81 : decode cX9_product 81 = .ok (.lconst 1, 1) := by decide +kernel
theorem dX9_product_82 : decode cX9_product 82 = .ok (.land, 1) := by decide +kernel
theorem dX9_product_83 : decode cX9_product 83 = .ok (.iload 11, 2) := by decide +kernel
theorem dX9_product_85 : decode cX9_product 85 = .ok (.lshl, 1) := by decide +kernel
theorem dX9_product_86 : decode cX9_product 86 = .ok (.lor, 1) := by decide +kernel
theorem dX9_product_87 : decode cX9_product 87 = .ok (.lstore 9, 2) := by decide +kernel
theorem dX9_product_89 : decode cX9_product 89 = .ok (.iinc 11 1, 3) := by decide +kernel
theorem dX9_product_92 : decode cX9_product 92 = .ok (.goto (-86), 3) := by decide +kernel
theorem dX9_product_95 : decode cX9_product 95 = .ok (.lload 9, 2) := by decide +kernel
theorem dX9_product_97 : decode cX9_product 97 = .ok (.lreturn, 1) := by decide +kernel
set_option maxRecDepth 20000 in
theorem ggX9_rankOf_X9_closed : GoodIn wsX9_rankOf wsX9_closed := goodIn_r _ [7, 8, 9, 10, 11, 12, 6, 13, 14, 15, 16, 17, 18, 19, 20, 21, 22, 23, 24, 25, 26, 27, 28, 29, 30, 31, 32, 33, 47, 48, 49, 50, 51, 52, 53, 54, 55, 56, 57, 58, 59, 60, 61, 62, 63, 64, 65, 66, 67, 68, 69, 70, 71, 72, 73] (by decide +kernel) (by decide +kernel)
set_option maxRecDepth 20000 in
theorem gX9_rankOf_X9_closed : GoodIn wsX9_rankOf (wsV RX9 133 RX9 yX9_closed wsX9_closed) := goodIn_app (goodIn_of _ (by decide +kernel)) ggX9_rankOf_X9_closed
set_option maxRecDepth 20000 in
theorem ggX9_rankOf_X9_clear : GoodIn wsX9_rankOf wsX9_clear := goodIn_r _ [37, 38, 47, 48, 49, 50, 51, 52, 53, 54, 55, 56, 57, 58, 59, 60, 61, 62, 63, 64, 65, 66, 67, 68, 69, 70, 71, 72, 73] (by decide +kernel) (by decide +kernel)
set_option maxRecDepth 20000 in
theorem gX9_rankOf_X9_clear : GoodIn wsX9_rankOf (wsV RX9 105 RX9 yX9_clear wsX9_clear) := goodIn_app (goodIn_of _ (by decide +kernel)) ggX9_rankOf_X9_clear
set_option maxRecDepth 20000 in
theorem ggX9_rankOf_X9_all : GoodIn wsX9_rankOf wsX9_all := goodIn_r _ [13, 14, 47, 48, 49, 50, 51, 52, 53, 54, 55, 56, 57, 58, 59, 60, 61, 62, 63, 64, 65, 66, 67, 68, 69, 70, 71, 72, 73] (by decide +kernel) (by decide +kernel)
set_option maxRecDepth 20000 in
theorem gX9_rankOf_X9_all : GoodIn wsX9_rankOf (wsV RX9 55 RX9 yX9_all wsX9_all) := goodIn_app (goodIn_of _ (by decide +kernel)) ggX9_rankOf_X9_all
set_option maxRecDepth 20000 in
theorem ggX9_rankOf_X9_size : GoodIn wsX9_rankOf wsX9_size := goodIn_r _ [17] (by decide +kernel) (by decide +kernel)
set_option maxRecDepth 20000 in
theorem gX9_rankOf_X9_size : GoodIn wsX9_rankOf (va_wsS RX9 90 yX9_size wsX9_size) := goodIn_app (goodIn_of _ (by decide +kernel)) ggX9_rankOf_X9_size
set_option maxRecDepth 20000 in
theorem ggX9_rankOf_X9_isFace : GoodIn wsX9_rankOf wsX9_isFace := goodIn_r _ [21, 22, 47, 48, 49, 50, 51, 52, 53, 54, 55, 56, 57, 58, 59, 60, 61, 62, 63, 64, 65, 66, 67, 68, 69, 70, 71, 72, 73] (by decide +kernel) (by decide +kernel)
set_option maxRecDepth 20000 in
theorem gX9_rankOf_X9_isFace : GoodIn wsX9_rankOf (wsV RX9 85 RX9 yX9_isFace wsX9_isFace) := goodIn_app (goodIn_of _ (by decide +kernel)) ggX9_rankOf_X9_isFace
set_option maxRecDepth 20000 in
theorem ggX9_rankOf_X9_rise : GoodIn wsX9_rankOf wsX9_rise := goodIn_r _ [26, 10, 11, 12, 6, 13, 14, 15, 16, 17, 18, 19, 20, 21, 22, 27, 28, 29, 30, 47, 48, 49, 50, 51, 52, 53, 54, 55, 56, 57, 58, 59, 60, 61, 62, 63, 64, 65, 66, 67, 68, 69, 70, 71, 72, 73] (by decide +kernel) (by decide +kernel)
set_option maxRecDepth 20000 in
theorem gX9_rankOf_X9_rise : GoodIn wsX9_rankOf (wsV RX9 125 RX9 yX9_rise wsX9_rise) := goodIn_app (goodIn_of _ (by decide +kernel)) ggX9_rankOf_X9_rise
set_option maxRecDepth 20000 in
theorem ggX9_rankOf_X9_lays : GoodIn wsX9_rankOf wsX9_lays := goodIn_r _ [42, 38, 47, 48, 49, 50, 51, 52, 53, 54, 55, 56, 57, 58, 59, 60, 61, 62, 63, 64, 65, 66, 67, 68, 69, 70, 71, 72, 73] (by decide +kernel) (by decide +kernel)
set_option maxRecDepth 20000 in
theorem gX9_rankOf_X9_lays : GoodIn wsX9_rankOf (wsV RX9 111 RX9 yX9_lays wsX9_lays) := goodIn_app (goodIn_of _ (by decide +kernel)) ggX9_rankOf_X9_lays
set_option maxRecDepth 20000 in
theorem ggX9_rankOf_X9_product : GoodIn wsX9_rankOf wsX9_product := goodIn_r _ [46, 10, 11, 12, 6, 13, 14, 15, 16, 17, 18, 19, 20, 21, 22, 47, 48, 49, 50, 51, 52, 53, 54, 55, 56, 57, 58, 59, 60, 61, 62, 63, 64, 65, 66, 67, 68, 69, 70, 71, 72, 73] (by decide +kernel) (by decide +kernel)
set_option maxRecDepth 20000 in
theorem gX9_rankOf_X9_product : GoodIn wsX9_rankOf (wsV RX9 137 RX9 yX9_product wsX9_product) := goodIn_app (goodIn_of _ (by decide +kernel)) ggX9_rankOf_X9_product
theorem dX9_rankOf_0 : decode cX9_rankOf 0 = .ok (.aload_n 0, 1) := by decide +kernel
theorem dX9_rankOf_1 : decode cX9_rankOf 1 = .ok (.iload_n 1, 1) := by decide +kernel
theorem dX9_rankOf_2 : decode cX9_rankOf 2 = .ok (.iload_n 3, 1) := by decide +kernel
theorem dX9_rankOf_3 : decode cX9_rankOf 3 = .ok (.iconst 1, 1) := by decide +kernel
theorem dX9_rankOf_4 : decode cX9_rankOf 4 = .ok (.iadd, 1) := by decide +kernel
theorem dX9_rankOf_5 : decode cX9_rankOf 5 = .ok (.aload_n 0, 1) := by decide +kernel
theorem dX9_rankOf_6 : decode cX9_rankOf 6 = .ok (.getfield 34, 3) := by decide +kernel
theorem dX9_rankOf_9 : decode cX9_rankOf 9 = .ok (.invokevirtual 133, 3) := by decide +kernel
theorem dX9_rankOf_12 : decode cX9_rankOf 12 = .ok (.istore 5, 2) := by decide +kernel
theorem dX9_rankOf_14 : decode cX9_rankOf 14 = .ok (.aload_n 0, 1) := by decide +kernel
theorem dX9_rankOf_15 : decode cX9_rankOf 15 = .ok (.iload_n 2, 1) := by decide +kernel
theorem dX9_rankOf_16 : decode cX9_rankOf 16 = .ok (.iload 4, 2) := by decide +kernel
theorem dX9_rankOf_18 : decode cX9_rankOf 18 = .ok (.iconst 1, 1) := by decide +kernel
theorem dX9_rankOf_19 : decode cX9_rankOf 19 = .ok (.iadd, 1) := by decide +kernel
theorem dX9_rankOf_20 : decode cX9_rankOf 20 = .ok (.aload_n 0, 1) := by decide +kernel
theorem dX9_rankOf_21 : decode cX9_rankOf 21 = .ok (.getfield 37, 3) := by decide +kernel
theorem dX9_rankOf_24 : decode cX9_rankOf 24 = .ok (.invokevirtual 133, 3) := by decide +kernel
theorem dX9_rankOf_27 : decode cX9_rankOf 27 = .ok (.istore 6, 2) := by decide +kernel
theorem dX9_rankOf_29 : decode cX9_rankOf 29 = .ok (.iload 5, 2) := by decide +kernel
theorem dX9_rankOf_31 : decode cX9_rankOf 31 = .ok (.ifCond .eq 8, 3) := by decide +kernel
theorem dX9_rankOf_34 : decode cX9_rankOf 34 = .ok (.iload 6, 2) := by decide +kernel
theorem dX9_rankOf_36 : decode cX9_rankOf 36 = .ok (.ifCond .ne 5, 3) := by decide +kernel
theorem dX9_rankOf_39 : decode cX9_rankOf 39 = .ok (.iconst 0, 1) := by decide +kernel
theorem dX9_rankOf_40 : decode cX9_rankOf 40 = .ok (.ireturn, 1) := by decide +kernel
theorem dX9_rankOf_41 : decode cX9_rankOf 41 = .ok (.aload_n 0, 1) := by decide +kernel
theorem dX9_rankOf_42 : decode cX9_rankOf 42 = .ok (.invokevirtual 105, 3) := by decide +kernel
theorem dX9_rankOf_45 : decode cX9_rankOf 45 = .ok (.iconst 0, 1) := by decide +kernel
theorem dX9_rankOf_46 : decode cX9_rankOf 46 = .ok (.istore 7, 2) := by decide +kernel
theorem dX9_rankOf_48 : decode cX9_rankOf 48 = .ok (.iload 7, 2) := by decide +kernel
theorem dX9_rankOf_50 : decode cX9_rankOf 50 = .ok (.aload_n 0, 1) := by decide +kernel
theorem dX9_rankOf_51 : decode cX9_rankOf 51 = .ok (.invokevirtual 55, 3) := by decide +kernel
theorem dX9_rankOf_54 : decode cX9_rankOf 54 = .ok (.if_icmp .gt 65, 3) := by decide +kernel
theorem dX9_rankOf_57 : decode cX9_rankOf 57 = .ok (.iload 7, 2) := by decide +kernel
theorem dX9_rankOf_59 : decode cX9_rankOf 59 = .ok (.invokestatic 90, 3) := by decide +kernel
theorem dX9_rankOf_62 : decode cX9_rankOf 62 = .ok (.iload_n 3, 1) := by decide +kernel
theorem dX9_rankOf_63 : decode cX9_rankOf 63 = .ok (.iload 4, 2) := by decide +kernel
theorem dX9_rankOf_65 : decode cX9_rankOf 65 = .ok (.iadd, 1) := by decide +kernel
theorem dX9_rankOf_66 : decode cX9_rankOf 66 = .ok (.iconst 1, 1) := by decide +kernel
theorem dX9_rankOf_67 : decode cX9_rankOf 67 = .ok (.iadd, 1) := by decide +kernel
theorem dX9_rankOf_68 : decode cX9_rankOf 68 = .ok (.if_icmp .ne 45, 3) := by decide +kernel
theorem dX9_rankOf_71 : decode cX9_rankOf 71 = .ok (.iload 7, 2) := by decide +kernel
theorem dX9_rankOf_73 : decode cX9_rankOf 73 = .ok (.iload_n 1, 1) := by decide +kernel
theorem dX9_rankOf_74 : decode cX9_rankOf 74 = .ok (.iload_n 2, 1) := by decide +kernel
theorem dX9_rankOf_75 : decode cX9_rankOf 75 = .ok (.ior, 1) := by decide +kernel
theorem dX9_rankOf_76 : decode cX9_rankOf 76 = .ok (.iconst (-1), 1) := by decide +kernel
theorem dX9_rankOf_77 : decode cX9_rankOf 77 = .ok (.ixor, 1) := by decide +kernel
theorem dX9_rankOf_78 : decode cX9_rankOf 78 = .ok (.iand, 1) := by decide +kernel
theorem dX9_rankOf_79 : decode cX9_rankOf 79 = .ok (.ifCond .ne 34, 3) := by decide +kernel
theorem dX9_rankOf_82 : decode cX9_rankOf 82 = .ok (.aload_n 0, 1) := by decide +kernel
theorem dX9_rankOf_83 : decode cX9_rankOf 83 = .ok (.iload 7, 2) := by decide +kernel
theorem dX9_rankOf_85 : decode cX9_rankOf 85 = .ok (.invokevirtual 85, 3) := by decide +kernel
theorem dX9_rankOf_88 : decode cX9_rankOf 88 = .ok (.ifCond .eq 25, 3) := by decide +kernel
theorem dX9_rankOf_91 : decode cX9_rankOf 91 = .ok (.aload_n 0, 1) := by decide +kernel
theorem dX9_rankOf_92 : decode cX9_rankOf 92 = .ok (.aload_n 0, 1) := by decide +kernel
theorem dX9_rankOf_93 : decode cX9_rankOf 93 = .ok (.lconst 1, 1) := by decide +kernel
theorem dX9_rankOf_94 : decode cX9_rankOf 94 = .ok (.iload 7, 2) := by decide +kernel
theorem dX9_rankOf_96 : decode cX9_rankOf 96 = .ok (.lshl, 1) := by decide +kernel
theorem dX9_rankOf_97 : decode cX9_rankOf 97 = .ok (.iload_n 1, 1) := by decide +kernel
theorem dX9_rankOf_98 : decode cX9_rankOf 98 = .ok (.iload_n 2, 1) := by decide +kernel
theorem dX9_rankOf_99 : decode cX9_rankOf 99 = .ok (.ior, 1) := by decide +kernel
theorem dX9_rankOf_100 : decode cX9_rankOf 100 = .ok (.iload_n 3, 1) := by decide +kernel
theorem dX9_rankOf_101 : decode cX9_rankOf 101 = .ok (.iload 4, 2) := by decide +kernel
theorem dX9_rankOf_103 : decode cX9_rankOf 103 = .ok (.iadd, 1) := by decide +kernel
theorem dX9_rankOf_104 : decode cX9_rankOf 104 = .ok (.iconst 1, 1) := by decide +kernel
theorem dX9_rankOf_105 : decode cX9_rankOf 105 = .ok (.iadd, 1) := by decide +kernel
theorem dX9_rankOf_106 : decode cX9_rankOf 106 = .ok (.invokevirtual 125, 3) := by decide +kernel
theorem dX9_rankOf_109 : decode cX9_rankOf 109 = .ok (.invokevirtual 111, 3) := by decide +kernel
theorem dX9_rankOf_112 : decode cX9_rankOf 112 = .ok (.pop, 1) := by decide +kernel
theorem dX9_rankOf_113 : decode cX9_rankOf 113 = .ok (.iinc 7 1, 3) := by decide +kernel
theorem dX9_rankOf_116 : decode cX9_rankOf 116 = .ok (.goto (-68), 3) := by decide +kernel
theorem dX9_rankOf_119 : decode cX9_rankOf 119 = .ok (.iconst 0, 1) := by decide +kernel
theorem dX9_rankOf_120 : decode cX9_rankOf 120 = .ok (.istore 7, 2) := by decide +kernel
theorem dX9_rankOf_122 : decode cX9_rankOf 122 = .ok (.iconst 0, 1) := by decide +kernel
theorem dX9_rankOf_123 : decode cX9_rankOf 123 = .ok (.istore 8, 2) := by decide +kernel
theorem dX9_rankOf_125 : decode cX9_rankOf 125 = .ok (.iload 8, 2) := by decide +kernel
theorem dX9_rankOf_127 : decode cX9_rankOf 127 = .ok (.iload 5, 2) := by decide +kernel
theorem dX9_rankOf_129 : decode cX9_rankOf 129 = .ok (.if_icmp .ge 69, 3) := by decide +kernel
theorem dX9_rankOf_132 : decode cX9_rankOf 132 = .ok (.iconst 0, 1) := by decide +kernel
theorem dX9_rankOf_133 : decode cX9_rankOf 133 = .ok (.istore 9, 2) := by decide +kernel
theorem dX9_rankOf_135 : decode cX9_rankOf 135 = .ok (.iload 9, 2) := by decide +kernel
theorem dX9_rankOf_137 : decode cX9_rankOf 137 = .ok (.iload 6, 2) := by decide +kernel
theorem dX9_rankOf_139 : decode cX9_rankOf 139 = .ok (.if_icmp .ge 53, 3) := by decide +kernel
theorem dX9_rankOf_142 : decode cX9_rankOf 142 = .ok (.iload 7, 2) := by decide +kernel
theorem dX9_rankOf_144 : decode cX9_rankOf 144 = .ok (.aload_n 0, 1) := by decide +kernel
theorem dX9_rankOf_145 : decode cX9_rankOf 145 = .ok (.aload_n 0, 1) := by decide +kernel
theorem dX9_rankOf_146 : decode cX9_rankOf 146 = .ok (.aload_n 0, 1) := by decide +kernel
theorem dX9_rankOf_147 : decode cX9_rankOf 147 = .ok (.getfield 34, 3) := by decide +kernel
theorem dX9_rankOf_150 : decode cX9_rankOf 150 = .ok (.iload 8, 2) := by decide +kernel
theorem dX9_rankOf_152 : decode cX9_rankOf 152 = .ok (.laload, 1) := by decide +kernel
theorem dX9_rankOf_153 : decode cX9_rankOf 153 = .ok (.iload_n 1, 1) := by decide +kernel
theorem dX9_rankOf_154 : decode cX9_rankOf 154 = .ok (.iload_n 3, 1) := by decide +kernel
theorem dX9_rankOf_155 : decode cX9_rankOf 155 = .ok (.iconst 1, 1) := by decide +kernel
theorem dX9_rankOf_156 : decode cX9_rankOf 156 = .ok (.iadd, 1) := by decide +kernel
theorem dX9_rankOf_157 : decode cX9_rankOf 157 = .ok (.aload_n 0, 1) := by decide +kernel
theorem dX9_rankOf_158 : decode cX9_rankOf 158 = .ok (.getfield 37, 3) := by decide +kernel
theorem dX9_rankOf_161 : decode cX9_rankOf 161 = .ok (.iload 9, 2) := by decide +kernel
theorem dX9_rankOf_163 : decode cX9_rankOf 163 = .ok (.laload, 1) := by decide +kernel
theorem dX9_rankOf_164 : decode cX9_rankOf 164 = .ok (.iload_n 2, 1) := by decide +kernel
theorem dX9_rankOf_165 : decode cX9_rankOf 165 = .ok (.iload 4, 2) := by decide +kernel
theorem dX9_rankOf_167 : decode cX9_rankOf 167 = .ok (.iconst 1, 1) := by decide +kernel
theorem dX9_rankOf_168 : decode cX9_rankOf 168 = .ok (.iadd, 1) := by decide +kernel
theorem dX9_rankOf_169 : decode cX9_rankOf 169 = .ok (.invokevirtual 137, 3) := by decide +kernel
theorem dX9_rankOf_172 : decode cX9_rankOf 172 = .ok (.invokevirtual 111, 3) := by decide +kernel
theorem dX9_rankOf_175 : decode cX9_rankOf 175 = .ok (.ifCond .eq 7, 3) := by decide +kernel
theorem dX9_rankOf_178 : decode cX9_rankOf 178 = .ok (.iconst 1, 1) := by decide +kernel
theorem dX9_rankOf_179 : decode cX9_rankOf 179 = .ok (.goto 4, 3) := by decide +kernel
theorem dX9_rankOf_182 : decode cX9_rankOf 182 = .ok (.iconst 0, 1) := by decide +kernel
theorem dX9_rankOf_183 : decode cX9_rankOf 183 = .ok (.iadd, 1) := by decide +kernel
theorem dX9_rankOf_184 : decode cX9_rankOf 184 = .ok (.istore 7, 2) := by decide +kernel
theorem dX9_rankOf_186 : decode cX9_rankOf 186 = .ok (.iinc 9 1, 3) := by decide +kernel
theorem dX9_rankOf_189 : decode cX9_rankOf 189 = .ok (.goto (-54), 3) := by decide +kernel
theorem dX9_rankOf_192 : decode cX9_rankOf 192 = .ok (.iinc 8 1, 3) := by decide +kernel
theorem dX9_rankOf_195 : decode cX9_rankOf 195 = .ok (.goto (-70), 3) := by decide +kernel
theorem dX9_rankOf_198 : decode cX9_rankOf 198 = .ok (.iload 7, 2) := by decide +kernel
theorem dX9_rankOf_200 : decode cX9_rankOf 200 = .ok (.ireturn, 1) := by decide +kernel
set_option maxRecDepth 20000 in
theorem ggX9_rank_X9_isSet : GoodIn wsX9_rank wsX9_isSet := goodIn_r _ [5, 6, 7, 8, 4, 9, 10, 11, 12, 13, 58, 59, 60, 61, 62, 63, 64, 65, 66, 67, 68, 69, 70, 71, 72, 73, 74, 75, 76, 77, 78, 79, 80, 81, 82, 83, 84] (by decide +kernel) (by decide +kernel)
set_option maxRecDepth 20000 in
theorem gX9_rank_X9_isSet : GoodIn wsX9_rank (wsV RX9 73 RX9 yX9_isSet wsX9_isSet) := goodIn_app (goodIn_of _ (by decide +kernel)) ggX9_rank_X9_isSet
set_option maxRecDepth 20000 in
theorem ggX9_rank_X9_isIn : GoodIn wsX9_rank wsX9_isIn := goodIn_r _ [13] (by decide +kernel) (by decide +kernel)
set_option maxRecDepth 20000 in
theorem gX9_rank_X9_isIn : GoodIn wsX9_rank (va_wsS RX9 59 yX9_isIn wsX9_isIn) := goodIn_app (goodIn_of _ (by decide +kernel)) ggX9_rank_X9_isIn
set_option maxRecDepth 20000 in
theorem ggX9_rank_X9_rankOf : GoodIn wsX9_rank wsX9_rankOf := goodIn_r _ [17, 18, 19, 20, 21, 22, 4, 23, 24, 25, 6, 7, 8, 9, 10, 26, 27, 28, 29, 30, 31, 32, 33, 34, 35, 36, 37, 38, 39, 40, 41, 42, 43, 44, 45, 46, 47, 48, 49, 50, 51, 52, 53, 54, 55, 56, 57, 58, 59, 60, 61, 62, 63, 64, 65, 66, 67, 68, 69, 70, 71, 72, 73, 74, 75, 76, 77, 78, 79, 80, 81, 82, 83, 84] (by decide +kernel) (by decide +kernel)
set_option maxRecDepth 20000 in
theorem gX9_rank_X9_rankOf : GoodIn wsX9_rank (wsV RX9 141 RX9 yX9_rankOf wsX9_rankOf) := goodIn_app (goodIn_of _ (by decide +kernel)) ggX9_rank_X9_rankOf
theorem dX9_rank_0 : decode cX9_rank 0 = .ok (.aload_n 0, 1) := by decide +kernel
theorem dX9_rank_1 : decode cX9_rank 1 = .ok (.iload_n 1, 1) := by decide +kernel
theorem dX9_rank_2 : decode cX9_rank 2 = .ok (.invokevirtual 73, 3) := by decide +kernel
theorem dX9_rank_5 : decode cX9_rank 5 = .ok (.ifCond .eq 56, 3) := by decide +kernel
theorem dX9_rank_8 : decode cX9_rank 8 = .ok (.aload_n 0, 1) := by decide +kernel
theorem dX9_rank_9 : decode cX9_rank 9 = .ok (.iload_n 2, 1) := by decide +kernel
theorem dX9_rank_10 : decode cX9_rank 10 = .ok (.invokevirtual 73, 3) := by decide +kernel
theorem dX9_rank_13 : decode cX9_rank 13 = .ok (.ifCond .eq 48, 3) := by decide +kernel
theorem dX9_rank_16 : decode cX9_rank 16 = .ok (.iload_n 1, 1) := by decide +kernel
theorem dX9_rank_17 : decode cX9_rank 17 = .ok (.ifCond .eq 44, 3) := by decide +kernel
theorem dX9_rank_20 : decode cX9_rank 20 = .ok (.iload_n 2, 1) := by decide +kernel
theorem dX9_rank_21 : decode cX9_rank 21 = .ok (.ifCond .eq 40, 3) := by decide +kernel
theorem dX9_rank_24 : decode cX9_rank 24 = .ok (.iload_n 1, 1) := by decide +kernel
theorem dX9_rank_25 : decode cX9_rank 25 = .ok (.iload_n 2, 1) := by decide +kernel
theorem dX9_rank_26 : decode cX9_rank 26 = .ok (.iand, 1) := by decide +kernel
theorem dX9_rank_27 : decode cX9_rank 27 = .ok (.ifCond .ne 34, 3) := by decide +kernel
theorem dX9_rank_30 : decode cX9_rank 30 = .ok (.iload_n 3, 1) := by decide +kernel
theorem dX9_rank_31 : decode cX9_rank 31 = .ok (.iconst 0, 1) := by decide +kernel
theorem dX9_rank_32 : decode cX9_rank 32 = .ok (.iconst 5, 1) := by decide +kernel
theorem dX9_rank_33 : decode cX9_rank 33 = .ok (.invokestatic 59, 3) := by decide +kernel
theorem dX9_rank_36 : decode cX9_rank 36 = .ok (.ifCond .eq 25, 3) := by decide +kernel
theorem dX9_rank_39 : decode cX9_rank 39 = .ok (.iload 4, 2) := by decide +kernel
theorem dX9_rank_41 : decode cX9_rank 41 = .ok (.iconst 0, 1) := by decide +kernel
theorem dX9_rank_42 : decode cX9_rank 42 = .ok (.iconst 5, 1) := by decide +kernel
theorem dX9_rank_43 : decode cX9_rank 43 = .ok (.invokestatic 59, 3) := by decide +kernel
theorem dX9_rank_46 : decode cX9_rank 46 = .ok (.ifCond .eq 15, 3) := by decide +kernel
theorem dX9_rank_49 : decode cX9_rank 49 = .ok (.aload_n 0, 1) := by decide +kernel
theorem dX9_rank_50 : decode cX9_rank 50 = .ok (.iload_n 1, 1) := by decide +kernel
theorem dX9_rank_51 : decode cX9_rank 51 = .ok (.iload_n 2, 1) := by decide +kernel
theorem dX9_rank_52 : decode cX9_rank 52 = .ok (.iload_n 3, 1) := by decide +kernel
theorem dX9_rank_53 : decode cX9_rank 53 = .ok (.iload 4, 2) := by decide +kernel
theorem dX9_rank_55 : decode cX9_rank 55 = .ok (.invokevirtual 141, 3) := by decide +kernel
theorem dX9_rank_58 : decode cX9_rank 58 = .ok (.goto 4, 3) := by decide +kernel
theorem dX9_rank_61 : decode cX9_rank 61 = .ok (.iconst (-1), 1) := by decide +kernel
theorem dX9_rank_62 : decode cX9_rank 62 = .ok (.ireturn, 1) := by decide +kernel
set_option maxRecDepth 20000 in
theorem ggX9_finds_X9_all : GoodIn wsX9_finds wsX9_all := goodIn_r _ [11, 2, 83, 84, 85, 86, 87, 88, 89, 90, 91, 92, 93, 94, 95, 96, 97, 98, 99, 100, 101, 102, 103, 104, 105, 106, 107, 108, 109] (by decide +kernel) (by decide +kernel)
set_option maxRecDepth 20000 in
theorem gX9_finds_X9_all : GoodIn wsX9_finds (wsV RX9 55 RX9 yX9_all wsX9_all) := goodIn_app (goodIn_of _ (by decide +kernel)) ggX9_finds_X9_all
set_option maxRecDepth 20000 in
theorem ggX9_finds_X9_holesOf : GoodIn wsX9_finds wsX9_holesOf := goodIn_r _ [15, 16, 17, 18, 10, 19, 7, 8, 9, 11, 2, 20, 21, 22, 23, 4, 24, 25, 26, 27, 28, 29, 30, 31, 32, 33, 34, 35, 36, 37, 38, 39, 40, 41, 42, 43, 44, 45, 46, 83, 84, 85, 86, 87, 88, 89, 90, 91, 92, 93, 94, 95, 96, 97, 98, 99, 100, 101, 102, 103, 104, 105, 106, 107, 108, 109] (by decide +kernel) (by decide +kernel)
set_option maxRecDepth 20000 in
theorem gX9_finds_X9_holesOf : GoodIn wsX9_finds (wsV RX9 118 RX9 yX9_holesOf wsX9_holesOf) := goodIn_app (goodIn_of _ (by decide +kernel)) ggX9_finds_X9_holesOf
set_option maxRecDepth 20000 in
theorem ggX9_finds_X9_seeks : GoodIn wsX9_finds wsX9_seeks := goodIn_r _ [50, 51, 52, 53, 54, 6, 55, 7, 8, 9, 10, 11, 2, 24, 25, 26, 56, 57, 58, 59, 60, 61, 62, 63, 64, 65, 66, 67, 20, 21, 22, 23, 4, 68, 69, 70, 71, 72, 73, 74, 75, 76, 77, 78, 34, 35, 36, 37, 38, 43, 44, 45, 46, 79, 80, 81, 82, 83, 84, 85, 86, 87, 88, 89, 90, 91, 92, 93, 94, 95, 96, 97, 98, 99, 100, 101, 102, 103, 104, 105, 106, 107, 108, 109] (by decide +kernel) (by decide +kernel)
set_option maxRecDepth 20000 in
theorem gX9_finds_X9_seeks : GoodIn wsX9_finds (wsV RX9 155 RX9 yX9_seeks wsX9_seeks) := goodIn_app (goodIn_of _ (by decide +kernel)) ggX9_finds_X9_seeks
theorem dX9_finds_0 : decode cX9_finds 0 = .ok (.aload_n 0, 1) := by decide +kernel
theorem dX9_finds_1 : decode cX9_finds 1 = .ok (.getfield 145, 3) := by decide +kernel
theorem dX9_finds_4 : decode cX9_finds 4 = .ok (.aload_n 0, 1) := by decide +kernel
theorem dX9_finds_5 : decode cX9_finds 5 = .ok (.getfield 7, 3) := by decide +kernel
theorem dX9_finds_8 : decode cX9_finds 8 = .ok (.if_icmp .ne 20, 3) := by decide +kernel
theorem dX9_finds_11 : decode cX9_finds 11 = .ok (.aload_n 0, 1) := by decide +kernel
theorem dX9_finds_12 : decode cX9_finds 12 = .ok (.getfield 148, 3) := by decide +kernel
theorem dX9_finds_15 : decode cX9_finds 15 = .ok (.aload_n 0, 1) := by decide +kernel
theorem dX9_finds_16 : decode cX9_finds 16 = .ok (.getfield 13, 3) := by decide +kernel
theorem dX9_finds_19 : decode cX9_finds 19 = .ok (.lcmp, 1) := by decide +kernel
theorem dX9_finds_20 : decode cX9_finds 20 = .ok (.ifCond .ne 8, 3) := by decide +kernel
theorem dX9_finds_23 : decode cX9_finds 23 = .ok (.aload_n 0, 1) := by decide +kernel
theorem dX9_finds_24 : decode cX9_finds 24 = .ok (.getfield 151, 3) := by decide +kernel
theorem dX9_finds_27 : decode cX9_finds 27 = .ok (.ireturn, 1) := by decide +kernel
theorem dX9_finds_28 : decode cX9_finds 28 = .ok (.aload_n 0, 1) := by decide +kernel
theorem dX9_finds_29 : decode cX9_finds 29 = .ok (.aload_n 0, 1) := by decide +kernel
theorem dX9_finds_30 : decode cX9_finds 30 = .ok (.getfield 7, 3) := by decide +kernel
theorem dX9_finds_33 : decode cX9_finds 33 = .ok (.putfield 145, 3) := by decide +kernel
theorem dX9_finds_36 : decode cX9_finds 36 = .ok (.aload_n 0, 1) := by decide +kernel
theorem dX9_finds_37 : decode cX9_finds 37 = .ok (.aload_n 0, 1) := by decide +kernel
theorem dX9_finds_38 : decode cX9_finds 38 = .ok (.getfield 13, 3) := by decide +kernel
theorem dX9_finds_41 : decode cX9_finds 41 = .ok (.putfield 148, 3) := by decide +kernel
theorem dX9_finds_44 : decode cX9_finds 44 = .ok (.iconst 0, 1) := by decide +kernel
theorem dX9_finds_45 : decode cX9_finds 45 = .ok (.istore_n 1, 1) := by decide +kernel
theorem dX9_finds_46 : decode cX9_finds 46 = .ok (.iload_n 1, 1) := by decide +kernel
theorem dX9_finds_47 : decode cX9_finds 47 = .ok (.aload_n 0, 1) := by decide +kernel
theorem dX9_finds_48 : decode cX9_finds 48 = .ok (.invokevirtual 55, 3) := by decide +kernel
theorem dX9_finds_51 : decode cX9_finds 51 = .ok (.if_icmp .gt 40, 3) := by decide +kernel
theorem dX9_finds_54 : decode cX9_finds 54 = .ok (.iconst 0, 1) := by decide +kernel
theorem dX9_finds_55 : decode cX9_finds 55 = .ok (.istore_n 2, 1) := by decide +kernel
theorem dX9_finds_56 : decode cX9_finds 56 = .ok (.iload_n 2, 1) := by decide +kernel
theorem dX9_finds_57 : decode cX9_finds 57 = .ok (.bipush 6, 2) := by decide +kernel
theorem dX9_finds_59 : decode cX9_finds 59 = .ok (.if_icmp .ge 26, 3) := by decide +kernel
theorem dX9_finds_62 : decode cX9_finds 62 = .ok (.aload_n 0, 1) := by decide +kernel
theorem dX9_finds_63 : decode cX9_finds 63 = .ok (.getfield 40, 3) := by decide +kernel
theorem dX9_finds_66 : decode cX9_finds 66 = .ok (.bipush 6, 2) := by decide +kernel
theorem dX9_finds_68 : decode cX9_finds 68 = .ok (.iload_n 1, 1) := by decide +kernel
theorem dX9_finds_69 : decode cX9_finds 69 = .ok (.imul, 1) := by decide +kernel
theorem dX9_finds_70 : decode cX9_finds 70 = .ok (.iload_n 2, 1) := by decide +kernel
theorem dX9_finds_71 : decode cX9_finds 71 = .ok (.iadd, 1) := by decide +kernel
theorem dX9_finds_72 : decode cX9_finds 72 = .ok (.aload_n 0, 1) := by decide +kernel
theorem dX9_finds_73 : decode cX9_finds 73 = .ok (.iload_n 1, 1) := by decide +kernel
theorem dX9_finds_74 : decode cX9_finds 74 = .ok (.iload_n 2, 1) := by decide +kernel
theorem dX9_finds_75 : decode cX9_finds 75 = .ok (.invokevirtual 118, 3) := by decide +kernel
theorem dX9_finds_78 : decode cX9_finds 78 = .ok (.iastore, 1) := by decide +kernel
theorem dX9_finds_79 : decode cX9_finds 79 = .ok (.iinc 2 1, 3) := by decide +kernel
theorem dX9_finds_82 : decode cX9_finds 82 = .ok (.goto (-26), 3) := by decide +kernel
theorem dX9_finds_85 : decode cX9_finds 85 = .ok (.iinc 1 1, 3) := by decide +kernel
theorem dX9_finds_88 : decode cX9_finds 88 = .ok (.goto (-42), 3) := by decide +kernel
theorem dX9_finds_91 : decode cX9_finds 91 = .ok (.aload_n 0, 1) := by decide +kernel
theorem dX9_finds_92 : decode cX9_finds 92 = .ok (.aload_n 0, 1) := by decide +kernel
theorem dX9_finds_93 : decode cX9_finds 93 = .ok (.invokevirtual 155, 3) := by decide +kernel
theorem dX9_finds_96 : decode cX9_finds 96 = .ok (.putfield 151, 3) := by decide +kernel
theorem dX9_finds_99 : decode cX9_finds 99 = .ok (.aload_n 0, 1) := by decide +kernel
theorem dX9_finds_100 : decode cX9_finds 100 = .ok (.getfield 151, 3) := by decide +kernel
theorem dX9_finds_103 : decode cX9_finds 103 = .ok (.ireturn, 1) := by decide +kernel
set_option maxRecDepth 20000 in
theorem ggX9_seeks_X9_all : GoodIn wsX9_seeks wsX9_all := goodIn_r _ [11, 12, 57, 58, 59, 60, 61, 62, 63, 64, 65, 66, 67, 68, 69, 70, 71, 72, 73, 74, 75, 76, 77, 78, 79, 80, 81, 82, 83] (by decide +kernel) (by decide +kernel)
set_option maxRecDepth 20000 in
theorem gX9_seeks_X9_all : GoodIn wsX9_seeks (wsV RX9 55 RX9 yX9_all wsX9_all) := goodIn_app (goodIn_of _ (by decide +kernel)) ggX9_seeks_X9_all
set_option maxRecDepth 20000 in
theorem ggX9_seeks_X9_size : GoodIn wsX9_seeks wsX9_size := goodIn_r _ [15] (by decide +kernel) (by decide +kernel)
set_option maxRecDepth 20000 in
theorem gX9_seeks_X9_size : GoodIn wsX9_seeks (va_wsS RX9 90 yX9_size wsX9_size) := goodIn_app (goodIn_of _ (by decide +kernel)) ggX9_seeks_X9_size
set_option maxRecDepth 20000 in
theorem ggX9_seeks_X9_rankOf : GoodIn wsX9_seeks wsX9_rankOf := goodIn_r _ [19, 20, 21, 22, 23, 24, 10, 25, 26, 27, 7, 8, 9, 11, 12, 13, 14, 15, 28, 29, 30, 31, 32, 33, 34, 35, 36, 37, 38, 39, 40, 41, 42, 43, 44, 45, 46, 47, 48, 49, 50, 51, 52, 53, 54, 55, 56, 57, 58, 59, 60, 61, 62, 63, 64, 65, 66, 67, 68, 69, 70, 71, 72, 73, 74, 75, 76, 77, 78, 79, 80, 81, 82, 83] (by decide +kernel) (by decide +kernel)
set_option maxRecDepth 20000 in
theorem gX9_seeks_X9_rankOf : GoodIn wsX9_seeks (wsV RX9 141 RX9 yX9_rankOf wsX9_rankOf) := goodIn_app (goodIn_of _ (by decide +kernel)) ggX9_seeks_X9_rankOf
theorem dX9_seeks_0 : decode cX9_seeks 0 = .ok (.aload_n 0, 1) := by decide +kernel
theorem dX9_seeks_1 : decode cX9_seeks 1 = .ok (.iconst 1, 1) := by decide +kernel
theorem dX9_seeks_2 : decode cX9_seeks 2 = .ok (.putfield 159, 3) := by decide +kernel
theorem dX9_seeks_5 : decode cX9_seeks 5 = .ok (.aload_n 0, 1) := by decide +kernel
theorem dX9_seeks_6 : decode cX9_seeks 6 = .ok (.getfield 159, 3) := by decide +kernel
theorem dX9_seeks_9 : decode cX9_seeks 9 = .ok (.aload_n 0, 1) := by decide +kernel
theorem dX9_seeks_10 : decode cX9_seeks 10 = .ok (.invokevirtual 55, 3) := by decide +kernel
theorem dX9_seeks_13 : decode cX9_seeks 13 = .ok (.if_icmp .gt 205, 3) := by decide +kernel
theorem dX9_seeks_16 : decode cX9_seeks 16 = .ok (.aload_n 0, 1) := by decide +kernel
theorem dX9_seeks_17 : decode cX9_seeks 17 = .ok (.aload_n 0, 1) := by decide +kernel
theorem dX9_seeks_18 : decode cX9_seeks 18 = .ok (.getfield 159, 3) := by decide +kernel
theorem dX9_seeks_21 : decode cX9_seeks 21 = .ok (.iconst 1, 1) := by decide +kernel
theorem dX9_seeks_22 : decode cX9_seeks 22 = .ok (.iadd, 1) := by decide +kernel
theorem dX9_seeks_23 : decode cX9_seeks 23 = .ok (.putfield 162, 3) := by decide +kernel
theorem dX9_seeks_26 : decode cX9_seeks 26 = .ok (.aload_n 0, 1) := by decide +kernel
theorem dX9_seeks_27 : decode cX9_seeks 27 = .ok (.getfield 162, 3) := by decide +kernel
theorem dX9_seeks_30 : decode cX9_seeks 30 = .ok (.aload_n 0, 1) := by decide +kernel
theorem dX9_seeks_31 : decode cX9_seeks 31 = .ok (.invokevirtual 55, 3) := by decide +kernel
theorem dX9_seeks_34 : decode cX9_seeks 34 = .ok (.if_icmp .gt 171, 3) := by decide +kernel
theorem dX9_seeks_37 : decode cX9_seeks 37 = .ok (.aload_n 0, 1) := by decide +kernel
theorem dX9_seeks_38 : decode cX9_seeks 38 = .ok (.getfield 159, 3) := by decide +kernel
theorem dX9_seeks_41 : decode cX9_seeks 41 = .ok (.aload_n 0, 1) := by decide +kernel
theorem dX9_seeks_42 : decode cX9_seeks 42 = .ok (.getfield 162, 3) := by decide +kernel
theorem dX9_seeks_45 : decode cX9_seeks 45 = .ok (.iand, 1) := by decide +kernel
theorem dX9_seeks_46 : decode cX9_seeks 46 = .ok (.ifCond .eq 6, 3) := by decide +kernel
theorem dX9_seeks_49 : decode cX9_seeks 49 = .ok (.goto 143, 3) := by decide +kernel
theorem dX9_seeks_52 : decode cX9_seeks 52 = .ok (.aload_n 0, 1) := by decide +kernel
theorem dX9_seeks_53 : decode cX9_seeks 53 = .ok (.iconst 0, 1) := by decide +kernel
theorem dX9_seeks_54 : decode cX9_seeks 54 = .ok (.putfield 165, 3) := by decide +kernel
theorem dX9_seeks_57 : decode cX9_seeks 57 = .ok (.aload_n 0, 1) := by decide +kernel
theorem dX9_seeks_58 : decode cX9_seeks 58 = .ok (.getfield 165, 3) := by decide +kernel
theorem dX9_seeks_61 : decode cX9_seeks 61 = .ok (.aload_n 0, 1) := by decide +kernel
theorem dX9_seeks_62 : decode cX9_seeks 62 = .ok (.getfield 159, 3) := by decide +kernel
theorem dX9_seeks_65 : decode cX9_seeks 65 = .ok (.invokestatic 90, 3) := by decide +kernel
theorem dX9_seeks_68 : decode cX9_seeks 68 = .ok (.if_icmp .ge 124, 3) := by decide +kernel
theorem dX9_seeks_71 : decode cX9_seeks 71 = .ok (.aload_n 0, 1) := by decide +kernel
theorem dX9_seeks_72 : decode cX9_seeks 72 = .ok (.iconst 0, 1) := by decide +kernel
theorem dX9_seeks_73 : decode cX9_seeks 73 = .ok (.putfield 168, 3) := by decide +kernel
theorem dX9_seeks_76 : decode cX9_seeks 76 = .ok (.aload_n 0, 1) := by decide +kernel
theorem dX9_seeks_77 : decode cX9_seeks 77 = .ok (.getfield 168, 3) := by decide +kernel
theorem dX9_seeks_80 : decode cX9_seeks 80 = .ok (.aload_n 0, 1) := by decide +kernel
theorem dX9_seeks_81 : decode cX9_seeks 81 = .ok (.getfield 162, 3) := by decide +kernel
theorem dX9_seeks_84 : decode cX9_seeks 84 = .ok (.invokestatic 90, 3) := by decide +kernel
theorem dX9_seeks_87 : decode cX9_seeks 87 = .ok (.if_icmp .ge 92, 3) := by decide +kernel
theorem dX9_seeks_90 : decode cX9_seeks 90 = .ok (.aload_n 0, 1) := by decide +kernel
theorem dX9_seeks_91 : decode cX9_seeks 91 = .ok (.getfield 40, 3) := by decide +kernel
theorem dX9_seeks_94 : decode cX9_seeks 94 = .ok (.bipush 6, 2) := by decide +kernel
theorem dX9_seeks_96 : decode cX9_seeks 96 = .ok (.aload_n 0, 1) := by decide +kernel
theorem dX9_seeks_97 : decode cX9_seeks 97 = .ok (.getfield 159, 3) := by decide +kernel
theorem dX9_seeks_100 : decode cX9_seeks 100 = .ok (.imul, 1) := by decide +kernel
theorem dX9_seeks_101 : decode cX9_seeks 101 = .ok (.aload_n 0, 1) := by decide +kernel
theorem dX9_seeks_102 : decode cX9_seeks 102 = .ok (.getfield 165, 3) := by decide +kernel
theorem dX9_seeks_105 : decode cX9_seeks 105 = .ok (.iadd, 1) := by decide +kernel
theorem dX9_seeks_106 : decode cX9_seeks 106 = .ok (.iaload, 1) := by decide +kernel
theorem dX9_seeks_107 : decode cX9_seeks 107 = .ok (.ifCond .eq 59, 3) := by decide +kernel
theorem dX9_seeks_110 : decode cX9_seeks 110 = .ok (.aload_n 0, 1) := by decide +kernel
theorem dX9_seeks_111 : decode cX9_seeks 111 = .ok (.getfield 40, 3) := by decide +kernel
theorem dX9_seeks_114 : decode cX9_seeks 114 = .ok (.bipush 6, 2) := by decide +kernel
theorem dX9_seeks_116 : decode cX9_seeks 116 = .ok (.aload_n 0, 1) := by decide +kernel
theorem dX9_seeks_117 : decode cX9_seeks 117 = .ok (.getfield 162, 3) := by decide +kernel
theorem dX9_seeks_120 : decode cX9_seeks 120 = .ok (.imul, 1) := by decide +kernel
theorem dX9_seeks_121 : decode cX9_seeks 121 = .ok (.aload_n 0, 1) := by decide +kernel
theorem dX9_seeks_122 : decode cX9_seeks 122 = .ok (.getfield 168, 3) := by decide +kernel
theorem dX9_seeks_125 : decode cX9_seeks 125 = .ok (.iadd, 1) := by decide +kernel
theorem dX9_seeks_126 : decode cX9_seeks 126 = .ok (.iaload, 1) := by decide +kernel
theorem dX9_seeks_127 : decode cX9_seeks 127 = .ok (.ifCond .ne 6, 3) := by decide +kernel
theorem dX9_seeks_130 : decode cX9_seeks 130 = .ok (.goto 36, 3) := by decide +kernel
theorem dX9_seeks_133 : decode cX9_seeks 133 = .ok (.aload_n 0, 1) := by decide +kernel
theorem dX9_seeks_134 : decode cX9_seeks 134 = .ok (.aload_n 0, 1) := by decide +kernel
theorem dX9_seeks_135 : decode cX9_seeks 135 = .ok (.aload_n 0, 1) := by decide +kernel
theorem dX9_seeks_136 : decode cX9_seeks 136 = .ok (.getfield 159, 3) := by decide +kernel
theorem dX9_seeks_139 : decode cX9_seeks 139 = .ok (.aload_n 0, 1) := by decide +kernel
theorem dX9_seeks_140 : decode cX9_seeks 140 = .ok (.getfield 162, 3) := by decide +kernel
theorem dX9_seeks_143 : decode cX9_seeks 143 = .ok (.aload_n 0, 1) := by decide +kernel
theorem dX9_seeks_144 : decode cX9_seeks 144 = .ok (.getfield 165, 3) := by decide +kernel
theorem dX9_seeks_147 : decode cX9_seeks 147 = .ok (.aload_n 0, 1) := by decide +kernel
theorem dX9_seeks_148 : decode cX9_seeks 148 = .ok (.getfield 168, 3) := by decide +kernel
theorem dX9_seeks_151 : decode cX9_seeks 151 = .ok (.invokevirtual 141, 3) := by decide +kernel
theorem dX9_seeks_154 : decode cX9_seeks 154 = .ok (.putfield 171, 3) := by decide +kernel
theorem dX9_seeks_157 : decode cX9_seeks 157 = .ok (.aload_n 0, 1) := by decide +kernel
theorem dX9_seeks_158 : decode cX9_seeks 158 = .ok (.getfield 171, 3) := by decide +kernel
theorem dX9_seeks_161 : decode cX9_seeks 161 = .ok (.ifCond .le 5, 3) := by decide +kernel
theorem dX9_seeks_164 : decode cX9_seeks 164 = .ok (.iconst 1, 1) := by decide +kernel
theorem dX9_seeks_165 : decode cX9_seeks 165 = .ok (.ireturn, 1) := by decide +kernel
theorem dX9_seeks_166 : decode cX9_seeks 166 = .ok (.aload_n 0, 1) := by decide +kernel
theorem dX9_seeks_167 : decode cX9_seeks 167 = .ok (.dup, 1) := by decide +kernel
theorem dX9_seeks_168 : decode cX9_seeks 168 = .ok (.getfield 168, 3) := by decide +kernel
theorem dX9_seeks_171 : decode cX9_seeks 171 = .ok (.iconst 1, 1) := by decide +kernel
theorem dX9_seeks_172 : decode cX9_seeks 172 = .ok (.iadd, 1) := by decide +kernel
theorem dX9_seeks_173 : decode cX9_seeks 173 = .ok (.putfield 168, 3) := by decide +kernel
theorem dX9_seeks_176 : decode cX9_seeks 176 = .ok (.goto (-100), 3) := by decide +kernel
theorem dX9_seeks_179 : decode cX9_seeks 179 = .ok (.aload_n 0, 1) := by decide +kernel
theorem dX9_seeks_180 : decode cX9_seeks 180 = .ok (.dup, 1) := by decide +kernel
theorem dX9_seeks_181 : decode cX9_seeks 181 = .ok (.getfield 165, 3) := by decide +kernel
theorem dX9_seeks_184 : decode cX9_seeks 184 = .ok (.iconst 1, 1) := by decide +kernel
theorem dX9_seeks_185 : decode cX9_seeks 185 = .ok (.iadd, 1) := by decide +kernel
theorem dX9_seeks_186 : decode cX9_seeks 186 = .ok (.putfield 165, 3) := by decide +kernel
theorem dX9_seeks_189 : decode cX9_seeks 189 = .ok (.goto (-132), 3) := by decide +kernel
theorem dX9_seeks_192 : decode cX9_seeks 192 = .ok (.aload_n 0, 1) := by decide +kernel
theorem dX9_seeks_193 : decode cX9_seeks 193 = .ok (.dup, 1) := by decide +kernel
theorem dX9_seeks_194 : decode cX9_seeks 194 = .ok (.getfield 162, 3) := by decide +kernel
theorem dX9_seeks_197 : decode cX9_seeks 197 = .ok (.iconst 1, 1) := by decide +kernel
theorem dX9_seeks_198 : decode cX9_seeks 198 = .ok (.iadd, 1) := by decide +kernel
theorem dX9_seeks_199 : decode cX9_seeks 199 = .ok (.putfield 162, 3) := by decide +kernel
theorem dX9_seeks_202 : decode cX9_seeks 202 = .ok (.goto (-176), 3) := by decide +kernel
theorem dX9_seeks_205 : decode cX9_seeks 205 = .ok (.aload_n 0, 1) := by decide +kernel
theorem dX9_seeks_206 : decode cX9_seeks 206 = .ok (.dup, 1) := by decide +kernel
theorem dX9_seeks_207 : decode cX9_seeks 207 = .ok (.getfield 159, 3) := by decide +kernel
theorem dX9_seeks_210 : decode cX9_seeks 210 = .ok (.iconst 1, 1) := by decide +kernel
theorem dX9_seeks_211 : decode cX9_seeks 211 = .ok (.iadd, 1) := by decide +kernel
theorem dX9_seeks_212 : decode cX9_seeks 212 = .ok (.putfield 159, 3) := by decide +kernel
theorem dX9_seeks_215 : decode cX9_seeks 215 = .ok (.goto (-210), 3) := by decide +kernel
theorem dX9_seeks_218 : decode cX9_seeks 218 = .ok (.iconst 0, 1) := by decide +kernel
theorem dX9_seeks_219 : decode cX9_seeks 219 = .ok (.ireturn, 1) := by decide +kernel
set_option maxRecDepth 20000 in
theorem ggX9_first_X9_isIn : GoodIn wsX9_first wsX9_isIn := goodIn_r _ [9] (by decide +kernel) (by decide +kernel)
set_option maxRecDepth 20000 in
theorem gX9_first_X9_isIn : GoodIn wsX9_first (va_wsS RX9 59 yX9_isIn wsX9_isIn) := goodIn_app (goodIn_of _ (by decide +kernel)) ggX9_first_X9_isIn
set_option maxRecDepth 20000 in
theorem ggX9_first_X9_finds : GoodIn wsX9_first wsX9_finds := goodIn_r _ [13, 14, 15, 16, 17, 18, 19, 20, 21, 22, 8, 23, 24, 25, 26, 27, 28, 29, 30, 31, 32, 33, 34, 35, 36, 37, 38, 39, 40, 41, 42, 43, 44, 45, 46, 47, 48, 49, 50, 51, 52, 53, 54, 55, 56, 57, 58, 59, 60, 61, 62, 1, 2, 3, 4, 5, 63, 64, 65, 66, 67, 68, 69, 70, 71, 72, 73, 74, 75, 76, 77, 78, 79, 80, 81, 82, 83, 84, 85, 86, 87, 88, 89, 90, 91, 92, 93, 94, 95, 96, 97, 98, 99, 100, 101, 102, 103, 104, 105, 106, 107, 108, 109, 110, 111, 112, 113, 114, 115, 116] (by decide +kernel) (by decide +kernel)
set_option maxRecDepth 20000 in
theorem gX9_first_X9_finds : GoodIn wsX9_first (wsV RX9 174 RX9 yX9_finds wsX9_finds) := goodIn_app (goodIn_of _ (by decide +kernel)) ggX9_first_X9_finds
theorem dX9_first_0 : decode cX9_first 0 = .ok (.iload_n 1, 1) := by decide +kernel
theorem dX9_first_1 : decode cX9_first 1 = .ok (.iconst 0, 1) := by decide +kernel
theorem dX9_first_2 : decode cX9_first 2 = .ok (.iconst 4, 1) := by decide +kernel
theorem dX9_first_3 : decode cX9_first 3 = .ok (.invokestatic 59, 3) := by decide +kernel
theorem dX9_first_6 : decode cX9_first 6 = .ok (.ifCond .eq 10, 3) := by decide +kernel
theorem dX9_first_9 : decode cX9_first 9 = .ok (.aload_n 0, 1) := by decide +kernel
theorem dX9_first_10 : decode cX9_first 10 = .ok (.invokevirtual 174, 3) := by decide +kernel
theorem dX9_first_13 : decode cX9_first 13 = .ok (.ifCond .ne 5, 3) := by decide +kernel
theorem dX9_first_16 : decode cX9_first 16 = .ok (.iconst (-1), 1) := by decide +kernel
theorem dX9_first_17 : decode cX9_first 17 = .ok (.ireturn, 1) := by decide +kernel
theorem dX9_first_18 : decode cX9_first 18 = .ok (.iload_n 1, 1) := by decide +kernel
theorem dX9_first_19 : decode cX9_first 19 = .ok (.ifCond .ne 10, 3) := by decide +kernel
theorem dX9_first_22 : decode cX9_first 22 = .ok (.aload_n 0, 1) := by decide +kernel
theorem dX9_first_23 : decode cX9_first 23 = .ok (.getfield 159, 3) := by decide +kernel
theorem dX9_first_26 : decode cX9_first 26 = .ok (.goto 43, 3) := by decide +kernel
theorem dX9_first_29 : decode cX9_first 29 = .ok (.iload_n 1, 1) := by decide +kernel
theorem dX9_first_30 : decode cX9_first 30 = .ok (.iconst 1, 1) := by decide +kernel
theorem dX9_first_31 : decode cX9_first 31 = .ok (.if_icmp .ne 10, 3) := by decide +kernel
theorem dX9_first_34 : decode cX9_first 34 = .ok (.aload_n 0, 1) := by decide +kernel
theorem dX9_first_35 : decode cX9_first 35 = .ok (.getfield 162, 3) := by decide +kernel
theorem dX9_first_38 : decode cX9_first 38 = .ok (.goto 31, 3) := by decide +kernel
theorem dX9_first_41 : decode cX9_first 41 = .ok (.iload_n 1, 1) := by decide +kernel
theorem dX9_first_42 : decode cX9_first 42 = .ok (.iconst 2, 1) := by decide +kernel
theorem dX9_first_43 : decode cX9_first 43 = .ok (.if_icmp .ne 10, 3) := by decide +kernel
theorem dX9_first_46 : decode cX9_first 46 = .ok (.aload_n 0, 1) := by decide +kernel
theorem dX9_first_47 : decode cX9_first 47 = .ok (.getfield 165, 3) := by decide +kernel
theorem dX9_first_50 : decode cX9_first 50 = .ok (.goto 19, 3) := by decide +kernel
theorem dX9_first_53 : decode cX9_first 53 = .ok (.iload_n 1, 1) := by decide +kernel
theorem dX9_first_54 : decode cX9_first 54 = .ok (.iconst 3, 1) := by decide +kernel
theorem dX9_first_55 : decode cX9_first 55 = .ok (.if_icmp .ne 10, 3) := by decide +kernel
theorem dX9_first_58 : decode cX9_first 58 = .ok (.aload_n 0, 1) := by decide +kernel
theorem dX9_first_59 : decode cX9_first 59 = .ok (.getfield 168, 3) := by decide +kernel
theorem dX9_first_62 : decode cX9_first 62 = .ok (.goto 7, 3) := by decide +kernel
theorem dX9_first_65 : decode cX9_first 65 = .ok (.aload_n 0, 1) := by decide +kernel
theorem dX9_first_66 : decode cX9_first 66 = .ok (.getfield 171, 3) := by decide +kernel
theorem dX9_first_69 : decode cX9_first 69 = .ok (.ireturn, 1) := by decide +kernel
set_option maxRecDepth 20000 in
theorem ggX9_keeps_X9_all : GoodIn wsX9_keeps wsX9_all := goodIn_r _ [7, 1, 13, 14, 15, 16, 17, 18, 19, 20, 21, 22, 23, 24, 25, 26, 27, 28, 29, 30, 31, 32, 33, 34, 35, 36, 37, 38, 39] (by decide +kernel) (by decide +kernel)
set_option maxRecDepth 20000 in
theorem gX9_keeps_X9_all : GoodIn wsX9_keeps (wsV RX9 55 RX9 yX9_all wsX9_all) := goodIn_app (goodIn_of _ (by decide +kernel)) ggX9_keeps_X9_all
set_option maxRecDepth 20000 in
theorem ggX9_keeps_X9_isFace : GoodIn wsX9_keeps wsX9_isFace := goodIn_r _ [11, 12, 13, 14, 15, 16, 17, 18, 19, 20, 21, 22, 23, 24, 25, 26, 27, 28, 29, 30, 31, 32, 33, 34, 35, 36, 37, 38, 39] (by decide +kernel) (by decide +kernel)
set_option maxRecDepth 20000 in
theorem gX9_keeps_X9_isFace : GoodIn wsX9_keeps (wsV RX9 85 RX9 yX9_isFace wsX9_isFace) := goodIn_app (goodIn_of _ (by decide +kernel)) ggX9_keeps_X9_isFace
theorem dX9_keeps_0 : decode cX9_keeps 0 = .ok (.iconst 1, 1) := by decide +kernel
theorem dX9_keeps_1 : decode cX9_keeps 1 = .ok (.istore_n 1, 1) := by decide +kernel
theorem dX9_keeps_2 : decode cX9_keeps 2 = .ok (.iconst 0, 1) := by decide +kernel
theorem dX9_keeps_3 : decode cX9_keeps 3 = .ok (.istore_n 2, 1) := by decide +kernel
theorem dX9_keeps_4 : decode cX9_keeps 4 = .ok (.iload_n 2, 1) := by decide +kernel
theorem dX9_keeps_5 : decode cX9_keeps 5 = .ok (.aload_n 0, 1) := by decide +kernel
theorem dX9_keeps_6 : decode cX9_keeps 6 = .ok (.invokevirtual 55, 3) := by decide +kernel
theorem dX9_keeps_9 : decode cX9_keeps 9 = .ok (.if_icmp .gt 72, 3) := by decide +kernel
theorem dX9_keeps_12 : decode cX9_keeps 12 = .ok (.iload_n 1, 1) := by decide +kernel
theorem dX9_keeps_13 : decode cX9_keeps 13 = .ok (.ifCond .eq 68, 3) := by decide +kernel
theorem dX9_keeps_16 : decode cX9_keeps 16 = .ok (.iconst 0, 1) := by decide +kernel
theorem dX9_keeps_17 : decode cX9_keeps 17 = .ok (.istore_n 3, 1) := by decide +kernel
theorem dX9_keeps_18 : decode cX9_keeps 18 = .ok (.iconst 0, 1) := by decide +kernel
theorem dX9_keeps_19 : decode cX9_keeps 19 = .ok (.istore 4, 2) := by decide +kernel
theorem dX9_keeps_21 : decode cX9_keeps 21 = .ok (.iload 4, 2) := by decide +kernel
theorem dX9_keeps_23 : decode cX9_keeps 23 = .ok (.aload_n 0, 1) := by decide +kernel
theorem dX9_keeps_24 : decode cX9_keeps 24 = .ok (.getfield 7, 3) := by decide +kernel
theorem dX9_keeps_27 : decode cX9_keeps 27 = .ok (.if_icmp .ge 26, 3) := by decide +kernel
theorem dX9_keeps_30 : decode cX9_keeps 30 = .ok (.iload_n 3, 1) := by decide +kernel
theorem dX9_keeps_31 : decode cX9_keeps 31 = .ok (.iload_n 2, 1) := by decide +kernel
theorem dX9_keeps_32 : decode cX9_keeps 32 = .ok (.iload 4, 2) := by decide +kernel
theorem dX9_keeps_34 : decode cX9_keeps 34 = .ok (.ishr, 1) := by decide +kernel
theorem dX9_keeps_35 : decode cX9_keeps 35 = .ok (.iconst 1, 1) := by decide +kernel
theorem dX9_keeps_36 : decode cX9_keeps 36 = .ok (.iand, 1) := by decide +kernel
theorem dX9_keeps_37 : decode cX9_keeps 37 = .ok (.aload_n 0, 1) := by decide +kernel
theorem dX9_keeps_38 : decode cX9_keeps 38 = .ok (.getfield 43, 3) := by decide +kernel
theorem dX9_keeps_41 : decode cX9_keeps 41 = .ok (.iload 4, 2) := by decide +kernel
theorem dX9_keeps_43 : decode cX9_keeps 43 = .ok (.iaload, 1) := by decide +kernel
theorem dX9_keeps_44 : decode cX9_keeps 44 = .ok (.ishl, 1) := by decide +kernel
theorem dX9_keeps_45 : decode cX9_keeps 45 = .ok (.ior, 1) := by decide +kernel
theorem dX9_keeps_46 : decode cX9_keeps 46 = .ok (.istore_n 3, 1) := by decide +kernel
theorem dX9_keeps_47 : decode cX9_keeps 47 = .ok (.iinc 4 1, 3) := by decide +kernel
theorem dX9_keeps_50 : decode cX9_keeps 50 = .ok (.goto (-29), 3) := by decide +kernel
theorem dX9_keeps_53 : decode cX9_keeps 53 = .ok (.aload_n 0, 1) := by decide +kernel
theorem dX9_keeps_54 : decode cX9_keeps 54 = .ok (.iload_n 2, 1) := by decide +kernel
theorem dX9_keeps_55 : decode cX9_keeps 55 = .ok (.invokevirtual 85, 3) := by decide +kernel
theorem dX9_keeps_58 : decode cX9_keeps 58 = .ok (.ifCond .eq 11, 3) := by decide +kernel
theorem dX9_keeps_61 : decode cX9_keeps 61 = .ok (.aload_n 0, 1) := by decide +kernel
theorem dX9_keeps_62 : decode cX9_keeps 62 = .ok (.iload_n 3, 1) := by decide +kernel
theorem dX9_keeps_63 : decode cX9_keeps 63 = .ok (.invokevirtual 85, 3) := by decide +kernel
theorem dX9_keeps_66 : decode cX9_keeps 66 = .ok (.ifCond .eq 7, 3) := by decide +kernel
theorem dX9_keeps_69 : decode cX9_keeps 69 = .ok (.iconst 1, 1) := by decide +kernel
theorem dX9_keeps_70 : decode cX9_keeps 70 = .ok (.goto 4, 3) := by decide +kernel
theorem dX9_keeps_73 : decode cX9_keeps 73 = .ok (.iconst 0, 1) := by decide +kernel
theorem dX9_keeps_74 : decode cX9_keeps 74 = .ok (.istore_n 1, 1) := by decide +kernel
theorem dX9_keeps_75 : decode cX9_keeps 75 = .ok (.iinc 2 1, 3) := by decide +kernel
theorem dX9_keeps_78 : decode cX9_keeps 78 = .ok (.goto (-74), 3) := by decide +kernel
theorem dX9_keeps_81 : decode cX9_keeps 81 = .ok (.iload_n 1, 1) := by decide +kernel
theorem dX9_keeps_82 : decode cX9_keeps 82 = .ok (.ireturn, 1) := by decide +kernel
theorem dX9_nextOrder_0 : decode cX9_nextOrder 0 = .ok (.aload_n 0, 1) := by decide +kernel
theorem dX9_nextOrder_1 : decode cX9_nextOrder 1 = .ok (.getfield 7, 3) := by decide +kernel
theorem dX9_nextOrder_4 : decode cX9_nextOrder 4 = .ok (.iconst 2, 1) := by decide +kernel
theorem dX9_nextOrder_5 : decode cX9_nextOrder 5 = .ok (.isub, 1) := by decide +kernel
theorem dX9_nextOrder_6 : decode cX9_nextOrder 6 = .ok (.istore_n 1, 1) := by decide +kernel
theorem dX9_nextOrder_7 : decode cX9_nextOrder 7 = .ok (.iload_n 1, 1) := by decide +kernel
theorem dX9_nextOrder_8 : decode cX9_nextOrder 8 = .ok (.ifCond .lt 26, 3) := by decide +kernel
theorem dX9_nextOrder_11 : decode cX9_nextOrder 11 = .ok (.aload_n 0, 1) := by decide +kernel
theorem dX9_nextOrder_12 : decode cX9_nextOrder 12 = .ok (.getfield 43, 3) := by decide +kernel
theorem dX9_nextOrder_15 : decode cX9_nextOrder 15 = .ok (.iload_n 1, 1) := by decide +kernel
theorem dX9_nextOrder_16 : decode cX9_nextOrder 16 = .ok (.iaload, 1) := by decide +kernel
theorem dX9_nextOrder_17 : decode cX9_nextOrder 17 = .ok (.aload_n 0, 1) := by decide +kernel
theorem dX9_nextOrder_18 : decode cX9_nextOrder 18 = .ok (.getfield 43, 3) := by decide +kernel
theorem dX9_nextOrder_21 : decode cX9_nextOrder 21 = .ok (.iload_n 1, 1) := by decide +kernel
theorem dX9_nextOrder_22 : decode cX9_nextOrder 22 = .ok (.iconst 1, 1) := by decide +kernel
theorem dX9_nextOrder_23 : decode cX9_nextOrder 23 = .ok (.iadd, 1) := by decide +kernel
theorem dX9_nextOrder_24 : decode cX9_nextOrder 24 = .ok (.iaload, 1) := by decide +kernel
theorem dX9_nextOrder_25 : decode cX9_nextOrder 25 = .ok (.if_icmp .le 9, 3) := by decide +kernel
theorem dX9_nextOrder_28 : decode cX9_nextOrder 28 = .ok (.iinc 1 (-1), 3) := by decide +kernel
theorem dX9_nextOrder_31 : decode cX9_nextOrder 31 = .ok (.goto (-24), 3) := by decide +kernel
theorem dX9_nextOrder_34 : decode cX9_nextOrder 34 = .ok (.iload_n 1, 1) := by decide +kernel
theorem dX9_nextOrder_35 : decode cX9_nextOrder 35 = .ok (.ifCond .ge 5, 3) := by decide +kernel
theorem dX9_nextOrder_38 : decode cX9_nextOrder 38 = .ok (.iconst 0, 1) := by decide +kernel
theorem dX9_nextOrder_39 : decode cX9_nextOrder 39 = .ok (.ireturn, 1) := by decide +kernel
theorem dX9_nextOrder_40 : decode cX9_nextOrder 40 = .ok (.aload_n 0, 1) := by decide +kernel
theorem dX9_nextOrder_41 : decode cX9_nextOrder 41 = .ok (.getfield 7, 3) := by decide +kernel
theorem dX9_nextOrder_44 : decode cX9_nextOrder 44 = .ok (.iconst 1, 1) := by decide +kernel
theorem dX9_nextOrder_45 : decode cX9_nextOrder 45 = .ok (.isub, 1) := by decide +kernel
theorem dX9_nextOrder_46 : decode cX9_nextOrder 46 = .ok (.istore_n 2, 1) := by decide +kernel
theorem dX9_nextOrder_47 : decode cX9_nextOrder 47 = .ok (.aload_n 0, 1) := by decide +kernel
theorem dX9_nextOrder_48 : decode cX9_nextOrder 48 = .ok (.getfield 43, 3) := by decide +kernel
theorem dX9_nextOrder_51 : decode cX9_nextOrder 51 = .ok (.iload_n 2, 1) := by decide +kernel
theorem dX9_nextOrder_52 : decode cX9_nextOrder 52 = .ok (.iaload, 1) := by decide +kernel
theorem dX9_nextOrder_53 : decode cX9_nextOrder 53 = .ok (.aload_n 0, 1) := by decide +kernel
theorem dX9_nextOrder_54 : decode cX9_nextOrder 54 = .ok (.getfield 43, 3) := by decide +kernel
theorem dX9_nextOrder_57 : decode cX9_nextOrder 57 = .ok (.iload_n 1, 1) := by decide +kernel
theorem dX9_nextOrder_58 : decode cX9_nextOrder 58 = .ok (.iaload, 1) := by decide +kernel
theorem dX9_nextOrder_59 : decode cX9_nextOrder 59 = .ok (.if_icmp .ge 9, 3) := by decide +kernel
theorem dX9_nextOrder_62 : decode cX9_nextOrder 62 = .ok (.iinc 2 (-1), 3) := by decide +kernel
theorem dX9_nextOrder_65 : decode cX9_nextOrder 65 = .ok (.goto (-18), 3) := by decide +kernel
theorem dX9_nextOrder_68 : decode cX9_nextOrder 68 = .ok (.aload_n 0, 1) := by decide +kernel
theorem dX9_nextOrder_69 : decode cX9_nextOrder 69 = .ok (.getfield 43, 3) := by decide +kernel
theorem dX9_nextOrder_72 : decode cX9_nextOrder 72 = .ok (.iload_n 1, 1) := by decide +kernel
theorem dX9_nextOrder_73 : decode cX9_nextOrder 73 = .ok (.iaload, 1) := by decide +kernel
theorem dX9_nextOrder_74 : decode cX9_nextOrder 74 = .ok (.istore_n 3, 1) := by decide +kernel
theorem dX9_nextOrder_75 : decode cX9_nextOrder 75 = .ok (.aload_n 0, 1) := by decide +kernel
theorem dX9_nextOrder_76 : decode cX9_nextOrder 76 = .ok (.getfield 43, 3) := by decide +kernel
theorem dX9_nextOrder_79 : decode cX9_nextOrder 79 = .ok (.iload_n 1, 1) := by decide +kernel
theorem dX9_nextOrder_80 : decode cX9_nextOrder 80 = .ok (.aload_n 0, 1) := by decide +kernel
theorem dX9_nextOrder_81 : decode cX9_nextOrder 81 = .ok (.getfield 43, 3) := by decide +kernel
theorem dX9_nextOrder_84 : decode cX9_nextOrder 84 = .ok (.iload_n 2, 1) := by decide +kernel
theorem dX9_nextOrder_85 : decode cX9_nextOrder 85 = .ok (.iaload, 1) := by decide +kernel
theorem dX9_nextOrder_86 : decode cX9_nextOrder 86 = .ok (.iastore, 1) := by decide +kernel
theorem dX9_nextOrder_87 : decode cX9_nextOrder 87 = .ok (.aload_n 0, 1) := by decide +kernel
theorem dX9_nextOrder_88 : decode cX9_nextOrder 88 = .ok (.getfield 43, 3) := by decide +kernel
theorem dX9_nextOrder_91 : decode cX9_nextOrder 91 = .ok (.iload_n 2, 1) := by decide +kernel
theorem dX9_nextOrder_92 : decode cX9_nextOrder 92 = .ok (.iload_n 3, 1) := by decide +kernel
theorem dX9_nextOrder_93 : decode cX9_nextOrder 93 = .ok (.iastore, 1) := by decide +kernel
theorem dX9_nextOrder_94 : decode cX9_nextOrder 94 = .ok (.iload_n 1, 1) := by decide +kernel
theorem dX9_nextOrder_95 : decode cX9_nextOrder 95 = .ok (.iconst 1, 1) := by decide +kernel
theorem dX9_nextOrder_96 : decode cX9_nextOrder 96 = .ok (.iadd, 1) := by decide +kernel
theorem dX9_nextOrder_97 : decode cX9_nextOrder 97 = .ok (.istore 4, 2) := by decide +kernel
theorem dX9_nextOrder_99 : decode cX9_nextOrder 99 = .ok (.aload_n 0, 1) := by decide +kernel
theorem dX9_nextOrder_100 : decode cX9_nextOrder 100 = .ok (.getfield 7, 3) := by decide +kernel
theorem dX9_nextOrder_103 : decode cX9_nextOrder 103 = .ok (.iconst 1, 1) := by decide +kernel
theorem dX9_nextOrder_104 : decode cX9_nextOrder 104 = .ok (.isub, 1) := by decide +kernel
theorem dX9_nextOrder_105 : decode cX9_nextOrder 105 = .ok (.istore 5, 2) := by decide +kernel
theorem dX9_nextOrder_107 : decode cX9_nextOrder 107 = .ok (.iload 4, 2) := by decide +kernel
theorem dX9_nextOrder_109 : decode cX9_nextOrder 109 = .ok (.iload 5, 2) := by decide +kernel
theorem dX9_nextOrder_111 : decode cX9_nextOrder 111 = .ok (.if_icmp .ge 42, 3) := by decide +kernel
theorem dX9_nextOrder_114 : decode cX9_nextOrder 114 = .ok (.aload_n 0, 1) := by decide +kernel
theorem dX9_nextOrder_115 : decode cX9_nextOrder 115 = .ok (.getfield 43, 3) := by decide +kernel
theorem dX9_nextOrder_118 : decode cX9_nextOrder 118 = .ok (.iload 4, 2) := by decide +kernel
theorem dX9_nextOrder_120 : decode cX9_nextOrder 120 = .ok (.iaload, 1) := by decide +kernel
theorem dX9_nextOrder_121 : decode cX9_nextOrder 121 = .ok (.istore_n 3, 1) := by decide +kernel
theorem dX9_nextOrder_122 : decode cX9_nextOrder 122 = .ok (.aload_n 0, 1) := by decide +kernel
theorem dX9_nextOrder_123 : decode cX9_nextOrder 123 = .ok (.getfield 43, 3) := by decide +kernel
theorem dX9_nextOrder_126 : decode cX9_nextOrder 126 = .ok (.iload 4, 2) := by decide +kernel
theorem dX9_nextOrder_128 : decode cX9_nextOrder 128 = .ok (.aload_n 0, 1) := by decide +kernel
theorem dX9_nextOrder_129 : decode cX9_nextOrder 129 = .ok (.getfield 43, 3) := by decide +kernel
theorem dX9_nextOrder_132 : decode cX9_nextOrder 132 = .ok (.iload 5, 2) := by decide +kernel
theorem dX9_nextOrder_134 : decode cX9_nextOrder 134 = .ok (.iaload, 1) := by decide +kernel
theorem dX9_nextOrder_135 : decode cX9_nextOrder 135 = .ok (.iastore, 1) := by decide +kernel
theorem dX9_nextOrder_136 : decode cX9_nextOrder 136 = .ok (.aload_n 0, 1) := by decide +kernel
theorem dX9_nextOrder_137 : decode cX9_nextOrder 137 = .ok (.getfield 43, 3) := by decide +kernel
theorem dX9_nextOrder_140 : decode cX9_nextOrder 140 = .ok (.iload 5, 2) := by decide +kernel
theorem dX9_nextOrder_142 : decode cX9_nextOrder 142 = .ok (.iload_n 3, 1) := by decide +kernel
theorem dX9_nextOrder_143 : decode cX9_nextOrder 143 = .ok (.iastore, 1) := by decide +kernel
theorem dX9_nextOrder_144 : decode cX9_nextOrder 144 = .ok (.iinc 4 1, 3) := by decide +kernel
theorem dX9_nextOrder_147 : decode cX9_nextOrder 147 = .ok (.iinc 5 (-1), 3) := by decide +kernel
theorem dX9_nextOrder_150 : decode cX9_nextOrder 150 = .ok (.goto (-43), 3) := by decide +kernel
theorem dX9_nextOrder_153 : decode cX9_nextOrder 153 = .ok (.iconst 1, 1) := by decide +kernel
theorem dX9_nextOrder_154 : decode cX9_nextOrder 154 = .ok (.ireturn, 1) := by decide +kernel
set_option maxRecDepth 20000 in
theorem ggX9_turns_X9_keeps : GoodIn wsX9_turns wsX9_keeps := goodIn_r _ [7, 1, 2, 8, 9, 10, 6, 11, 12, 13, 14, 15, 16, 21, 22, 23, 24, 25, 26, 27, 28, 29, 30, 31, 32, 33, 34, 35, 36, 37, 38, 39, 40, 41, 42, 43, 44, 45, 46, 47] (by decide +kernel) (by decide +kernel)
set_option maxRecDepth 20000 in
theorem gX9_turns_X9_keeps : GoodIn wsX9_turns (wsV RX9 177 RX9 yX9_keeps wsX9_keeps) := goodIn_app (goodIn_of _ (by decide +kernel)) ggX9_turns_X9_keeps
set_option maxRecDepth 20000 in
theorem ggX9_turns_X9_nextOrder : GoodIn wsX9_turns wsX9_nextOrder := goodIn_r _ [20, 1, 2, 21, 22, 23, 24, 25, 26, 27, 28, 29, 30, 31, 32, 33, 34, 35, 36, 37, 38, 39, 40, 41, 42, 43, 44, 45, 46, 47] (by decide +kernel) (by decide +kernel)
set_option maxRecDepth 20000 in
theorem gX9_turns_X9_nextOrder : GoodIn wsX9_turns (wsV RX9 180 RX9 yX9_nextOrder wsX9_nextOrder) := goodIn_app (goodIn_of _ (by decide +kernel)) ggX9_turns_X9_nextOrder
theorem dX9_turns_0 : decode cX9_turns 0 = .ok (.iconst 0, 1) := by decide +kernel
theorem dX9_turns_1 : decode cX9_turns 1 = .ok (.istore_n 3, 1) := by decide +kernel
theorem dX9_turns_2 : decode cX9_turns 2 = .ok (.iload_n 3, 1) := by decide +kernel
theorem dX9_turns_3 : decode cX9_turns 3 = .ok (.aload_n 0, 1) := by decide +kernel
theorem dX9_turns_4 : decode cX9_turns 4 = .ok (.getfield 7, 3) := by decide +kernel
theorem dX9_turns_7 : decode cX9_turns 7 = .ok (.if_icmp .ge 16, 3) := by decide +kernel
theorem dX9_turns_10 : decode cX9_turns 10 = .ok (.aload_n 0, 1) := by decide +kernel
theorem dX9_turns_11 : decode cX9_turns 11 = .ok (.getfield 43, 3) := by decide +kernel
theorem dX9_turns_14 : decode cX9_turns 14 = .ok (.iload_n 3, 1) := by decide +kernel
theorem dX9_turns_15 : decode cX9_turns 15 = .ok (.iload_n 3, 1) := by decide +kernel
theorem dX9_turns_16 : decode cX9_turns 16 = .ok (.iastore, 1) := by decide +kernel
theorem dX9_turns_17 : decode cX9_turns 17 = .ok (.iinc 3 1, 3) := by decide +kernel
theorem dX9_turns_20 : decode cX9_turns 20 = .ok (.goto (-18), 3) := by decide +kernel
theorem dX9_turns_23 : decode cX9_turns 23 = .ok (.iconst 0, 1) := by decide +kernel
theorem dX9_turns_24 : decode cX9_turns 24 = .ok (.istore_n 3, 1) := by decide +kernel
theorem dX9_turns_25 : decode cX9_turns 25 = .ok (.iconst 1, 1) := by decide +kernel
theorem dX9_turns_26 : decode cX9_turns 26 = .ok (.istore 4, 2) := by decide +kernel
theorem dX9_turns_28 : decode cX9_turns 28 = .ok (.iload 4, 2) := by decide +kernel
theorem dX9_turns_30 : decode cX9_turns 30 = .ok (.ifCond .eq 42, 3) := by decide +kernel
theorem dX9_turns_33 : decode cX9_turns 33 = .ok (.iload_n 3, 1) := by decide +kernel
theorem dX9_turns_34 : decode cX9_turns 34 = .ok (.iload_n 1, 1) := by decide +kernel
theorem dX9_turns_35 : decode cX9_turns 35 = .ok (.iconst (-1), 1) := by decide +kernel
theorem dX9_turns_36 : decode cX9_turns 36 = .ok (.if_icmp .eq 13, 3) := by decide +kernel
theorem dX9_turns_39 : decode cX9_turns 39 = .ok (.aload_n 0, 1) := by decide +kernel
theorem dX9_turns_40 : decode cX9_turns 40 = .ok (.getfield 43, 3) := by decide +kernel
theorem dX9_turns_43 : decode cX9_turns 43 = .ok (.iload_n 1, 1) := by decide +kernel
theorem dX9_turns_44 : decode cX9_turns 44 = .ok (.iaload, 1) := by decide +kernel
theorem dX9_turns_45 : decode cX9_turns 45 = .ok (.iload_n 2, 1) := by decide +kernel
theorem dX9_turns_46 : decode cX9_turns 46 = .ok (.if_icmp .ne 14, 3) := by decide +kernel
theorem dX9_turns_49 : decode cX9_turns 49 = .ok (.aload_n 0, 1) := by decide +kernel
theorem dX9_turns_50 : decode cX9_turns 50 = .ok (.invokevirtual 177, 3) := by decide +kernel
theorem dX9_turns_53 : decode cX9_turns 53 = .ok (.ifCond .eq 7, 3) := by decide +kernel
theorem dX9_turns_56 : decode cX9_turns 56 = .ok (.iconst 1, 1) := by decide +kernel
theorem dX9_turns_57 : decode cX9_turns 57 = .ok (.goto 4, 3) := by decide +kernel
theorem dX9_turns_60 : decode cX9_turns 60 = .ok (.iconst 0, 1) := by decide +kernel
theorem dX9_turns_61 : decode cX9_turns 61 = .ok (.iadd, 1) := by decide +kernel
theorem dX9_turns_62 : decode cX9_turns 62 = .ok (.istore_n 3, 1) := by decide +kernel
theorem dX9_turns_63 : decode cX9_turns 63 = .ok (.aload_n 0, 1) := by decide +kernel
theorem dX9_turns_64 : decode cX9_turns 64 = .ok (.invokevirtual 180, 3) := by decide +kernel
theorem dX9_turns_67 : decode cX9_turns 67 = .ok (.istore 4, 2) := by decide +kernel
theorem dX9_turns_69 : decode cX9_turns 69 = .ok (.goto (-41), 3) := by decide +kernel
theorem dX9_turns_72 : decode cX9_turns 72 = .ok (.iload_n 3, 1) := by decide +kernel
theorem dX9_turns_73 : decode cX9_turns 73 = .ok (.ireturn, 1) := by decide +kernel
set_option maxRecDepth 20000 in
theorem ggX9_isPoint_X9_isIn : GoodIn wsX9_isPoint wsX9_isIn := goodIn_r _ [5] (by decide +kernel) (by decide +kernel)
set_option maxRecDepth 20000 in
theorem gX9_isPoint_X9_isIn : GoodIn wsX9_isPoint (va_wsS RX9 59 yX9_isIn wsX9_isIn) := goodIn_app (goodIn_of _ (by decide +kernel)) ggX9_isPoint_X9_isIn
theorem dX9_isPoint_0 : decode cX9_isPoint 0 = .ok (.iload_n 1, 1) := by decide +kernel
theorem dX9_isPoint_1 : decode cX9_isPoint 1 = .ok (.iconst 0, 1) := by decide +kernel
theorem dX9_isPoint_2 : decode cX9_isPoint 2 = .ok (.aload_n 0, 1) := by decide +kernel
theorem dX9_isPoint_3 : decode cX9_isPoint 3 = .ok (.getfield 7, 3) := by decide +kernel
theorem dX9_isPoint_6 : decode cX9_isPoint 6 = .ok (.iconst 1, 1) := by decide +kernel
theorem dX9_isPoint_7 : decode cX9_isPoint 7 = .ok (.isub, 1) := by decide +kernel
theorem dX9_isPoint_8 : decode cX9_isPoint 8 = .ok (.invokestatic 59, 3) := by decide +kernel
theorem dX9_isPoint_11 : decode cX9_isPoint 11 = .ok (.ireturn, 1) := by decide +kernel
set_option maxRecDepth 20000 in
theorem ggX9_alike_X9_isPoint : GoodIn wsX9_alike wsX9_isPoint := goodIn_r _ [5, 6, 7, 8, 4, 9, 32, 33, 34, 35, 36, 37, 38, 39, 40, 41, 42, 43, 44, 45, 46, 47, 48, 49, 50, 51, 52, 53, 54, 55, 56, 57, 58] (by decide +kernel) (by decide +kernel)
set_option maxRecDepth 20000 in
theorem gX9_alike_X9_isPoint : GoodIn wsX9_alike (wsV RX9 183 RX9 yX9_isPoint wsX9_isPoint) := goodIn_app (goodIn_of _ (by decide +kernel)) ggX9_alike_X9_isPoint
set_option maxRecDepth 20000 in
theorem ggX9_alike_X9_turns : GoodIn wsX9_alike wsX9_turns := goodIn_r _ [13, 6, 14, 15, 16, 17, 4, 18, 19, 20, 21, 22, 23, 24, 25, 26, 27, 28, 29, 30, 31, 32, 33, 34, 35, 36, 37, 38, 39, 40, 41, 42, 43, 44, 45, 46, 47, 48, 49, 50, 51, 52, 53, 54, 55, 56, 57, 58] (by decide +kernel) (by decide +kernel)
set_option maxRecDepth 20000 in
theorem gX9_alike_X9_turns : GoodIn wsX9_alike (wsV RX9 186 RX9 yX9_turns wsX9_turns) := goodIn_app (goodIn_of _ (by decide +kernel)) ggX9_alike_X9_turns
theorem dX9_alike_0 : decode cX9_alike 0 = .ok (.aload_n 0, 1) := by decide +kernel
theorem dX9_alike_1 : decode cX9_alike 1 = .ok (.iload_n 1, 1) := by decide +kernel
theorem dX9_alike_2 : decode cX9_alike 2 = .ok (.invokevirtual 183, 3) := by decide +kernel
theorem dX9_alike_5 : decode cX9_alike 5 = .ok (.ifCond .eq 11, 3) := by decide +kernel
theorem dX9_alike_8 : decode cX9_alike 8 = .ok (.aload_n 0, 1) := by decide +kernel
theorem dX9_alike_9 : decode cX9_alike 9 = .ok (.iload_n 2, 1) := by decide +kernel
theorem dX9_alike_10 : decode cX9_alike 10 = .ok (.invokevirtual 183, 3) := by decide +kernel
theorem dX9_alike_13 : decode cX9_alike 13 = .ok (.ifCond .ne 7, 3) := by decide +kernel
theorem dX9_alike_16 : decode cX9_alike 16 = .ok (.iconst (-1), 1) := by decide +kernel
theorem dX9_alike_17 : decode cX9_alike 17 = .ok (.goto 17, 3) := by decide +kernel
theorem dX9_alike_20 : decode cX9_alike 20 = .ok (.aload_n 0, 1) := by decide +kernel
theorem dX9_alike_21 : decode cX9_alike 21 = .ok (.iload_n 1, 1) := by decide +kernel
theorem dX9_alike_22 : decode cX9_alike 22 = .ok (.iload_n 2, 1) := by decide +kernel
theorem dX9_alike_23 : decode cX9_alike 23 = .ok (.invokevirtual 186, 3) := by decide +kernel
theorem dX9_alike_26 : decode cX9_alike 26 = .ok (.ifCond .le 7, 3) := by decide +kernel
theorem dX9_alike_29 : decode cX9_alike 29 = .ok (.iconst 1, 1) := by decide +kernel
theorem dX9_alike_30 : decode cX9_alike 30 = .ok (.goto 4, 3) := by decide +kernel
theorem dX9_alike_33 : decode cX9_alike 33 = .ok (.iconst 0, 1) := by decide +kernel
theorem dX9_alike_34 : decode cX9_alike 34 = .ok (.ireturn, 1) := by decide +kernel
set_option maxRecDepth 20000 in
theorem ggX9_classes_X9_turns : GoodIn wsX9_classes wsX9_turns := goodIn_r _ [6, 1, 7, 8, 9, 10, 5, 11, 12, 13, 14, 15, 16, 17, 18, 19, 20, 21, 22, 23, 24, 25, 26, 27, 28, 29, 30, 31, 32, 33, 34, 35, 36, 37, 38, 39, 40, 41, 42, 43, 44, 45, 46, 47, 48, 49, 50, 51] (by decide +kernel) (by decide +kernel)
set_option maxRecDepth 20000 in
theorem gX9_classes_X9_turns : GoodIn wsX9_classes (wsV RX9 186 RX9 yX9_turns wsX9_turns) := goodIn_app (goodIn_of _ (by decide +kernel)) ggX9_classes_X9_turns
theorem dX9_classes_0 : decode cX9_classes 0 = .ok (.iconst 0, 1) := by decide +kernel
theorem dX9_classes_1 : decode cX9_classes 1 = .ok (.istore_n 1, 1) := by decide +kernel
theorem dX9_classes_2 : decode cX9_classes 2 = .ok (.iconst 0, 1) := by decide +kernel
theorem dX9_classes_3 : decode cX9_classes 3 = .ok (.istore_n 2, 1) := by decide +kernel
theorem dX9_classes_4 : decode cX9_classes 4 = .ok (.iload_n 2, 1) := by decide +kernel
theorem dX9_classes_5 : decode cX9_classes 5 = .ok (.aload_n 0, 1) := by decide +kernel
theorem dX9_classes_6 : decode cX9_classes 6 = .ok (.getfield 7, 3) := by decide +kernel
theorem dX9_classes_9 : decode cX9_classes 9 = .ok (.if_icmp .ge 58, 3) := by decide +kernel
theorem dX9_classes_12 : decode cX9_classes 12 = .ok (.iconst 1, 1) := by decide +kernel
theorem dX9_classes_13 : decode cX9_classes 13 = .ok (.istore_n 3, 1) := by decide +kernel
theorem dX9_classes_14 : decode cX9_classes 14 = .ok (.iconst 0, 1) := by decide +kernel
theorem dX9_classes_15 : decode cX9_classes 15 = .ok (.istore 4, 2) := by decide +kernel
theorem dX9_classes_17 : decode cX9_classes 17 = .ok (.iload 4, 2) := by decide +kernel
theorem dX9_classes_19 : decode cX9_classes 19 = .ok (.iload_n 2, 1) := by decide +kernel
theorem dX9_classes_20 : decode cX9_classes 20 = .ok (.if_icmp .ge 29, 3) := by decide +kernel
theorem dX9_classes_23 : decode cX9_classes 23 = .ok (.iload_n 3, 1) := by decide +kernel
theorem dX9_classes_24 : decode cX9_classes 24 = .ok (.ifCond .eq 25, 3) := by decide +kernel
theorem dX9_classes_27 : decode cX9_classes 27 = .ok (.aload_n 0, 1) := by decide +kernel
theorem dX9_classes_28 : decode cX9_classes 28 = .ok (.iload 4, 2) := by decide +kernel
theorem dX9_classes_30 : decode cX9_classes 30 = .ok (.iload_n 2, 1) := by decide +kernel
theorem dX9_classes_31 : decode cX9_classes 31 = .ok (.invokevirtual 186, 3) := by decide +kernel
theorem dX9_classes_34 : decode cX9_classes 34 = .ok (.ifCond .ne 7, 3) := by decide +kernel
theorem dX9_classes_37 : decode cX9_classes 37 = .ok (.iconst 1, 1) := by decide +kernel
theorem dX9_classes_38 : decode cX9_classes 38 = .ok (.goto 4, 3) := by decide +kernel
theorem dX9_classes_41 : decode cX9_classes 41 = .ok (.iconst 0, 1) := by decide +kernel
theorem dX9_classes_42 : decode cX9_classes 42 = .ok (.istore_n 3, 1) := by decide +kernel
theorem dX9_classes_43 : decode cX9_classes 43 = .ok (.iinc 4 1, 3) := by decide +kernel
theorem dX9_classes_46 : decode cX9_classes 46 = .ok (.goto (-29), 3) := by decide +kernel
theorem dX9_classes_49 : decode cX9_classes 49 = .ok (.iload_n 1, 1) := by decide +kernel
theorem dX9_classes_50 : decode cX9_classes 50 = .ok (.iload_n 3, 1) := by decide +kernel
theorem dX9_classes_51 : decode cX9_classes 51 = .ok (.ifCond .eq 7, 3) := by decide +kernel
theorem dX9_classes_54 : decode cX9_classes 54 = .ok (.iconst 1, 1) := by decide +kernel
theorem dX9_classes_55 : decode cX9_classes 55 = .ok (.goto 4, 3) := by decide +kernel
theorem dX9_classes_58 : decode cX9_classes 58 = .ok (.iconst 0, 1) := by decide +kernel
theorem dX9_classes_59 : decode cX9_classes 59 = .ok (.iadd, 1) := by decide +kernel
theorem dX9_classes_60 : decode cX9_classes 60 = .ok (.istore_n 1, 1) := by decide +kernel
theorem dX9_classes_61 : decode cX9_classes 61 = .ok (.iinc 2 1, 3) := by decide +kernel
theorem dX9_classes_64 : decode cX9_classes 64 = .ok (.goto (-60), 3) := by decide +kernel
theorem dX9_classes_67 : decode cX9_classes 67 = .ok (.iload_n 1, 1) := by decide +kernel
theorem dX9_classes_68 : decode cX9_classes 68 = .ok (.ireturn, 1) := by decide +kernel
set_option maxRecDepth 20000 in
theorem ggX9_look_X9_many : GoodIn wsX9_look wsX9_many := goodIn_r _ [6] (by decide +kernel) (by decide +kernel)
set_option maxRecDepth 20000 in
theorem gX9_look_X9_many : GoodIn wsX9_look (va_wsS RX9 77 yX9_many wsX9_many) := goodIn_app (goodIn_of _ (by decide +kernel)) ggX9_look_X9_many
set_option maxRecDepth 20000 in
theorem ggX9_look_X9_all : GoodIn wsX9_look wsX9_all := goodIn_r _ [10, 1, 116, 117, 118, 119, 120, 121, 122, 123, 124, 125, 126, 127, 128, 129, 130, 131, 132, 133, 134, 135, 136, 137, 138, 139, 140, 141, 142] (by decide +kernel) (by decide +kernel)
set_option maxRecDepth 20000 in
theorem gX9_look_X9_all : GoodIn wsX9_look (wsV RX9 55 RX9 yX9_all wsX9_all) := goodIn_app (goodIn_of _ (by decide +kernel)) ggX9_look_X9_all
set_option maxRecDepth 20000 in
theorem ggX9_look_X9_facesOf : GoodIn wsX9_look wsX9_facesOf := goodIn_r _ [14, 7, 8, 9, 5, 10, 1, 15, 16, 17, 18, 2, 19, 20, 21, 116, 117, 118, 119, 120, 121, 122, 123, 124, 125, 126, 127, 128, 129, 130, 131, 132, 133, 134, 135, 136, 137, 138, 139, 140, 141, 142] (by decide +kernel) (by decide +kernel)
set_option maxRecDepth 20000 in
theorem gX9_look_X9_facesOf : GoodIn wsX9_look (wsV RX9 98 RX9 yX9_facesOf wsX9_facesOf) := goodIn_app (goodIn_of _ (by decide +kernel)) ggX9_look_X9_facesOf
set_option maxRecDepth 20000 in
theorem ggX9_look_X9_missingMany : GoodIn wsX9_look wsX9_missingMany := goodIn_r _ [25, 7, 8, 9, 5, 10, 1, 26, 27, 28, 29, 15, 16, 17, 18, 2, 116, 117, 118, 119, 120, 121, 122, 123, 124, 125, 126, 127, 128, 129, 130, 131, 132, 133, 134, 135, 136, 137, 138, 139, 140, 141, 142] (by decide +kernel) (by decide +kernel)
set_option maxRecDepth 20000 in
theorem gX9_look_X9_missingMany : GoodIn wsX9_look (wsV RX9 189 RX9 yX9_missingMany wsX9_missingMany) := goodIn_app (goodIn_of _ (by decide +kernel)) ggX9_look_X9_missingMany
set_option maxRecDepth 20000 in
theorem ggX9_look_X9_isFlag : GoodIn wsX9_look wsX9_isFlag := goodIn_r _ [33, 7, 8, 9, 5, 10, 1, 26, 27, 28, 29, 15, 16, 17, 18, 2, 19, 20, 21, 116, 117, 118, 119, 120, 121, 122, 123, 124, 125, 126, 127, 128, 129, 130, 131, 132, 133, 134, 135, 136, 137, 138, 139, 140, 141, 142] (by decide +kernel) (by decide +kernel)
set_option maxRecDepth 20000 in
theorem gX9_look_X9_isFlag : GoodIn wsX9_look (wsV RX9 192 RX9 yX9_isFlag wsX9_isFlag) := goodIn_app (goodIn_of _ (by decide +kernel)) ggX9_look_X9_isFlag
set_option maxRecDepth 20000 in
theorem ggX9_look_X9_finds : GoodIn wsX9_look wsX9_finds := goodIn_r _ [37, 38, 1, 39, 2, 40, 41, 7, 8, 9, 5, 10, 42, 43, 44, 45, 11, 12, 13, 14, 15, 16, 17, 18, 19, 20, 21, 3, 4, 6, 46, 47, 48, 49, 50, 51, 52, 53, 54, 55, 56, 57, 58, 59, 60, 61, 62, 63, 64, 65, 66, 67, 68, 69, 70, 71, 72, 73, 74, 75, 76, 77, 78, 79, 80, 81, 82, 83, 84, 85, 86, 87, 88, 89, 90, 91, 92, 93, 94, 95, 96, 97, 98, 116, 117, 118, 119, 120, 121, 122, 123, 124, 125, 126, 127, 128, 129, 130, 131, 132, 133, 134, 135, 136, 137, 138, 139, 140, 141, 142] (by decide +kernel) (by decide +kernel)
set_option maxRecDepth 20000 in
theorem gX9_look_X9_finds : GoodIn wsX9_look (wsV RX9 174 RX9 yX9_finds wsX9_finds) := goodIn_app (goodIn_of _ (by decide +kernel)) ggX9_look_X9_finds
set_option maxRecDepth 20000 in
theorem ggX9_look_X9_turns : GoodIn wsX9_look wsX9_turns := goodIn_r _ [102, 1, 103, 104, 105, 106, 5, 107, 7, 8, 9, 10, 15, 16, 17, 18, 2, 108, 109, 110, 111, 116, 117, 118, 119, 120, 121, 122, 123, 124, 125, 126, 127, 128, 129, 130, 131, 132, 133, 134, 135, 136, 137, 138, 139, 140, 141, 142] (by decide +kernel) (by decide +kernel)
set_option maxRecDepth 20000 in
theorem gX9_look_X9_turns : GoodIn wsX9_look (wsV RX9 186 RX9 yX9_turns wsX9_turns) := goodIn_app (goodIn_of _ (by decide +kernel)) ggX9_look_X9_turns
set_option maxRecDepth 20000 in
theorem ggX9_look_X9_classes : GoodIn wsX9_look wsX9_classes := goodIn_r _ [115, 1, 99, 100, 101, 5, 102, 103, 104, 105, 106, 107, 7, 8, 9, 10, 15, 16, 17, 18, 2, 108, 109, 110, 111, 116, 117, 118, 119, 120, 121, 122, 123, 124, 125, 126, 127, 128, 129, 130, 131, 132, 133, 134, 135, 136, 137, 138, 139, 140, 141, 142] (by decide +kernel) (by decide +kernel)
set_option maxRecDepth 20000 in
theorem gX9_look_X9_classes : GoodIn wsX9_look (wsV RX9 195 RX9 yX9_classes wsX9_classes) := goodIn_app (goodIn_of _ (by decide +kernel)) ggX9_look_X9_classes
theorem dX9_look_0 : decode cX9_look 0 = .ok (.iload_n 1, 1) := by decide +kernel
theorem dX9_look_1 : decode cX9_look 1 = .ok (.tableswitch 130 0 7 #[47, 52, 60, 87, 92, 105, 118, 125], 47) := by decide +kernel
theorem dX9_look_48 : decode cX9_look 48 = .ok (.aload_n 0, 1) := by decide +kernel
theorem dX9_look_49 : decode cX9_look 49 = .ok (.getfield 7, 3) := by decide +kernel
theorem dX9_look_52 : decode cX9_look 52 = .ok (.ireturn, 1) := by decide +kernel
theorem dX9_look_53 : decode cX9_look 53 = .ok (.aload_n 0, 1) := by decide +kernel
theorem dX9_look_54 : decode cX9_look 54 = .ok (.getfield 13, 3) := by decide +kernel
theorem dX9_look_57 : decode cX9_look 57 = .ok (.invokestatic 77, 3) := by decide +kernel
theorem dX9_look_60 : decode cX9_look 60 = .ok (.ireturn, 1) := by decide +kernel
theorem dX9_look_61 : decode cX9_look 61 = .ok (.iconst 5, 1) := by decide +kernel
theorem dX9_look_62 : decode cX9_look 62 = .ok (.istore_n 2, 1) := by decide +kernel
theorem dX9_look_63 : decode cX9_look 63 = .ok (.aload_n 0, 1) := by decide +kernel
theorem dX9_look_64 : decode cX9_look 64 = .ok (.aload_n 0, 1) := by decide +kernel
theorem dX9_look_65 : decode cX9_look 65 = .ok (.invokevirtual 55, 3) := by decide +kernel
theorem dX9_look_68 : decode cX9_look 68 = .ok (.iload_n 2, 1) := by decide +kernel
theorem dX9_look_69 : decode cX9_look 69 = .ok (.iconst 1, 1) := by decide +kernel
theorem dX9_look_70 : decode cX9_look 70 = .ok (.iadd, 1) := by decide +kernel
theorem dX9_look_71 : decode cX9_look 71 = .ok (.invokevirtual 98, 3) := by decide +kernel
theorem dX9_look_74 : decode cX9_look 74 = .ok (.invokestatic 77, 3) := by decide +kernel
theorem dX9_look_77 : decode cX9_look 77 = .ok (.ifCond .ne 9, 3) := by decide +kernel
theorem dX9_look_80 : decode cX9_look 80 = .ok (.iinc 2 (-1), 3) := by decide +kernel
theorem dX9_look_83 : decode cX9_look 83 = .ok (.goto (-20), 3) := by decide +kernel
theorem dX9_look_86 : decode cX9_look 86 = .ok (.iload_n 2, 1) := by decide +kernel
theorem dX9_look_87 : decode cX9_look 87 = .ok (.ireturn, 1) := by decide +kernel
theorem dX9_look_88 : decode cX9_look 88 = .ok (.aload_n 0, 1) := by decide +kernel
theorem dX9_look_89 : decode cX9_look 89 = .ok (.invokevirtual 189, 3) := by decide +kernel
theorem dX9_look_92 : decode cX9_look 92 = .ok (.ireturn, 1) := by decide +kernel
theorem dX9_look_93 : decode cX9_look 93 = .ok (.aload_n 0, 1) := by decide +kernel
theorem dX9_look_94 : decode cX9_look 94 = .ok (.invokevirtual 192, 3) := by decide +kernel
theorem dX9_look_97 : decode cX9_look 97 = .ok (.ifCond .eq 7, 3) := by decide +kernel
theorem dX9_look_100 : decode cX9_look 100 = .ok (.iconst 1, 1) := by decide +kernel
theorem dX9_look_101 : decode cX9_look 101 = .ok (.goto 4, 3) := by decide +kernel
theorem dX9_look_104 : decode cX9_look 104 = .ok (.iconst 0, 1) := by decide +kernel
theorem dX9_look_105 : decode cX9_look 105 = .ok (.ireturn, 1) := by decide +kernel
theorem dX9_look_106 : decode cX9_look 106 = .ok (.aload_n 0, 1) := by decide +kernel
theorem dX9_look_107 : decode cX9_look 107 = .ok (.invokevirtual 174, 3) := by decide +kernel
theorem dX9_look_110 : decode cX9_look 110 = .ok (.ifCond .eq 7, 3) := by decide +kernel
theorem dX9_look_113 : decode cX9_look 113 = .ok (.iconst 0, 1) := by decide +kernel
theorem dX9_look_114 : decode cX9_look 114 = .ok (.goto 4, 3) := by decide +kernel
theorem dX9_look_117 : decode cX9_look 117 = .ok (.iconst 1, 1) := by decide +kernel
theorem dX9_look_118 : decode cX9_look 118 = .ok (.ireturn, 1) := by decide +kernel
theorem dX9_look_119 : decode cX9_look 119 = .ok (.aload_n 0, 1) := by decide +kernel
theorem dX9_look_120 : decode cX9_look 120 = .ok (.iconst (-1), 1) := by decide +kernel
theorem dX9_look_121 : decode cX9_look 121 = .ok (.iconst (-1), 1) := by decide +kernel
theorem dX9_look_122 : decode cX9_look 122 = .ok (.invokevirtual 186, 3) := by decide +kernel
theorem dX9_look_125 : decode cX9_look 125 = .ok (.ireturn, 1) := by decide +kernel
theorem dX9_look_126 : decode cX9_look 126 = .ok (.aload_n 0, 1) := by decide +kernel
theorem dX9_look_127 : decode cX9_look 127 = .ok (.invokevirtual 195, 3) := by decide +kernel
theorem dX9_look_130 : decode cX9_look 130 = .ok (.ireturn, 1) := by decide +kernel
theorem dX9_look_131 : decode cX9_look 131 = .ok (.bipush (-2), 2) := by decide +kernel
theorem dX9_look_133 : decode cX9_look 133 = .ok (.ireturn, 1) := by decide +kernel
theorem dX9_feed_0 : decode cX9_feed 0 = .ok (.aload_n 0, 1) := by decide +kernel
theorem dX9_feed_1 : decode cX9_feed 1 = .ok (.getfield 198, 3) := by decide +kernel
theorem dX9_feed_4 : decode cX9_feed 4 = .ok (.bipush 20, 2) := by decide +kernel
theorem dX9_feed_6 : decode cX9_feed 6 = .ok (.iadd, 1) := by decide +kernel
theorem dX9_feed_7 : decode cX9_feed 7 = .ok (.sipush 200, 3) := by decide +kernel
theorem dX9_feed_10 : decode cX9_feed 10 = .ok (.if_icmp .le 5, 3) := by decide +kernel
theorem dX9_feed_13 : decode cX9_feed 13 = .ok (.iconst (-1), 1) := by decide +kernel
theorem dX9_feed_14 : decode cX9_feed 14 = .ok (.ireturn, 1) := by decide +kernel
theorem dX9_feed_15 : decode cX9_feed 15 = .ok (.iconst 0, 1) := by decide +kernel
theorem dX9_feed_16 : decode cX9_feed 16 = .ok (.istore 6, 2) := by decide +kernel
theorem dX9_feed_18 : decode cX9_feed 18 = .ok (.iload 6, 2) := by decide +kernel
theorem dX9_feed_20 : decode cX9_feed 20 = .ok (.bipush 20, 2) := by decide +kernel
theorem dX9_feed_22 : decode cX9_feed 22 = .ok (.if_icmp .ge 93, 3) := by decide +kernel
theorem dX9_feed_25 : decode cX9_feed 25 = .ok (.iload 6, 2) := by decide +kernel
theorem dX9_feed_27 : decode cX9_feed 27 = .ok (.iconst 4, 1) := by decide +kernel
theorem dX9_feed_28 : decode cX9_feed 28 = .ok (.if_icmp .ge 7, 3) := by decide +kernel
theorem dX9_feed_31 : decode cX9_feed 31 = .ok (.iload_n 1, 1) := by decide +kernel
theorem dX9_feed_32 : decode cX9_feed 32 = .ok (.goto 39, 3) := by decide +kernel
theorem dX9_feed_35 : decode cX9_feed 35 = .ok (.iload 6, 2) := by decide +kernel
theorem dX9_feed_37 : decode cX9_feed 37 = .ok (.bipush 8, 2) := by decide +kernel
theorem dX9_feed_39 : decode cX9_feed 39 = .ok (.if_icmp .ge 7, 3) := by decide +kernel
theorem dX9_feed_42 : decode cX9_feed 42 = .ok (.iload_n 2, 1) := by decide +kernel
theorem dX9_feed_43 : decode cX9_feed 43 = .ok (.goto 28, 3) := by decide +kernel
theorem dX9_feed_46 : decode cX9_feed 46 = .ok (.iload 6, 2) := by decide +kernel
theorem dX9_feed_48 : decode cX9_feed 48 = .ok (.bipush 12, 2) := by decide +kernel
theorem dX9_feed_50 : decode cX9_feed 50 = .ok (.if_icmp .ge 7, 3) := by decide +kernel
theorem dX9_feed_53 : decode cX9_feed 53 = .ok (.iload_n 3, 1) := by decide +kernel
theorem dX9_feed_54 : decode cX9_feed 54 = .ok (.goto 17, 3) := by decide +kernel
theorem dX9_feed_57 : decode cX9_feed 57 = .ok (.iload 6, 2) := by decide +kernel
theorem dX9_feed_59 : decode cX9_feed 59 = .ok (.bipush 16, 2) := by decide +kernel
theorem dX9_feed_61 : decode cX9_feed 61 = .ok (.if_icmp .ge 8, 3) := by decide +kernel
theorem dX9_feed_64 : decode cX9_feed 64 = .ok (.iload 4, 2) := by decide +kernel
theorem dX9_feed_66 : decode cX9_feed 66 = .ok (.goto 5, 3) := by decide +kernel
theorem dX9_feed_69 : decode cX9_feed 69 = .ok (.iload 5, 2) := by decide +kernel
theorem dX9_feed_71 : decode cX9_feed 71 = .ok (.istore 7, 2) := by decide +kernel
theorem dX9_feed_73 : decode cX9_feed 73 = .ok (.aload_n 0, 1) := by decide +kernel
theorem dX9_feed_74 : decode cX9_feed 74 = .ok (.getfield 46, 3) := by decide +kernel
theorem dX9_feed_77 : decode cX9_feed 77 = .ok (.aload_n 0, 1) := by decide +kernel
theorem dX9_feed_78 : decode cX9_feed 78 = .ok (.getfield 198, 3) := by decide +kernel
theorem dX9_feed_81 : decode cX9_feed 81 = .ok (.iload 7, 2) := by decide +kernel
theorem dX9_feed_83 : decode cX9_feed 83 = .ok (.bipush 24, 2) := by decide +kernel
theorem dX9_feed_85 : decode cX9_feed 85 = .ok (.bipush 8, 2) := by decide +kernel
theorem dX9_feed_87 : decode cX9_feed 87 = .ok (.iload 6, 2) := by decide +kernel
theorem dX9_feed_89 : decode cX9_feed 89 = .ok (.iconst 4, 1) := by decide +kernel
theorem dX9_feed_90 : decode cX9_feed 90 = .ok (.irem, 1) := by decide +kernel
theorem dX9_feed_91 : decode cX9_feed 91 = .ok (.imul, 1) := by decide +kernel
theorem dX9_feed_92 : decode cX9_feed 92 = .ok (.isub, 1) := by decide +kernel
theorem dX9_feed_93 : decode cX9_feed 93 = .ok (.ishr, 1) := by decide +kernel
theorem dX9_feed_94 : decode cX9_feed 94 = .ok (.sipush 255, 3) := by decide +kernel
theorem dX9_feed_97 : decode cX9_feed 97 = .ok (.iand, 1) := by decide +kernel
theorem dX9_feed_98 : decode cX9_feed 98 = .ok (.iastore, 1) := by decide +kernel
theorem dX9_feed_99 : decode cX9_feed 99 = .ok (.aload_n 0, 1) := by decide +kernel
theorem dX9_feed_100 : decode cX9_feed 100 = .ok (.dup, 1) := by decide +kernel
theorem dX9_feed_101 : decode cX9_feed 101 = .ok (.getfield 198, 3) := by decide +kernel
theorem dX9_feed_104 : decode cX9_feed 104 = .ok (.iconst 1, 1) := by decide +kernel
theorem dX9_feed_105 : decode cX9_feed 105 = .ok (.iadd, 1) := by decide +kernel
theorem dX9_feed_106 : decode cX9_feed 106 = .ok (.putfield 198, 3) := by decide +kernel
theorem dX9_feed_109 : decode cX9_feed 109 = .ok (.iinc 6 1, 3) := by decide +kernel
theorem dX9_feed_112 : decode cX9_feed 112 = .ok (.goto (-94), 3) := by decide +kernel
theorem dX9_feed_115 : decode cX9_feed 115 = .ok (.aload_n 0, 1) := by decide +kernel
theorem dX9_feed_116 : decode cX9_feed 116 = .ok (.getfield 198, 3) := by decide +kernel
theorem dX9_feed_119 : decode cX9_feed 119 = .ok (.ireturn, 1) := by decide +kernel
set_option maxRecDepth 20000 in
theorem ggX9_end_X9_isIn : GoodIn wsX9_end wsX9_isIn := goodIn_r _ [5] (by decide +kernel) (by decide +kernel)
set_option maxRecDepth 20000 in
theorem gX9_end_X9_isIn : GoodIn wsX9_end (va_wsS RX9 59 yX9_isIn wsX9_isIn) := goodIn_app (goodIn_of _ (by decide +kernel)) ggX9_end_X9_isIn
theorem dX9_end_0 : decode cX9_end 0 = .ok (.iload_n 1, 1) := by decide +kernel
theorem dX9_end_1 : decode cX9_end 1 = .ok (.iconst 0, 1) := by decide +kernel
theorem dX9_end_2 : decode cX9_end 2 = .ok (.aload_n 0, 1) := by decide +kernel
theorem dX9_end_3 : decode cX9_end 3 = .ok (.getfield 198, 3) := by decide +kernel
theorem dX9_end_6 : decode cX9_end 6 = .ok (.invokestatic 59, 3) := by decide +kernel
theorem dX9_end_9 : decode cX9_end 9 = .ok (.ifCond .ne 5, 3) := by decide +kernel
theorem dX9_end_12 : decode cX9_end 12 = .ok (.iconst 0, 1) := by decide +kernel
theorem dX9_end_13 : decode cX9_end 13 = .ok (.ireturn, 1) := by decide +kernel
theorem dX9_end_14 : decode cX9_end 14 = .ok (.aload_n 0, 1) := by decide +kernel
theorem dX9_end_15 : decode cX9_end 15 = .ok (.iload_n 1, 1) := by decide +kernel
theorem dX9_end_16 : decode cX9_end 16 = .ok (.putfield 198, 3) := by decide +kernel
theorem dX9_end_19 : decode cX9_end 19 = .ok (.iconst 1, 1) := by decide +kernel
theorem dX9_end_20 : decode cX9_end 20 = .ok (.ireturn, 1) := by decide +kernel
theorem dX9_see_0 : decode cX9_see 0 = .ok (.iload_n 1, 1) := by decide +kernel
theorem dX9_see_1 : decode cX9_see 1 = .ok (.aload_n 0, 1) := by decide +kernel
theorem dX9_see_2 : decode cX9_see 2 = .ok (.getfield 198, 3) := by decide +kernel
theorem dX9_see_5 : decode cX9_see 5 = .ok (.if_icmp .ge 12, 3) := by decide +kernel
theorem dX9_see_8 : decode cX9_see 8 = .ok (.aload_n 0, 1) := by decide +kernel
theorem dX9_see_9 : decode cX9_see 9 = .ok (.getfield 46, 3) := by decide +kernel
theorem dX9_see_12 : decode cX9_see 12 = .ok (.iload_n 1, 1) := by decide +kernel
theorem dX9_see_13 : decode cX9_see 13 = .ok (.iaload, 1) := by decide +kernel
theorem dX9_see_14 : decode cX9_see 14 = .ok (.goto 4, 3) := by decide +kernel
theorem dX9_see_17 : decode cX9_see 17 = .ok (.iconst (-1), 1) := by decide +kernel
theorem dX9_see_18 : decode cX9_see 18 = .ok (.ireturn, 1) := by decide +kernel
set_option maxRecDepth 20000 in
theorem ggX9_blanks_X9_see : GoodIn wsX9_blanks wsX9_see := goodIn_r _ [5, 6, 7, 8, 9, 10, 11, 12, 13, 14, 15, 16, 17, 18, 19, 20, 21, 22, 23, 24, 25, 26, 27, 28, 29, 30, 31, 32, 33, 34] (by decide +kernel) (by decide +kernel)
set_option maxRecDepth 20000 in
theorem gX9_blanks_X9_see : GoodIn wsX9_blanks (wsV RX9 201 RX9 yX9_see wsX9_see) := goodIn_app (goodIn_of _ (by decide +kernel)) ggX9_blanks_X9_see
theorem dX9_blanks_0 : decode cX9_blanks 0 = .ok (.iload_n 1, 1) := by decide +kernel
theorem dX9_blanks_1 : decode cX9_blanks 1 = .ok (.istore_n 2, 1) := by decide +kernel
theorem dX9_blanks_2 : decode cX9_blanks 2 = .ok (.aload_n 0, 1) := by decide +kernel
theorem dX9_blanks_3 : decode cX9_blanks 3 = .ok (.iload_n 2, 1) := by decide +kernel
theorem dX9_blanks_4 : decode cX9_blanks 4 = .ok (.invokevirtual 201, 3) := by decide +kernel
theorem dX9_blanks_7 : decode cX9_blanks 7 = .ok (.bipush 32, 2) := by decide +kernel
theorem dX9_blanks_9 : decode cX9_blanks 9 = .ok (.if_icmp .eq 13, 3) := by decide +kernel
theorem dX9_blanks_12 : decode cX9_blanks 12 = .ok (.aload_n 0, 1) := by decide +kernel
theorem dX9_blanks_13 : decode cX9_blanks 13 = .ok (.iload_n 2, 1) := by decide +kernel
theorem dX9_blanks_14 : decode cX9_blanks 14 = .ok (.invokevirtual 201, 3) := by decide +kernel
theorem dX9_blanks_17 : decode cX9_blanks 17 = .ok (.bipush 10, 2) := by decide +kernel
theorem dX9_blanks_19 : decode cX9_blanks 19 = .ok (.if_icmp .ne 9, 3) := by decide +kernel
theorem dX9_blanks_22 : decode cX9_blanks 22 = .ok (.iinc 2 1, 3) := by decide +kernel
theorem dX9_blanks_25 : decode cX9_blanks 25 = .ok (.goto (-23), 3) := by decide +kernel
theorem dX9_blanks_28 : decode cX9_blanks 28 = .ok (.iload_n 2, 1) := by decide +kernel
theorem dX9_blanks_29 : decode cX9_blanks 29 = .ok (.ireturn, 1) := by decide +kernel
set_option maxRecDepth 20000 in
theorem ggX9_reads_X9_blanks : GoodIn wsX9_reads wsX9_blanks := goodIn_r _ [8, 9, 10, 11, 7, 12, 3, 13, 20, 21, 22, 23, 24, 25, 26, 27, 28, 29, 30, 31, 32, 33, 34, 35, 36, 37, 38, 39, 40, 41, 42, 43, 44, 45, 46] (by decide +kernel) (by decide +kernel)
set_option maxRecDepth 20000 in
theorem gX9_reads_X9_blanks : GoodIn wsX9_reads (wsV RX9 204 RX9 yX9_blanks wsX9_blanks) := goodIn_app (goodIn_of _ (by decide +kernel)) ggX9_reads_X9_blanks
set_option maxRecDepth 20000 in
theorem ggX9_reads_X9_see : GoodIn wsX9_reads wsX9_see := goodIn_r _ [12, 3, 13, 20, 21, 22, 23, 24, 25, 26, 27, 28, 29, 30, 31, 32, 33, 34, 35, 36, 37, 38, 39, 40, 41, 42, 43, 44, 45, 46] (by decide +kernel) (by decide +kernel)
set_option maxRecDepth 20000 in
theorem gX9_reads_X9_see : GoodIn wsX9_reads (wsV RX9 201 RX9 yX9_see wsX9_see) := goodIn_app (goodIn_of _ (by decide +kernel)) ggX9_reads_X9_see
set_option maxRecDepth 20000 in
theorem ggX9_reads_X9_isIn : GoodIn wsX9_reads wsX9_isIn := goodIn_r _ [16] (by decide +kernel) (by decide +kernel)
set_option maxRecDepth 20000 in
theorem gX9_reads_X9_isIn : GoodIn wsX9_reads (va_wsS RX9 59 yX9_isIn wsX9_isIn) := goodIn_app (goodIn_of _ (by decide +kernel)) ggX9_reads_X9_isIn
set_option maxRecDepth 20000 in
theorem ggX9_reads_X9_within : GoodIn wsX9_reads wsX9_within := goodIn_r _ [19] (by decide +kernel) (by decide +kernel)
set_option maxRecDepth 20000 in
theorem gX9_reads_X9_within : GoodIn wsX9_reads (va_wsS RX9 81 yX9_within wsX9_within) := goodIn_app (goodIn_of _ (by decide +kernel)) ggX9_reads_X9_within
theorem dX9_reads_0 : decode cX9_reads 0 = .ok (.aload_n 0, 1) := by decide +kernel
theorem dX9_reads_1 : decode cX9_reads 1 = .ok (.iconst 0, 1) := by decide +kernel
theorem dX9_reads_2 : decode cX9_reads 2 = .ok (.invokevirtual 204, 3) := by decide +kernel
theorem dX9_reads_5 : decode cX9_reads 5 = .ok (.istore_n 1, 1) := by decide +kernel
theorem dX9_reads_6 : decode cX9_reads 6 = .ok (.aload_n 0, 1) := by decide +kernel
theorem dX9_reads_7 : decode cX9_reads 7 = .ok (.iload_n 1, 1) := by decide +kernel
theorem dX9_reads_8 : decode cX9_reads 8 = .ok (.invokevirtual 201, 3) := by decide +kernel
theorem dX9_reads_11 : decode cX9_reads 11 = .ok (.bipush 49, 2) := by decide +kernel
theorem dX9_reads_13 : decode cX9_reads 13 = .ok (.bipush 54, 2) := by decide +kernel
theorem dX9_reads_15 : decode cX9_reads 15 = .ok (.invokestatic 59, 3) := by decide +kernel
theorem dX9_reads_18 : decode cX9_reads 18 = .ok (.ifCond .ne 5, 3) := by decide +kernel
theorem dX9_reads_21 : decode cX9_reads 21 = .ok (.iload_n 1, 1) := by decide +kernel
theorem dX9_reads_22 : decode cX9_reads 22 = .ok (.ireturn, 1) := by decide +kernel
theorem dX9_reads_23 : decode cX9_reads 23 = .ok (.aload_n 0, 1) := by decide +kernel
theorem dX9_reads_24 : decode cX9_reads 24 = .ok (.aload_n 0, 1) := by decide +kernel
theorem dX9_reads_25 : decode cX9_reads 25 = .ok (.iload_n 1, 1) := by decide +kernel
theorem dX9_reads_26 : decode cX9_reads 26 = .ok (.invokevirtual 201, 3) := by decide +kernel
theorem dX9_reads_29 : decode cX9_reads 29 = .ok (.bipush 48, 2) := by decide +kernel
theorem dX9_reads_31 : decode cX9_reads 31 = .ok (.isub, 1) := by decide +kernel
theorem dX9_reads_32 : decode cX9_reads 32 = .ok (.putfield 207, 3) := by decide +kernel
theorem dX9_reads_35 : decode cX9_reads 35 = .ok (.aload_n 0, 1) := by decide +kernel
theorem dX9_reads_36 : decode cX9_reads 36 = .ok (.lconst 1, 1) := by decide +kernel
theorem dX9_reads_37 : decode cX9_reads 37 = .ok (.putfield 210, 3) := by decide +kernel
theorem dX9_reads_40 : decode cX9_reads 40 = .ok (.aload_n 0, 1) := by decide +kernel
theorem dX9_reads_41 : decode cX9_reads 41 = .ok (.iload_n 1, 1) := by decide +kernel
theorem dX9_reads_42 : decode cX9_reads 42 = .ok (.iconst 1, 1) := by decide +kernel
theorem dX9_reads_43 : decode cX9_reads 43 = .ok (.iadd, 1) := by decide +kernel
theorem dX9_reads_44 : decode cX9_reads 44 = .ok (.invokevirtual 204, 3) := by decide +kernel
theorem dX9_reads_47 : decode cX9_reads 47 = .ok (.istore_n 1, 1) := by decide +kernel
theorem dX9_reads_48 : decode cX9_reads 48 = .ok (.aload_n 0, 1) := by decide +kernel
theorem dX9_reads_49 : decode cX9_reads 49 = .ok (.iload_n 1, 1) := by decide +kernel
theorem dX9_reads_50 : decode cX9_reads 50 = .ok (.invokevirtual 201, 3) := by decide +kernel
theorem dX9_reads_53 : decode cX9_reads 53 = .ok (.bipush 58, 2) := by decide +kernel
theorem dX9_reads_55 : decode cX9_reads 55 = .ok (.if_icmp .eq 5, 3) := by decide +kernel
theorem dX9_reads_58 : decode cX9_reads 58 = .ok (.iload_n 1, 1) := by decide +kernel
theorem dX9_reads_59 : decode cX9_reads 59 = .ok (.ireturn, 1) := by decide +kernel
theorem dX9_reads_60 : decode cX9_reads 60 = .ok (.aload_n 0, 1) := by decide +kernel
theorem dX9_reads_61 : decode cX9_reads 61 = .ok (.iload_n 1, 1) := by decide +kernel
theorem dX9_reads_62 : decode cX9_reads 62 = .ok (.iconst 1, 1) := by decide +kernel
theorem dX9_reads_63 : decode cX9_reads 63 = .ok (.iadd, 1) := by decide +kernel
theorem dX9_reads_64 : decode cX9_reads 64 = .ok (.invokevirtual 204, 3) := by decide +kernel
theorem dX9_reads_67 : decode cX9_reads 67 = .ok (.istore_n 1, 1) := by decide +kernel
theorem dX9_reads_68 : decode cX9_reads 68 = .ok (.iload_n 1, 1) := by decide +kernel
theorem dX9_reads_69 : decode cX9_reads 69 = .ok (.aload_n 0, 1) := by decide +kernel
theorem dX9_reads_70 : decode cX9_reads 70 = .ok (.getfield 198, 3) := by decide +kernel
theorem dX9_reads_73 : decode cX9_reads 73 = .ok (.if_icmp .ge 103, 3) := by decide +kernel
theorem dX9_reads_76 : decode cX9_reads 76 = .ok (.iconst 0, 1) := by decide +kernel
theorem dX9_reads_77 : decode cX9_reads 77 = .ok (.istore_n 2, 1) := by decide +kernel
theorem dX9_reads_78 : decode cX9_reads 78 = .ok (.iconst (-1), 1) := by decide +kernel
theorem dX9_reads_79 : decode cX9_reads 79 = .ok (.istore_n 3, 1) := by decide +kernel
theorem dX9_reads_80 : decode cX9_reads 80 = .ok (.aload_n 0, 1) := by decide +kernel
theorem dX9_reads_81 : decode cX9_reads 81 = .ok (.iload_n 1, 1) := by decide +kernel
theorem dX9_reads_82 : decode cX9_reads 82 = .ok (.invokevirtual 201, 3) := by decide +kernel
theorem dX9_reads_85 : decode cX9_reads 85 = .ok (.bipush 32, 2) := by decide +kernel
theorem dX9_reads_87 : decode cX9_reads 87 = .ok (.if_icmp .eq 67, 3) := by decide +kernel
theorem dX9_reads_90 : decode cX9_reads 90 = .ok (.aload_n 0, 1) := by decide +kernel
theorem dX9_reads_91 : decode cX9_reads 91 = .ok (.iload_n 1, 1) := by decide +kernel
theorem dX9_reads_92 : decode cX9_reads 92 = .ok (.invokevirtual 201, 3) := by decide +kernel
theorem dX9_reads_95 : decode cX9_reads 95 = .ok (.bipush 10, 2) := by decide +kernel
theorem dX9_reads_97 : decode cX9_reads 97 = .ok (.if_icmp .eq 57, 3) := by decide +kernel
theorem dX9_reads_100 : decode cX9_reads 100 = .ok (.aload_n 0, 1) := by decide +kernel
theorem dX9_reads_101 : decode cX9_reads 101 = .ok (.iload_n 1, 1) := by decide +kernel
theorem dX9_reads_102 : decode cX9_reads 102 = .ok (.invokevirtual 201, 3) := by decide +kernel
theorem dX9_reads_105 : decode cX9_reads 105 = .ok (.iconst (-1), 1) := by decide +kernel
theorem dX9_reads_106 : decode cX9_reads 106 = .ok (.if_icmp .eq 48, 3) := by decide +kernel
theorem dX9_reads_109 : decode cX9_reads 109 = .ok (.aload_n 0, 1) := by decide +kernel
theorem dX9_reads_110 : decode cX9_reads 110 = .ok (.iload_n 1, 1) := by decide +kernel
theorem dX9_reads_111 : decode cX9_reads 111 = .ok (.invokevirtual 201, 3) := by decide +kernel
theorem dX9_reads_114 : decode cX9_reads 114 = .ok (.bipush 48, 2) := by decide +kernel
theorem dX9_reads_116 : decode cX9_reads 116 = .ok (.isub, 1) := by decide +kernel
theorem dX9_reads_117 : decode cX9_reads 117 = .ok (.istore 4, 2) := by decide +kernel
theorem dX9_reads_119 : decode cX9_reads 119 = .ok (.iload 4, 2) := by decide +kernel
theorem dX9_reads_121 : decode cX9_reads 121 = .ok (.iload_n 3, 1) := by decide +kernel
theorem dX9_reads_122 : decode cX9_reads 122 = .ok (.iconst 1, 1) := by decide +kernel
theorem dX9_reads_123 : decode cX9_reads 123 = .ok (.iadd, 1) := by decide +kernel
theorem dX9_reads_124 : decode cX9_reads 124 = .ok (.aload_n 0, 1) := by decide +kernel
theorem dX9_reads_125 : decode cX9_reads 125 = .ok (.getfield 207, 3) := by decide +kernel
theorem dX9_reads_128 : decode cX9_reads 128 = .ok (.iconst 1, 1) := by decide +kernel
theorem dX9_reads_129 : decode cX9_reads 129 = .ok (.isub, 1) := by decide +kernel
theorem dX9_reads_130 : decode cX9_reads 130 = .ok (.invokestatic 59, 3) := by decide +kernel
theorem dX9_reads_133 : decode cX9_reads 133 = .ok (.ifCond .ne 5, 3) := by decide +kernel
theorem dX9_reads_136 : decode cX9_reads 136 = .ok (.iload_n 1, 1) := by decide +kernel
theorem dX9_reads_137 : decode cX9_reads 137 = .ok (.ireturn, 1) := by decide +kernel
theorem dX9_reads_138 : decode cX9_reads 138 = .ok (.iload_n 2, 1) := by decide +kernel
theorem dX9_reads_139 : decode cX9_reads 139 = .ok (.iconst 1, 1) := by decide +kernel
theorem dX9_reads_140 : decode cX9_reads 140 = .ok (.iload 4, 2) := by decide +kernel
theorem dX9_reads_142 : decode cX9_reads 142 = .ok (.ishl, 1) := by decide +kernel
theorem dX9_reads_143 : decode cX9_reads 143 = .ok (.ior, 1) := by decide +kernel
theorem dX9_reads_144 : decode cX9_reads 144 = .ok (.istore_n 2, 1) := by decide +kernel
theorem dX9_reads_145 : decode cX9_reads 145 = .ok (.iload 4, 2) := by decide +kernel
theorem dX9_reads_147 : decode cX9_reads 147 = .ok (.istore_n 3, 1) := by decide +kernel
theorem dX9_reads_148 : decode cX9_reads 148 = .ok (.iinc 1 1, 3) := by decide +kernel
theorem dX9_reads_151 : decode cX9_reads 151 = .ok (.goto (-71), 3) := by decide +kernel
theorem dX9_reads_154 : decode cX9_reads 154 = .ok (.aload_n 0, 1) := by decide +kernel
theorem dX9_reads_155 : decode cX9_reads 155 = .ok (.dup, 1) := by decide +kernel
theorem dX9_reads_156 : decode cX9_reads 156 = .ok (.getfield 210, 3) := by decide +kernel
theorem dX9_reads_159 : decode cX9_reads 159 = .ok (.iload_n 2, 1) := by decide +kernel
theorem dX9_reads_160 : decode cX9_reads 160 = .ok (.invokestatic 81, 3) := by decide +kernel
theorem dX9_reads_163 : decode cX9_reads 163 = .ok (.lor, 1) := by decide +kernel
theorem dX9_reads_164 : decode cX9_reads 164 = .ok (.putfield 210, 3) := by decide +kernel
theorem dX9_reads_167 : decode cX9_reads 167 = .ok (.aload_n 0, 1) := by decide +kernel
theorem dX9_reads_168 : decode cX9_reads 168 = .ok (.iload_n 1, 1) := by decide +kernel
theorem dX9_reads_169 : decode cX9_reads 169 = .ok (.invokevirtual 204, 3) := by decide +kernel
theorem dX9_reads_172 : decode cX9_reads 172 = .ok (.istore_n 1, 1) := by decide +kernel
theorem dX9_reads_173 : decode cX9_reads 173 = .ok (.goto (-105), 3) := by decide +kernel
theorem dX9_reads_176 : decode cX9_reads 176 = .ok (.iconst (-1), 1) := by decide +kernel
theorem dX9_reads_177 : decode cX9_reads 177 = .ok (.ireturn, 1) := by decide +kernel
set_option maxRecDepth 20000 in
theorem ggX9_read_X9_reads : GoodIn wsX9_read wsX9_reads := goodIn_r _ [10, 3, 4, 2, 11, 12, 13, 9, 14, 15, 16, 17, 18, 19, 20, 21, 22, 23, 24, 25, 41, 42, 43, 44, 45, 46, 47, 48, 49, 50, 51, 52, 53, 54, 55, 56, 57, 58, 59, 60, 61, 62, 63, 64, 65, 66, 67] (by decide +kernel) (by decide +kernel)
set_option maxRecDepth 20000 in
theorem gX9_read_X9_reads : GoodIn wsX9_read (wsV RX9 213 RX9 yX9_reads wsX9_reads) := goodIn_app (goodIn_of _ (by decide +kernel)) ggX9_read_X9_reads
set_option maxRecDepth 20000 in
theorem ggX9_read_X9_becomes : GoodIn wsX9_read wsX9_becomes := goodIn_r _ [29, 30, 5, 31, 32, 33, 9, 34, 35, 36, 37, 41, 42, 43, 44, 45, 46, 47, 48, 49, 50, 51, 52, 53, 54, 55, 56, 57, 58, 59, 60, 61, 62, 63, 64, 65, 66, 67] (by decide +kernel) (by decide +kernel)
set_option maxRecDepth 20000 in
theorem gX9_read_X9_becomes : GoodIn wsX9_read (wsV RX9 69 RX9 yX9_becomes wsX9_becomes) := goodIn_app (goodIn_of _ (by decide +kernel)) ggX9_read_X9_becomes
set_option maxRecDepth 20000 in
theorem ggX9_read_X9_many : GoodIn wsX9_read wsX9_many := goodIn_r _ [40] (by decide +kernel) (by decide +kernel)
set_option maxRecDepth 20000 in
theorem gX9_read_X9_many : GoodIn wsX9_read (va_wsS RX9 77 yX9_many wsX9_many) := goodIn_app (goodIn_of _ (by decide +kernel)) ggX9_read_X9_many
theorem dX9_read_0 : decode cX9_read 0 = .ok (.aload_n 0, 1) := by decide +kernel
theorem dX9_read_1 : decode cX9_read 1 = .ok (.aload_n 0, 1) := by decide +kernel
theorem dX9_read_2 : decode cX9_read 2 = .ok (.invokevirtual 213, 3) := by decide +kernel
theorem dX9_read_5 : decode cX9_read 5 = .ok (.putfield 52, 3) := by decide +kernel
theorem dX9_read_8 : decode cX9_read 8 = .ok (.aload_n 0, 1) := by decide +kernel
theorem dX9_read_9 : decode cX9_read 9 = .ok (.iconst 0, 1) := by decide +kernel
theorem dX9_read_10 : decode cX9_read 10 = .ok (.putfield 198, 3) := by decide +kernel
theorem dX9_read_13 : decode cX9_read 13 = .ok (.aload_n 0, 1) := by decide +kernel
theorem dX9_read_14 : decode cX9_read 14 = .ok (.getfield 52, 3) := by decide +kernel
theorem dX9_read_17 : decode cX9_read 17 = .ok (.iconst (-1), 1) := by decide +kernel
theorem dX9_read_18 : decode cX9_read 18 = .ok (.if_icmp .eq 5, 3) := by decide +kernel
theorem dX9_read_21 : decode cX9_read 21 = .ok (.iconst (-1), 1) := by decide +kernel
theorem dX9_read_22 : decode cX9_read 22 = .ok (.ireturn, 1) := by decide +kernel
theorem dX9_read_23 : decode cX9_read 23 = .ok (.aload_n 0, 1) := by decide +kernel
theorem dX9_read_24 : decode cX9_read 24 = .ok (.aload_n 0, 1) := by decide +kernel
theorem dX9_read_25 : decode cX9_read 25 = .ok (.getfield 207, 3) := by decide +kernel
theorem dX9_read_28 : decode cX9_read 28 = .ok (.aload_n 0, 1) := by decide +kernel
theorem dX9_read_29 : decode cX9_read 29 = .ok (.getfield 210, 3) := by decide +kernel
theorem dX9_read_32 : decode cX9_read 32 = .ok (.invokevirtual 69, 3) := by decide +kernel
theorem dX9_read_35 : decode cX9_read 35 = .ok (.aload_n 0, 1) := by decide +kernel
theorem dX9_read_36 : decode cX9_read 36 = .ok (.getfield 13, 3) := by decide +kernel
theorem dX9_read_39 : decode cX9_read 39 = .ok (.invokestatic 77, 3) := by decide +kernel
theorem dX9_read_42 : decode cX9_read 42 = .ok (.ireturn, 1) := by decide +kernel
theorem dX9_fault_0 : decode cX9_fault 0 = .ok (.aload_n 0, 1) := by decide +kernel
theorem dX9_fault_1 : decode cX9_fault 1 = .ok (.getfield 52, 3) := by decide +kernel
theorem dX9_fault_4 : decode cX9_fault 4 = .ok (.ireturn, 1) := by decide +kernel
set_option maxRecDepth 20000 in
theorem ggX9_isGreatest_X9_isFace : GoodIn wsX9_isGreatest wsX9_isFace := goodIn_r _ [6, 7, 8, 9, 10, 11, 12, 13, 14, 15, 16, 17, 18, 19, 20, 21, 22, 23, 24, 25, 26, 27, 28, 29, 30, 31, 32, 33, 34] (by decide +kernel) (by decide +kernel)
set_option maxRecDepth 20000 in
theorem gX9_isGreatest_X9_isFace : GoodIn wsX9_isGreatest (wsV RX9 85 RX9 yX9_isFace wsX9_isFace) := goodIn_app (goodIn_of _ (by decide +kernel)) ggX9_isGreatest_X9_isFace
theorem dX9_isGreatest_0 : decode cX9_isGreatest 0 = .ok (.aload_n 0, 1) := by decide +kernel
theorem dX9_isGreatest_1 : decode cX9_isGreatest 1 = .ok (.iload_n 1, 1) := by decide +kernel
theorem dX9_isGreatest_2 : decode cX9_isGreatest 2 = .ok (.invokevirtual 85, 3) := by decide +kernel
theorem dX9_isGreatest_5 : decode cX9_isGreatest 5 = .ok (.ifCond .eq 7, 3) := by decide +kernel
theorem dX9_isGreatest_8 : decode cX9_isGreatest 8 = .ok (.iload_n 1, 1) := by decide +kernel
theorem dX9_isGreatest_9 : decode cX9_isGreatest 9 = .ok (.ifCond .ne 5, 3) := by decide +kernel
theorem dX9_isGreatest_12 : decode cX9_isGreatest 12 = .ok (.iconst 0, 1) := by decide +kernel
theorem dX9_isGreatest_13 : decode cX9_isGreatest 13 = .ok (.ireturn, 1) := by decide +kernel
theorem dX9_isGreatest_14 : decode cX9_isGreatest 14 = .ok (.iconst 1, 1) := by decide +kernel
theorem dX9_isGreatest_15 : decode cX9_isGreatest 15 = .ok (.istore_n 2, 1) := by decide +kernel
theorem dX9_isGreatest_16 : decode cX9_isGreatest 16 = .ok (.iconst 0, 1) := by decide +kernel
theorem dX9_isGreatest_17 : decode cX9_isGreatest 17 = .ok (.istore_n 3, 1) := by decide +kernel
theorem dX9_isGreatest_18 : decode cX9_isGreatest 18 = .ok (.iload_n 3, 1) := by decide +kernel
theorem dX9_isGreatest_19 : decode cX9_isGreatest 19 = .ok (.aload_n 0, 1) := by decide +kernel
theorem dX9_isGreatest_20 : decode cX9_isGreatest 20 = .ok (.getfield 7, 3) := by decide +kernel
theorem dX9_isGreatest_23 : decode cX9_isGreatest 23 = .ok (.if_icmp .ge 40, 3) := by decide +kernel
theorem dX9_isGreatest_26 : decode cX9_isGreatest 26 = .ok (.iload_n 2, 1) := by decide +kernel
theorem dX9_isGreatest_27 : decode cX9_isGreatest 27 = .ok (.ifCond .eq 28, 3) := by decide +kernel
theorem dX9_isGreatest_30 : decode cX9_isGreatest 30 = .ok (.iload_n 1, 1) := by decide +kernel
theorem dX9_isGreatest_31 : decode cX9_isGreatest 31 = .ok (.iload_n 3, 1) := by decide +kernel
theorem dX9_isGreatest_32 : decode cX9_isGreatest 32 = .ok (.ishr, 1) := by decide +kernel
theorem dX9_isGreatest_33 : decode cX9_isGreatest 33 = .ok (.iconst 1, 1) := by decide +kernel
theorem dX9_isGreatest_34 : decode cX9_isGreatest 34 = .ok (.iand, 1) := by decide +kernel
theorem dX9_isGreatest_35 : decode cX9_isGreatest 35 = .ok (.iconst 1, 1) := by decide +kernel
theorem dX9_isGreatest_36 : decode cX9_isGreatest 36 = .ok (.if_icmp .eq 15, 3) := by decide +kernel
theorem dX9_isGreatest_39 : decode cX9_isGreatest 39 = .ok (.aload_n 0, 1) := by decide +kernel
theorem dX9_isGreatest_40 : decode cX9_isGreatest 40 = .ok (.iload_n 1, 1) := by decide +kernel
theorem dX9_isGreatest_41 : decode cX9_isGreatest 41 = .ok (.iconst 1, 1) := by decide +kernel
theorem dX9_isGreatest_42 : decode cX9_isGreatest 42 = .ok (.iload_n 3, 1) := by decide +kernel
theorem dX9_isGreatest_43 : decode cX9_isGreatest 43 = .ok (.ishl, 1) := by decide +kernel
theorem dX9_isGreatest_44 : decode cX9_isGreatest 44 = .ok (.ior, 1) := by decide +kernel
theorem dX9_isGreatest_45 : decode cX9_isGreatest 45 = .ok (.invokevirtual 85, 3) := by decide +kernel
theorem dX9_isGreatest_48 : decode cX9_isGreatest 48 = .ok (.ifCond .ne 7, 3) := by decide +kernel
theorem dX9_isGreatest_51 : decode cX9_isGreatest 51 = .ok (.iconst 1, 1) := by decide +kernel
theorem dX9_isGreatest_52 : decode cX9_isGreatest 52 = .ok (.goto 4, 3) := by decide +kernel
theorem dX9_isGreatest_55 : decode cX9_isGreatest 55 = .ok (.iconst 0, 1) := by decide +kernel
theorem dX9_isGreatest_56 : decode cX9_isGreatest 56 = .ok (.istore_n 2, 1) := by decide +kernel
theorem dX9_isGreatest_57 : decode cX9_isGreatest 57 = .ok (.iinc 3 1, 3) := by decide +kernel
theorem dX9_isGreatest_60 : decode cX9_isGreatest 60 = .ok (.goto (-42), 3) := by decide +kernel
theorem dX9_isGreatest_63 : decode cX9_isGreatest 63 = .ok (.iload_n 2, 1) := by decide +kernel
theorem dX9_isGreatest_64 : decode cX9_isGreatest 64 = .ok (.ireturn, 1) := by decide +kernel
theorem dX9_puts_0 : decode cX9_puts 0 = .ok (.aload_n 0, 1) := by decide +kernel
theorem dX9_puts_1 : decode cX9_puts 1 = .ok (.getfield 49, 3) := by decide +kernel
theorem dX9_puts_4 : decode cX9_puts 4 = .ok (.aload_n 0, 1) := by decide +kernel
theorem dX9_puts_5 : decode cX9_puts 5 = .ok (.getfield 216, 3) := by decide +kernel
theorem dX9_puts_8 : decode cX9_puts 8 = .ok (.iload_n 1, 1) := by decide +kernel
theorem dX9_puts_9 : decode cX9_puts 9 = .ok (.iastore, 1) := by decide +kernel
theorem dX9_puts_10 : decode cX9_puts 10 = .ok (.aload_n 0, 1) := by decide +kernel
theorem dX9_puts_11 : decode cX9_puts 11 = .ok (.dup, 1) := by decide +kernel
theorem dX9_puts_12 : decode cX9_puts 12 = .ok (.getfield 216, 3) := by decide +kernel
theorem dX9_puts_15 : decode cX9_puts 15 = .ok (.iconst 1, 1) := by decide +kernel
theorem dX9_puts_16 : decode cX9_puts 16 = .ok (.iadd, 1) := by decide +kernel
theorem dX9_puts_17 : decode cX9_puts 17 = .ok (.putfield 216, 3) := by decide +kernel
theorem dX9_puts_20 : decode cX9_puts 20 = .ok (.return_, 1) := by decide +kernel
set_option maxRecDepth 20000 in
theorem ggX9_write_X9_puts : GoodIn wsX9_write wsX9_puts := goodIn_r _ [7, 8, 1, 22, 23, 24, 25, 26, 27, 28, 29, 30, 31, 32, 33, 34, 35, 36, 37, 38, 39, 40, 41, 42, 43, 44, 45, 46, 47, 48] (by decide +kernel) (by decide +kernel)
set_option maxRecDepth 20000 in
theorem gX9_write_X9_puts : GoodIn wsX9_write (wsV RX9 219 RX9 yX9_puts wsX9_puts) := goodIn_app (goodIn_of _ (by decide +kernel)) ggX9_write_X9_puts
set_option maxRecDepth 20000 in
theorem ggX9_write_X9_all : GoodIn wsX9_write wsX9_all := goodIn_r _ [12, 2, 22, 23, 24, 25, 26, 27, 28, 29, 30, 31, 32, 33, 34, 35, 36, 37, 38, 39, 40, 41, 42, 43, 44, 45, 46, 47, 48] (by decide +kernel) (by decide +kernel)
set_option maxRecDepth 20000 in
theorem gX9_write_X9_all : GoodIn wsX9_write (wsV RX9 55 RX9 yX9_all wsX9_all) := goodIn_app (goodIn_of _ (by decide +kernel)) ggX9_write_X9_all
set_option maxRecDepth 20000 in
theorem ggX9_write_X9_isGreatest : GoodIn wsX9_write wsX9_isGreatest := goodIn_r _ [16, 2, 17, 18, 19, 6, 20, 21, 22, 23, 24, 25, 26, 27, 28, 29, 30, 31, 32, 33, 34, 35, 36, 37, 38, 39, 40, 41, 42, 43, 44, 45, 46, 47, 48] (by decide +kernel) (by decide +kernel)
set_option maxRecDepth 20000 in
theorem gX9_write_X9_isGreatest : GoodIn wsX9_write (wsV RX9 223 RX9 yX9_isGreatest wsX9_isGreatest) := goodIn_app (goodIn_of _ (by decide +kernel)) ggX9_write_X9_isGreatest
theorem dX9_write_0 : decode cX9_write 0 = .ok (.aload_n 0, 1) := by decide +kernel
theorem dX9_write_1 : decode cX9_write 1 = .ok (.iconst 0, 1) := by decide +kernel
theorem dX9_write_2 : decode cX9_write 2 = .ok (.putfield 216, 3) := by decide +kernel
theorem dX9_write_5 : decode cX9_write 5 = .ok (.aload_n 0, 1) := by decide +kernel
theorem dX9_write_6 : decode cX9_write 6 = .ok (.bipush 48, 2) := by decide +kernel
theorem dX9_write_8 : decode cX9_write 8 = .ok (.aload_n 0, 1) := by decide +kernel
theorem dX9_write_9 : decode cX9_write 9 = .ok (.getfield 7, 3) := by decide +kernel
theorem dX9_write_12 : decode cX9_write 12 = .ok (.iadd, 1) := by decide +kernel
theorem dX9_write_13 : decode cX9_write 13 = .ok (.invokevirtual 219, 3) := by decide +kernel
theorem dX9_write_16 : decode cX9_write 16 = .ok (.aload_n 0, 1) := by decide +kernel
theorem dX9_write_17 : decode cX9_write 17 = .ok (.bipush 58, 2) := by decide +kernel
theorem dX9_write_19 : decode cX9_write 19 = .ok (.invokevirtual 219, 3) := by decide +kernel
theorem dX9_write_22 : decode cX9_write 22 = .ok (.iconst 1, 1) := by decide +kernel
theorem dX9_write_23 : decode cX9_write 23 = .ok (.istore_n 1, 1) := by decide +kernel
theorem dX9_write_24 : decode cX9_write 24 = .ok (.iload_n 1, 1) := by decide +kernel
theorem dX9_write_25 : decode cX9_write 25 = .ok (.aload_n 0, 1) := by decide +kernel
theorem dX9_write_26 : decode cX9_write 26 = .ok (.invokevirtual 55, 3) := by decide +kernel
theorem dX9_write_29 : decode cX9_write 29 = .ok (.if_icmp .gt 59, 3) := by decide +kernel
theorem dX9_write_32 : decode cX9_write 32 = .ok (.aload_n 0, 1) := by decide +kernel
theorem dX9_write_33 : decode cX9_write 33 = .ok (.iload_n 1, 1) := by decide +kernel
theorem dX9_write_34 : decode cX9_write 34 = .ok (.invokevirtual 223, 3) := by decide +kernel
theorem dX9_write_37 : decode cX9_write 37 = .ok (.ifCond .ne 6, 3) := by decide +kernel
theorem dX9_write_40 : decode cX9_write 40 = .ok (.goto 42, 3) := by decide +kernel
theorem dX9_write_43 : decode cX9_write 43 = .ok (.aload_n 0, 1) := by decide +kernel
theorem dX9_write_44 : decode cX9_write 44 = .ok (.bipush 32, 2) := by decide +kernel
theorem dX9_write_46 : decode cX9_write 46 = .ok (.invokevirtual 219, 3) := by decide +kernel
theorem dX9_write_49 : decode cX9_write 49 = .ok (.iconst 0, 1) := by decide +kernel
theorem dX9_write_50 : decode cX9_write 50 = .ok (.istore_n 2, 1) := by decide +kernel
theorem dX9_write_51 : decode cX9_write 51 = .ok (.iload_n 2, 1) := by decide +kernel
theorem dX9_write_52 : decode cX9_write 52 = .ok (.aload_n 0, 1) := by decide +kernel
theorem dX9_write_53 : decode cX9_write 53 = .ok (.getfield 7, 3) := by decide +kernel
theorem dX9_write_56 : decode cX9_write 56 = .ok (.if_icmp .ge 26, 3) := by decide +kernel
theorem dX9_write_59 : decode cX9_write 59 = .ok (.iload_n 1, 1) := by decide +kernel
theorem dX9_write_60 : decode cX9_write 60 = .ok (.iload_n 2, 1) := by decide +kernel
theorem dX9_write_61 : decode cX9_write 61 = .ok (.ishr, 1) := by decide +kernel
theorem dX9_write_62 : decode cX9_write 62 = .ok (.iconst 1, 1) := by decide +kernel
theorem dX9_write_63 : decode cX9_write 63 = .ok (.iand, 1) := by decide +kernel
theorem dX9_write_64 : decode cX9_write 64 = .ok (.iconst 1, 1) := by decide +kernel
theorem dX9_write_65 : decode cX9_write 65 = .ok (.if_icmp .ne 11, 3) := by decide +kernel
theorem dX9_write_68 : decode cX9_write 68 = .ok (.aload_n 0, 1) := by decide +kernel
theorem dX9_write_69 : decode cX9_write 69 = .ok (.bipush 48, 2) := by decide +kernel
theorem dX9_write_71 : decode cX9_write 71 = .ok (.iload_n 2, 1) := by decide +kernel
theorem dX9_write_72 : decode cX9_write 72 = .ok (.iadd, 1) := by decide +kernel
theorem dX9_write_73 : decode cX9_write 73 = .ok (.invokevirtual 219, 3) := by decide +kernel
theorem dX9_write_76 : decode cX9_write 76 = .ok (.iinc 2 1, 3) := by decide +kernel
theorem dX9_write_79 : decode cX9_write 79 = .ok (.goto (-28), 3) := by decide +kernel
theorem dX9_write_82 : decode cX9_write 82 = .ok (.iinc 1 1, 3) := by decide +kernel
theorem dX9_write_85 : decode cX9_write 85 = .ok (.goto (-61), 3) := by decide +kernel
theorem dX9_write_88 : decode cX9_write 88 = .ok (.aload_n 0, 1) := by decide +kernel
theorem dX9_write_89 : decode cX9_write 89 = .ok (.getfield 216, 3) := by decide +kernel
theorem dX9_write_92 : decode cX9_write 92 = .ok (.ireturn, 1) := by decide +kernel
set_option maxRecDepth 20000 in
theorem ggX9_out_X9_isIn : GoodIn wsX9_out wsX9_isIn := goodIn_r _ [6] (by decide +kernel) (by decide +kernel)
set_option maxRecDepth 20000 in
theorem gX9_out_X9_isIn : GoodIn wsX9_out (va_wsS RX9 59 yX9_isIn wsX9_isIn) := goodIn_app (goodIn_of _ (by decide +kernel)) ggX9_out_X9_isIn
theorem dX9_out_0 : decode cX9_out 0 = .ok (.iload_n 1, 1) := by decide +kernel
theorem dX9_out_1 : decode cX9_out 1 = .ok (.iconst 0, 1) := by decide +kernel
theorem dX9_out_2 : decode cX9_out 2 = .ok (.aload_n 0, 1) := by decide +kernel
theorem dX9_out_3 : decode cX9_out 3 = .ok (.getfield 216, 3) := by decide +kernel
theorem dX9_out_6 : decode cX9_out 6 = .ok (.iconst 1, 1) := by decide +kernel
theorem dX9_out_7 : decode cX9_out 7 = .ok (.isub, 1) := by decide +kernel
theorem dX9_out_8 : decode cX9_out 8 = .ok (.invokestatic 59, 3) := by decide +kernel
theorem dX9_out_11 : decode cX9_out 11 = .ok (.ifCond .eq 12, 3) := by decide +kernel
theorem dX9_out_14 : decode cX9_out 14 = .ok (.aload_n 0, 1) := by decide +kernel
theorem dX9_out_15 : decode cX9_out 15 = .ok (.getfield 49, 3) := by decide +kernel
theorem dX9_out_18 : decode cX9_out 18 = .ok (.iload_n 1, 1) := by decide +kernel
theorem dX9_out_19 : decode cX9_out 19 = .ok (.iaload, 1) := by decide +kernel
theorem dX9_out_20 : decode cX9_out 20 = .ok (.goto 4, 3) := by decide +kernel
theorem dX9_out_23 : decode cX9_out 23 = .ok (.iconst (-1), 1) := by decide +kernel
theorem dX9_out_24 : decode cX9_out 24 = .ok (.ireturn, 1) := by decide +kernel
theorem dX9_take_0 : decode cX9_take 0 = .ok (.aload_n 0, 1) := by decide +kernel
theorem dX9_take_1 : decode cX9_take 1 = .ok (.aload_n 0, 1) := by decide +kernel
theorem dX9_take_2 : decode cX9_take 2 = .ok (.getfield 216, 3) := by decide +kernel
theorem dX9_take_5 : decode cX9_take 5 = .ok (.putfield 198, 3) := by decide +kernel
theorem dX9_take_8 : decode cX9_take 8 = .ok (.iconst 0, 1) := by decide +kernel
theorem dX9_take_9 : decode cX9_take 9 = .ok (.istore_n 1, 1) := by decide +kernel
theorem dX9_take_10 : decode cX9_take 10 = .ok (.iload_n 1, 1) := by decide +kernel
theorem dX9_take_11 : decode cX9_take 11 = .ok (.aload_n 0, 1) := by decide +kernel
theorem dX9_take_12 : decode cX9_take 12 = .ok (.getfield 216, 3) := by decide +kernel
theorem dX9_take_15 : decode cX9_take 15 = .ok (.if_icmp .ge 21, 3) := by decide +kernel
theorem dX9_take_18 : decode cX9_take 18 = .ok (.aload_n 0, 1) := by decide +kernel
theorem dX9_take_19 : decode cX9_take 19 = .ok (.getfield 46, 3) := by decide +kernel
theorem dX9_take_22 : decode cX9_take 22 = .ok (.iload_n 1, 1) := by decide +kernel
theorem dX9_take_23 : decode cX9_take 23 = .ok (.aload_n 0, 1) := by decide +kernel
theorem dX9_take_24 : decode cX9_take 24 = .ok (.getfield 49, 3) := by decide +kernel
theorem dX9_take_27 : decode cX9_take 27 = .ok (.iload_n 1, 1) := by decide +kernel
theorem dX9_take_28 : decode cX9_take 28 = .ok (.iaload, 1) := by decide +kernel
theorem dX9_take_29 : decode cX9_take 29 = .ok (.iastore, 1) := by decide +kernel
theorem dX9_take_30 : decode cX9_take 30 = .ok (.iinc 1 1, 3) := by decide +kernel
theorem dX9_take_33 : decode cX9_take 33 = .ok (.goto (-23), 3) := by decide +kernel
theorem dX9_take_36 : decode cX9_take 36 = .ok (.aload_n 0, 1) := by decide +kernel
theorem dX9_take_37 : decode cX9_take 37 = .ok (.getfield 216, 3) := by decide +kernel
theorem dX9_take_40 : decode cX9_take 40 = .ok (.ireturn, 1) := by decide +kernel
