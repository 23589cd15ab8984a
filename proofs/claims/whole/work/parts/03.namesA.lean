theorem dX0_init_0 : decode cX0_init 0 = .ok (.aload_n 0, 1) := by decide +kernel
theorem dX0_init_1 : decode cX0_init 1 = .ok (.invokespecial 3, 3) := by decide +kernel
theorem dX0_init_4 : decode cX0_init 4 = .ok (.aload_n 0, 1) := by decide +kernel
theorem dX0_init_5 : decode cX0_init 5 = .ok (.bipush 64, 2) := by decide +kernel
theorem dX0_init_7 : decode cX0_init 7 = .ok (.newarray .long, 2) := by decide +kernel
theorem dX0_init_9 : decode cX0_init 9 = .ok (.putfield 9, 3) := by decide +kernel
theorem dX0_init_12 : decode cX0_init 12 = .ok (.aload_n 0, 1) := by decide +kernel
theorem dX0_init_13 : decode cX0_init 13 = .ok (.bipush 64, 2) := by decide +kernel
theorem dX0_init_15 : decode cX0_init 15 = .ok (.newarray .long, 2) := by decide +kernel
theorem dX0_init_17 : decode cX0_init 17 = .ok (.putfield 15, 3) := by decide +kernel
theorem dX0_init_20 : decode cX0_init 20 = .ok (.return_, 1) := by decide +kernel
theorem dX0_clear_0 : decode cX0_clear 0 = .ok (.aload_n 0, 1) := by decide +kernel
theorem dX0_clear_1 : decode cX0_clear 1 = .ok (.lload_n 1, 1) := by decide +kernel
theorem dX0_clear_2 : decode cX0_clear 2 = .ok (.putfield 18, 3) := by decide +kernel
theorem dX0_clear_5 : decode cX0_clear 5 = .ok (.aload_n 0, 1) := by decide +kernel
theorem dX0_clear_6 : decode cX0_clear 6 = .ok (.lconst 0, 1) := by decide +kernel
theorem dX0_clear_7 : decode cX0_clear 7 = .ok (.putfield 22, 3) := by decide +kernel
theorem dX0_clear_10 : decode cX0_clear 10 = .ok (.aload_n 0, 1) := by decide +kernel
theorem dX0_clear_11 : decode cX0_clear 11 = .ok (.iconst 0, 1) := by decide +kernel
theorem dX0_clear_12 : decode cX0_clear 12 = .ok (.putfield 25, 3) := by decide +kernel
theorem dX0_clear_15 : decode cX0_clear 15 = .ok (.return_, 1) := by decide +kernel
theorem dX0_add_0 : decode cX0_add 0 = .ok (.aload_n 0, 1) := by decide +kernel
theorem dX0_add_1 : decode cX0_add 1 = .ok (.lload_n 1, 1) := by decide +kernel
theorem dX0_add_2 : decode cX0_add 2 = .ok (.putfield 22, 3) := by decide +kernel
theorem dX0_add_5 : decode cX0_add 5 = .ok (.iconst 0, 1) := by decide +kernel
theorem dX0_add_6 : decode cX0_add 6 = .ok (.istore_n 3, 1) := by decide +kernel
theorem dX0_add_7 : decode cX0_add 7 = .ok (.iload_n 3, 1) := by decide +kernel
theorem dX0_add_8 : decode cX0_add 8 = .ok (.aload_n 0, 1) := by decide +kernel
theorem dX0_add_9 : decode cX0_add 9 = .ok (.getfield 25, 3) := by decide +kernel
theorem dX0_add_12 : decode cX0_add 12 = .ok (.if_icmp .ge 46, 3) := by decide +kernel
theorem dX0_add_15 : decode cX0_add 15 = .ok (.iload_n 3, 1) := by decide +kernel
theorem dX0_add_16 : decode cX0_add 16 = .ok (.bipush 64, 2) := by decide +kernel
theorem dX0_add_18 : decode cX0_add 18 = .ok (.if_icmp .ge 40, 3) := by decide +kernel
theorem dX0_add_21 : decode cX0_add 21 = .ok (.aload_n 0, 1) := by decide +kernel
theorem dX0_add_22 : decode cX0_add 22 = .ok (.getfield 22, 3) := by decide +kernel
theorem dX0_add_25 : decode cX0_add 25 = .ok (.aload_n 0, 1) := by decide +kernel
theorem dX0_add_26 : decode cX0_add 26 = .ok (.getfield 15, 3) := by decide +kernel
theorem dX0_add_29 : decode cX0_add 29 = .ok (.iload_n 3, 1) := by decide +kernel
theorem dX0_add_30 : decode cX0_add 30 = .ok (.laload, 1) := by decide +kernel
theorem dX0_add_31 : decode cX0_add 31 = .ok (.land, 1) := by decide +kernel
theorem dX0_add_32 : decode cX0_add 32 = .ok (.lconst 0, 1) := by decide +kernel
theorem dX0_add_33 : decode cX0_add 33 = .ok (.lcmp, 1) := by decide +kernel
theorem dX0_add_34 : decode cX0_add 34 = .ok (.ifCond .eq 18, 3) := by decide +kernel
theorem dX0_add_37 : decode cX0_add 37 = .ok (.aload_n 0, 1) := by decide +kernel
theorem dX0_add_38 : decode cX0_add 38 = .ok (.dup, 1) := by decide +kernel
theorem dX0_add_39 : decode cX0_add 39 = .ok (.getfield 22, 3) := by decide +kernel
theorem dX0_add_42 : decode cX0_add 42 = .ok (.aload_n 0, 1) := by decide +kernel
theorem dX0_add_43 : decode cX0_add 43 = .ok (.getfield 9, 3) := by decide +kernel
theorem dX0_add_46 : decode cX0_add 46 = .ok (.iload_n 3, 1) := by decide +kernel
theorem dX0_add_47 : decode cX0_add 47 = .ok (.laload, 1) := by decide +kernel
theorem dX0_add_48 : decode cX0_add 48 = .ok (.lxor, 1) := by decide +kernel
theorem dX0_add_49 : decode cX0_add 49 = .ok (.putfield 22, 3) := by decide +kernel
theorem dX0_add_52 : decode cX0_add 52 = .ok (.iinc 3 1, 3) := by decide +kernel
theorem dX0_add_55 : decode cX0_add 55 = .ok (.goto (-48), 3) := by decide +kernel
theorem dX0_add_58 : decode cX0_add 58 = .ok (.aload_n 0, 1) := by decide +kernel
theorem dX0_add_59 : decode cX0_add 59 = .ok (.getfield 22, 3) := by decide +kernel
theorem dX0_add_62 : decode cX0_add 62 = .ok (.aload_n 0, 1) := by decide +kernel
theorem dX0_add_63 : decode cX0_add 63 = .ok (.getfield 18, 3) := by decide +kernel
theorem dX0_add_66 : decode cX0_add 66 = .ok (.land, 1) := by decide +kernel
theorem dX0_add_67 : decode cX0_add 67 = .ok (.lstore_n 3, 1) := by decide +kernel
theorem dX0_add_68 : decode cX0_add 68 = .ok (.lload_n 3, 1) := by decide +kernel
theorem dX0_add_69 : decode cX0_add 69 = .ok (.lconst 0, 1) := by decide +kernel
theorem dX0_add_70 : decode cX0_add 70 = .ok (.lcmp, 1) := by decide +kernel
theorem dX0_add_71 : decode cX0_add 71 = .ok (.ifCond .eq 12, 3) := by decide +kernel
theorem dX0_add_74 : decode cX0_add 74 = .ok (.aload_n 0, 1) := by decide +kernel
theorem dX0_add_75 : decode cX0_add 75 = .ok (.getfield 25, 3) := by decide +kernel
theorem dX0_add_78 : decode cX0_add 78 = .ok (.bipush 64, 2) := by decide +kernel
theorem dX0_add_80 : decode cX0_add 80 = .ok (.if_icmp .lt 5, 3) := by decide +kernel
theorem dX0_add_83 : decode cX0_add 83 = .ok (.iconst 0, 1) := by decide +kernel
theorem dX0_add_84 : decode cX0_add 84 = .ok (.ireturn, 1) := by decide +kernel
theorem dX0_add_85 : decode cX0_add 85 = .ok (.aload_n 0, 1) := by decide +kernel
theorem dX0_add_86 : decode cX0_add 86 = .ok (.getfield 9, 3) := by decide +kernel
theorem dX0_add_89 : decode cX0_add 89 = .ok (.aload_n 0, 1) := by decide +kernel
theorem dX0_add_90 : decode cX0_add 90 = .ok (.getfield 25, 3) := by decide +kernel
theorem dX0_add_93 : decode cX0_add 93 = .ok (.aload_n 0, 1) := by decide +kernel
theorem dX0_add_94 : decode cX0_add 94 = .ok (.getfield 22, 3) := by decide +kernel
theorem dX0_add_97 : decode cX0_add 97 = .ok (.lastore, 1) := by decide +kernel
theorem dX0_add_98 : decode cX0_add 98 = .ok (.aload_n 0, 1) := by decide +kernel
theorem dX0_add_99 : decode cX0_add 99 = .ok (.getfield 15, 3) := by decide +kernel
theorem dX0_add_102 : decode cX0_add 102 = .ok (.aload_n 0, 1) := by decide +kernel
theorem dX0_add_103 : decode cX0_add 103 = .ok (.getfield 25, 3) := by decide +kernel
theorem dX0_add_106 : decode cX0_add 106 = .ok (.lload_n 3, 1) := by decide +kernel
theorem dX0_add_107 : decode cX0_add 107 = .ok (.lload_n 3, 1) := by decide +kernel
theorem dX0_add_108 : decode cX0_add 108 = .ok (.lneg, 1) := by decide +kernel
theorem dX0_add_109 : decode cX0_add 109 = .ok (.land, 1) := by decide +kernel
theorem dX0_add_110 : decode cX0_add 110 = .ok (.lastore, 1) := by decide +kernel
theorem dX0_add_111 : decode cX0_add 111 = .ok (.aload_n 0, 1) := by decide +kernel
theorem dX0_add_112 : decode cX0_add 112 = .ok (.dup, 1) := by decide +kernel
theorem dX0_add_113 : decode cX0_add 113 = .ok (.getfield 25, 3) := by decide +kernel
theorem dX0_add_116 : decode cX0_add 116 = .ok (.iconst 1, 1) := by decide +kernel
theorem dX0_add_117 : decode cX0_add 117 = .ok (.iadd, 1) := by decide +kernel
theorem dX0_add_118 : decode cX0_add 118 = .ok (.putfield 25, 3) := by decide +kernel
theorem dX0_add_121 : decode cX0_add 121 = .ok (.iconst 1, 1) := by decide +kernel
theorem dX0_add_122 : decode cX0_add 122 = .ok (.ireturn, 1) := by decide +kernel
theorem dX0_remainder_0 : decode cX0_remainder 0 = .ok (.aload_n 0, 1) := by decide +kernel
theorem dX0_remainder_1 : decode cX0_remainder 1 = .ok (.getfield 22, 3) := by decide +kernel
theorem dX0_remainder_4 : decode cX0_remainder 4 = .ok (.lreturn, 1) := by decide +kernel
theorem dX1_init_0 : decode cX1_init 0 = .ok (.aload_n 0, 1) := by decide +kernel
theorem dX1_init_1 : decode cX1_init 1 = .ok (.invokespecial 3, 3) := by decide +kernel
theorem dX1_init_4 : decode cX1_init 4 = .ok (.aload_n 0, 1) := by decide +kernel
theorem dX1_init_5 : decode cX1_init 5 = .ok (.bipush 8, 2) := by decide +kernel
theorem dX1_init_7 : decode cX1_init 7 = .ok (.newarray .int, 2) := by decide +kernel
theorem dX1_init_9 : decode cX1_init 9 = .ok (.putfield 11, 3) := by decide +kernel
theorem dX1_init_12 : decode cX1_init 12 = .ok (.aload_n 0, 1) := by decide +kernel
theorem dX1_init_13 : decode cX1_init 13 = .ok (.bipush 8, 2) := by decide +kernel
theorem dX1_init_15 : decode cX1_init 15 = .ok (.newarray .long, 2) := by decide +kernel
theorem dX1_init_17 : decode cX1_init 17 = .ok (.putfield 15, 3) := by decide +kernel
theorem dX1_init_20 : decode cX1_init 20 = .ok (.return_, 1) := by decide +kernel
theorem dX1_keep_0 : decode cX1_keep 0 = .ok (.aload_n 0, 1) := by decide +kernel
theorem dX1_keep_1 : decode cX1_keep 1 = .ok (.getfield 19, 3) := by decide +kernel
theorem dX1_keep_4 : decode cX1_keep 4 = .ok (.bipush 8, 2) := by decide +kernel
theorem dX1_keep_6 : decode cX1_keep 6 = .ok (.if_icmp .lt 39, 3) := by decide +kernel
theorem dX1_keep_9 : decode cX1_keep 9 = .ok (.aload_n 0, 1) := by decide +kernel
theorem dX1_keep_10 : decode cX1_keep 10 = .ok (.getfield 11, 3) := by decide +kernel
theorem dX1_keep_13 : decode cX1_keep 13 = .ok (.iconst 1, 1) := by decide +kernel
theorem dX1_keep_14 : decode cX1_keep 14 = .ok (.aload_n 0, 1) := by decide +kernel
theorem dX1_keep_15 : decode cX1_keep 15 = .ok (.getfield 11, 3) := by decide +kernel
theorem dX1_keep_18 : decode cX1_keep 18 = .ok (.iconst 0, 1) := by decide +kernel
theorem dX1_keep_19 : decode cX1_keep 19 = .ok (.bipush 7, 2) := by decide +kernel
theorem dX1_keep_21 : decode cX1_keep 21 = .ok (.invokestatic 23, 3) := by decide +kernel
theorem dX1_keep_24 : decode cX1_keep 24 = .ok (.aload_n 0, 1) := by decide +kernel
theorem dX1_keep_25 : decode cX1_keep 25 = .ok (.getfield 15, 3) := by decide +kernel
theorem dX1_keep_28 : decode cX1_keep 28 = .ok (.iconst 1, 1) := by decide +kernel
theorem dX1_keep_29 : decode cX1_keep 29 = .ok (.aload_n 0, 1) := by decide +kernel
theorem dX1_keep_30 : decode cX1_keep 30 = .ok (.getfield 15, 3) := by decide +kernel
theorem dX1_keep_33 : decode cX1_keep 33 = .ok (.iconst 0, 1) := by decide +kernel
theorem dX1_keep_34 : decode cX1_keep 34 = .ok (.bipush 7, 2) := by decide +kernel
theorem dX1_keep_36 : decode cX1_keep 36 = .ok (.invokestatic 23, 3) := by decide +kernel
theorem dX1_keep_39 : decode cX1_keep 39 = .ok (.aload_n 0, 1) := by decide +kernel
theorem dX1_keep_40 : decode cX1_keep 40 = .ok (.bipush 7, 2) := by decide +kernel
theorem dX1_keep_42 : decode cX1_keep 42 = .ok (.putfield 19, 3) := by decide +kernel
theorem dX1_keep_45 : decode cX1_keep 45 = .ok (.aload_n 0, 1) := by decide +kernel
theorem dX1_keep_46 : decode cX1_keep 46 = .ok (.getfield 11, 3) := by decide +kernel
theorem dX1_keep_49 : decode cX1_keep 49 = .ok (.aload_n 0, 1) := by decide +kernel
theorem dX1_keep_50 : decode cX1_keep 50 = .ok (.getfield 19, 3) := by decide +kernel
theorem dX1_keep_53 : decode cX1_keep 53 = .ok (.iload_n 1, 1) := by decide +kernel
theorem dX1_keep_54 : decode cX1_keep 54 = .ok (.iastore, 1) := by decide +kernel
theorem dX1_keep_55 : decode cX1_keep 55 = .ok (.aload_n 0, 1) := by decide +kernel
theorem dX1_keep_56 : decode cX1_keep 56 = .ok (.getfield 15, 3) := by decide +kernel
theorem dX1_keep_59 : decode cX1_keep 59 = .ok (.aload_n 0, 1) := by decide +kernel
theorem dX1_keep_60 : decode cX1_keep 60 = .ok (.getfield 19, 3) := by decide +kernel
theorem dX1_keep_63 : decode cX1_keep 63 = .ok (.lload_n 2, 1) := by decide +kernel
theorem dX1_keep_64 : decode cX1_keep 64 = .ok (.lastore, 1) := by decide +kernel
theorem dX1_keep_65 : decode cX1_keep 65 = .ok (.aload_n 0, 1) := by decide +kernel
theorem dX1_keep_66 : decode cX1_keep 66 = .ok (.dup, 1) := by decide +kernel
theorem dX1_keep_67 : decode cX1_keep 67 = .ok (.getfield 19, 3) := by decide +kernel
theorem dX1_keep_70 : decode cX1_keep 70 = .ok (.iconst 1, 1) := by decide +kernel
theorem dX1_keep_71 : decode cX1_keep 71 = .ok (.iadd, 1) := by decide +kernel
theorem dX1_keep_72 : decode cX1_keep 72 = .ok (.putfield 19, 3) := by decide +kernel
theorem dX1_keep_75 : decode cX1_keep 75 = .ok (.return_, 1) := by decide +kernel
theorem dX1_drop_0 : decode cX1_drop 0 = .ok (.aload_n 0, 1) := by decide +kernel
theorem dX1_drop_1 : decode cX1_drop 1 = .ok (.getfield 19, 3) := by decide +kernel
theorem dX1_drop_4 : decode cX1_drop 4 = .ok (.ifCond .gt 5, 3) := by decide +kernel
theorem dX1_drop_7 : decode cX1_drop 7 = .ok (.iconst 0, 1) := by decide +kernel
theorem dX1_drop_8 : decode cX1_drop 8 = .ok (.ireturn, 1) := by decide +kernel
theorem dX1_drop_9 : decode cX1_drop 9 = .ok (.aload_n 0, 1) := by decide +kernel
theorem dX1_drop_10 : decode cX1_drop 10 = .ok (.dup, 1) := by decide +kernel
theorem dX1_drop_11 : decode cX1_drop 11 = .ok (.getfield 19, 3) := by decide +kernel
theorem dX1_drop_14 : decode cX1_drop 14 = .ok (.iconst 1, 1) := by decide +kernel
theorem dX1_drop_15 : decode cX1_drop 15 = .ok (.isub, 1) := by decide +kernel
theorem dX1_drop_16 : decode cX1_drop 16 = .ok (.putfield 19, 3) := by decide +kernel
theorem dX1_drop_19 : decode cX1_drop 19 = .ok (.iconst 1, 1) := by decide +kernel
theorem dX1_drop_20 : decode cX1_drop 20 = .ok (.ireturn, 1) := by decide +kernel
theorem dX1_droppedPoints_0 : decode cX1_droppedPoints 0 = .ok (.aload_n 0, 1) := by decide +kernel
theorem dX1_droppedPoints_1 : decode cX1_droppedPoints 1 = .ok (.getfield 19, 3) := by decide +kernel
theorem dX1_droppedPoints_4 : decode cX1_droppedPoints 4 = .ok (.bipush 8, 2) := by decide +kernel
theorem dX1_droppedPoints_6 : decode cX1_droppedPoints 6 = .ok (.if_icmp .ge 15, 3) := by decide +kernel
theorem dX1_droppedPoints_9 : decode cX1_droppedPoints 9 = .ok (.aload_n 0, 1) := by decide +kernel
theorem dX1_droppedPoints_10 : decode cX1_droppedPoints 10 = .ok (.getfield 11, 3) := by decide +kernel
theorem dX1_droppedPoints_13 : decode cX1_droppedPoints 13 = .ok (.aload_n 0, 1) := by decide +kernel
theorem dX1_droppedPoints_14 : decode cX1_droppedPoints 14 = .ok (.getfield 19, 3) := by decide +kernel
theorem dX1_droppedPoints_17 : decode cX1_droppedPoints 17 = .ok (.iaload, 1) := by decide +kernel
theorem dX1_droppedPoints_18 : decode cX1_droppedPoints 18 = .ok (.goto 4, 3) := by decide +kernel
theorem dX1_droppedPoints_21 : decode cX1_droppedPoints 21 = .ok (.iconst 4, 1) := by decide +kernel
theorem dX1_droppedPoints_22 : decode cX1_droppedPoints 22 = .ok (.ireturn, 1) := by decide +kernel
theorem dX1_droppedFamily_0 : decode cX1_droppedFamily 0 = .ok (.aload_n 0, 1) := by decide +kernel
theorem dX1_droppedFamily_1 : decode cX1_droppedFamily 1 = .ok (.getfield 19, 3) := by decide +kernel
theorem dX1_droppedFamily_4 : decode cX1_droppedFamily 4 = .ok (.bipush 8, 2) := by decide +kernel
theorem dX1_droppedFamily_6 : decode cX1_droppedFamily 6 = .ok (.if_icmp .ge 15, 3) := by decide +kernel
theorem dX1_droppedFamily_9 : decode cX1_droppedFamily 9 = .ok (.aload_n 0, 1) := by decide +kernel
theorem dX1_droppedFamily_10 : decode cX1_droppedFamily 10 = .ok (.getfield 15, 3) := by decide +kernel
theorem dX1_droppedFamily_13 : decode cX1_droppedFamily 13 = .ok (.aload_n 0, 1) := by decide +kernel
theorem dX1_droppedFamily_14 : decode cX1_droppedFamily 14 = .ok (.getfield 19, 3) := by decide +kernel
theorem dX1_droppedFamily_17 : decode cX1_droppedFamily 17 = .ok (.laload, 1) := by decide +kernel
theorem dX1_droppedFamily_18 : decode cX1_droppedFamily 18 = .ok (.goto 4, 3) := by decide +kernel
theorem dX1_droppedFamily_21 : decode cX1_droppedFamily 21 = .ok (.lconst 1, 1) := by decide +kernel
theorem dX1_droppedFamily_22 : decode cX1_droppedFamily 22 = .ok (.lreturn, 1) := by decide +kernel
set_option maxRecDepth 20000 in
theorem ggX2_init_X0_init : GoodIn wsX2_init wsX0_init := goodIn_r _ [13, 14, 2, 3, 15, 16, 17, 23, 24, 25, 26, 27] (by decide +kernel) (by decide +kernel)
set_option maxRecDepth 20000 in
theorem gX2_init_X0_init : GoodIn wsX2_init (wsX0_init) := ggX2_init_X0_init
theorem dX2_init_0 : decode cX2_init 0 = .ok (.aload_n 0, 1) := by decide +kernel
theorem dX2_init_1 : decode cX2_init 1 = .ok (.invokespecial 3, 3) := by decide +kernel
theorem dX2_init_4 : decode cX2_init 4 = .ok (.aload_n 0, 1) := by decide +kernel
theorem dX2_init_5 : decode cX2_init 5 = .ok (.sipush 448, 3) := by decide +kernel
theorem dX2_init_8 : decode cX2_init 8 = .ok (.newarray .int, 2) := by decide +kernel
theorem dX2_init_10 : decode cX2_init 10 = .ok (.putfield 11, 3) := by decide +kernel
theorem dX2_init_13 : decode cX2_init 13 = .ok (.aload_n 0, 1) := by decide +kernel
theorem dX2_init_14 : decode cX2_init 14 = .ok (.bipush 8, 2) := by decide +kernel
theorem dX2_init_16 : decode cX2_init 16 = .ok (.newarray .int, 2) := by decide +kernel
theorem dX2_init_18 : decode cX2_init 18 = .ok (.putfield 15, 3) := by decide +kernel
theorem dX2_init_21 : decode cX2_init 21 = .ok (.aload_n 0, 1) := by decide +kernel
theorem dX2_init_22 : decode cX2_init 22 = .ok (.new 18, 3) := by decide +kernel
theorem dX2_init_25 : decode cX2_init 25 = .ok (.dup, 1) := by decide +kernel
theorem dX2_init_26 : decode cX2_init 26 = .ok (.invokespecial 20, 3) := by decide +kernel
theorem dX2_init_29 : decode cX2_init 29 = .ok (.putfield 21, 3) := by decide +kernel
theorem dX2_init_32 : decode cX2_init 32 = .ok (.return_, 1) := by decide +kernel
set_option maxRecDepth 20000 in
theorem ggX2_know_X6_inside : GoodIn wsX2_know wsX6_inside := goodIn_r _ [6, 7, 8, 5, 9] (by decide +kernel) (by decide +kernel)
set_option maxRecDepth 20000 in
theorem gX2_know_X6_inside : GoodIn wsX2_know (va_wsS RX2 33 yX6_inside wsX6_inside) := goodIn_app (goodIn_of _ (by decide +kernel)) ggX2_know_X6_inside
set_option maxRecDepth 20000 in
theorem ggX2_know_X2_countHoles : GoodIn wsX2_know wsX2_countHoles := goodIn_r _ [14, 15, 16, 17, 18, 19, 13, 20, 21, 22, 23, 24, 25, 26, 27, 28, 29, 30, 31, 32, 5, 33, 34, 35, 36, 7, 8, 9, 37, 38, 39, 40, 41, 42, 43, 44, 45, 46, 47, 48, 49, 50, 51, 52, 53, 54, 55, 56, 57, 58, 59, 60, 61, 62, 63, 64, 65, 66, 67, 68, 69, 70] (by decide +kernel) (by decide +kernel)
set_option maxRecDepth 20000 in
theorem gX2_know_X2_countHoles : GoodIn wsX2_know (wsV RX2 39 RX2 yX2_countHoles wsX2_countHoles) := goodIn_app (goodIn_of _ (by decide +kernel)) ggX2_know_X2_countHoles
theorem dX2_know_0 : decode cX2_know 0 = .ok (.iload_n 1, 1) := by decide +kernel
theorem dX2_know_1 : decode cX2_know 1 = .ok (.aload_n 0, 1) := by decide +kernel
theorem dX2_know_2 : decode cX2_know 2 = .ok (.getfield 25, 3) := by decide +kernel
theorem dX2_know_5 : decode cX2_know 5 = .ok (.if_icmp .ne 13, 3) := by decide +kernel
theorem dX2_know_8 : decode cX2_know 8 = .ok (.lload_n 2, 1) := by decide +kernel
theorem dX2_know_9 : decode cX2_know 9 = .ok (.aload_n 0, 1) := by decide +kernel
theorem dX2_know_10 : decode cX2_know 10 = .ok (.getfield 29, 3) := by decide +kernel
theorem dX2_know_13 : decode cX2_know 13 = .ok (.lcmp, 1) := by decide +kernel
theorem dX2_know_14 : decode cX2_know 14 = .ok (.ifCond .ne 4, 3) := by decide +kernel
theorem dX2_know_17 : decode cX2_know 17 = .ok (.return_, 1) := by decide +kernel
theorem dX2_know_18 : decode cX2_know 18 = .ok (.aload_n 0, 1) := by decide +kernel
theorem dX2_know_19 : decode cX2_know 19 = .ok (.iload_n 1, 1) := by decide +kernel
theorem dX2_know_20 : decode cX2_know 20 = .ok (.putfield 25, 3) := by decide +kernel
theorem dX2_know_23 : decode cX2_know 23 = .ok (.aload_n 0, 1) := by decide +kernel
theorem dX2_know_24 : decode cX2_know 24 = .ok (.lload_n 2, 1) := by decide +kernel
theorem dX2_know_25 : decode cX2_know 25 = .ok (.putfield 29, 3) := by decide +kernel
theorem dX2_know_28 : decode cX2_know 28 = .ok (.iconst 0, 1) := by decide +kernel
theorem dX2_know_29 : decode cX2_know 29 = .ok (.istore 4, 2) := by decide +kernel
theorem dX2_know_31 : decode cX2_know 31 = .ok (.iload 4, 2) := by decide +kernel
theorem dX2_know_33 : decode cX2_know 33 = .ok (.bipush 64, 2) := by decide +kernel
theorem dX2_know_35 : decode cX2_know 35 = .ok (.if_icmp .ge 30, 3) := by decide +kernel
theorem dX2_know_38 : decode cX2_know 38 = .ok (.iload 4, 2) := by decide +kernel
theorem dX2_know_40 : decode cX2_know 40 = .ok (.iconst 1, 1) := by decide +kernel
theorem dX2_know_41 : decode cX2_know 41 = .ok (.iload_n 1, 1) := by decide +kernel
theorem dX2_know_42 : decode cX2_know 42 = .ok (.ishl, 1) := by decide +kernel
theorem dX2_know_43 : decode cX2_know 43 = .ok (.if_icmp .ge 22, 3) := by decide +kernel
theorem dX2_know_46 : decode cX2_know 46 = .ok (.aload_n 0, 1) := by decide +kernel
theorem dX2_know_47 : decode cX2_know 47 = .ok (.iload 4, 2) := by decide +kernel
theorem dX2_know_49 : decode cX2_know 49 = .ok (.lload_n 2, 1) := by decide +kernel
theorem dX2_know_50 : decode cX2_know 50 = .ok (.iload 4, 2) := by decide +kernel
theorem dX2_know_52 : decode cX2_know 52 = .ok (.invokestatic 33, 3) := by decide +kernel
theorem dX2_know_55 : decode cX2_know 55 = .ok (.land, 1) := by decide +kernel
theorem dX2_know_56 : decode cX2_know 56 = .ok (.invokevirtual 39, 3) := by decide +kernel
theorem dX2_know_59 : decode cX2_know 59 = .ok (.iinc 4 1, 3) := by decide +kernel
theorem dX2_know_62 : decode cX2_know 62 = .ok (.goto (-31), 3) := by decide +kernel
theorem dX2_know_65 : decode cX2_know 65 = .ok (.return_, 1) := by decide +kernel
theorem dX2_isDimension_0 : decode cX2_isDimension 0 = .ok (.iload_n 0, 1) := by decide +kernel
theorem dX2_isDimension_1 : decode cX2_isDimension 1 = .ok (.iconst (-1), 1) := by decide +kernel
theorem dX2_isDimension_2 : decode cX2_isDimension 2 = .ok (.if_icmp .lt 12, 3) := by decide +kernel
theorem dX2_isDimension_5 : decode cX2_isDimension 5 = .ok (.iload_n 0, 1) := by decide +kernel
theorem dX2_isDimension_6 : decode cX2_isDimension 6 = .ok (.iconst 5, 1) := by decide +kernel
theorem dX2_isDimension_7 : decode cX2_isDimension 7 = .ok (.if_icmp .gt 7, 3) := by decide +kernel
theorem dX2_isDimension_10 : decode cX2_isDimension 10 = .ok (.iconst 1, 1) := by decide +kernel
theorem dX2_isDimension_11 : decode cX2_isDimension 11 = .ok (.goto 4, 3) := by decide +kernel
theorem dX2_isDimension_14 : decode cX2_isDimension 14 = .ok (.iconst 0, 1) := by decide +kernel
theorem dX2_isDimension_15 : decode cX2_isDimension 15 = .ok (.ireturn, 1) := by decide +kernel
set_option maxRecDepth 20000 in
theorem ggX2_holesOf_X2_isDimension : GoodIn wsX2_holesOf wsX2_isDimension := goodIn_r _ [5] (by decide +kernel) (by decide +kernel)
set_option maxRecDepth 20000 in
theorem gX2_holesOf_X2_isDimension : GoodIn wsX2_holesOf (va_wsS RX2 43 yX2_isDimension wsX2_isDimension) := goodIn_app (goodIn_of _ (by decide +kernel)) ggX2_holesOf_X2_isDimension
theorem dX2_holesOf_0 : decode cX2_holesOf 0 = .ok (.iload_n 1, 1) := by decide +kernel
theorem dX2_holesOf_1 : decode cX2_holesOf 1 = .ok (.ifCond .lt 20, 3) := by decide +kernel
theorem dX2_holesOf_4 : decode cX2_holesOf 4 = .ok (.iload_n 1, 1) := by decide +kernel
theorem dX2_holesOf_5 : decode cX2_holesOf 5 = .ok (.bipush 64, 2) := by decide +kernel
theorem dX2_holesOf_7 : decode cX2_holesOf 7 = .ok (.if_icmp .ge 14, 3) := by decide +kernel
theorem dX2_holesOf_10 : decode cX2_holesOf 10 = .ok (.iload_n 2, 1) := by decide +kernel
theorem dX2_holesOf_11 : decode cX2_holesOf 11 = .ok (.invokestatic 43, 3) := by decide +kernel
theorem dX2_holesOf_14 : decode cX2_holesOf 14 = .ok (.ifCond .eq 7, 3) := by decide +kernel
theorem dX2_holesOf_17 : decode cX2_holesOf 17 = .ok (.iconst 1, 1) := by decide +kernel
theorem dX2_holesOf_18 : decode cX2_holesOf 18 = .ok (.goto 4, 3) := by decide +kernel
theorem dX2_holesOf_21 : decode cX2_holesOf 21 = .ok (.iconst 0, 1) := by decide +kernel
theorem dX2_holesOf_22 : decode cX2_holesOf 22 = .ok (.istore_n 3, 1) := by decide +kernel
theorem dX2_holesOf_23 : decode cX2_holesOf 23 = .ok (.iload_n 3, 1) := by decide +kernel
theorem dX2_holesOf_24 : decode cX2_holesOf 24 = .ok (.ifCond .eq 19, 3) := by decide +kernel
theorem dX2_holesOf_27 : decode cX2_holesOf 27 = .ok (.aload_n 0, 1) := by decide +kernel
theorem dX2_holesOf_28 : decode cX2_holesOf 28 = .ok (.getfield 11, 3) := by decide +kernel
theorem dX2_holesOf_31 : decode cX2_holesOf 31 = .ok (.iload_n 1, 1) := by decide +kernel
theorem dX2_holesOf_32 : decode cX2_holesOf 32 = .ok (.bipush 7, 2) := by decide +kernel
theorem dX2_holesOf_34 : decode cX2_holesOf 34 = .ok (.imul, 1) := by decide +kernel
theorem dX2_holesOf_35 : decode cX2_holesOf 35 = .ok (.iload_n 2, 1) := by decide +kernel
theorem dX2_holesOf_36 : decode cX2_holesOf 36 = .ok (.iadd, 1) := by decide +kernel
theorem dX2_holesOf_37 : decode cX2_holesOf 37 = .ok (.iconst 1, 1) := by decide +kernel
theorem dX2_holesOf_38 : decode cX2_holesOf 38 = .ok (.iadd, 1) := by decide +kernel
theorem dX2_holesOf_39 : decode cX2_holesOf 39 = .ok (.iaload, 1) := by decide +kernel
theorem dX2_holesOf_40 : decode cX2_holesOf 40 = .ok (.goto 4, 3) := by decide +kernel
theorem dX2_holesOf_43 : decode cX2_holesOf 43 = .ok (.iconst 0, 1) := by decide +kernel
theorem dX2_holesOf_44 : decode cX2_holesOf 44 = .ok (.ireturn, 1) := by decide +kernel
set_option maxRecDepth 20000 in
theorem ggX2_countHoles_X2_countBorders : GoodIn wsX2_countHoles wsX2_countBorders := goodIn_r _ [7, 2, 8, 9, 10, 11, 12, 13, 14, 15, 16, 17, 18, 19, 20, 21, 22, 23, 24, 25, 26, 27, 28, 29, 30, 31, 32, 33, 34, 35, 36, 37, 38, 39, 40, 52, 53, 54, 55, 56, 57, 58, 59, 60, 61] (by decide +kernel) (by decide +kernel)
set_option maxRecDepth 20000 in
theorem gX2_countHoles_X2_countBorders : GoodIn wsX2_countHoles (wsV RX2 47 RX2 yX2_countBorders wsX2_countBorders) := goodIn_app (goodIn_of _ (by decide +kernel)) ggX2_countHoles_X2_countBorders
set_option maxRecDepth 20000 in
theorem ggX2_countHoles_X6_ofSize : GoodIn wsX2_countHoles wsX6_ofSize := goodIn_r _ [43, 44] (by decide +kernel) (by decide +kernel)
set_option maxRecDepth 20000 in
theorem gX2_countHoles_X6_ofSize : GoodIn wsX2_countHoles (va_wsS RX2 50 yX6_ofSize wsX6_ofSize) := goodIn_app (goodIn_of _ (by decide +kernel)) ggX2_countHoles_X6_ofSize
set_option maxRecDepth 20000 in
theorem ggX2_countHoles_J13_bitCount_95d88 : GoodIn wsX2_countHoles wsJ13_bitCount_95d88 := goodIn_r _ [48, 49, 50, 51] (by decide +kernel) (by decide +kernel)
set_option maxRecDepth 20000 in
theorem gX2_countHoles_J13_bitCount_95d88 : GoodIn wsX2_countHoles (va_wsS RX2 53 yJ13_bitCount_95d88 wsJ13_bitCount_95d88) := goodIn_app (goodIn_of _ (by decide +kernel)) ggX2_countHoles_J13_bitCount_95d88
theorem dX2_countHoles_0 : decode cX2_countHoles 0 = .ok (.aload_n 0, 1) := by decide +kernel
theorem dX2_countHoles_1 : decode cX2_countHoles 1 = .ok (.iload_n 1, 1) := by decide +kernel
theorem dX2_countHoles_2 : decode cX2_countHoles 2 = .ok (.lload_n 2, 1) := by decide +kernel
theorem dX2_countHoles_3 : decode cX2_countHoles 3 = .ok (.invokevirtual 47, 3) := by decide +kernel
theorem dX2_countHoles_6 : decode cX2_countHoles 6 = .ok (.iconst 0, 1) := by decide +kernel
theorem dX2_countHoles_7 : decode cX2_countHoles 7 = .ok (.istore 4, 2) := by decide +kernel
theorem dX2_countHoles_9 : decode cX2_countHoles 9 = .ok (.iload 4, 2) := by decide +kernel
theorem dX2_countHoles_11 : decode cX2_countHoles 11 = .ok (.bipush 7, 2) := by decide +kernel
theorem dX2_countHoles_13 : decode cX2_countHoles 13 = .ok (.if_icmp .ge 53, 3) := by decide +kernel
theorem dX2_countHoles_16 : decode cX2_countHoles 16 = .ok (.lload_n 2, 1) := by decide +kernel
theorem dX2_countHoles_17 : decode cX2_countHoles 17 = .ok (.iload 4, 2) := by decide +kernel
theorem dX2_countHoles_19 : decode cX2_countHoles 19 = .ok (.invokestatic 50, 3) := by decide +kernel
theorem dX2_countHoles_22 : decode cX2_countHoles 22 = .ok (.land, 1) := by decide +kernel
theorem dX2_countHoles_23 : decode cX2_countHoles 23 = .ok (.invokestatic 53, 3) := by decide +kernel
theorem dX2_countHoles_26 : decode cX2_countHoles 26 = .ok (.istore 5, 2) := by decide +kernel
theorem dX2_countHoles_28 : decode cX2_countHoles 28 = .ok (.aload_n 0, 1) := by decide +kernel
theorem dX2_countHoles_29 : decode cX2_countHoles 29 = .ok (.getfield 11, 3) := by decide +kernel
theorem dX2_countHoles_32 : decode cX2_countHoles 32 = .ok (.iload_n 1, 1) := by decide +kernel
theorem dX2_countHoles_33 : decode cX2_countHoles 33 = .ok (.bipush 7, 2) := by decide +kernel
theorem dX2_countHoles_35 : decode cX2_countHoles 35 = .ok (.imul, 1) := by decide +kernel
theorem dX2_countHoles_36 : decode cX2_countHoles 36 = .ok (.iload 4, 2) := by decide +kernel
theorem dX2_countHoles_38 : decode cX2_countHoles 38 = .ok (.iadd, 1) := by decide +kernel
theorem dX2_countHoles_39 : decode cX2_countHoles 39 = .ok (.iload 5, 2) := by decide +kernel
theorem dX2_countHoles_41 : decode cX2_countHoles 41 = .ok (.aload_n 0, 1) := by decide +kernel
theorem dX2_countHoles_42 : decode cX2_countHoles 42 = .ok (.getfield 15, 3) := by decide +kernel
theorem dX2_countHoles_45 : decode cX2_countHoles 45 = .ok (.iload 4, 2) := by decide +kernel
theorem dX2_countHoles_47 : decode cX2_countHoles 47 = .ok (.iaload, 1) := by decide +kernel
theorem dX2_countHoles_48 : decode cX2_countHoles 48 = .ok (.isub, 1) := by decide +kernel
theorem dX2_countHoles_49 : decode cX2_countHoles 49 = .ok (.aload_n 0, 1) := by decide +kernel
theorem dX2_countHoles_50 : decode cX2_countHoles 50 = .ok (.getfield 15, 3) := by decide +kernel
theorem dX2_countHoles_53 : decode cX2_countHoles 53 = .ok (.iload 4, 2) := by decide +kernel
theorem dX2_countHoles_55 : decode cX2_countHoles 55 = .ok (.iconst 1, 1) := by decide +kernel
theorem dX2_countHoles_56 : decode cX2_countHoles 56 = .ok (.iadd, 1) := by decide +kernel
theorem dX2_countHoles_57 : decode cX2_countHoles 57 = .ok (.iaload, 1) := by decide +kernel
theorem dX2_countHoles_58 : decode cX2_countHoles 58 = .ok (.isub, 1) := by decide +kernel
theorem dX2_countHoles_59 : decode cX2_countHoles 59 = .ok (.iastore, 1) := by decide +kernel
theorem dX2_countHoles_60 : decode cX2_countHoles 60 = .ok (.iinc 4 1, 3) := by decide +kernel
theorem dX2_countHoles_63 : decode cX2_countHoles 63 = .ok (.goto (-54), 3) := by decide +kernel
theorem dX2_countHoles_66 : decode cX2_countHoles 66 = .ok (.return_, 1) := by decide +kernel
set_option maxRecDepth 20000 in
theorem ggX2_countBorders_X0_clear : GoodIn wsX2_countBorders wsX0_clear := goodIn_r _ [8, 9, 10, 11, 40, 41, 42, 43, 44] (by decide +kernel) (by decide +kernel)
set_option maxRecDepth 20000 in
theorem gX2_countBorders_X0_clear : GoodIn wsX2_countBorders (wsV RX2 61 RX0 yX0_clear wsX0_clear) := goodIn_app (goodIn_of _ (by decide +kernel)) ggX2_countBorders_X0_clear
set_option maxRecDepth 20000 in
theorem ggX2_countBorders_X6_holds : GoodIn wsX2_countBorders wsX6_holds := goodIn_r _ [15] (by decide +kernel) (by decide +kernel)
set_option maxRecDepth 20000 in
theorem gX2_countBorders_X6_holds : GoodIn wsX2_countBorders (va_wsS RX2 65 yX6_holds wsX6_holds) := goodIn_app (goodIn_of _ (by decide +kernel)) ggX2_countBorders_X6_holds
set_option maxRecDepth 20000 in
theorem ggX2_countBorders_X6_below : GoodIn wsX2_countBorders wsX6_below := goodIn_r _ [18, 19, 20, 14, 21] (by decide +kernel) (by decide +kernel)
set_option maxRecDepth 20000 in
theorem gX2_countBorders_X6_below : GoodIn wsX2_countBorders (va_wsS RX2 69 yX6_below wsX6_below) := goodIn_app (goodIn_of _ (by decide +kernel)) ggX2_countBorders_X6_below
set_option maxRecDepth 20000 in
theorem ggX2_countBorders_X0_add : GoodIn wsX2_countBorders wsX0_add := goodIn_r _ [25, 10, 11, 26, 27, 9, 40, 41, 42, 43, 44] (by decide +kernel) (by decide +kernel)
set_option maxRecDepth 20000 in
theorem gX2_countBorders_X0_add : GoodIn wsX2_countBorders (wsV RX2 72 RX0 yX0_add wsX0_add) := goodIn_app (goodIn_of _ (by decide +kernel)) ggX2_countBorders_X0_add
set_option maxRecDepth 20000 in
theorem ggX2_countBorders_J6_bitCount_0f7a4 : GoodIn wsX2_countBorders wsJ6_bitCount_0f7a4 := goodIn_r _ [31, 32, 33, 34] (by decide +kernel) (by decide +kernel)
set_option maxRecDepth 20000 in
theorem gX2_countBorders_J6_bitCount_0f7a4 : GoodIn wsX2_countBorders (va_wsS RX2 76 yJ6_bitCount_0f7a4 wsJ6_bitCount_0f7a4) := goodIn_app (goodIn_of _ (by decide +kernel)) ggX2_countBorders_J6_bitCount_0f7a4
theorem dX2_countBorders_0 : decode cX2_countBorders 0 = .ok (.iconst 0, 1) := by decide +kernel
theorem dX2_countBorders_1 : decode cX2_countBorders 1 = .ok (.istore 4, 2) := by decide +kernel
theorem dX2_countBorders_3 : decode cX2_countBorders 3 = .ok (.iload 4, 2) := by decide +kernel
theorem dX2_countBorders_5 : decode cX2_countBorders 5 = .ok (.bipush 7, 2) := by decide +kernel
theorem dX2_countBorders_7 : decode cX2_countBorders 7 = .ok (.if_icmp .gt 17, 3) := by decide +kernel
theorem dX2_countBorders_10 : decode cX2_countBorders 10 = .ok (.aload_n 0, 1) := by decide +kernel
theorem dX2_countBorders_11 : decode cX2_countBorders 11 = .ok (.getfield 15, 3) := by decide +kernel
theorem dX2_countBorders_14 : decode cX2_countBorders 14 = .ok (.iload 4, 2) := by decide +kernel
theorem dX2_countBorders_16 : decode cX2_countBorders 16 = .ok (.iconst 0, 1) := by decide +kernel
theorem dX2_countBorders_17 : decode cX2_countBorders 17 = .ok (.iastore, 1) := by decide +kernel
theorem dX2_countBorders_18 : decode cX2_countBorders 18 = .ok (.iinc 4 1, 3) := by decide +kernel
theorem dX2_countBorders_21 : decode cX2_countBorders 21 = .ok (.goto (-18), 3) := by decide +kernel
theorem dX2_countBorders_24 : decode cX2_countBorders 24 = .ok (.aload_n 0, 1) := by decide +kernel
theorem dX2_countBorders_25 : decode cX2_countBorders 25 = .ok (.getfield 21, 3) := by decide +kernel
theorem dX2_countBorders_28 : decode cX2_countBorders 28 = .ok (.ldc2_w 59, 3) := by decide +kernel
theorem dX2_countBorders_31 : decode cX2_countBorders 31 = .ok (.invokevirtual 61, 3) := by decide +kernel
theorem dX2_countBorders_34 : decode cX2_countBorders 34 = .ok (.iconst 1, 1) := by decide +kernel
theorem dX2_countBorders_35 : decode cX2_countBorders 35 = .ok (.istore 4, 2) := by decide +kernel
theorem dX2_countBorders_37 : decode cX2_countBorders 37 = .ok (.iload 4, 2) := by decide +kernel
theorem dX2_countBorders_39 : decode cX2_countBorders 39 = .ok (.iload_n 1, 1) := by decide +kernel
theorem dX2_countBorders_40 : decode cX2_countBorders 40 = .ok (.if_icmp .gt 54, 3) := by decide +kernel
theorem dX2_countBorders_43 : decode cX2_countBorders 43 = .ok (.iload 4, 2) := by decide +kernel
theorem dX2_countBorders_45 : decode cX2_countBorders 45 = .ok (.bipush 64, 2) := by decide +kernel
theorem dX2_countBorders_47 : decode cX2_countBorders 47 = .ok (.if_icmp .ge 47, 3) := by decide +kernel
theorem dX2_countBorders_50 : decode cX2_countBorders 50 = .ok (.lload_n 2, 1) := by decide +kernel
theorem dX2_countBorders_51 : decode cX2_countBorders 51 = .ok (.iload 4, 2) := by decide +kernel
theorem dX2_countBorders_53 : decode cX2_countBorders 53 = .ok (.invokestatic 65, 3) := by decide +kernel
theorem dX2_countBorders_56 : decode cX2_countBorders 56 = .ok (.ifCond .eq 32, 3) := by decide +kernel
theorem dX2_countBorders_59 : decode cX2_countBorders 59 = .ok (.aload_n 0, 1) := by decide +kernel
theorem dX2_countBorders_60 : decode cX2_countBorders 60 = .ok (.getfield 21, 3) := by decide +kernel
theorem dX2_countBorders_63 : decode cX2_countBorders 63 = .ok (.iload 4, 2) := by decide +kernel
theorem dX2_countBorders_65 : decode cX2_countBorders 65 = .ok (.invokestatic 69, 3) := by decide +kernel
theorem dX2_countBorders_68 : decode cX2_countBorders 68 = .ok (.invokevirtual 72, 3) := by decide +kernel
theorem dX2_countBorders_71 : decode cX2_countBorders 71 = .ok (.ifCond .eq 17, 3) := by decide +kernel
theorem dX2_countBorders_74 : decode cX2_countBorders 74 = .ok (.aload_n 0, 1) := by decide +kernel
theorem dX2_countBorders_75 : decode cX2_countBorders 75 = .ok (.getfield 15, 3) := by decide +kernel
theorem dX2_countBorders_78 : decode cX2_countBorders 78 = .ok (.iload 4, 2) := by decide +kernel
theorem dX2_countBorders_80 : decode cX2_countBorders 80 = .ok (.invokestatic 76, 3) := by decide +kernel
theorem dX2_countBorders_83 : decode cX2_countBorders 83 = .ok (.dup2, 1) := by decide +kernel
theorem dX2_countBorders_84 : decode cX2_countBorders 84 = .ok (.iaload, 1) := by decide +kernel
theorem dX2_countBorders_85 : decode cX2_countBorders 85 = .ok (.iconst 1, 1) := by decide +kernel
theorem dX2_countBorders_86 : decode cX2_countBorders 86 = .ok (.iadd, 1) := by decide +kernel
theorem dX2_countBorders_87 : decode cX2_countBorders 87 = .ok (.iastore, 1) := by decide +kernel
theorem dX2_countBorders_88 : decode cX2_countBorders 88 = .ok (.iinc 4 1, 3) := by decide +kernel
theorem dX2_countBorders_91 : decode cX2_countBorders 91 = .ok (.goto (-54), 3) := by decide +kernel
theorem dX2_countBorders_94 : decode cX2_countBorders 94 = .ok (.return_, 1) := by decide +kernel
set_option maxRecDepth 20000 in
theorem ggX3_init_X0_init : GoodIn wsX3_init wsX0_init := goodIn_r _ [16, 17, 2, 3, 9, 18, 19, 28, 29, 30, 31, 32] (by decide +kernel) (by decide +kernel)
set_option maxRecDepth 20000 in
theorem gX3_init_X0_init : GoodIn wsX3_init (wsX0_init) := ggX3_init_X0_init
theorem dX3_init_0 : decode cX3_init 0 = .ok (.aload_n 0, 1) := by decide +kernel
theorem dX3_init_1 : decode cX3_init 1 = .ok (.invokespecial 3, 3) := by decide +kernel
theorem dX3_init_4 : decode cX3_init 4 = .ok (.aload_n 0, 1) := by decide +kernel
theorem dX3_init_5 : decode cX3_init 5 = .ok (.aload_n 1, 1) := by decide +kernel
theorem dX3_init_6 : decode cX3_init 6 = .ok (.putfield 9, 3) := by decide +kernel
theorem dX3_init_9 : decode cX3_init 9 = .ok (.aload_n 0, 1) := by decide +kernel
theorem dX3_init_10 : decode cX3_init 10 = .ok (.new 15, 3) := by decide +kernel
theorem dX3_init_13 : decode cX3_init 13 = .ok (.dup, 1) := by decide +kernel
theorem dX3_init_14 : decode cX3_init 14 = .ok (.invokespecial 17, 3) := by decide +kernel
theorem dX3_init_17 : decode cX3_init 17 = .ok (.putfield 18, 3) := by decide +kernel
theorem dX3_init_20 : decode cX3_init 20 = .ok (.aload_n 0, 1) := by decide +kernel
theorem dX3_init_21 : decode cX3_init 21 = .ok (.bipush 64, 2) := by decide +kernel
theorem dX3_init_23 : decode cX3_init 23 = .ok (.newarray .long, 2) := by decide +kernel
theorem dX3_init_25 : decode cX3_init 25 = .ok (.putfield 22, 3) := by decide +kernel
theorem dX3_init_28 : decode cX3_init 28 = .ok (.aload_n 0, 1) := by decide +kernel
theorem dX3_init_29 : decode cX3_init 29 = .ok (.bipush 64, 2) := by decide +kernel
theorem dX3_init_31 : decode cX3_init 31 = .ok (.newarray .long, 2) := by decide +kernel
theorem dX3_init_33 : decode cX3_init 33 = .ok (.putfield 26, 3) := by decide +kernel
theorem dX3_init_36 : decode cX3_init 36 = .ok (.aload_n 0, 1) := by decide +kernel
theorem dX3_init_37 : decode cX3_init 37 = .ok (.iconst 5, 1) := by decide +kernel
theorem dX3_init_38 : decode cX3_init 38 = .ok (.newarray .int, 2) := by decide +kernel
theorem dX3_init_40 : decode cX3_init 40 = .ok (.putfield 29, 3) := by decide +kernel
theorem dX3_init_43 : decode cX3_init 43 = .ok (.return_, 1) := by decide +kernel
set_option maxRecDepth 20000 in
theorem ggX3_know_X2_know : GoodIn wsX3_know wsX2_know := goodIn_r _ [9, 10, 11, 12, 13, 14, 15, 16, 17, 18, 19, 20, 21, 8, 22, 23, 24, 25, 26, 27, 28, 29, 30, 31, 32, 33, 34, 35, 36, 37, 38, 39, 40, 41, 42, 43, 44, 45, 46, 47, 48, 49, 50, 51, 52, 53, 54, 55, 56, 57, 58, 59, 60, 61, 62, 63, 64, 65, 66, 67, 68, 125, 126, 127, 128, 129, 130, 131, 132, 133, 134] (by decide +kernel) (by decide +kernel)
set_option maxRecDepth 20000 in
theorem gX3_know_X2_know : GoodIn wsX3_know (wsV RX3 41 RX2 yX2_know wsX2_know) := goodIn_app (goodIn_of _ (by decide +kernel)) ggX3_know_X2_know
set_option maxRecDepth 20000 in
theorem ggX3_know_X3_seek : GoodIn wsX3_know wsX3_seek := goodIn_r _ [73, 74, 75, 76, 72, 77, 3, 78, 79, 80, 81, 8, 82, 23, 83, 84, 85, 86, 87, 88, 89, 90, 91, 92, 93, 13, 14, 15, 16, 17, 18, 94, 95, 96, 97, 98, 59, 60, 61, 99, 32, 33, 34, 35, 36, 37, 38, 100, 101, 102, 103, 40, 41, 104, 46, 47, 48, 49, 50, 105, 106, 107, 108, 109, 110, 111, 112, 113, 114, 115, 116, 117, 118, 119, 120, 121, 122, 123, 124, 125, 126, 127, 128, 129, 130, 131, 132, 133, 134] (by decide +kernel) (by decide +kernel)
set_option maxRecDepth 20000 in
theorem gX3_know_X3_seek : GoodIn wsX3_know (wsV RX3 47 RX3 yX3_seek wsX3_seek) := goodIn_app (goodIn_of _ (by decide +kernel)) ggX3_know_X3_seek
theorem dX3_know_0 : decode cX3_know 0 = .ok (.iload_n 1, 1) := by decide +kernel
theorem dX3_know_1 : decode cX3_know 1 = .ok (.aload_n 0, 1) := by decide +kernel
theorem dX3_know_2 : decode cX3_know 2 = .ok (.getfield 33, 3) := by decide +kernel
theorem dX3_know_5 : decode cX3_know 5 = .ok (.if_icmp .ne 13, 3) := by decide +kernel
theorem dX3_know_8 : decode cX3_know 8 = .ok (.lload_n 2, 1) := by decide +kernel
theorem dX3_know_9 : decode cX3_know 9 = .ok (.aload_n 0, 1) := by decide +kernel
theorem dX3_know_10 : decode cX3_know 10 = .ok (.getfield 37, 3) := by decide +kernel
theorem dX3_know_13 : decode cX3_know 13 = .ok (.lcmp, 1) := by decide +kernel
theorem dX3_know_14 : decode cX3_know 14 = .ok (.ifCond .ne 4, 3) := by decide +kernel
theorem dX3_know_17 : decode cX3_know 17 = .ok (.return_, 1) := by decide +kernel
theorem dX3_know_18 : decode cX3_know 18 = .ok (.aload_n 0, 1) := by decide +kernel
theorem dX3_know_19 : decode cX3_know 19 = .ok (.iload_n 1, 1) := by decide +kernel
theorem dX3_know_20 : decode cX3_know 20 = .ok (.putfield 33, 3) := by decide +kernel
theorem dX3_know_23 : decode cX3_know 23 = .ok (.aload_n 0, 1) := by decide +kernel
theorem dX3_know_24 : decode cX3_know 24 = .ok (.lload_n 2, 1) := by decide +kernel
theorem dX3_know_25 : decode cX3_know 25 = .ok (.putfield 37, 3) := by decide +kernel
theorem dX3_know_28 : decode cX3_know 28 = .ok (.aload_n 0, 1) := by decide +kernel
theorem dX3_know_29 : decode cX3_know 29 = .ok (.getfield 9, 3) := by decide +kernel
theorem dX3_know_32 : decode cX3_know 32 = .ok (.iload_n 1, 1) := by decide +kernel
theorem dX3_know_33 : decode cX3_know 33 = .ok (.lload_n 2, 1) := by decide +kernel
theorem dX3_know_34 : decode cX3_know 34 = .ok (.invokevirtual 41, 3) := by decide +kernel
theorem dX3_know_37 : decode cX3_know 37 = .ok (.aload_n 0, 1) := by decide +kernel
theorem dX3_know_38 : decode cX3_know 38 = .ok (.aload_n 0, 1) := by decide +kernel
theorem dX3_know_39 : decode cX3_know 39 = .ok (.iload_n 1, 1) := by decide +kernel
theorem dX3_know_40 : decode cX3_know 40 = .ok (.lload_n 2, 1) := by decide +kernel
theorem dX3_know_41 : decode cX3_know 41 = .ok (.invokevirtual 47, 3) := by decide +kernel
theorem dX3_know_44 : decode cX3_know 44 = .ok (.ifCond .ne 7, 3) := by decide +kernel
theorem dX3_know_47 : decode cX3_know 47 = .ok (.iconst 1, 1) := by decide +kernel
theorem dX3_know_48 : decode cX3_know 48 = .ok (.goto 4, 3) := by decide +kernel
theorem dX3_know_51 : decode cX3_know 51 = .ok (.iconst 0, 1) := by decide +kernel
theorem dX3_know_52 : decode cX3_know 52 = .ok (.putfield 51, 3) := by decide +kernel
theorem dX3_know_55 : decode cX3_know 55 = .ok (.return_, 1) := by decide +kernel
theorem dX3_arePlain_0 : decode cX3_arePlain 0 = .ok (.aload_n 0, 1) := by decide +kernel
theorem dX3_arePlain_1 : decode cX3_arePlain 1 = .ok (.getfield 51, 3) := by decide +kernel
theorem dX3_arePlain_4 : decode cX3_arePlain 4 = .ok (.ireturn, 1) := by decide +kernel
theorem dX3_told_0 : decode cX3_told 0 = .ok (.aload_n 0, 1) := by decide +kernel
theorem dX3_told_1 : decode cX3_told 1 = .ok (.getfield 51, 3) := by decide +kernel
theorem dX3_told_4 : decode cX3_told 4 = .ok (.ifCond .ne 12, 3) := by decide +kernel
theorem dX3_told_7 : decode cX3_told 7 = .ok (.iload_n 1, 1) := by decide +kernel
theorem dX3_told_8 : decode cX3_told 8 = .ok (.ifCond .lt 8, 3) := by decide +kernel
theorem dX3_told_11 : decode cX3_told 11 = .ok (.iload_n 1, 1) := by decide +kernel
theorem dX3_told_12 : decode cX3_told 12 = .ok (.iconst 5, 1) := by decide +kernel
theorem dX3_told_13 : decode cX3_told 13 = .ok (.if_icmp .lt 7, 3) := by decide +kernel
theorem dX3_told_16 : decode cX3_told 16 = .ok (.iconst (-1), 1) := by decide +kernel
theorem dX3_told_17 : decode cX3_told 17 = .ok (.goto 9, 3) := by decide +kernel
theorem dX3_told_20 : decode cX3_told 20 = .ok (.aload_n 0, 1) := by decide +kernel
theorem dX3_told_21 : decode cX3_told 21 = .ok (.getfield 29, 3) := by decide +kernel
theorem dX3_told_24 : decode cX3_told 24 = .ok (.iload_n 1, 1) := by decide +kernel
theorem dX3_told_25 : decode cX3_told 25 = .ok (.iaload, 1) := by decide +kernel
theorem dX3_told_26 : decode cX3_told 26 = .ok (.ireturn, 1) := by decide +kernel
set_option maxRecDepth 20000 in
theorem ggX3_seek_X3_seekIn : GoodIn wsX3_seek wsX3_seekIn := goodIn_r _ [5, 6, 7, 8, 9, 10, 11, 12, 13, 14, 15, 16, 17, 18, 19, 4, 20, 21, 22, 23, 24, 25, 26, 27, 28, 29, 30, 31, 32, 33, 34, 35, 36, 37, 38, 39, 40, 41, 42, 43, 44, 45, 46, 47, 48, 49, 50, 51, 52, 53, 54, 55, 56, 57, 58, 59, 60, 61, 62, 63, 64, 65, 66, 67, 68, 69, 70, 71, 72, 73, 74, 75, 76, 77, 78, 79, 80, 81, 82, 83, 84, 85, 86, 87, 88] (by decide +kernel) (by decide +kernel)
set_option maxRecDepth 20000 in
theorem gX3_seek_X3_seekIn : GoodIn wsX3_seek (wsV RX3 55 RX3 yX3_seekIn wsX3_seekIn) := goodIn_app (goodIn_of _ (by decide +kernel)) ggX3_seek_X3_seekIn
theorem dX3_seek_0 : decode cX3_seek 0 = .ok (.iconst 1, 1) := by decide +kernel
theorem dX3_seek_1 : decode cX3_seek 1 = .ok (.iload_n 1, 1) := by decide +kernel
theorem dX3_seek_2 : decode cX3_seek 2 = .ok (.ishl, 1) := by decide +kernel
theorem dX3_seek_3 : decode cX3_seek 3 = .ok (.istore 4, 2) := by decide +kernel
theorem dX3_seek_5 : decode cX3_seek 5 = .ok (.iconst 1, 1) := by decide +kernel
theorem dX3_seek_6 : decode cX3_seek 6 = .ok (.istore 5, 2) := by decide +kernel
theorem dX3_seek_8 : decode cX3_seek 8 = .ok (.iload 5, 2) := by decide +kernel
theorem dX3_seek_10 : decode cX3_seek 10 = .ok (.iload 4, 2) := by decide +kernel
theorem dX3_seek_12 : decode cX3_seek 12 = .ok (.if_icmp .ge 50, 3) := by decide +kernel
theorem dX3_seek_15 : decode cX3_seek 15 = .ok (.iload 5, 2) := by decide +kernel
theorem dX3_seek_17 : decode cX3_seek 17 = .ok (.iconst 1, 1) := by decide +kernel
theorem dX3_seek_18 : decode cX3_seek 18 = .ok (.iadd, 1) := by decide +kernel
theorem dX3_seek_19 : decode cX3_seek 19 = .ok (.istore 6, 2) := by decide +kernel
theorem dX3_seek_21 : decode cX3_seek 21 = .ok (.iload 6, 2) := by decide +kernel
theorem dX3_seek_23 : decode cX3_seek 23 = .ok (.iload 4, 2) := by decide +kernel
theorem dX3_seek_25 : decode cX3_seek 25 = .ok (.if_icmp .ge 31, 3) := by decide +kernel
theorem dX3_seek_28 : decode cX3_seek 28 = .ok (.iload 5, 2) := by decide +kernel
theorem dX3_seek_30 : decode cX3_seek 30 = .ok (.iload 6, 2) := by decide +kernel
theorem dX3_seek_32 : decode cX3_seek 32 = .ok (.iand, 1) := by decide +kernel
theorem dX3_seek_33 : decode cX3_seek 33 = .ok (.ifCond .ne 17, 3) := by decide +kernel
theorem dX3_seek_36 : decode cX3_seek 36 = .ok (.aload_n 0, 1) := by decide +kernel
theorem dX3_seek_37 : decode cX3_seek 37 = .ok (.lload_n 2, 1) := by decide +kernel
theorem dX3_seek_38 : decode cX3_seek 38 = .ok (.iload 5, 2) := by decide +kernel
theorem dX3_seek_40 : decode cX3_seek 40 = .ok (.iload 6, 2) := by decide +kernel
theorem dX3_seek_42 : decode cX3_seek 42 = .ok (.invokevirtual 55, 3) := by decide +kernel
theorem dX3_seek_45 : decode cX3_seek 45 = .ok (.ifCond .eq 5, 3) := by decide +kernel
theorem dX3_seek_48 : decode cX3_seek 48 = .ok (.iconst 1, 1) := by decide +kernel
theorem dX3_seek_49 : decode cX3_seek 49 = .ok (.ireturn, 1) := by decide +kernel
theorem dX3_seek_50 : decode cX3_seek 50 = .ok (.iinc 6 1, 3) := by decide +kernel
theorem dX3_seek_53 : decode cX3_seek 53 = .ok (.goto (-32), 3) := by decide +kernel
theorem dX3_seek_56 : decode cX3_seek 56 = .ok (.iinc 5 1, 3) := by decide +kernel
theorem dX3_seek_59 : decode cX3_seek 59 = .ok (.goto (-51), 3) := by decide +kernel
theorem dX3_seek_62 : decode cX3_seek 62 = .ok (.iconst 0, 1) := by decide +kernel
theorem dX3_seek_63 : decode cX3_seek 63 = .ok (.ireturn, 1) := by decide +kernel
set_option maxRecDepth 20000 in
theorem ggX3_seekIn_X2_holesOf : GoodIn wsX3_seekIn wsX2_holesOf := goodIn_r _ [7, 8, 9, 10, 6, 11, 75, 76, 77, 78, 79] (by decide +kernel) (by decide +kernel)
set_option maxRecDepth 20000 in
theorem gX3_seekIn_X2_holesOf : GoodIn wsX3_seekIn (wsV RX3 59 RX2 yX2_holesOf wsX2_holesOf) := goodIn_app (goodIn_of _ (by decide +kernel)) ggX3_seekIn_X2_holesOf
set_option maxRecDepth 20000 in
theorem ggX3_seekIn_X3_measure : GoodIn wsX3_seekIn wsX3_measure := goodIn_r _ [16, 1, 17, 18, 19, 3, 4, 5, 6, 7, 8, 9, 10, 11, 20, 21, 22, 23, 24, 25, 26, 27, 28, 29, 15, 30, 31, 32, 33, 34, 35, 36, 37, 38, 39, 40, 41, 42, 43, 44, 45, 46, 47, 48, 49, 50, 51, 52, 53, 54, 55, 56, 57, 58, 59, 60, 61, 62, 63, 64, 65, 66, 67, 68, 69, 70, 71, 72, 73, 74, 75, 76, 77, 78, 79, 80, 81, 82, 83, 84] (by decide +kernel) (by decide +kernel)
set_option maxRecDepth 20000 in
theorem gX3_seekIn_X3_measure : GoodIn wsX3_seekIn (wsV RX3 63 RX3 yX3_measure wsX3_measure) := goodIn_app (goodIn_of _ (by decide +kernel)) ggX3_seekIn_X3_measure
theorem dX3_seekIn_0 : decode cX3_seekIn 0 = .ok (.iconst 0, 1) := by decide +kernel
theorem dX3_seekIn_1 : decode cX3_seekIn 1 = .ok (.istore 5, 2) := by decide +kernel
theorem dX3_seekIn_3 : decode cX3_seekIn 3 = .ok (.iload 5, 2) := by decide +kernel
theorem dX3_seekIn_5 : decode cX3_seekIn 5 = .ok (.iconst 5, 1) := by decide +kernel
theorem dX3_seekIn_6 : decode cX3_seekIn 6 = .ok (.if_icmp .gt 97, 3) := by decide +kernel
theorem dX3_seekIn_9 : decode cX3_seekIn 9 = .ok (.iconst 0, 1) := by decide +kernel
theorem dX3_seekIn_10 : decode cX3_seekIn 10 = .ok (.istore 6, 2) := by decide +kernel
theorem dX3_seekIn_12 : decode cX3_seekIn 12 = .ok (.iload 6, 2) := by decide +kernel
theorem dX3_seekIn_14 : decode cX3_seekIn 14 = .ok (.iconst 5, 1) := by decide +kernel
theorem dX3_seekIn_15 : decode cX3_seekIn 15 = .ok (.if_icmp .gt 82, 3) := by decide +kernel
theorem dX3_seekIn_18 : decode cX3_seekIn 18 = .ok (.aload_n 0, 1) := by decide +kernel
theorem dX3_seekIn_19 : decode cX3_seekIn 19 = .ok (.getfield 9, 3) := by decide +kernel
theorem dX3_seekIn_22 : decode cX3_seekIn 22 = .ok (.iload_n 3, 1) := by decide +kernel
theorem dX3_seekIn_23 : decode cX3_seekIn 23 = .ok (.iload 5, 2) := by decide +kernel
theorem dX3_seekIn_25 : decode cX3_seekIn 25 = .ok (.invokevirtual 59, 3) := by decide +kernel
theorem dX3_seekIn_28 : decode cX3_seekIn 28 = .ok (.ifCond .le 69, 3) := by decide +kernel
theorem dX3_seekIn_31 : decode cX3_seekIn 31 = .ok (.aload_n 0, 1) := by decide +kernel
theorem dX3_seekIn_32 : decode cX3_seekIn 32 = .ok (.lload_n 1, 1) := by decide +kernel
theorem dX3_seekIn_33 : decode cX3_seekIn 33 = .ok (.iload_n 3, 1) := by decide +kernel
theorem dX3_seekIn_34 : decode cX3_seekIn 34 = .ok (.iload 4, 2) := by decide +kernel
theorem dX3_seekIn_36 : decode cX3_seekIn 36 = .ok (.iload 5, 2) := by decide +kernel
theorem dX3_seekIn_38 : decode cX3_seekIn 38 = .ok (.iload 6, 2) := by decide +kernel
theorem dX3_seekIn_40 : decode cX3_seekIn 40 = .ok (.invokevirtual 63, 3) := by decide +kernel
theorem dX3_seekIn_43 : decode cX3_seekIn 43 = .ok (.istore 7, 2) := by decide +kernel
theorem dX3_seekIn_45 : decode cX3_seekIn 45 = .ok (.iload 7, 2) := by decide +kernel
theorem dX3_seekIn_47 : decode cX3_seekIn 47 = .ok (.ifCond .le 44, 3) := by decide +kernel
theorem dX3_seekIn_50 : decode cX3_seekIn 50 = .ok (.aload_n 0, 1) := by decide +kernel
theorem dX3_seekIn_51 : decode cX3_seekIn 51 = .ok (.getfield 29, 3) := by decide +kernel
theorem dX3_seekIn_54 : decode cX3_seekIn 54 = .ok (.iconst 0, 1) := by decide +kernel
theorem dX3_seekIn_55 : decode cX3_seekIn 55 = .ok (.iload_n 3, 1) := by decide +kernel
theorem dX3_seekIn_56 : decode cX3_seekIn 56 = .ok (.iastore, 1) := by decide +kernel
theorem dX3_seekIn_57 : decode cX3_seekIn 57 = .ok (.aload_n 0, 1) := by decide +kernel
theorem dX3_seekIn_58 : decode cX3_seekIn 58 = .ok (.getfield 29, 3) := by decide +kernel
theorem dX3_seekIn_61 : decode cX3_seekIn 61 = .ok (.iconst 1, 1) := by decide +kernel
theorem dX3_seekIn_62 : decode cX3_seekIn 62 = .ok (.iload 4, 2) := by decide +kernel
theorem dX3_seekIn_64 : decode cX3_seekIn 64 = .ok (.iastore, 1) := by decide +kernel
theorem dX3_seekIn_65 : decode cX3_seekIn 65 = .ok (.aload_n 0, 1) := by decide +kernel
theorem dX3_seekIn_66 : decode cX3_seekIn 66 = .ok (.getfield 29, 3) := by decide +kernel
theorem dX3_seekIn_69 : decode cX3_seekIn 69 = .ok (.iconst 2, 1) := by decide +kernel
theorem dX3_seekIn_70 : decode cX3_seekIn 70 = .ok (.iload 5, 2) := by decide +kernel
theorem dX3_seekIn_72 : decode cX3_seekIn 72 = .ok (.iastore, 1) := by decide +kernel
theorem dX3_seekIn_73 : decode cX3_seekIn 73 = .ok (.aload_n 0, 1) := by decide +kernel
theorem dX3_seekIn_74 : decode cX3_seekIn 74 = .ok (.getfield 29, 3) := by decide +kernel
theorem dX3_seekIn_77 : decode cX3_seekIn 77 = .ok (.iconst 3, 1) := by decide +kernel
theorem dX3_seekIn_78 : decode cX3_seekIn 78 = .ok (.iload 6, 2) := by decide +kernel
theorem dX3_seekIn_80 : decode cX3_seekIn 80 = .ok (.iastore, 1) := by decide +kernel
theorem dX3_seekIn_81 : decode cX3_seekIn 81 = .ok (.aload_n 0, 1) := by decide +kernel
theorem dX3_seekIn_82 : decode cX3_seekIn 82 = .ok (.getfield 29, 3) := by decide +kernel
theorem dX3_seekIn_85 : decode cX3_seekIn 85 = .ok (.iconst 4, 1) := by decide +kernel
theorem dX3_seekIn_86 : decode cX3_seekIn 86 = .ok (.iload 7, 2) := by decide +kernel
theorem dX3_seekIn_88 : decode cX3_seekIn 88 = .ok (.iastore, 1) := by decide +kernel
theorem dX3_seekIn_89 : decode cX3_seekIn 89 = .ok (.iconst 1, 1) := by decide +kernel
theorem dX3_seekIn_90 : decode cX3_seekIn 90 = .ok (.ireturn, 1) := by decide +kernel
theorem dX3_seekIn_91 : decode cX3_seekIn 91 = .ok (.iinc 6 1, 3) := by decide +kernel
theorem dX3_seekIn_94 : decode cX3_seekIn 94 = .ok (.goto (-82), 3) := by decide +kernel
theorem dX3_seekIn_97 : decode cX3_seekIn 97 = .ok (.iinc 5 1, 3) := by decide +kernel
theorem dX3_seekIn_100 : decode cX3_seekIn 100 = .ok (.goto (-97), 3) := by decide +kernel
theorem dX3_seekIn_103 : decode cX3_seekIn 103 = .ok (.iconst 0, 1) := by decide +kernel
theorem dX3_seekIn_104 : decode cX3_seekIn 104 = .ok (.ireturn, 1) := by decide +kernel
set_option maxRecDepth 20000 in
theorem ggX3_measure_X2_holesOf : GoodIn wsX3_measure wsX2_holesOf := goodIn_r _ [9, 10, 11, 12, 8, 13, 70, 71, 72, 73, 74] (by decide +kernel) (by decide +kernel)
set_option maxRecDepth 20000 in
theorem gX3_measure_X2_holesOf : GoodIn wsX3_measure (wsV RX3 59 RX2 yX2_holesOf wsX2_holesOf) := goodIn_app (goodIn_of _ (by decide +kernel)) ggX3_measure_X2_holesOf
set_option maxRecDepth 20000 in
theorem ggX3_measure_X6_inside : GoodIn wsX3_measure wsX6_inside := goodIn_r _ [17, 18, 19, 16, 20] (by decide +kernel) (by decide +kernel)
set_option maxRecDepth 20000 in
theorem gX3_measure_X6_inside : GoodIn wsX3_measure (va_wsS RX3 67 yX6_inside wsX6_inside) := goodIn_app (goodIn_of _ (by decide +kernel)) ggX3_measure_X6_inside
set_option maxRecDepth 20000 in
theorem ggX3_measure_X3_fillClosed : GoodIn wsX3_measure wsX3_fillClosed := goodIn_r _ [25, 4, 26, 27, 16, 28, 29, 30, 31, 32, 33, 34, 35, 36, 37, 38, 39, 40, 18, 19, 20, 41, 42, 43, 44, 45, 46, 47, 48, 49, 50, 51, 52, 53, 62, 63, 64, 65, 66, 67, 68, 69, 75, 76, 77, 78, 79] (by decide +kernel) (by decide +kernel)
set_option maxRecDepth 20000 in
theorem gX3_measure_X3_fillClosed : GoodIn wsX3_measure (wsV RX3 73 RX3 yX3_fillClosed wsX3_fillClosed) := goodIn_app (goodIn_of _ (by decide +kernel)) ggX3_measure_X3_fillClosed
set_option maxRecDepth 20000 in
theorem ggX3_measure_X6_ofSize : GoodIn wsX3_measure wsX6_ofSize := goodIn_r _ [28, 29] (by decide +kernel) (by decide +kernel)
set_option maxRecDepth 20000 in
theorem gX3_measure_X6_ofSize : GoodIn wsX3_measure (va_wsS RX3 77 yX6_ofSize wsX6_ofSize) := goodIn_app (goodIn_of _ (by decide +kernel)) ggX3_measure_X6_ofSize
set_option maxRecDepth 20000 in
theorem ggX3_measure_X3_addRises : GoodIn wsX3_measure wsX3_addRises := goodIn_r _ [57, 4, 58, 30, 31, 32, 33, 34, 35, 36, 37, 41, 42, 16, 43, 38, 39, 40, 18, 19, 20, 44, 45, 46, 47, 48, 49, 62, 63, 64, 65, 66, 67, 68, 69, 75, 76, 77, 78, 79] (by decide +kernel) (by decide +kernel)
set_option maxRecDepth 20000 in
theorem gX3_measure_X3_addRises : GoodIn wsX3_measure (wsV RX3 80 RX3 yX3_addRises wsX3_addRises) := goodIn_app (goodIn_of _ (by decide +kernel)) ggX3_measure_X3_addRises
set_option maxRecDepth 20000 in
theorem ggX3_measure_X3_multiply : GoodIn wsX3_measure wsX3_multiply := goodIn_r _ [61, 41, 42, 16, 43] (by decide +kernel) (by decide +kernel)
set_option maxRecDepth 20000 in
theorem gX3_measure_X3_multiply : GoodIn wsX3_measure (va_wsS RX3 84 yX3_multiply wsX3_multiply) := goodIn_app (goodIn_of _ (by decide +kernel)) ggX3_measure_X3_multiply
set_option maxRecDepth 20000 in
theorem ggX3_measure_X0_add : GoodIn wsX3_measure wsX0_add := goodIn_r _ [47, 36, 37, 48, 49, 35, 75, 76, 77, 78, 79] (by decide +kernel) (by decide +kernel)
set_option maxRecDepth 20000 in
theorem gX3_measure_X0_add : GoodIn wsX3_measure (wsV RX3 88 RX0 yX0_add wsX0_add) := goodIn_app (goodIn_of _ (by decide +kernel)) ggX3_measure_X0_add
theorem dX3_measure_0 : decode cX3_measure 0 = .ok (.aload_n 0, 1) := by decide +kernel
theorem dX3_measure_1 : decode cX3_measure 1 = .ok (.getfield 9, 3) := by decide +kernel
theorem dX3_measure_4 : decode cX3_measure 4 = .ok (.iload_n 3, 1) := by decide +kernel
theorem dX3_measure_5 : decode cX3_measure 5 = .ok (.iload 5, 2) := by decide +kernel
theorem dX3_measure_7 : decode cX3_measure 7 = .ok (.invokevirtual 59, 3) := by decide +kernel
theorem dX3_measure_10 : decode cX3_measure 10 = .ok (.ifCond .eq 38, 3) := by decide +kernel
theorem dX3_measure_13 : decode cX3_measure 13 = .ok (.aload_n 0, 1) := by decide +kernel
theorem dX3_measure_14 : decode cX3_measure 14 = .ok (.getfield 9, 3) := by decide +kernel
theorem dX3_measure_17 : decode cX3_measure 17 = .ok (.iload 4, 2) := by decide +kernel
theorem dX3_measure_19 : decode cX3_measure 19 = .ok (.iload 6, 2) := by decide +kernel
theorem dX3_measure_21 : decode cX3_measure 21 = .ok (.invokevirtual 59, 3) := by decide +kernel
theorem dX3_measure_24 : decode cX3_measure 24 = .ok (.ifCond .eq 24, 3) := by decide +kernel
theorem dX3_measure_27 : decode cX3_measure 27 = .ok (.aload_n 0, 1) := by decide +kernel
theorem dX3_measure_28 : decode cX3_measure 28 = .ok (.getfield 9, 3) := by decide +kernel
theorem dX3_measure_31 : decode cX3_measure 31 = .ok (.iload_n 3, 1) := by decide +kernel
theorem dX3_measure_32 : decode cX3_measure 32 = .ok (.iload 4, 2) := by decide +kernel
theorem dX3_measure_34 : decode cX3_measure 34 = .ok (.ior, 1) := by decide +kernel
theorem dX3_measure_35 : decode cX3_measure 35 = .ok (.iload 5, 2) := by decide +kernel
theorem dX3_measure_37 : decode cX3_measure 37 = .ok (.iload 6, 2) := by decide +kernel
theorem dX3_measure_39 : decode cX3_measure 39 = .ok (.iadd, 1) := by decide +kernel
theorem dX3_measure_40 : decode cX3_measure 40 = .ok (.iconst 1, 1) := by decide +kernel
theorem dX3_measure_41 : decode cX3_measure 41 = .ok (.iadd, 1) := by decide +kernel
theorem dX3_measure_42 : decode cX3_measure 42 = .ok (.invokevirtual 59, 3) := by decide +kernel
theorem dX3_measure_45 : decode cX3_measure 45 = .ok (.ifCond .ne 5, 3) := by decide +kernel
theorem dX3_measure_48 : decode cX3_measure 48 = .ok (.iconst 0, 1) := by decide +kernel
theorem dX3_measure_49 : decode cX3_measure 49 = .ok (.ireturn, 1) := by decide +kernel
theorem dX3_measure_50 : decode cX3_measure 50 = .ok (.aload_n 0, 1) := by decide +kernel
theorem dX3_measure_51 : decode cX3_measure 51 = .ok (.aload_n 0, 1) := by decide +kernel
theorem dX3_measure_52 : decode cX3_measure 52 = .ok (.getfield 22, 3) := by decide +kernel
theorem dX3_measure_55 : decode cX3_measure 55 = .ok (.lload_n 1, 1) := by decide +kernel
theorem dX3_measure_56 : decode cX3_measure 56 = .ok (.iload_n 3, 1) := by decide +kernel
theorem dX3_measure_57 : decode cX3_measure 57 = .ok (.invokestatic 67, 3) := by decide +kernel
theorem dX3_measure_60 : decode cX3_measure 60 = .ok (.land, 1) := by decide +kernel
theorem dX3_measure_61 : decode cX3_measure 61 = .ok (.iload 5, 2) := by decide +kernel
theorem dX3_measure_63 : decode cX3_measure 63 = .ok (.invokevirtual 73, 3) := by decide +kernel
theorem dX3_measure_66 : decode cX3_measure 66 = .ok (.istore 7, 2) := by decide +kernel
theorem dX3_measure_68 : decode cX3_measure 68 = .ok (.aload_n 0, 1) := by decide +kernel
theorem dX3_measure_69 : decode cX3_measure 69 = .ok (.aload_n 0, 1) := by decide +kernel
theorem dX3_measure_70 : decode cX3_measure 70 = .ok (.getfield 26, 3) := by decide +kernel
theorem dX3_measure_73 : decode cX3_measure 73 = .ok (.lload_n 1, 1) := by decide +kernel
theorem dX3_measure_74 : decode cX3_measure 74 = .ok (.iload 4, 2) := by decide +kernel
theorem dX3_measure_76 : decode cX3_measure 76 = .ok (.invokestatic 67, 3) := by decide +kernel
theorem dX3_measure_79 : decode cX3_measure 79 = .ok (.land, 1) := by decide +kernel
theorem dX3_measure_80 : decode cX3_measure 80 = .ok (.iload 6, 2) := by decide +kernel
theorem dX3_measure_82 : decode cX3_measure 82 = .ok (.invokevirtual 73, 3) := by decide +kernel
theorem dX3_measure_85 : decode cX3_measure 85 = .ok (.istore 8, 2) := by decide +kernel
theorem dX3_measure_87 : decode cX3_measure 87 = .ok (.lload_n 1, 1) := by decide +kernel
theorem dX3_measure_88 : decode cX3_measure 88 = .ok (.iload_n 3, 1) := by decide +kernel
theorem dX3_measure_89 : decode cX3_measure 89 = .ok (.iload 4, 2) := by decide +kernel
theorem dX3_measure_91 : decode cX3_measure 91 = .ok (.ior, 1) := by decide +kernel
theorem dX3_measure_92 : decode cX3_measure 92 = .ok (.invokestatic 67, 3) := by decide +kernel
theorem dX3_measure_95 : decode cX3_measure 95 = .ok (.land, 1) := by decide +kernel
theorem dX3_measure_96 : decode cX3_measure 96 = .ok (.lstore 9, 2) := by decide +kernel
theorem dX3_measure_98 : decode cX3_measure 98 = .ok (.lload 9, 2) := by decide +kernel
theorem dX3_measure_100 : decode cX3_measure 100 = .ok (.iload 5, 2) := by decide +kernel
theorem dX3_measure_102 : decode cX3_measure 102 = .ok (.iload 6, 2) := by decide +kernel
theorem dX3_measure_104 : decode cX3_measure 104 = .ok (.iadd, 1) := by decide +kernel
theorem dX3_measure_105 : decode cX3_measure 105 = .ok (.iconst 2, 1) := by decide +kernel
theorem dX3_measure_106 : decode cX3_measure 106 = .ok (.iadd, 1) := by decide +kernel
theorem dX3_measure_107 : decode cX3_measure 107 = .ok (.invokestatic 77, 3) := by decide +kernel
theorem dX3_measure_110 : decode cX3_measure 110 = .ok (.land, 1) := by decide +kernel
theorem dX3_measure_111 : decode cX3_measure 111 = .ok (.lstore 11, 2) := by decide +kernel
theorem dX3_measure_113 : decode cX3_measure 113 = .ok (.aload_n 0, 1) := by decide +kernel
theorem dX3_measure_114 : decode cX3_measure 114 = .ok (.lload 9, 2) := by decide +kernel
theorem dX3_measure_116 : decode cX3_measure 116 = .ok (.iload 5, 2) := by decide +kernel
theorem dX3_measure_118 : decode cX3_measure 118 = .ok (.iload 6, 2) := by decide +kernel
theorem dX3_measure_120 : decode cX3_measure 120 = .ok (.iadd, 1) := by decide +kernel
theorem dX3_measure_121 : decode cX3_measure 121 = .ok (.iconst 1, 1) := by decide +kernel
theorem dX3_measure_122 : decode cX3_measure 122 = .ok (.iadd, 1) := by decide +kernel
theorem dX3_measure_123 : decode cX3_measure 123 = .ok (.invokestatic 77, 3) := by decide +kernel
theorem dX3_measure_126 : decode cX3_measure 126 = .ok (.land, 1) := by decide +kernel
theorem dX3_measure_127 : decode cX3_measure 127 = .ok (.lload 11, 2) := by decide +kernel
theorem dX3_measure_129 : decode cX3_measure 129 = .ok (.invokevirtual 80, 3) := by decide +kernel
theorem dX3_measure_132 : decode cX3_measure 132 = .ok (.iconst 0, 1) := by decide +kernel
theorem dX3_measure_133 : decode cX3_measure 133 = .ok (.istore 13, 2) := by decide +kernel
theorem dX3_measure_135 : decode cX3_measure 135 = .ok (.iconst 0, 1) := by decide +kernel
theorem dX3_measure_136 : decode cX3_measure 136 = .ok (.istore 14, 2) := by decide +kernel
theorem dX3_measure_138 : decode cX3_measure 138 = .ok (.iload 14, 2) := by decide +kernel
theorem dX3_measure_140 : decode cX3_measure 140 = .ok (.iload 7, 2) := by decide +kernel
theorem dX3_measure_142 : decode cX3_measure 142 = .ok (.if_icmp .ge 74, 3) := by decide +kernel
theorem dX3_measure_145 : decode cX3_measure 145 = .ok (.iload 14, 2) := by decide +kernel
theorem dX3_measure_147 : decode cX3_measure 147 = .ok (.bipush 64, 2) := by decide +kernel
theorem dX3_measure_149 : decode cX3_measure 149 = .ok (.if_icmp .ge 67, 3) := by decide +kernel
theorem dX3_measure_152 : decode cX3_measure 152 = .ok (.iconst 0, 1) := by decide +kernel
theorem dX3_measure_153 : decode cX3_measure 153 = .ok (.istore 15, 2) := by decide +kernel
theorem dX3_measure_155 : decode cX3_measure 155 = .ok (.iload 15, 2) := by decide +kernel
theorem dX3_measure_157 : decode cX3_measure 157 = .ok (.iload 8, 2) := by decide +kernel
theorem dX3_measure_159 : decode cX3_measure 159 = .ok (.if_icmp .ge 51, 3) := by decide +kernel
theorem dX3_measure_162 : decode cX3_measure 162 = .ok (.iload 15, 2) := by decide +kernel
theorem dX3_measure_164 : decode cX3_measure 164 = .ok (.bipush 64, 2) := by decide +kernel
theorem dX3_measure_166 : decode cX3_measure 166 = .ok (.if_icmp .ge 44, 3) := by decide +kernel
theorem dX3_measure_169 : decode cX3_measure 169 = .ok (.aload_n 0, 1) := by decide +kernel
theorem dX3_measure_170 : decode cX3_measure 170 = .ok (.getfield 18, 3) := by decide +kernel
theorem dX3_measure_173 : decode cX3_measure 173 = .ok (.lload 11, 2) := by decide +kernel
theorem dX3_measure_175 : decode cX3_measure 175 = .ok (.aload_n 0, 1) := by decide +kernel
theorem dX3_measure_176 : decode cX3_measure 176 = .ok (.getfield 22, 3) := by decide +kernel
theorem dX3_measure_179 : decode cX3_measure 179 = .ok (.iload 14, 2) := by decide +kernel
theorem dX3_measure_181 : decode cX3_measure 181 = .ok (.laload, 1) := by decide +kernel
theorem dX3_measure_182 : decode cX3_measure 182 = .ok (.iload_n 3, 1) := by decide +kernel
theorem dX3_measure_183 : decode cX3_measure 183 = .ok (.aload_n 0, 1) := by decide +kernel
theorem dX3_measure_184 : decode cX3_measure 184 = .ok (.getfield 26, 3) := by decide +kernel
theorem dX3_measure_187 : decode cX3_measure 187 = .ok (.iload 15, 2) := by decide +kernel
theorem dX3_measure_189 : decode cX3_measure 189 = .ok (.laload, 1) := by decide +kernel
theorem dX3_measure_190 : decode cX3_measure 190 = .ok (.iload 4, 2) := by decide +kernel
theorem dX3_measure_192 : decode cX3_measure 192 = .ok (.invokestatic 84, 3) := by decide +kernel
theorem dX3_measure_195 : decode cX3_measure 195 = .ok (.invokevirtual 88, 3) := by decide +kernel
theorem dX3_measure_198 : decode cX3_measure 198 = .ok (.ifCond .eq 6, 3) := by decide +kernel
theorem dX3_measure_201 : decode cX3_measure 201 = .ok (.iinc 13 1, 3) := by decide +kernel
theorem dX3_measure_204 : decode cX3_measure 204 = .ok (.iinc 15 1, 3) := by decide +kernel
theorem dX3_measure_207 : decode cX3_measure 207 = .ok (.goto (-52), 3) := by decide +kernel
theorem dX3_measure_210 : decode cX3_measure 210 = .ok (.iinc 14 1, 3) := by decide +kernel
theorem dX3_measure_213 : decode cX3_measure 213 = .ok (.goto (-75), 3) := by decide +kernel
theorem dX3_measure_216 : decode cX3_measure 216 = .ok (.iload 13, 2) := by decide +kernel
theorem dX3_measure_218 : decode cX3_measure 218 = .ok (.ireturn, 1) := by decide +kernel
set_option maxRecDepth 20000 in
theorem ggX3_fillClosed_X6_ofSize : GoodIn wsX3_fillClosed wsX6_ofSize := goodIn_r _ [5, 6] (by decide +kernel) (by decide +kernel)
set_option maxRecDepth 20000 in
theorem gX3_fillClosed_X6_ofSize : GoodIn wsX3_fillClosed (va_wsS RX3 77 yX6_ofSize wsX6_ofSize) := goodIn_app (goodIn_of _ (by decide +kernel)) ggX3_fillClosed_X6_ofSize
set_option maxRecDepth 20000 in
theorem ggX3_fillClosed_X0_clear : GoodIn wsX3_fillClosed wsX0_clear := goodIn_r _ [11, 12, 13, 14, 42, 43, 44, 45, 46] (by decide +kernel) (by decide +kernel)
set_option maxRecDepth 20000 in
theorem gX3_fillClosed_X0_clear : GoodIn wsX3_fillClosed (wsV RX3 92 RX0 yX0_clear wsX0_clear) := goodIn_app (goodIn_of _ (by decide +kernel)) ggX3_fillClosed_X0_clear
set_option maxRecDepth 20000 in
theorem ggX3_fillClosed_X6_above : GoodIn wsX3_fillClosed wsX6_above := goodIn_r _ [17, 18, 19, 4, 20] (by decide +kernel) (by decide +kernel)
set_option maxRecDepth 20000 in
theorem gX3_fillClosed_X6_above : GoodIn wsX3_fillClosed (va_wsS RX3 96 yX6_above wsX6_above) := goodIn_app (goodIn_of _ (by decide +kernel)) ggX3_fillClosed_X6_above
set_option maxRecDepth 20000 in
theorem ggX3_fillClosed_X6_holds : GoodIn wsX3_fillClosed wsX6_holds := goodIn_r _ [23] (by decide +kernel) (by decide +kernel)
set_option maxRecDepth 20000 in
theorem gX3_fillClosed_X6_holds : GoodIn wsX3_fillClosed (va_wsS RX3 99 yX6_holds wsX6_holds) := goodIn_app (goodIn_of _ (by decide +kernel)) ggX3_fillClosed_X6_holds
set_option maxRecDepth 20000 in
theorem ggX3_fillClosed_X0_add : GoodIn wsX3_fillClosed wsX0_add := goodIn_r _ [27, 13, 14, 28, 29, 12, 42, 43, 44, 45, 46] (by decide +kernel) (by decide +kernel)
set_option maxRecDepth 20000 in
theorem gX3_fillClosed_X0_add : GoodIn wsX3_fillClosed (wsV RX3 88 RX0 yX0_add wsX0_add) := goodIn_app (goodIn_of _ (by decide +kernel)) ggX3_fillClosed_X0_add
set_option maxRecDepth 20000 in
theorem ggX3_fillClosed_X0_remainder : GoodIn wsX3_fillClosed wsX0_remainder := goodIn_r _ [33, 13, 42, 43, 44, 45, 46] (by decide +kernel) (by decide +kernel)
set_option maxRecDepth 20000 in
theorem gX3_fillClosed_X0_remainder : GoodIn wsX3_fillClosed (wsV RX3 103 RX0 yX0_remainder wsX0_remainder) := goodIn_app (goodIn_of _ (by decide +kernel)) ggX3_fillClosed_X0_remainder
theorem dX3_fillClosed_0 : decode cX3_fillClosed 0 = .ok (.lload_n 2, 1) := by decide +kernel
theorem dX3_fillClosed_1 : decode cX3_fillClosed 1 = .ok (.iload 4, 2) := by decide +kernel
theorem dX3_fillClosed_3 : decode cX3_fillClosed 3 = .ok (.iconst 1, 1) := by decide +kernel
theorem dX3_fillClosed_4 : decode cX3_fillClosed 4 = .ok (.iadd, 1) := by decide +kernel
theorem dX3_fillClosed_5 : decode cX3_fillClosed 5 = .ok (.invokestatic 77, 3) := by decide +kernel
theorem dX3_fillClosed_8 : decode cX3_fillClosed 8 = .ok (.land, 1) := by decide +kernel
theorem dX3_fillClosed_9 : decode cX3_fillClosed 9 = .ok (.lstore 5, 2) := by decide +kernel
theorem dX3_fillClosed_11 : decode cX3_fillClosed 11 = .ok (.lload_n 2, 1) := by decide +kernel
theorem dX3_fillClosed_12 : decode cX3_fillClosed 12 = .ok (.iload 4, 2) := by decide +kernel
theorem dX3_fillClosed_14 : decode cX3_fillClosed 14 = .ok (.iconst 2, 1) := by decide +kernel
theorem dX3_fillClosed_15 : decode cX3_fillClosed 15 = .ok (.iadd, 1) := by decide +kernel
theorem dX3_fillClosed_16 : decode cX3_fillClosed 16 = .ok (.invokestatic 77, 3) := by decide +kernel
theorem dX3_fillClosed_19 : decode cX3_fillClosed 19 = .ok (.land, 1) := by decide +kernel
theorem dX3_fillClosed_20 : decode cX3_fillClosed 20 = .ok (.lstore 7, 2) := by decide +kernel
theorem dX3_fillClosed_22 : decode cX3_fillClosed 22 = .ok (.aload_n 0, 1) := by decide +kernel
theorem dX3_fillClosed_23 : decode cX3_fillClosed 23 = .ok (.getfield 18, 3) := by decide +kernel
theorem dX3_fillClosed_26 : decode cX3_fillClosed 26 = .ok (.lload 7, 2) := by decide +kernel
theorem dX3_fillClosed_28 : decode cX3_fillClosed 28 = .ok (.invokevirtual 92, 3) := by decide +kernel
theorem dX3_fillClosed_31 : decode cX3_fillClosed 31 = .ok (.iconst 0, 1) := by decide +kernel
theorem dX3_fillClosed_32 : decode cX3_fillClosed 32 = .ok (.istore 9, 2) := by decide +kernel
theorem dX3_fillClosed_34 : decode cX3_fillClosed 34 = .ok (.iconst 0, 1) := by decide +kernel
theorem dX3_fillClosed_35 : decode cX3_fillClosed 35 = .ok (.istore 10, 2) := by decide +kernel
theorem dX3_fillClosed_37 : decode cX3_fillClosed 37 = .ok (.iload 10, 2) := by decide +kernel
theorem dX3_fillClosed_39 : decode cX3_fillClosed 39 = .ok (.bipush 64, 2) := by decide +kernel
theorem dX3_fillClosed_41 : decode cX3_fillClosed 41 = .ok (.if_icmp .ge 67, 3) := by decide +kernel
theorem dX3_fillClosed_44 : decode cX3_fillClosed 44 = .ok (.lconst 1, 1) := by decide +kernel
theorem dX3_fillClosed_45 : decode cX3_fillClosed 45 = .ok (.iload 10, 2) := by decide +kernel
theorem dX3_fillClosed_47 : decode cX3_fillClosed 47 = .ok (.lshl, 1) := by decide +kernel
theorem dX3_fillClosed_48 : decode cX3_fillClosed 48 = .ok (.iload 10, 2) := by decide +kernel
theorem dX3_fillClosed_50 : decode cX3_fillClosed 50 = .ok (.invokestatic 96, 3) := by decide +kernel
theorem dX3_fillClosed_53 : decode cX3_fillClosed 53 = .ok (.lload 7, 2) := by decide +kernel
theorem dX3_fillClosed_55 : decode cX3_fillClosed 55 = .ok (.land, 1) := by decide +kernel
theorem dX3_fillClosed_56 : decode cX3_fillClosed 56 = .ok (.lor, 1) := by decide +kernel
theorem dX3_fillClosed_57 : decode cX3_fillClosed 57 = .ok (.lstore 11, 2) := by decide +kernel
theorem dX3_fillClosed_59 : decode cX3_fillClosed 59 = .ok (.lload 5, 2) := by decide +kernel
theorem dX3_fillClosed_61 : decode cX3_fillClosed 61 = .ok (.iload 10, 2) := by decide +kernel
theorem dX3_fillClosed_63 : decode cX3_fillClosed 63 = .ok (.invokestatic 99, 3) := by decide +kernel
theorem dX3_fillClosed_66 : decode cX3_fillClosed 66 = .ok (.ifCond .eq 36, 3) := by decide +kernel
theorem dX3_fillClosed_69 : decode cX3_fillClosed 69 = .ok (.aload_n 0, 1) := by decide +kernel
theorem dX3_fillClosed_70 : decode cX3_fillClosed 70 = .ok (.getfield 18, 3) := by decide +kernel
theorem dX3_fillClosed_73 : decode cX3_fillClosed 73 = .ok (.lload 11, 2) := by decide +kernel
theorem dX3_fillClosed_75 : decode cX3_fillClosed 75 = .ok (.invokevirtual 88, 3) := by decide +kernel
theorem dX3_fillClosed_78 : decode cX3_fillClosed 78 = .ok (.ifCond .ne 24, 3) := by decide +kernel
theorem dX3_fillClosed_81 : decode cX3_fillClosed 81 = .ok (.iload 9, 2) := by decide +kernel
theorem dX3_fillClosed_83 : decode cX3_fillClosed 83 = .ok (.aload_n 1, 1) := by decide +kernel
theorem dX3_fillClosed_84 : decode cX3_fillClosed 84 = .ok (.arraylength, 1) := by decide +kernel
theorem dX3_fillClosed_85 : decode cX3_fillClosed 85 = .ok (.if_icmp .ge 17, 3) := by decide +kernel
theorem dX3_fillClosed_88 : decode cX3_fillClosed 88 = .ok (.aload_n 1, 1) := by decide +kernel
theorem dX3_fillClosed_89 : decode cX3_fillClosed 89 = .ok (.iload 9, 2) := by decide +kernel
theorem dX3_fillClosed_91 : decode cX3_fillClosed 91 = .ok (.aload_n 0, 1) := by decide +kernel
theorem dX3_fillClosed_92 : decode cX3_fillClosed 92 = .ok (.getfield 18, 3) := by decide +kernel
theorem dX3_fillClosed_95 : decode cX3_fillClosed 95 = .ok (.invokevirtual 103, 3) := by decide +kernel
theorem dX3_fillClosed_98 : decode cX3_fillClosed 98 = .ok (.lastore, 1) := by decide +kernel
theorem dX3_fillClosed_99 : decode cX3_fillClosed 99 = .ok (.iinc 9 1, 3) := by decide +kernel
theorem dX3_fillClosed_102 : decode cX3_fillClosed 102 = .ok (.iinc 10 1, 3) := by decide +kernel
theorem dX3_fillClosed_105 : decode cX3_fillClosed 105 = .ok (.goto (-68), 3) := by decide +kernel
theorem dX3_fillClosed_108 : decode cX3_fillClosed 108 = .ok (.iload 9, 2) := by decide +kernel
theorem dX3_fillClosed_110 : decode cX3_fillClosed 110 = .ok (.ireturn, 1) := by decide +kernel
set_option maxRecDepth 20000 in
theorem ggX3_addRises_X0_clear : GoodIn wsX3_addRises wsX0_clear := goodIn_r _ [7, 8, 9, 10, 35, 36, 37, 38, 39] (by decide +kernel) (by decide +kernel)
set_option maxRecDepth 20000 in
theorem gX3_addRises_X0_clear : GoodIn wsX3_addRises (wsV RX3 92 RX0 yX0_clear wsX0_clear) := goodIn_app (goodIn_of _ (by decide +kernel)) ggX3_addRises_X0_clear
set_option maxRecDepth 20000 in
theorem ggX3_addRises_X6_holds : GoodIn wsX3_addRises wsX6_holds := goodIn_r _ [14] (by decide +kernel) (by decide +kernel)
set_option maxRecDepth 20000 in
theorem gX3_addRises_X6_holds : GoodIn wsX3_addRises (va_wsS RX3 99 yX6_holds wsX6_holds) := goodIn_app (goodIn_of _ (by decide +kernel)) ggX3_addRises_X6_holds
set_option maxRecDepth 20000 in
theorem ggX3_addRises_X6_above : GoodIn wsX3_addRises wsX6_above := goodIn_r _ [17, 18, 19, 13, 20] (by decide +kernel) (by decide +kernel)
set_option maxRecDepth 20000 in
theorem gX3_addRises_X6_above : GoodIn wsX3_addRises (va_wsS RX3 96 yX6_above wsX6_above) := goodIn_app (goodIn_of _ (by decide +kernel)) ggX3_addRises_X6_above
set_option maxRecDepth 20000 in
theorem ggX3_addRises_X0_add : GoodIn wsX3_addRises wsX0_add := goodIn_r _ [24, 9, 10, 25, 26, 8, 35, 36, 37, 38, 39] (by decide +kernel) (by decide +kernel)
set_option maxRecDepth 20000 in
theorem gX3_addRises_X0_add : GoodIn wsX3_addRises (wsV RX3 88 RX0 yX0_add wsX0_add) := goodIn_app (goodIn_of _ (by decide +kernel)) ggX3_addRises_X0_add
theorem dX3_addRises_0 : decode cX3_addRises 0 = .ok (.aload_n 0, 1) := by decide +kernel
theorem dX3_addRises_1 : decode cX3_addRises 1 = .ok (.getfield 18, 3) := by decide +kernel
theorem dX3_addRises_4 : decode cX3_addRises 4 = .ok (.ldc2_w 107, 3) := by decide +kernel
theorem dX3_addRises_7 : decode cX3_addRises 7 = .ok (.invokevirtual 92, 3) := by decide +kernel
theorem dX3_addRises_10 : decode cX3_addRises 10 = .ok (.iconst 0, 1) := by decide +kernel
theorem dX3_addRises_11 : decode cX3_addRises 11 = .ok (.istore 5, 2) := by decide +kernel
theorem dX3_addRises_13 : decode cX3_addRises 13 = .ok (.iload 5, 2) := by decide +kernel
theorem dX3_addRises_15 : decode cX3_addRises 15 = .ok (.bipush 64, 2) := by decide +kernel
theorem dX3_addRises_17 : decode cX3_addRises 17 = .ok (.if_icmp .ge 33, 3) := by decide +kernel
theorem dX3_addRises_20 : decode cX3_addRises 20 = .ok (.lload_n 1, 1) := by decide +kernel
theorem dX3_addRises_21 : decode cX3_addRises 21 = .ok (.iload 5, 2) := by decide +kernel
theorem dX3_addRises_23 : decode cX3_addRises 23 = .ok (.invokestatic 99, 3) := by decide +kernel
theorem dX3_addRises_26 : decode cX3_addRises 26 = .ok (.ifCond .eq 18, 3) := by decide +kernel
theorem dX3_addRises_29 : decode cX3_addRises 29 = .ok (.aload_n 0, 1) := by decide +kernel
theorem dX3_addRises_30 : decode cX3_addRises 30 = .ok (.getfield 18, 3) := by decide +kernel
theorem dX3_addRises_33 : decode cX3_addRises 33 = .ok (.iload 5, 2) := by decide +kernel
theorem dX3_addRises_35 : decode cX3_addRises 35 = .ok (.invokestatic 96, 3) := by decide +kernel
theorem dX3_addRises_38 : decode cX3_addRises 38 = .ok (.lload_n 3, 1) := by decide +kernel
theorem dX3_addRises_39 : decode cX3_addRises 39 = .ok (.land, 1) := by decide +kernel
theorem dX3_addRises_40 : decode cX3_addRises 40 = .ok (.invokevirtual 88, 3) := by decide +kernel
theorem dX3_addRises_43 : decode cX3_addRises 43 = .ok (.pop, 1) := by decide +kernel
theorem dX3_addRises_44 : decode cX3_addRises 44 = .ok (.iinc 5 1, 3) := by decide +kernel
theorem dX3_addRises_47 : decode cX3_addRises 47 = .ok (.goto (-34), 3) := by decide +kernel
theorem dX3_addRises_50 : decode cX3_addRises 50 = .ok (.return_, 1) := by decide +kernel
set_option maxRecDepth 20000 in
theorem ggX3_multiply_X6_holds : GoodIn wsX3_multiply wsX6_holds := goodIn_r _ [4] (by decide +kernel) (by decide +kernel)
set_option maxRecDepth 20000 in
theorem gX3_multiply_X6_holds : GoodIn wsX3_multiply (va_wsS RX3 99 yX6_holds wsX6_holds) := goodIn_app (goodIn_of _ (by decide +kernel)) ggX3_multiply_X6_holds
theorem dX3_multiply_0 : decode cX3_multiply 0 = .ok (.lconst 0, 1) := by decide +kernel
theorem dX3_multiply_1 : decode cX3_multiply 1 = .ok (.lstore 8, 2) := by decide +kernel
theorem dX3_multiply_3 : decode cX3_multiply 3 = .ok (.iconst 0, 1) := by decide +kernel
theorem dX3_multiply_4 : decode cX3_multiply 4 = .ok (.istore 10, 2) := by decide +kernel
theorem dX3_multiply_6 : decode cX3_multiply 6 = .ok (.iload 10, 2) := by decide +kernel
theorem dX3_multiply_8 : decode cX3_multiply 8 = .ok (.bipush 64, 2) := by decide +kernel
theorem dX3_multiply_10 : decode cX3_multiply 10 = .ok (.if_icmp .ge 52, 3) := by decide +kernel
theorem dX3_multiply_13 : decode cX3_multiply 13 = .ok (.lload_n 0, 1) := by decide +kernel
theorem dX3_multiply_14 : decode cX3_multiply 14 = .ok (.iload 10, 2) := by decide +kernel
theorem dX3_multiply_16 : decode cX3_multiply 16 = .ok (.invokestatic 99, 3) := by decide +kernel
theorem dX3_multiply_19 : decode cX3_multiply 19 = .ok (.ifCond .eq 37, 3) := by decide +kernel
theorem dX3_multiply_22 : decode cX3_multiply 22 = .ok (.lload_n 2, 1) := by decide +kernel
theorem dX3_multiply_23 : decode cX3_multiply 23 = .ok (.iload 10, 2) := by decide +kernel
theorem dX3_multiply_25 : decode cX3_multiply 25 = .ok (.iload 4, 2) := by decide +kernel
theorem dX3_multiply_27 : decode cX3_multiply 27 = .ok (.iand, 1) := by decide +kernel
theorem dX3_multiply_28 : decode cX3_multiply 28 = .ok (.invokestatic 99, 3) := by decide +kernel
theorem dX3_multiply_31 : decode cX3_multiply 31 = .ok (.ifCond .eq 25, 3) := by decide +kernel
theorem dX3_multiply_34 : decode cX3_multiply 34 = .ok (.lload 5, 2) := by decide +kernel
theorem dX3_multiply_36 : decode cX3_multiply 36 = .ok (.iload 10, 2) := by decide +kernel
theorem dX3_multiply_38 : decode cX3_multiply 38 = .ok (.iload 7, 2) := by decide +kernel
theorem dX3_multiply_40 : decode cX3_multiply 40 = .ok (.iand, 1) := by decide +kernel
theorem dX3_multiply_41 : decode cX3_multiply 41 = .ok (.invokestatic 99, 3) := by decide +kernel
theorem dX3_multiply_44 : decode cX3_multiply 44 = .ok (.ifCond .eq 12, 3) := by decide +kernel
theorem dX3_multiply_47 : decode cX3_multiply 47 = .ok (.lload 8, 2) := by decide +kernel
theorem dX3_multiply_49 : decode cX3_multiply 49 = .ok (.lconst 1, 1) := by decide +kernel
theorem dX3_multiply_50 : decode cX3_multiply 50 = .ok (.iload 10, 2) := by decide +kernel
theorem dX3_multiply_52 : decode cX3_multiply 52 = .ok (.lshl, 1) := by decide +kernel
theorem dX3_multiply_53 : decode cX3_multiply 53 = .ok (.lor, 1) := by decide +kernel
theorem dX3_multiply_54 : decode cX3_multiply 54 = .ok (.lstore 8, 2) := by decide +kernel
theorem dX3_multiply_56 : decode cX3_multiply 56 = .ok (.iinc 10 1, 3) := by decide +kernel
theorem dX3_multiply_59 : decode cX3_multiply 59 = .ok (.goto (-53), 3) := by decide +kernel
theorem dX3_multiply_62 : decode cX3_multiply 62 = .ok (.lload 8, 2) := by decide +kernel
theorem dX3_multiply_64 : decode cX3_multiply 64 = .ok (.lreturn, 1) := by decide +kernel
theorem dX4_init_0 : decode cX4_init 0 = .ok (.aload_n 0, 1) := by decide +kernel
theorem dX4_init_1 : decode cX4_init 1 = .ok (.invokespecial 3, 3) := by decide +kernel
theorem dX4_init_4 : decode cX4_init 4 = .ok (.aload_n 0, 1) := by decide +kernel
theorem dX4_init_5 : decode cX4_init 5 = .ok (.lconst 1, 1) := by decide +kernel
theorem dX4_init_6 : decode cX4_init 6 = .ok (.putfield 9, 3) := by decide +kernel
theorem dX4_init_9 : decode cX4_init 9 = .ok (.return_, 1) := by decide +kernel
theorem dX4_toldPoints_0 : decode cX4_toldPoints 0 = .ok (.aload_n 0, 1) := by decide +kernel
theorem dX4_toldPoints_1 : decode cX4_toldPoints 1 = .ok (.getfield 15, 3) := by decide +kernel
theorem dX4_toldPoints_4 : decode cX4_toldPoints 4 = .ok (.ireturn, 1) := by decide +kernel
theorem dX4_toldFamily_0 : decode cX4_toldFamily 0 = .ok (.aload_n 0, 1) := by decide +kernel
theorem dX4_toldFamily_1 : decode cX4_toldFamily 1 = .ok (.getfield 9, 3) := by decide +kernel
theorem dX4_toldFamily_4 : decode cX4_toldFamily 4 = .ok (.lreturn, 1) := by decide +kernel
set_option maxRecDepth 20000 in
theorem ggX4_parse_X4_behindBlanks : GoodIn wsX4_parse wsX4_behindBlanks := goodIn_r _ [5, 6, 7, 8, 9, 10, 11, 12, 13, 14, 15, 16, 17, 18, 4, 19, 34, 35] (by decide +kernel) (by decide +kernel)
set_option maxRecDepth 20000 in
theorem gX4_parse_X4_behindBlanks : GoodIn wsX4_parse (va_wsS RX4 19 yX4_behindBlanks wsX4_behindBlanks) := goodIn_app (goodIn_of _ (by decide +kernel)) ggX4_parse_X4_behindBlanks
set_option maxRecDepth 20000 in
theorem ggX4_parse_X5_at : GoodIn wsX4_parse wsX5_at := goodIn_r _ [15, 11, 16, 34, 35] (by decide +kernel) (by decide +kernel)
set_option maxRecDepth 20000 in
theorem gX4_parse_X5_at : GoodIn wsX4_parse (wsV RX4 23 RX5 yX5_at wsX5_at) := goodIn_app (goodIn_of _ (by decide +kernel)) ggX4_parse_X5_at
set_option maxRecDepth 20000 in
theorem ggX4_parse_X4_parseFaces : GoodIn wsX4_parse wsX4_parseFaces := goodIn_r _ [23, 24, 1, 6, 7, 8, 9, 10, 11, 12, 13, 14, 15, 16, 17, 18, 4, 19, 25, 26, 27, 28, 29, 30, 31, 32, 33, 34, 35] (by decide +kernel) (by decide +kernel)
set_option maxRecDepth 20000 in
theorem gX4_parse_X4_parseFaces : GoodIn wsX4_parse (wsV RX4 29 RX4 yX4_parseFaces wsX4_parseFaces) := goodIn_app (goodIn_of _ (by decide +kernel)) ggX4_parse_X4_parseFaces
theorem dX4_parse_0 : decode cX4_parse 0 = .ok (.aload_n 1, 1) := by decide +kernel
theorem dX4_parse_1 : decode cX4_parse 1 = .ok (.iconst 0, 1) := by decide +kernel
theorem dX4_parse_2 : decode cX4_parse 2 = .ok (.invokestatic 19, 3) := by decide +kernel
theorem dX4_parse_5 : decode cX4_parse 5 = .ok (.istore_n 2, 1) := by decide +kernel
theorem dX4_parse_6 : decode cX4_parse 6 = .ok (.aload_n 1, 1) := by decide +kernel
theorem dX4_parse_7 : decode cX4_parse 7 = .ok (.iload_n 2, 1) := by decide +kernel
theorem dX4_parse_8 : decode cX4_parse 8 = .ok (.invokevirtual 23, 3) := by decide +kernel
theorem dX4_parse_11 : decode cX4_parse 11 = .ok (.bipush 48, 2) := by decide +kernel
theorem dX4_parse_13 : decode cX4_parse 13 = .ok (.isub, 1) := by decide +kernel
theorem dX4_parse_14 : decode cX4_parse 14 = .ok (.istore_n 3, 1) := by decide +kernel
theorem dX4_parse_15 : decode cX4_parse 15 = .ok (.iload_n 3, 1) := by decide +kernel
theorem dX4_parse_16 : decode cX4_parse 16 = .ok (.iconst 1, 1) := by decide +kernel
theorem dX4_parse_17 : decode cX4_parse 17 = .ok (.if_icmp .lt 9, 3) := by decide +kernel
theorem dX4_parse_20 : decode cX4_parse 20 = .ok (.iload_n 3, 1) := by decide +kernel
theorem dX4_parse_21 : decode cX4_parse 21 = .ok (.bipush 6, 2) := by decide +kernel
theorem dX4_parse_23 : decode cX4_parse 23 = .ok (.if_icmp .le 5, 3) := by decide +kernel
theorem dX4_parse_26 : decode cX4_parse 26 = .ok (.iload_n 2, 1) := by decide +kernel
theorem dX4_parse_27 : decode cX4_parse 27 = .ok (.ireturn, 1) := by decide +kernel
theorem dX4_parse_28 : decode cX4_parse 28 = .ok (.aload_n 1, 1) := by decide +kernel
theorem dX4_parse_29 : decode cX4_parse 29 = .ok (.iload_n 2, 1) := by decide +kernel
theorem dX4_parse_30 : decode cX4_parse 30 = .ok (.iconst 1, 1) := by decide +kernel
theorem dX4_parse_31 : decode cX4_parse 31 = .ok (.iadd, 1) := by decide +kernel
theorem dX4_parse_32 : decode cX4_parse 32 = .ok (.invokestatic 19, 3) := by decide +kernel
theorem dX4_parse_35 : decode cX4_parse 35 = .ok (.istore_n 2, 1) := by decide +kernel
theorem dX4_parse_36 : decode cX4_parse 36 = .ok (.aload_n 1, 1) := by decide +kernel
theorem dX4_parse_37 : decode cX4_parse 37 = .ok (.iload_n 2, 1) := by decide +kernel
theorem dX4_parse_38 : decode cX4_parse 38 = .ok (.invokevirtual 23, 3) := by decide +kernel
theorem dX4_parse_41 : decode cX4_parse 41 = .ok (.bipush 58, 2) := by decide +kernel
theorem dX4_parse_43 : decode cX4_parse 43 = .ok (.if_icmp .eq 5, 3) := by decide +kernel
theorem dX4_parse_46 : decode cX4_parse 46 = .ok (.iload_n 2, 1) := by decide +kernel
theorem dX4_parse_47 : decode cX4_parse 47 = .ok (.ireturn, 1) := by decide +kernel
theorem dX4_parse_48 : decode cX4_parse 48 = .ok (.aload_n 0, 1) := by decide +kernel
theorem dX4_parse_49 : decode cX4_parse 49 = .ok (.iload_n 3, 1) := by decide +kernel
theorem dX4_parse_50 : decode cX4_parse 50 = .ok (.putfield 15, 3) := by decide +kernel
theorem dX4_parse_53 : decode cX4_parse 53 = .ok (.aload_n 0, 1) := by decide +kernel
theorem dX4_parse_54 : decode cX4_parse 54 = .ok (.aload_n 1, 1) := by decide +kernel
theorem dX4_parse_55 : decode cX4_parse 55 = .ok (.iload_n 2, 1) := by decide +kernel
theorem dX4_parse_56 : decode cX4_parse 56 = .ok (.iconst 1, 1) := by decide +kernel
theorem dX4_parse_57 : decode cX4_parse 57 = .ok (.iadd, 1) := by decide +kernel
theorem dX4_parse_58 : decode cX4_parse 58 = .ok (.invokevirtual 29, 3) := by decide +kernel
theorem dX4_parse_61 : decode cX4_parse 61 = .ok (.ireturn, 1) := by decide +kernel
set_option maxRecDepth 20000 in
theorem ggX4_parseFaces_X5_size : GoodIn wsX4_parseFaces wsX5_size := goodIn_r _ [7, 8, 27, 28] (by decide +kernel) (by decide +kernel)
set_option maxRecDepth 20000 in
theorem gX4_parseFaces_X5_size : GoodIn wsX4_parseFaces (wsV RX4 32 RX5 yX5_size wsX5_size) := goodIn_app (goodIn_of _ (by decide +kernel)) ggX4_parseFaces_X5_size
set_option maxRecDepth 20000 in
theorem ggX4_parseFaces_X5_at : GoodIn wsX4_parseFaces wsX5_at := goodIn_r _ [12, 8, 13, 27, 28] (by decide +kernel) (by decide +kernel)
set_option maxRecDepth 20000 in
theorem gX4_parseFaces_X5_at : GoodIn wsX4_parseFaces (wsV RX4 23 RX5 yX5_at wsX5_at) := goodIn_app (goodIn_of _ (by decide +kernel)) ggX4_parseFaces_X5_at
set_option maxRecDepth 20000 in
theorem ggX4_parseFaces_X4_isBlank : GoodIn wsX4_parseFaces wsX4_isBlank := goodIn_r _ [17] (by decide +kernel) (by decide +kernel)
set_option maxRecDepth 20000 in
theorem gX4_parseFaces_X4_isBlank : GoodIn wsX4_parseFaces (va_wsS RX4 36 yX4_isBlank wsX4_isBlank) := goodIn_app (goodIn_of _ (by decide +kernel)) ggX4_parseFaces_X4_isBlank
set_option maxRecDepth 20000 in
theorem ggX4_parseFaces_X6_inside : GoodIn wsX4_parseFaces wsX6_inside := goodIn_r _ [21, 22, 23, 20, 24] (by decide +kernel) (by decide +kernel)
set_option maxRecDepth 20000 in
theorem gX4_parseFaces_X6_inside : GoodIn wsX4_parseFaces (va_wsS RX4 40 yX6_inside wsX6_inside) := goodIn_app (goodIn_of _ (by decide +kernel)) ggX4_parseFaces_X6_inside
theorem dX4_parseFaces_0 : decode cX4_parseFaces 0 = .ok (.aload_n 0, 1) := by decide +kernel
theorem dX4_parseFaces_1 : decode cX4_parseFaces 1 = .ok (.lconst 1, 1) := by decide +kernel
theorem dX4_parseFaces_2 : decode cX4_parseFaces 2 = .ok (.putfield 9, 3) := by decide +kernel
theorem dX4_parseFaces_5 : decode cX4_parseFaces 5 = .ok (.iconst (-1), 1) := by decide +kernel
theorem dX4_parseFaces_6 : decode cX4_parseFaces 6 = .ok (.istore_n 3, 1) := by decide +kernel
theorem dX4_parseFaces_7 : decode cX4_parseFaces 7 = .ok (.iconst 0, 1) := by decide +kernel
theorem dX4_parseFaces_8 : decode cX4_parseFaces 8 = .ok (.istore 4, 2) := by decide +kernel
theorem dX4_parseFaces_10 : decode cX4_parseFaces 10 = .ok (.iload_n 2, 1) := by decide +kernel
theorem dX4_parseFaces_11 : decode cX4_parseFaces 11 = .ok (.istore 5, 2) := by decide +kernel
theorem dX4_parseFaces_13 : decode cX4_parseFaces 13 = .ok (.iload 5, 2) := by decide +kernel
theorem dX4_parseFaces_15 : decode cX4_parseFaces 15 = .ok (.aload_n 1, 1) := by decide +kernel
theorem dX4_parseFaces_16 : decode cX4_parseFaces 16 = .ok (.invokevirtual 32, 3) := by decide +kernel
theorem dX4_parseFaces_19 : decode cX4_parseFaces 19 = .ok (.if_icmp .ge 84, 3) := by decide +kernel
theorem dX4_parseFaces_22 : decode cX4_parseFaces 22 = .ok (.aload_n 1, 1) := by decide +kernel
theorem dX4_parseFaces_23 : decode cX4_parseFaces 23 = .ok (.iload 5, 2) := by decide +kernel
theorem dX4_parseFaces_25 : decode cX4_parseFaces 25 = .ok (.invokevirtual 23, 3) := by decide +kernel
theorem dX4_parseFaces_28 : decode cX4_parseFaces 28 = .ok (.istore 6, 2) := by decide +kernel
theorem dX4_parseFaces_30 : decode cX4_parseFaces 30 = .ok (.iload 6, 2) := by decide +kernel
theorem dX4_parseFaces_32 : decode cX4_parseFaces 32 = .ok (.invokestatic 36, 3) := by decide +kernel
theorem dX4_parseFaces_35 : decode cX4_parseFaces 35 = .ok (.ifCond .eq 25, 3) := by decide +kernel
theorem dX4_parseFaces_38 : decode cX4_parseFaces 38 = .ok (.aload_n 0, 1) := by decide +kernel
theorem dX4_parseFaces_39 : decode cX4_parseFaces 39 = .ok (.dup, 1) := by decide +kernel
theorem dX4_parseFaces_40 : decode cX4_parseFaces 40 = .ok (.getfield 9, 3) := by decide +kernel
theorem dX4_parseFaces_43 : decode cX4_parseFaces 43 = .ok (.iload 4, 2) := by decide +kernel
theorem dX4_parseFaces_45 : decode cX4_parseFaces 45 = .ok (.invokestatic 40, 3) := by decide +kernel
theorem dX4_parseFaces_48 : decode cX4_parseFaces 48 = .ok (.lor, 1) := by decide +kernel
theorem dX4_parseFaces_49 : decode cX4_parseFaces 49 = .ok (.putfield 9, 3) := by decide +kernel
theorem dX4_parseFaces_52 : decode cX4_parseFaces 52 = .ok (.iconst (-1), 1) := by decide +kernel
theorem dX4_parseFaces_53 : decode cX4_parseFaces 53 = .ok (.istore_n 3, 1) := by decide +kernel
theorem dX4_parseFaces_54 : decode cX4_parseFaces 54 = .ok (.iconst 0, 1) := by decide +kernel
theorem dX4_parseFaces_55 : decode cX4_parseFaces 55 = .ok (.istore 4, 2) := by decide +kernel
theorem dX4_parseFaces_57 : decode cX4_parseFaces 57 = .ok (.goto 40, 3) := by decide +kernel
theorem dX4_parseFaces_60 : decode cX4_parseFaces 60 = .ok (.iload 6, 2) := by decide +kernel
theorem dX4_parseFaces_62 : decode cX4_parseFaces 62 = .ok (.bipush 48, 2) := by decide +kernel
theorem dX4_parseFaces_64 : decode cX4_parseFaces 64 = .ok (.isub, 1) := by decide +kernel
theorem dX4_parseFaces_65 : decode cX4_parseFaces 65 = .ok (.istore 7, 2) := by decide +kernel
theorem dX4_parseFaces_67 : decode cX4_parseFaces 67 = .ok (.iload 7, 2) := by decide +kernel
theorem dX4_parseFaces_69 : decode cX4_parseFaces 69 = .ok (.iload_n 3, 1) := by decide +kernel
theorem dX4_parseFaces_70 : decode cX4_parseFaces 70 = .ok (.if_icmp .le 12, 3) := by decide +kernel
theorem dX4_parseFaces_73 : decode cX4_parseFaces 73 = .ok (.iload 7, 2) := by decide +kernel
theorem dX4_parseFaces_75 : decode cX4_parseFaces 75 = .ok (.aload_n 0, 1) := by decide +kernel
theorem dX4_parseFaces_76 : decode cX4_parseFaces 76 = .ok (.getfield 15, 3) := by decide +kernel
theorem dX4_parseFaces_79 : decode cX4_parseFaces 79 = .ok (.if_icmp .lt 6, 3) := by decide +kernel
theorem dX4_parseFaces_82 : decode cX4_parseFaces 82 = .ok (.iload 5, 2) := by decide +kernel
theorem dX4_parseFaces_84 : decode cX4_parseFaces 84 = .ok (.ireturn, 1) := by decide +kernel
theorem dX4_parseFaces_85 : decode cX4_parseFaces 85 = .ok (.iload 4, 2) := by decide +kernel
theorem dX4_parseFaces_87 : decode cX4_parseFaces 87 = .ok (.iconst 1, 1) := by decide +kernel
theorem dX4_parseFaces_88 : decode cX4_parseFaces 88 = .ok (.iload 7, 2) := by decide +kernel
theorem dX4_parseFaces_90 : decode cX4_parseFaces 90 = .ok (.ishl, 1) := by decide +kernel
theorem dX4_parseFaces_91 : decode cX4_parseFaces 91 = .ok (.ior, 1) := by decide +kernel
theorem dX4_parseFaces_92 : decode cX4_parseFaces 92 = .ok (.istore 4, 2) := by decide +kernel
theorem dX4_parseFaces_94 : decode cX4_parseFaces 94 = .ok (.iload 7, 2) := by decide +kernel
theorem dX4_parseFaces_96 : decode cX4_parseFaces 96 = .ok (.istore_n 3, 1) := by decide +kernel
theorem dX4_parseFaces_97 : decode cX4_parseFaces 97 = .ok (.iinc 5 1, 3) := by decide +kernel
theorem dX4_parseFaces_100 : decode cX4_parseFaces 100 = .ok (.goto (-87), 3) := by decide +kernel
theorem dX4_parseFaces_103 : decode cX4_parseFaces 103 = .ok (.aload_n 0, 1) := by decide +kernel
theorem dX4_parseFaces_104 : decode cX4_parseFaces 104 = .ok (.dup, 1) := by decide +kernel
theorem dX4_parseFaces_105 : decode cX4_parseFaces 105 = .ok (.getfield 9, 3) := by decide +kernel
theorem dX4_parseFaces_108 : decode cX4_parseFaces 108 = .ok (.iload 4, 2) := by decide +kernel
theorem dX4_parseFaces_110 : decode cX4_parseFaces 110 = .ok (.invokestatic 40, 3) := by decide +kernel
theorem dX4_parseFaces_113 : decode cX4_parseFaces 113 = .ok (.lor, 1) := by decide +kernel
theorem dX4_parseFaces_114 : decode cX4_parseFaces 114 = .ok (.putfield 9, 3) := by decide +kernel
theorem dX4_parseFaces_117 : decode cX4_parseFaces 117 = .ok (.iconst (-1), 1) := by decide +kernel
theorem dX4_parseFaces_118 : decode cX4_parseFaces 118 = .ok (.ireturn, 1) := by decide +kernel
set_option maxRecDepth 20000 in
theorem ggX4_behindBlanks_X5_size : GoodIn wsX4_behindBlanks wsX5_size := goodIn_r _ [5, 6, 16, 17] (by decide +kernel) (by decide +kernel)
set_option maxRecDepth 20000 in
theorem gX4_behindBlanks_X5_size : GoodIn wsX4_behindBlanks (wsV RX4 32 RX5 yX5_size wsX5_size) := goodIn_app (goodIn_of _ (by decide +kernel)) ggX4_behindBlanks_X5_size
set_option maxRecDepth 20000 in
theorem ggX4_behindBlanks_X5_at : GoodIn wsX4_behindBlanks wsX5_at := goodIn_r _ [10, 6, 11, 16, 17] (by decide +kernel) (by decide +kernel)
set_option maxRecDepth 20000 in
theorem gX4_behindBlanks_X5_at : GoodIn wsX4_behindBlanks (wsV RX4 23 RX5 yX5_at wsX5_at) := goodIn_app (goodIn_of _ (by decide +kernel)) ggX4_behindBlanks_X5_at
set_option maxRecDepth 20000 in
theorem ggX4_behindBlanks_X4_isBlank : GoodIn wsX4_behindBlanks wsX4_isBlank := goodIn_r _ [15] (by decide +kernel) (by decide +kernel)
set_option maxRecDepth 20000 in
theorem gX4_behindBlanks_X4_isBlank : GoodIn wsX4_behindBlanks (va_wsS RX4 36 yX4_isBlank wsX4_isBlank) := goodIn_app (goodIn_of _ (by decide +kernel)) ggX4_behindBlanks_X4_isBlank
theorem dX4_behindBlanks_0 : decode cX4_behindBlanks 0 = .ok (.iload_n 1, 1) := by decide +kernel
theorem dX4_behindBlanks_1 : decode cX4_behindBlanks 1 = .ok (.istore_n 2, 1) := by decide +kernel
theorem dX4_behindBlanks_2 : decode cX4_behindBlanks 2 = .ok (.iload_n 2, 1) := by decide +kernel
theorem dX4_behindBlanks_3 : decode cX4_behindBlanks 3 = .ok (.aload_n 0, 1) := by decide +kernel
theorem dX4_behindBlanks_4 : decode cX4_behindBlanks 4 = .ok (.invokevirtual 32, 3) := by decide +kernel
theorem dX4_behindBlanks_7 : decode cX4_behindBlanks 7 = .ok (.if_icmp .ge 22, 3) := by decide +kernel
theorem dX4_behindBlanks_10 : decode cX4_behindBlanks 10 = .ok (.aload_n 0, 1) := by decide +kernel
theorem dX4_behindBlanks_11 : decode cX4_behindBlanks 11 = .ok (.iload_n 2, 1) := by decide +kernel
theorem dX4_behindBlanks_12 : decode cX4_behindBlanks 12 = .ok (.invokevirtual 23, 3) := by decide +kernel
theorem dX4_behindBlanks_15 : decode cX4_behindBlanks 15 = .ok (.invokestatic 36, 3) := by decide +kernel
theorem dX4_behindBlanks_18 : decode cX4_behindBlanks 18 = .ok (.ifCond .ne 5, 3) := by decide +kernel
theorem dX4_behindBlanks_21 : decode cX4_behindBlanks 21 = .ok (.iload_n 2, 1) := by decide +kernel
theorem dX4_behindBlanks_22 : decode cX4_behindBlanks 22 = .ok (.ireturn, 1) := by decide +kernel
theorem dX4_behindBlanks_23 : decode cX4_behindBlanks 23 = .ok (.iinc 2 1, 3) := by decide +kernel
theorem dX4_behindBlanks_26 : decode cX4_behindBlanks 26 = .ok (.goto (-24), 3) := by decide +kernel
theorem dX4_behindBlanks_29 : decode cX4_behindBlanks 29 = .ok (.aload_n 0, 1) := by decide +kernel
theorem dX4_behindBlanks_30 : decode cX4_behindBlanks 30 = .ok (.invokevirtual 32, 3) := by decide +kernel
theorem dX4_behindBlanks_33 : decode cX4_behindBlanks 33 = .ok (.ireturn, 1) := by decide +kernel
theorem dX4_isBlank_0 : decode cX4_isBlank 0 = .ok (.iload_n 0, 1) := by decide +kernel
theorem dX4_isBlank_1 : decode cX4_isBlank 1 = .ok (.bipush 32, 2) := by decide +kernel
theorem dX4_isBlank_3 : decode cX4_isBlank 3 = .ok (.if_icmp .eq 9, 3) := by decide +kernel
theorem dX4_isBlank_6 : decode cX4_isBlank 6 = .ok (.iload_n 0, 1) := by decide +kernel
theorem dX4_isBlank_7 : decode cX4_isBlank 7 = .ok (.bipush 10, 2) := by decide +kernel
theorem dX4_isBlank_9 : decode cX4_isBlank 9 = .ok (.if_icmp .ne 7, 3) := by decide +kernel
theorem dX4_isBlank_12 : decode cX4_isBlank 12 = .ok (.iconst 1, 1) := by decide +kernel
theorem dX4_isBlank_13 : decode cX4_isBlank 13 = .ok (.goto 4, 3) := by decide +kernel
theorem dX4_isBlank_16 : decode cX4_isBlank 16 = .ok (.iconst 0, 1) := by decide +kernel
theorem dX4_isBlank_17 : decode cX4_isBlank 17 = .ok (.ireturn, 1) := by decide +kernel
theorem dX5_init_0 : decode cX5_init 0 = .ok (.aload_n 0, 1) := by decide +kernel
theorem dX5_init_1 : decode cX5_init 1 = .ok (.invokespecial 3, 3) := by decide +kernel
theorem dX5_init_4 : decode cX5_init 4 = .ok (.aload_n 0, 1) := by decide +kernel
theorem dX5_init_5 : decode cX5_init 5 = .ok (.sipush 200, 3) := by decide +kernel
theorem dX5_init_8 : decode cX5_init 8 = .ok (.newarray .int, 2) := by decide +kernel
theorem dX5_init_10 : decode cX5_init 10 = .ok (.putfield 9, 3) := by decide +kernel
theorem dX5_init_13 : decode cX5_init 13 = .ok (.return_, 1) := by decide +kernel
theorem dX5_size_0 : decode cX5_size 0 = .ok (.aload_n 0, 1) := by decide +kernel
theorem dX5_size_1 : decode cX5_size 1 = .ok (.getfield 15, 3) := by decide +kernel
theorem dX5_size_4 : decode cX5_size 4 = .ok (.ireturn, 1) := by decide +kernel
theorem dX5_at_0 : decode cX5_at 0 = .ok (.iload_n 1, 1) := by decide +kernel
theorem dX5_at_1 : decode cX5_at 1 = .ok (.ifCond .lt 27, 3) := by decide +kernel
theorem dX5_at_4 : decode cX5_at 4 = .ok (.iload_n 1, 1) := by decide +kernel
theorem dX5_at_5 : decode cX5_at 5 = .ok (.aload_n 0, 1) := by decide +kernel
theorem dX5_at_6 : decode cX5_at 6 = .ok (.getfield 15, 3) := by decide +kernel
theorem dX5_at_9 : decode cX5_at 9 = .ok (.if_icmp .ge 19, 3) := by decide +kernel
theorem dX5_at_12 : decode cX5_at 12 = .ok (.iload_n 1, 1) := by decide +kernel
theorem dX5_at_13 : decode cX5_at 13 = .ok (.sipush 200, 3) := by decide +kernel
theorem dX5_at_16 : decode cX5_at 16 = .ok (.if_icmp .ge 12, 3) := by decide +kernel
theorem dX5_at_19 : decode cX5_at 19 = .ok (.aload_n 0, 1) := by decide +kernel
theorem dX5_at_20 : decode cX5_at 20 = .ok (.getfield 9, 3) := by decide +kernel
theorem dX5_at_23 : decode cX5_at 23 = .ok (.iload_n 1, 1) := by decide +kernel
theorem dX5_at_24 : decode cX5_at 24 = .ok (.iaload, 1) := by decide +kernel
theorem dX5_at_25 : decode cX5_at 25 = .ok (.goto 4, 3) := by decide +kernel
theorem dX5_at_28 : decode cX5_at 28 = .ok (.iconst (-1), 1) := by decide +kernel
theorem dX5_at_29 : decode cX5_at 29 = .ok (.ireturn, 1) := by decide +kernel
theorem dX5_add_0 : decode cX5_add 0 = .ok (.aload_n 0, 1) := by decide +kernel
theorem dX5_add_1 : decode cX5_add 1 = .ok (.getfield 15, 3) := by decide +kernel
theorem dX5_add_4 : decode cX5_add 4 = .ok (.ifCond .lt 37, 3) := by decide +kernel
theorem dX5_add_7 : decode cX5_add 7 = .ok (.aload_n 0, 1) := by decide +kernel
theorem dX5_add_8 : decode cX5_add 8 = .ok (.getfield 15, 3) := by decide +kernel
theorem dX5_add_11 : decode cX5_add 11 = .ok (.sipush 200, 3) := by decide +kernel
theorem dX5_add_14 : decode cX5_add 14 = .ok (.if_icmp .ge 27, 3) := by decide +kernel
theorem dX5_add_17 : decode cX5_add 17 = .ok (.aload_n 0, 1) := by decide +kernel
theorem dX5_add_18 : decode cX5_add 18 = .ok (.getfield 9, 3) := by decide +kernel
theorem dX5_add_21 : decode cX5_add 21 = .ok (.aload_n 0, 1) := by decide +kernel
theorem dX5_add_22 : decode cX5_add 22 = .ok (.getfield 15, 3) := by decide +kernel
theorem dX5_add_25 : decode cX5_add 25 = .ok (.iload_n 1, 1) := by decide +kernel
theorem dX5_add_26 : decode cX5_add 26 = .ok (.sipush 255, 3) := by decide +kernel
theorem dX5_add_29 : decode cX5_add 29 = .ok (.iand, 1) := by decide +kernel
theorem dX5_add_30 : decode cX5_add 30 = .ok (.iastore, 1) := by decide +kernel
theorem dX5_add_31 : decode cX5_add 31 = .ok (.aload_n 0, 1) := by decide +kernel
theorem dX5_add_32 : decode cX5_add 32 = .ok (.dup, 1) := by decide +kernel
theorem dX5_add_33 : decode cX5_add 33 = .ok (.getfield 15, 3) := by decide +kernel
theorem dX5_add_36 : decode cX5_add 36 = .ok (.iconst 1, 1) := by decide +kernel
theorem dX5_add_37 : decode cX5_add 37 = .ok (.iadd, 1) := by decide +kernel
theorem dX5_add_38 : decode cX5_add 38 = .ok (.putfield 15, 3) := by decide +kernel
theorem dX5_add_41 : decode cX5_add 41 = .ok (.return_, 1) := by decide +kernel
set_option maxRecDepth 20000 in
theorem ggX5_addNumber_X5_add : GoodIn wsX5_addNumber wsX5_add := goodIn_r _ [5, 6, 7, 8, 9] (by decide +kernel) (by decide +kernel)
set_option maxRecDepth 20000 in
theorem gX5_addNumber_X5_add : GoodIn wsX5_addNumber (wsV RX5 19 RX5 yX5_add wsX5_add) := goodIn_app (goodIn_of _ (by decide +kernel)) ggX5_addNumber_X5_add
theorem dX5_addNumber_0 : decode cX5_addNumber 0 = .ok (.aload_n 0, 1) := by decide +kernel
theorem dX5_addNumber_1 : decode cX5_addNumber 1 = .ok (.iload_n 1, 1) := by decide +kernel
theorem dX5_addNumber_2 : decode cX5_addNumber 2 = .ok (.bipush 24, 2) := by decide +kernel
theorem dX5_addNumber_4 : decode cX5_addNumber 4 = .ok (.iushr, 1) := by decide +kernel
theorem dX5_addNumber_5 : decode cX5_addNumber 5 = .ok (.invokevirtual 19, 3) := by decide +kernel
theorem dX5_addNumber_8 : decode cX5_addNumber 8 = .ok (.aload_n 0, 1) := by decide +kernel
theorem dX5_addNumber_9 : decode cX5_addNumber 9 = .ok (.iload_n 1, 1) := by decide +kernel
theorem dX5_addNumber_10 : decode cX5_addNumber 10 = .ok (.bipush 16, 2) := by decide +kernel
theorem dX5_addNumber_12 : decode cX5_addNumber 12 = .ok (.iushr, 1) := by decide +kernel
theorem dX5_addNumber_13 : decode cX5_addNumber 13 = .ok (.invokevirtual 19, 3) := by decide +kernel
theorem dX5_addNumber_16 : decode cX5_addNumber 16 = .ok (.aload_n 0, 1) := by decide +kernel
theorem dX5_addNumber_17 : decode cX5_addNumber 17 = .ok (.iload_n 1, 1) := by decide +kernel
theorem dX5_addNumber_18 : decode cX5_addNumber 18 = .ok (.bipush 8, 2) := by decide +kernel
theorem dX5_addNumber_20 : decode cX5_addNumber 20 = .ok (.iushr, 1) := by decide +kernel
theorem dX5_addNumber_21 : decode cX5_addNumber 21 = .ok (.invokevirtual 19, 3) := by decide +kernel
theorem dX5_addNumber_24 : decode cX5_addNumber 24 = .ok (.aload_n 0, 1) := by decide +kernel
theorem dX5_addNumber_25 : decode cX5_addNumber 25 = .ok (.iload_n 1, 1) := by decide +kernel
theorem dX5_addNumber_26 : decode cX5_addNumber 26 = .ok (.invokevirtual 19, 3) := by decide +kernel
theorem dX5_addNumber_29 : decode cX5_addNumber 29 = .ok (.return_, 1) := by decide +kernel
set_option maxRecDepth 20000 in
theorem ggX5_addDigitsOf_X6_hasPoint : GoodIn wsX5_addDigitsOf wsX6_hasPoint := goodIn_r _ [4] (by decide +kernel) (by decide +kernel)
set_option maxRecDepth 20000 in
theorem gX5_addDigitsOf_X6_hasPoint : GoodIn wsX5_addDigitsOf (va_wsS RX5 23 yX6_hasPoint wsX6_hasPoint) := goodIn_app (goodIn_of _ (by decide +kernel)) ggX5_addDigitsOf_X6_hasPoint
set_option maxRecDepth 20000 in
theorem ggX5_addDigitsOf_X5_add : GoodIn wsX5_addDigitsOf wsX5_add := goodIn_r _ [9, 10, 11, 12, 13] (by decide +kernel) (by decide +kernel)
set_option maxRecDepth 20000 in
theorem gX5_addDigitsOf_X5_add : GoodIn wsX5_addDigitsOf (wsV RX5 19 RX5 yX5_add wsX5_add) := goodIn_app (goodIn_of _ (by decide +kernel)) ggX5_addDigitsOf_X5_add
theorem dX5_addDigitsOf_0 : decode cX5_addDigitsOf 0 = .ok (.iconst 0, 1) := by decide +kernel
theorem dX5_addDigitsOf_1 : decode cX5_addDigitsOf 1 = .ok (.istore_n 2, 1) := by decide +kernel
theorem dX5_addDigitsOf_2 : decode cX5_addDigitsOf 2 = .ok (.iload_n 2, 1) := by decide +kernel
theorem dX5_addDigitsOf_3 : decode cX5_addDigitsOf 3 = .ok (.bipush 6, 2) := by decide +kernel
theorem dX5_addDigitsOf_5 : decode cX5_addDigitsOf 5 = .ok (.if_icmp .ge 25, 3) := by decide +kernel
theorem dX5_addDigitsOf_8 : decode cX5_addDigitsOf 8 = .ok (.iload_n 1, 1) := by decide +kernel
theorem dX5_addDigitsOf_9 : decode cX5_addDigitsOf 9 = .ok (.iload_n 2, 1) := by decide +kernel
theorem dX5_addDigitsOf_10 : decode cX5_addDigitsOf 10 = .ok (.invokestatic 23, 3) := by decide +kernel
theorem dX5_addDigitsOf_13 : decode cX5_addDigitsOf 13 = .ok (.ifCond .eq 11, 3) := by decide +kernel
theorem dX5_addDigitsOf_16 : decode cX5_addDigitsOf 16 = .ok (.aload_n 0, 1) := by decide +kernel
theorem dX5_addDigitsOf_17 : decode cX5_addDigitsOf 17 = .ok (.bipush 48, 2) := by decide +kernel
theorem dX5_addDigitsOf_19 : decode cX5_addDigitsOf 19 = .ok (.iload_n 2, 1) := by decide +kernel
theorem dX5_addDigitsOf_20 : decode cX5_addDigitsOf 20 = .ok (.iadd, 1) := by decide +kernel
theorem dX5_addDigitsOf_21 : decode cX5_addDigitsOf 21 = .ok (.invokevirtual 19, 3) := by decide +kernel
theorem dX5_addDigitsOf_24 : decode cX5_addDigitsOf 24 = .ok (.iinc 2 1, 3) := by decide +kernel
theorem dX5_addDigitsOf_27 : decode cX5_addDigitsOf 27 = .ok (.goto (-25), 3) := by decide +kernel
theorem dX5_addDigitsOf_30 : decode cX5_addDigitsOf 30 = .ok (.return_, 1) := by decide +kernel
theorem dX5_shorten_0 : decode cX5_shorten 0 = .ok (.iload_n 1, 1) := by decide +kernel
theorem dX5_shorten_1 : decode cX5_shorten 1 = .ok (.ifCond .lt 16, 3) := by decide +kernel
theorem dX5_shorten_4 : decode cX5_shorten 4 = .ok (.iload_n 1, 1) := by decide +kernel
theorem dX5_shorten_5 : decode cX5_shorten 5 = .ok (.aload_n 0, 1) := by decide +kernel
theorem dX5_shorten_6 : decode cX5_shorten 6 = .ok (.getfield 15, 3) := by decide +kernel
theorem dX5_shorten_9 : decode cX5_shorten 9 = .ok (.if_icmp .gt 8, 3) := by decide +kernel
theorem dX5_shorten_12 : decode cX5_shorten 12 = .ok (.aload_n 0, 1) := by decide +kernel
theorem dX5_shorten_13 : decode cX5_shorten 13 = .ok (.iload_n 1, 1) := by decide +kernel
theorem dX5_shorten_14 : decode cX5_shorten 14 = .ok (.putfield 15, 3) := by decide +kernel
theorem dX5_shorten_17 : decode cX5_shorten 17 = .ok (.return_, 1) := by decide +kernel
theorem dX6_holds_0 : decode cX6_holds 0 = .ok (.iload_n 2, 1) := by decide +kernel
theorem dX6_holds_1 : decode cX6_holds 1 = .ok (.ifCond .lt 23, 3) := by decide +kernel
theorem dX6_holds_4 : decode cX6_holds 4 = .ok (.iload_n 2, 1) := by decide +kernel
theorem dX6_holds_5 : decode cX6_holds 5 = .ok (.bipush 64, 2) := by decide +kernel
theorem dX6_holds_7 : decode cX6_holds 7 = .ok (.if_icmp .ge 17, 3) := by decide +kernel
theorem dX6_holds_10 : decode cX6_holds 10 = .ok (.lload_n 0, 1) := by decide +kernel
theorem dX6_holds_11 : decode cX6_holds 11 = .ok (.iload_n 2, 1) := by decide +kernel
theorem dX6_holds_12 : decode cX6_holds 12 = .ok (.lushr, 1) := by decide +kernel
theorem dX6_holds_13 : decode cX6_holds 13 = .ok (.lconst 1, 1) := by decide +kernel
theorem dX6_holds_14 : decode cX6_holds 14 = .ok (.land, 1) := by decide +kernel
theorem dX6_holds_15 : decode cX6_holds 15 = .ok (.lconst 0, 1) := by decide +kernel
theorem dX6_holds_16 : decode cX6_holds 16 = .ok (.lcmp, 1) := by decide +kernel
theorem dX6_holds_17 : decode cX6_holds 17 = .ok (.ifCond .eq 7, 3) := by decide +kernel
theorem dX6_holds_20 : decode cX6_holds 20 = .ok (.iconst 1, 1) := by decide +kernel
theorem dX6_holds_21 : decode cX6_holds 21 = .ok (.goto 4, 3) := by decide +kernel
theorem dX6_holds_24 : decode cX6_holds 24 = .ok (.iconst 0, 1) := by decide +kernel
theorem dX6_holds_25 : decode cX6_holds 25 = .ok (.ireturn, 1) := by decide +kernel
theorem dX6_hasPoint_0 : decode cX6_hasPoint 0 = .ok (.iload_n 0, 1) := by decide +kernel
theorem dX6_hasPoint_1 : decode cX6_hasPoint 1 = .ok (.iload_n 1, 1) := by decide +kernel
theorem dX6_hasPoint_2 : decode cX6_hasPoint 2 = .ok (.iushr, 1) := by decide +kernel
theorem dX6_hasPoint_3 : decode cX6_hasPoint 3 = .ok (.iconst 1, 1) := by decide +kernel
theorem dX6_hasPoint_4 : decode cX6_hasPoint 4 = .ok (.iand, 1) := by decide +kernel
theorem dX6_hasPoint_5 : decode cX6_hasPoint 5 = .ok (.ifCond .eq 7, 3) := by decide +kernel
theorem dX6_hasPoint_8 : decode cX6_hasPoint 8 = .ok (.iconst 1, 1) := by decide +kernel
theorem dX6_hasPoint_9 : decode cX6_hasPoint 9 = .ok (.goto 4, 3) := by decide +kernel
theorem dX6_hasPoint_12 : decode cX6_hasPoint 12 = .ok (.iconst 0, 1) := by decide +kernel
theorem dX6_hasPoint_13 : decode cX6_hasPoint 13 = .ok (.ireturn, 1) := by decide +kernel
theorem dX6_ofSize_0 : decode cX6_ofSize 0 = .ok (.iload_n 0, 1) := by decide +kernel
theorem dX6_ofSize_1 : decode cX6_ofSize 1 = .ok (.ifCond .lt 19, 3) := by decide +kernel
theorem dX6_ofSize_4 : decode cX6_ofSize 4 = .ok (.iload_n 0, 1) := by decide +kernel
theorem dX6_ofSize_5 : decode cX6_ofSize 5 = .ok (.getstatic 9, 3) := by decide +kernel
theorem dX6_ofSize_8 : decode cX6_ofSize 8 = .ok (.arraylength, 1) := by decide +kernel
theorem dX6_ofSize_9 : decode cX6_ofSize 9 = .ok (.if_icmp .ge 11, 3) := by decide +kernel
theorem dX6_ofSize_12 : decode cX6_ofSize 12 = .ok (.getstatic 9, 3) := by decide +kernel
theorem dX6_ofSize_15 : decode cX6_ofSize 15 = .ok (.iload_n 0, 1) := by decide +kernel
theorem dX6_ofSize_16 : decode cX6_ofSize 16 = .ok (.laload, 1) := by decide +kernel
theorem dX6_ofSize_17 : decode cX6_ofSize 17 = .ok (.goto 4, 3) := by decide +kernel
theorem dX6_ofSize_20 : decode cX6_ofSize 20 = .ok (.lconst 0, 1) := by decide +kernel
theorem dX6_ofSize_21 : decode cX6_ofSize 21 = .ok (.lreturn, 1) := by decide +kernel
set_option maxRecDepth 20000 in
theorem ggX6_inside_X6_hasPoint : GoodIn wsX6_inside wsX6_hasPoint := goodIn_r _ [4] (by decide +kernel) (by decide +kernel)
set_option maxRecDepth 20000 in
theorem gX6_inside_X6_hasPoint : GoodIn wsX6_inside (va_wsS RX6 15 yX6_hasPoint wsX6_hasPoint) := goodIn_app (goodIn_of _ (by decide +kernel)) ggX6_inside_X6_hasPoint
theorem dX6_inside_0 : decode cX6_inside 0 = .ok (.lconst 1, 1) := by decide +kernel
theorem dX6_inside_1 : decode cX6_inside 1 = .ok (.lstore_n 1, 1) := by decide +kernel
theorem dX6_inside_2 : decode cX6_inside 2 = .ok (.iconst 0, 1) := by decide +kernel
theorem dX6_inside_3 : decode cX6_inside 3 = .ok (.istore_n 3, 1) := by decide +kernel
theorem dX6_inside_4 : decode cX6_inside 4 = .ok (.iload_n 3, 1) := by decide +kernel
theorem dX6_inside_5 : decode cX6_inside 5 = .ok (.bipush 6, 2) := by decide +kernel
theorem dX6_inside_7 : decode cX6_inside 7 = .ok (.if_icmp .ge 25, 3) := by decide +kernel
theorem dX6_inside_10 : decode cX6_inside 10 = .ok (.iload_n 0, 1) := by decide +kernel
theorem dX6_inside_11 : decode cX6_inside 11 = .ok (.iload_n 3, 1) := by decide +kernel
theorem dX6_inside_12 : decode cX6_inside 12 = .ok (.invokestatic 15, 3) := by decide +kernel
theorem dX6_inside_15 : decode cX6_inside 15 = .ok (.ifCond .eq 11, 3) := by decide +kernel
theorem dX6_inside_18 : decode cX6_inside 18 = .ok (.lload_n 1, 1) := by decide +kernel
theorem dX6_inside_19 : decode cX6_inside 19 = .ok (.lload_n 1, 1) := by decide +kernel
theorem dX6_inside_20 : decode cX6_inside 20 = .ok (.iconst 1, 1) := by decide +kernel
theorem dX6_inside_21 : decode cX6_inside 21 = .ok (.iload_n 3, 1) := by decide +kernel
theorem dX6_inside_22 : decode cX6_inside 22 = .ok (.ishl, 1) := by decide +kernel
theorem dX6_inside_23 : decode cX6_inside 23 = .ok (.lshl, 1) := by decide +kernel
theorem dX6_inside_24 : decode cX6_inside 24 = .ok (.lor, 1) := by decide +kernel
theorem dX6_inside_25 : decode cX6_inside 25 = .ok (.lstore_n 1, 1) := by decide +kernel
theorem dX6_inside_26 : decode cX6_inside 26 = .ok (.iinc 3 1, 3) := by decide +kernel
theorem dX6_inside_29 : decode cX6_inside 29 = .ok (.goto (-25), 3) := by decide +kernel
theorem dX6_inside_32 : decode cX6_inside 32 = .ok (.lload_n 1, 1) := by decide +kernel
theorem dX6_inside_33 : decode cX6_inside 33 = .ok (.lreturn, 1) := by decide +kernel
set_option maxRecDepth 20000 in
theorem ggX6_around_X6_inside : GoodIn wsX6_around wsX6_inside := goodIn_r _ [4, 5, 6, 3, 7] (by decide +kernel) (by decide +kernel)
set_option maxRecDepth 20000 in
theorem gX6_around_X6_inside : GoodIn wsX6_around (va_wsS RX6 19 yX6_inside wsX6_inside) := goodIn_app (goodIn_of _ (by decide +kernel)) ggX6_around_X6_inside
theorem dX6_around_0 : decode cX6_around 0 = .ok (.bipush 63, 2) := by decide +kernel
theorem dX6_around_2 : decode cX6_around 2 = .ok (.iload_n 0, 1) := by decide +kernel
theorem dX6_around_3 : decode cX6_around 3 = .ok (.iconst (-1), 1) := by decide +kernel
theorem dX6_around_4 : decode cX6_around 4 = .ok (.ixor, 1) := by decide +kernel
theorem dX6_around_5 : decode cX6_around 5 = .ok (.iand, 1) := by decide +kernel
theorem dX6_around_6 : decode cX6_around 6 = .ok (.invokestatic 19, 3) := by decide +kernel
theorem dX6_around_9 : decode cX6_around 9 = .ok (.iload_n 0, 1) := by decide +kernel
theorem dX6_around_10 : decode cX6_around 10 = .ok (.lshl, 1) := by decide +kernel
theorem dX6_around_11 : decode cX6_around 11 = .ok (.lreturn, 1) := by decide +kernel
set_option maxRecDepth 20000 in
theorem ggX6_below_X6_hasPoint : GoodIn wsX6_below wsX6_hasPoint := goodIn_r _ [4] (by decide +kernel) (by decide +kernel)
set_option maxRecDepth 20000 in
theorem gX6_below_X6_hasPoint : GoodIn wsX6_below (va_wsS RX6 15 yX6_hasPoint wsX6_hasPoint) := goodIn_app (goodIn_of _ (by decide +kernel)) ggX6_below_X6_hasPoint
theorem dX6_below_0 : decode cX6_below 0 = .ok (.lconst 0, 1) := by decide +kernel
theorem dX6_below_1 : decode cX6_below 1 = .ok (.lstore_n 1, 1) := by decide +kernel
theorem dX6_below_2 : decode cX6_below 2 = .ok (.iconst 0, 1) := by decide +kernel
theorem dX6_below_3 : decode cX6_below 3 = .ok (.istore_n 3, 1) := by decide +kernel
theorem dX6_below_4 : decode cX6_below 4 = .ok (.iload_n 3, 1) := by decide +kernel
theorem dX6_below_5 : decode cX6_below 5 = .ok (.bipush 6, 2) := by decide +kernel
theorem dX6_below_7 : decode cX6_below 7 = .ok (.if_icmp .ge 29, 3) := by decide +kernel
theorem dX6_below_10 : decode cX6_below 10 = .ok (.iload_n 0, 1) := by decide +kernel
theorem dX6_below_11 : decode cX6_below 11 = .ok (.iload_n 3, 1) := by decide +kernel
theorem dX6_below_12 : decode cX6_below 12 = .ok (.invokestatic 15, 3) := by decide +kernel
theorem dX6_below_15 : decode cX6_below 15 = .ok (.ifCond .eq 15, 3) := by decide +kernel
theorem dX6_below_18 : decode cX6_below 18 = .ok (.lload_n 1, 1) := by decide +kernel
theorem dX6_below_19 : decode cX6_below 19 = .ok (.lconst 1, 1) := by decide +kernel
theorem dX6_below_20 : decode cX6_below 20 = .ok (.iload_n 0, 1) := by decide +kernel
theorem dX6_below_21 : decode cX6_below 21 = .ok (.iconst 1, 1) := by decide +kernel
theorem dX6_below_22 : decode cX6_below 22 = .ok (.iload_n 3, 1) := by decide +kernel
theorem dX6_below_23 : decode cX6_below 23 = .ok (.ishl, 1) := by decide +kernel
theorem dX6_below_24 : decode cX6_below 24 = .ok (.iconst (-1), 1) := by decide +kernel
theorem dX6_below_25 : decode cX6_below 25 = .ok (.ixor, 1) := by decide +kernel
theorem dX6_below_26 : decode cX6_below 26 = .ok (.iand, 1) := by decide +kernel
theorem dX6_below_27 : decode cX6_below 27 = .ok (.lshl, 1) := by decide +kernel
theorem dX6_below_28 : decode cX6_below 28 = .ok (.lor, 1) := by decide +kernel
theorem dX6_below_29 : decode cX6_below 29 = .ok (.lstore_n 1, 1) := by decide +kernel
theorem dX6_below_30 : decode cX6_below 30 = .ok (.iinc 3 1, 3) := by decide +kernel
theorem dX6_below_33 : decode cX6_below 33 = .ok (.goto (-29), 3) := by decide +kernel
theorem dX6_below_36 : decode cX6_below 36 = .ok (.lload_n 1, 1) := by decide +kernel
theorem dX6_below_37 : decode cX6_below 37 = .ok (.lreturn, 1) := by decide +kernel
set_option maxRecDepth 20000 in
theorem ggX6_above_X6_hasPoint : GoodIn wsX6_above wsX6_hasPoint := goodIn_r _ [4] (by decide +kernel) (by decide +kernel)
set_option maxRecDepth 20000 in
theorem gX6_above_X6_hasPoint : GoodIn wsX6_above (va_wsS RX6 15 yX6_hasPoint wsX6_hasPoint) := goodIn_app (goodIn_of _ (by decide +kernel)) ggX6_above_X6_hasPoint
theorem dX6_above_0 : decode cX6_above 0 = .ok (.lconst 0, 1) := by decide +kernel
theorem dX6_above_1 : decode cX6_above 1 = .ok (.lstore_n 1, 1) := by decide +kernel
theorem dX6_above_2 : decode cX6_above 2 = .ok (.iconst 0, 1) := by decide +kernel
theorem dX6_above_3 : decode cX6_above 3 = .ok (.istore_n 3, 1) := by decide +kernel
theorem dX6_above_4 : decode cX6_above 4 = .ok (.iload_n 3, 1) := by decide +kernel
theorem dX6_above_5 : decode cX6_above 5 = .ok (.bipush 6, 2) := by decide +kernel
theorem dX6_above_7 : decode cX6_above 7 = .ok (.if_icmp .ge 27, 3) := by decide +kernel
theorem dX6_above_10 : decode cX6_above 10 = .ok (.iload_n 0, 1) := by decide +kernel
theorem dX6_above_11 : decode cX6_above 11 = .ok (.iload_n 3, 1) := by decide +kernel
theorem dX6_above_12 : decode cX6_above 12 = .ok (.invokestatic 15, 3) := by decide +kernel
theorem dX6_above_15 : decode cX6_above 15 = .ok (.ifCond .ne 13, 3) := by decide +kernel
theorem dX6_above_18 : decode cX6_above 18 = .ok (.lload_n 1, 1) := by decide +kernel
theorem dX6_above_19 : decode cX6_above 19 = .ok (.lconst 1, 1) := by decide +kernel
theorem dX6_above_20 : decode cX6_above 20 = .ok (.iload_n 0, 1) := by decide +kernel
theorem dX6_above_21 : decode cX6_above 21 = .ok (.iconst 1, 1) := by decide +kernel
theorem dX6_above_22 : decode cX6_above 22 = .ok (.iload_n 3, 1) := by decide +kernel
theorem dX6_above_23 : decode cX6_above 23 = .ok (.ishl, 1) := by decide +kernel
theorem dX6_above_24 : decode cX6_above 24 = .ok (.ior, 1) := by decide +kernel
theorem dX6_above_25 : decode cX6_above 25 = .ok (.lshl, 1) := by decide +kernel
theorem dX6_above_26 : decode cX6_above 26 = .ok (.lor, 1) := by decide +kernel
theorem dX6_above_27 : decode cX6_above 27 = .ok (.lstore_n 1, 1) := by decide +kernel
theorem dX6_above_28 : decode cX6_above 28 = .ok (.iinc 3 1, 3) := by decide +kernel
theorem dX6_above_31 : decode cX6_above 31 = .ok (.goto (-27), 3) := by decide +kernel
theorem dX6_above_34 : decode cX6_above 34 = .ok (.lload_n 1, 1) := by decide +kernel
theorem dX6_above_35 : decode cX6_above 35 = .ok (.lreturn, 1) := by decide +kernel
set_option maxRecDepth 20000 in
theorem ggX6_spread_X6_hasPoint : GoodIn wsX6_spread wsX6_hasPoint := goodIn_r _ [4] (by decide +kernel) (by decide +kernel)
set_option maxRecDepth 20000 in
theorem gX6_spread_X6_hasPoint : GoodIn wsX6_spread (va_wsS RX6 15 yX6_hasPoint wsX6_hasPoint) := goodIn_app (goodIn_of _ (by decide +kernel)) ggX6_spread_X6_hasPoint
theorem dX6_spread_0 : decode cX6_spread 0 = .ok (.iconst 0, 1) := by decide +kernel
theorem dX6_spread_1 : decode cX6_spread 1 = .ok (.istore_n 2, 1) := by decide +kernel
theorem dX6_spread_2 : decode cX6_spread 2 = .ok (.iconst 0, 1) := by decide +kernel
theorem dX6_spread_3 : decode cX6_spread 3 = .ok (.istore_n 3, 1) := by decide +kernel
theorem dX6_spread_4 : decode cX6_spread 4 = .ok (.iconst 0, 1) := by decide +kernel
theorem dX6_spread_5 : decode cX6_spread 5 = .ok (.istore 4, 2) := by decide +kernel
theorem dX6_spread_7 : decode cX6_spread 7 = .ok (.iload 4, 2) := by decide +kernel
theorem dX6_spread_9 : decode cX6_spread 9 = .ok (.bipush 6, 2) := by decide +kernel
theorem dX6_spread_11 : decode cX6_spread 11 = .ok (.if_icmp .ge 36, 3) := by decide +kernel
theorem dX6_spread_14 : decode cX6_spread 14 = .ok (.iload_n 1, 1) := by decide +kernel
theorem dX6_spread_15 : decode cX6_spread 15 = .ok (.iload 4, 2) := by decide +kernel
theorem dX6_spread_17 : decode cX6_spread 17 = .ok (.invokestatic 15, 3) := by decide +kernel
theorem dX6_spread_20 : decode cX6_spread 20 = .ok (.ifCond .eq 21, 3) := by decide +kernel
theorem dX6_spread_23 : decode cX6_spread 23 = .ok (.iload_n 0, 1) := by decide +kernel
theorem dX6_spread_24 : decode cX6_spread 24 = .ok (.iload_n 3, 1) := by decide +kernel
theorem dX6_spread_25 : decode cX6_spread 25 = .ok (.invokestatic 15, 3) := by decide +kernel
theorem dX6_spread_28 : decode cX6_spread 28 = .ok (.ifCond .eq 10, 3) := by decide +kernel
theorem dX6_spread_31 : decode cX6_spread 31 = .ok (.iload_n 2, 1) := by decide +kernel
theorem dX6_spread_32 : decode cX6_spread 32 = .ok (.iconst 1, 1) := by decide +kernel
theorem dX6_spread_33 : decode cX6_spread 33 = .ok (.iload 4, 2) := by decide +kernel
theorem dX6_spread_35 : decode cX6_spread 35 = .ok (.ishl, 1) := by decide +kernel
theorem dX6_spread_36 : decode cX6_spread 36 = .ok (.ior, 1) := by decide +kernel
theorem dX6_spread_37 : decode cX6_spread 37 = .ok (.istore_n 2, 1) := by decide +kernel
theorem dX6_spread_38 : decode cX6_spread 38 = .ok (.iinc 3 1, 3) := by decide +kernel
theorem dX6_spread_41 : decode cX6_spread 41 = .ok (.iinc 4 1, 3) := by decide +kernel
theorem dX6_spread_44 : decode cX6_spread 44 = .ok (.goto (-37), 3) := by decide +kernel
theorem dX6_spread_47 : decode cX6_spread 47 = .ok (.iload_n 2, 1) := by decide +kernel
theorem dX6_spread_48 : decode cX6_spread 48 = .ok (.ireturn, 1) := by decide +kernel
theorem dX7_init_0 : decode cX7_init 0 = .ok (.aload_n 0, 1) := by decide +kernel
theorem dX7_init_1 : decode cX7_init 1 = .ok (.invokespecial 3, 3) := by decide +kernel
theorem dX7_init_4 : decode cX7_init 4 = .ok (.aload_n 0, 1) := by decide +kernel
theorem dX7_init_5 : decode cX7_init 5 = .ok (.bipush 64, 2) := by decide +kernel
theorem dX7_init_7 : decode cX7_init 7 = .ok (.newarray .int, 2) := by decide +kernel
theorem dX7_init_9 : decode cX7_init 9 = .ok (.putfield 9, 3) := by decide +kernel
theorem dX7_init_12 : decode cX7_init 12 = .ok (.aload_n 0, 1) := by decide +kernel
theorem dX7_init_13 : decode cX7_init 13 = .ok (.bipush 6, 2) := by decide +kernel
theorem dX7_init_15 : decode cX7_init 15 = .ok (.newarray .int, 2) := by decide +kernel
theorem dX7_init_17 : decode cX7_init 17 = .ok (.putfield 15, 3) := by decide +kernel
theorem dX7_init_20 : decode cX7_init 20 = .ok (.return_, 1) := by decide +kernel
set_option maxRecDepth 20000 in
theorem ggX7_know_X7_place : GoodIn wsX7_know wsX7_place := goodIn_r _ [8, 1, 9, 10, 11, 7, 12, 3, 4, 13, 14, 15, 16, 17, 18, 19, 20, 21, 2, 22, 23, 24, 5, 6, 25, 26, 27, 28, 29] (by decide +kernel) (by decide +kernel)
set_option maxRecDepth 20000 in
theorem gX7_know_X7_place : GoodIn wsX7_know (va_wsS RX7 29 yX7_place wsX7_place) := goodIn_app (goodIn_of _ (by decide +kernel)) ggX7_know_X7_place
theorem dX7_know_0 : decode cX7_know 0 = .ok (.iload_n 1, 1) := by decide +kernel
theorem dX7_know_1 : decode cX7_know 1 = .ok (.aload_n 0, 1) := by decide +kernel
theorem dX7_know_2 : decode cX7_know 2 = .ok (.getfield 18, 3) := by decide +kernel
theorem dX7_know_5 : decode cX7_know 5 = .ok (.if_icmp .ne 13, 3) := by decide +kernel
theorem dX7_know_8 : decode cX7_know 8 = .ok (.lload_n 2, 1) := by decide +kernel
theorem dX7_know_9 : decode cX7_know 9 = .ok (.aload_n 0, 1) := by decide +kernel
theorem dX7_know_10 : decode cX7_know 10 = .ok (.getfield 22, 3) := by decide +kernel
theorem dX7_know_13 : decode cX7_know 13 = .ok (.lcmp, 1) := by decide +kernel
theorem dX7_know_14 : decode cX7_know 14 = .ok (.ifCond .ne 4, 3) := by decide +kernel
theorem dX7_know_17 : decode cX7_know 17 = .ok (.return_, 1) := by decide +kernel
theorem dX7_know_18 : decode cX7_know 18 = .ok (.aload_n 0, 1) := by decide +kernel
theorem dX7_know_19 : decode cX7_know 19 = .ok (.iload_n 1, 1) := by decide +kernel
theorem dX7_know_20 : decode cX7_know 20 = .ok (.putfield 18, 3) := by decide +kernel
theorem dX7_know_23 : decode cX7_know 23 = .ok (.aload_n 0, 1) := by decide +kernel
theorem dX7_know_24 : decode cX7_know 24 = .ok (.lload_n 2, 1) := by decide +kernel
theorem dX7_know_25 : decode cX7_know 25 = .ok (.putfield 22, 3) := by decide +kernel
theorem dX7_know_28 : decode cX7_know 28 = .ok (.aload_n 0, 1) := by decide +kernel
theorem dX7_know_29 : decode cX7_know 29 = .ok (.iconst 0, 1) := by decide +kernel
theorem dX7_know_30 : decode cX7_know 30 = .ok (.putfield 26, 3) := by decide +kernel
theorem dX7_know_33 : decode cX7_know 33 = .ok (.iconst 0, 1) := by decide +kernel
theorem dX7_know_34 : decode cX7_know 34 = .ok (.istore 4, 2) := by decide +kernel
theorem dX7_know_36 : decode cX7_know 36 = .ok (.iload 4, 2) := by decide +kernel
theorem dX7_know_38 : decode cX7_know 38 = .ok (.bipush 6, 2) := by decide +kernel
theorem dX7_know_40 : decode cX7_know 40 = .ok (.if_icmp .ge 17, 3) := by decide +kernel
theorem dX7_know_43 : decode cX7_know 43 = .ok (.aload_n 0, 1) := by decide +kernel
theorem dX7_know_44 : decode cX7_know 44 = .ok (.getfield 15, 3) := by decide +kernel
theorem dX7_know_47 : decode cX7_know 47 = .ok (.iload 4, 2) := by decide +kernel
theorem dX7_know_49 : decode cX7_know 49 = .ok (.iconst 0, 1) := by decide +kernel
theorem dX7_know_50 : decode cX7_know 50 = .ok (.iastore, 1) := by decide +kernel
theorem dX7_know_51 : decode cX7_know 51 = .ok (.iinc 4 1, 3) := by decide +kernel
theorem dX7_know_54 : decode cX7_know 54 = .ok (.goto (-18), 3) := by decide +kernel
theorem dX7_know_57 : decode cX7_know 57 = .ok (.aload_n 0, 1) := by decide +kernel
theorem dX7_know_58 : decode cX7_know 58 = .ok (.iconst 0, 1) := by decide +kernel
theorem dX7_know_59 : decode cX7_know 59 = .ok (.iconst 0, 1) := by decide +kernel
theorem dX7_know_60 : decode cX7_know 60 = .ok (.invokestatic 29, 3) := by decide +kernel
theorem dX7_know_63 : decode cX7_know 63 = .ok (.return_, 1) := by decide +kernel
theorem dX7_howMany_0 : decode cX7_howMany 0 = .ok (.aload_n 0, 1) := by decide +kernel
theorem dX7_howMany_1 : decode cX7_howMany 1 = .ok (.getfield 26, 3) := by decide +kernel
theorem dX7_howMany_4 : decode cX7_howMany 4 = .ok (.ireturn, 1) := by decide +kernel
set_option maxRecDepth 20000 in
theorem ggX7_bring_X6_hasPoint : GoodIn wsX7_bring wsX6_hasPoint := goodIn_r _ [5] (by decide +kernel) (by decide +kernel)
set_option maxRecDepth 20000 in
theorem gX7_bring_X6_hasPoint : GoodIn wsX7_bring (va_wsS RX7 33 yX6_hasPoint wsX6_hasPoint) := goodIn_app (goodIn_of _ (by decide +kernel)) ggX7_bring_X6_hasPoint
theorem dX7_bring_0 : decode cX7_bring 0 = .ok (.iload_n 1, 1) := by decide +kernel
theorem dX7_bring_1 : decode cX7_bring 1 = .ok (.ifCond .lt 36, 3) := by decide +kernel
theorem dX7_bring_4 : decode cX7_bring 4 = .ok (.iload_n 1, 1) := by decide +kernel
theorem dX7_bring_5 : decode cX7_bring 5 = .ok (.bipush 6, 2) := by decide +kernel
theorem dX7_bring_7 : decode cX7_bring 7 = .ok (.if_icmp .ge 30, 3) := by decide +kernel
theorem dX7_bring_10 : decode cX7_bring 10 = .ok (.iload_n 2, 1) := by decide +kernel
theorem dX7_bring_11 : decode cX7_bring 11 = .ok (.ifCond .lt 26, 3) := by decide +kernel
theorem dX7_bring_14 : decode cX7_bring 14 = .ok (.iload_n 2, 1) := by decide +kernel
theorem dX7_bring_15 : decode cX7_bring 15 = .ok (.bipush 6, 2) := by decide +kernel
theorem dX7_bring_17 : decode cX7_bring 17 = .ok (.if_icmp .ge 20, 3) := by decide +kernel
theorem dX7_bring_20 : decode cX7_bring 20 = .ok (.aload_n 0, 1) := by decide +kernel
theorem dX7_bring_21 : decode cX7_bring 21 = .ok (.getfield 15, 3) := by decide +kernel
theorem dX7_bring_24 : decode cX7_bring 24 = .ok (.iload_n 1, 1) := by decide +kernel
theorem dX7_bring_25 : decode cX7_bring 25 = .ok (.iaload, 1) := by decide +kernel
theorem dX7_bring_26 : decode cX7_bring 26 = .ok (.iload_n 2, 1) := by decide +kernel
theorem dX7_bring_27 : decode cX7_bring 27 = .ok (.invokestatic 33, 3) := by decide +kernel
theorem dX7_bring_30 : decode cX7_bring 30 = .ok (.ifCond .eq 7, 3) := by decide +kernel
theorem dX7_bring_33 : decode cX7_bring 33 = .ok (.iconst 1, 1) := by decide +kernel
theorem dX7_bring_34 : decode cX7_bring 34 = .ok (.goto 4, 3) := by decide +kernel
theorem dX7_bring_37 : decode cX7_bring 37 = .ok (.iconst 0, 1) := by decide +kernel
theorem dX7_bring_38 : decode cX7_bring 38 = .ok (.ireturn, 1) := by decide +kernel
theorem dX7_classes_0 : decode cX7_classes 0 = .ok (.iconst 0, 1) := by decide +kernel
theorem dX7_classes_1 : decode cX7_classes 1 = .ok (.istore_n 1, 1) := by decide +kernel
theorem dX7_classes_2 : decode cX7_classes 2 = .ok (.iconst 0, 1) := by decide +kernel
theorem dX7_classes_3 : decode cX7_classes 3 = .ok (.istore_n 2, 1) := by decide +kernel
theorem dX7_classes_4 : decode cX7_classes 4 = .ok (.iload_n 2, 1) := by decide +kernel
theorem dX7_classes_5 : decode cX7_classes 5 = .ok (.aload_n 0, 1) := by decide +kernel
theorem dX7_classes_6 : decode cX7_classes 6 = .ok (.getfield 18, 3) := by decide +kernel
theorem dX7_classes_9 : decode cX7_classes 9 = .ok (.if_icmp .ge 33, 3) := by decide +kernel
theorem dX7_classes_12 : decode cX7_classes 12 = .ok (.iload_n 2, 1) := by decide +kernel
theorem dX7_classes_13 : decode cX7_classes 13 = .ok (.bipush 6, 2) := by decide +kernel
theorem dX7_classes_15 : decode cX7_classes 15 = .ok (.if_icmp .ge 27, 3) := by decide +kernel
theorem dX7_classes_18 : decode cX7_classes 18 = .ok (.aload_n 0, 1) := by decide +kernel
theorem dX7_classes_19 : decode cX7_classes 19 = .ok (.getfield 15, 3) := by decide +kernel
theorem dX7_classes_22 : decode cX7_classes 22 = .ok (.iload_n 2, 1) := by decide +kernel
theorem dX7_classes_23 : decode cX7_classes 23 = .ok (.iaload, 1) := by decide +kernel
theorem dX7_classes_24 : decode cX7_classes 24 = .ok (.iconst 1, 1) := by decide +kernel
theorem dX7_classes_25 : decode cX7_classes 25 = .ok (.iload_n 2, 1) := by decide +kernel
theorem dX7_classes_26 : decode cX7_classes 26 = .ok (.ishl, 1) := by decide +kernel
theorem dX7_classes_27 : decode cX7_classes 27 = .ok (.iconst 1, 1) := by decide +kernel
theorem dX7_classes_28 : decode cX7_classes 28 = .ok (.isub, 1) := by decide +kernel
theorem dX7_classes_29 : decode cX7_classes 29 = .ok (.iand, 1) := by decide +kernel
theorem dX7_classes_30 : decode cX7_classes 30 = .ok (.ifCond .ne 6, 3) := by decide +kernel
theorem dX7_classes_33 : decode cX7_classes 33 = .ok (.iinc 1 1, 3) := by decide +kernel
theorem dX7_classes_36 : decode cX7_classes 36 = .ok (.iinc 2 1, 3) := by decide +kernel
theorem dX7_classes_39 : decode cX7_classes 39 = .ok (.goto (-35), 3) := by decide +kernel
theorem dX7_classes_42 : decode cX7_classes 42 = .ok (.iload_n 1, 1) := by decide +kernel
theorem dX7_classes_43 : decode cX7_classes 43 = .ok (.ireturn, 1) := by decide +kernel
set_option maxRecDepth 20000 in
theorem ggX7_place_X7_tally : GoodIn wsX7_place wsX7_tally := goodIn_r _ [6, 7, 1, 8, 9, 24, 25, 26, 27, 28] (by decide +kernel) (by decide +kernel)
set_option maxRecDepth 20000 in
theorem gX7_place_X7_tally : GoodIn wsX7_place (wsV RX7 39 RX7 yX7_tally wsX7_tally) := goodIn_app (goodIn_of _ (by decide +kernel)) ggX7_place_X7_tally
set_option maxRecDepth 20000 in
theorem ggX7_place_X6_hasPoint : GoodIn wsX7_place wsX6_hasPoint := goodIn_r _ [13] (by decide +kernel) (by decide +kernel)
set_option maxRecDepth 20000 in
theorem gX7_place_X6_hasPoint : GoodIn wsX7_place (va_wsS RX7 33 yX6_hasPoint wsX6_hasPoint) := goodIn_app (goodIn_of _ (by decide +kernel)) ggX7_place_X6_hasPoint
set_option maxRecDepth 20000 in
theorem ggX7_place_X7_fits : GoodIn wsX7_place wsX7_fits := goodIn_r _ [17, 9, 18, 19, 20, 12, 21, 24, 25, 26, 27, 28] (by decide +kernel) (by decide +kernel)
set_option maxRecDepth 20000 in
theorem gX7_place_X7_fits : GoodIn wsX7_place (wsV RX7 42 RX7 yX7_fits wsX7_fits) := goodIn_app (goodIn_of _ (by decide +kernel)) ggX7_place_X7_fits
set_option maxRecDepth 20000 in
theorem ggX7_place_X7_place : GoodIn wsX7_place wsX7_place := goodIn_r _ [0, 1, 2, 3, 4, 5, 6, 7, 8, 9, 10, 11, 12, 13, 14, 15, 16, 17, 18, 19, 20, 21, 22, 23, 24, 25, 26, 27, 28] (by decide +kernel) (by decide +kernel)
set_option maxRecDepth 20000 in
theorem gX7_place_X7_place : GoodIn wsX7_place (va_wsS RX7 29 yX7_place wsX7_place) := goodIn_app (goodIn_of _ (by decide +kernel)) ggX7_place_X7_place
theorem dX7_place_0 : decode cX7_place 0 = .ok (.iload_n 1, 1) := by decide +kernel
theorem dX7_place_1 : decode cX7_place 1 = .ok (.aload_n 0, 1) := by decide +kernel
theorem dX7_place_2 : decode cX7_place 2 = .ok (.getfield 18, 3) := by decide +kernel
theorem dX7_place_5 : decode cX7_place 5 = .ok (.if_icmp .ge 9, 3) := by decide +kernel
theorem dX7_place_8 : decode cX7_place 8 = .ok (.iload_n 1, 1) := by decide +kernel
theorem dX7_place_9 : decode cX7_place 9 = .ok (.bipush 6, 2) := by decide +kernel
theorem dX7_place_11 : decode cX7_place 11 = .ok (.if_icmp .lt 8, 3) := by decide +kernel
theorem dX7_place_14 : decode cX7_place 14 = .ok (.aload_n 0, 1) := by decide +kernel
theorem dX7_place_15 : decode cX7_place 15 = .ok (.invokevirtual 39, 3) := by decide +kernel
theorem dX7_place_18 : decode cX7_place 18 = .ok (.return_, 1) := by decide +kernel
theorem dX7_place_19 : decode cX7_place 19 = .ok (.iconst 0, 1) := by decide +kernel
theorem dX7_place_20 : decode cX7_place 20 = .ok (.istore_n 3, 1) := by decide +kernel
theorem dX7_place_21 : decode cX7_place 21 = .ok (.iload_n 3, 1) := by decide +kernel
theorem dX7_place_22 : decode cX7_place 22 = .ok (.aload_n 0, 1) := by decide +kernel
theorem dX7_place_23 : decode cX7_place 23 = .ok (.getfield 18, 3) := by decide +kernel
theorem dX7_place_26 : decode cX7_place 26 = .ok (.if_icmp .ge 38, 3) := by decide +kernel
theorem dX7_place_29 : decode cX7_place 29 = .ok (.iload_n 2, 1) := by decide +kernel
theorem dX7_place_30 : decode cX7_place 30 = .ok (.iload_n 3, 1) := by decide +kernel
theorem dX7_place_31 : decode cX7_place 31 = .ok (.invokestatic 33, 3) := by decide +kernel
theorem dX7_place_34 : decode cX7_place 34 = .ok (.ifCond .ne 24, 3) := by decide +kernel
theorem dX7_place_37 : decode cX7_place 37 = .ok (.aload_n 0, 1) := by decide +kernel
theorem dX7_place_38 : decode cX7_place 38 = .ok (.iload_n 1, 1) := by decide +kernel
theorem dX7_place_39 : decode cX7_place 39 = .ok (.iload_n 3, 1) := by decide +kernel
theorem dX7_place_40 : decode cX7_place 40 = .ok (.invokevirtual 42, 3) := by decide +kernel
theorem dX7_place_43 : decode cX7_place 43 = .ok (.ifCond .eq 15, 3) := by decide +kernel
theorem dX7_place_46 : decode cX7_place 46 = .ok (.aload_n 0, 1) := by decide +kernel
theorem dX7_place_47 : decode cX7_place 47 = .ok (.iload_n 1, 1) := by decide +kernel
theorem dX7_place_48 : decode cX7_place 48 = .ok (.iconst 1, 1) := by decide +kernel
theorem dX7_place_49 : decode cX7_place 49 = .ok (.iadd, 1) := by decide +kernel
theorem dX7_place_50 : decode cX7_place 50 = .ok (.iload_n 2, 1) := by decide +kernel
theorem dX7_place_51 : decode cX7_place 51 = .ok (.iconst 1, 1) := by decide +kernel
theorem dX7_place_52 : decode cX7_place 52 = .ok (.iload_n 3, 1) := by decide +kernel
theorem dX7_place_53 : decode cX7_place 53 = .ok (.ishl, 1) := by decide +kernel
theorem dX7_place_54 : decode cX7_place 54 = .ok (.ior, 1) := by decide +kernel
theorem dX7_place_55 : decode cX7_place 55 = .ok (.invokestatic 29, 3) := by decide +kernel
theorem dX7_place_58 : decode cX7_place 58 = .ok (.iinc 3 1, 3) := by decide +kernel
theorem dX7_place_61 : decode cX7_place 61 = .ok (.goto (-40), 3) := by decide +kernel
theorem dX7_place_64 : decode cX7_place 64 = .ok (.return_, 1) := by decide +kernel
set_option maxRecDepth 20000 in
theorem ggX7_fits_X6_holds : GoodIn wsX7_fits wsX6_holds := goodIn_r _ [6] (by decide +kernel) (by decide +kernel)
set_option maxRecDepth 20000 in
theorem gX7_fits_X6_holds : GoodIn wsX7_fits (va_wsS RX7 45 yX6_holds wsX6_holds) := goodIn_app (goodIn_of _ (by decide +kernel)) ggX7_fits_X6_holds
theorem dX7_fits_0 : decode cX7_fits 0 = .ok (.iconst 1, 1) := by decide +kernel
theorem dX7_fits_1 : decode cX7_fits 1 = .ok (.iload_n 1, 1) := by decide +kernel
theorem dX7_fits_2 : decode cX7_fits 2 = .ok (.ishl, 1) := by decide +kernel
theorem dX7_fits_3 : decode cX7_fits 3 = .ok (.istore_n 3, 1) := by decide +kernel
theorem dX7_fits_4 : decode cX7_fits 4 = .ok (.iconst 0, 1) := by decide +kernel
theorem dX7_fits_5 : decode cX7_fits 5 = .ok (.istore 4, 2) := by decide +kernel
theorem dX7_fits_7 : decode cX7_fits 7 = .ok (.iload 4, 2) := by decide +kernel
theorem dX7_fits_9 : decode cX7_fits 9 = .ok (.iload_n 3, 1) := by decide +kernel
theorem dX7_fits_10 : decode cX7_fits 10 = .ok (.if_icmp .ge 67, 3) := by decide +kernel
theorem dX7_fits_13 : decode cX7_fits 13 = .ok (.iload 4, 2) := by decide +kernel
theorem dX7_fits_15 : decode cX7_fits 15 = .ok (.iload_n 3, 1) := by decide +kernel
theorem dX7_fits_16 : decode cX7_fits 16 = .ok (.iadd, 1) := by decide +kernel
theorem dX7_fits_17 : decode cX7_fits 17 = .ok (.bipush 64, 2) := by decide +kernel
theorem dX7_fits_19 : decode cX7_fits 19 = .ok (.if_icmp .ge 58, 3) := by decide +kernel
theorem dX7_fits_22 : decode cX7_fits 22 = .ok (.aload_n 0, 1) := by decide +kernel
theorem dX7_fits_23 : decode cX7_fits 23 = .ok (.getfield 9, 3) := by decide +kernel
theorem dX7_fits_26 : decode cX7_fits 26 = .ok (.iload 4, 2) := by decide +kernel
theorem dX7_fits_28 : decode cX7_fits 28 = .ok (.iaload, 1) := by decide +kernel
theorem dX7_fits_29 : decode cX7_fits 29 = .ok (.iconst 1, 1) := by decide +kernel
theorem dX7_fits_30 : decode cX7_fits 30 = .ok (.iload_n 2, 1) := by decide +kernel
theorem dX7_fits_31 : decode cX7_fits 31 = .ok (.ishl, 1) := by decide +kernel
theorem dX7_fits_32 : decode cX7_fits 32 = .ok (.ior, 1) := by decide +kernel
theorem dX7_fits_33 : decode cX7_fits 33 = .ok (.istore 5, 2) := by decide +kernel
theorem dX7_fits_35 : decode cX7_fits 35 = .ok (.aload_n 0, 1) := by decide +kernel
theorem dX7_fits_36 : decode cX7_fits 36 = .ok (.getfield 22, 3) := by decide +kernel
theorem dX7_fits_39 : decode cX7_fits 39 = .ok (.iload 4, 2) := by decide +kernel
theorem dX7_fits_41 : decode cX7_fits 41 = .ok (.iload_n 3, 1) := by decide +kernel
theorem dX7_fits_42 : decode cX7_fits 42 = .ok (.iadd, 1) := by decide +kernel
theorem dX7_fits_43 : decode cX7_fits 43 = .ok (.invokestatic 45, 3) := by decide +kernel
theorem dX7_fits_46 : decode cX7_fits 46 = .ok (.aload_n 0, 1) := by decide +kernel
theorem dX7_fits_47 : decode cX7_fits 47 = .ok (.getfield 22, 3) := by decide +kernel
theorem dX7_fits_50 : decode cX7_fits 50 = .ok (.iload 5, 2) := by decide +kernel
theorem dX7_fits_52 : decode cX7_fits 52 = .ok (.invokestatic 45, 3) := by decide +kernel
theorem dX7_fits_55 : decode cX7_fits 55 = .ok (.if_icmp .eq 5, 3) := by decide +kernel
theorem dX7_fits_58 : decode cX7_fits 58 = .ok (.iconst 0, 1) := by decide +kernel
theorem dX7_fits_59 : decode cX7_fits 59 = .ok (.ireturn, 1) := by decide +kernel
theorem dX7_fits_60 : decode cX7_fits 60 = .ok (.aload_n 0, 1) := by decide +kernel
theorem dX7_fits_61 : decode cX7_fits 61 = .ok (.getfield 9, 3) := by decide +kernel
theorem dX7_fits_64 : decode cX7_fits 64 = .ok (.iload 4, 2) := by decide +kernel
theorem dX7_fits_66 : decode cX7_fits 66 = .ok (.iload_n 3, 1) := by decide +kernel
theorem dX7_fits_67 : decode cX7_fits 67 = .ok (.iadd, 1) := by decide +kernel
theorem dX7_fits_68 : decode cX7_fits 68 = .ok (.iload 5, 2) := by decide +kernel
theorem dX7_fits_70 : decode cX7_fits 70 = .ok (.iastore, 1) := by decide +kernel
theorem dX7_fits_71 : decode cX7_fits 71 = .ok (.iinc 4 1, 3) := by decide +kernel
theorem dX7_fits_74 : decode cX7_fits 74 = .ok (.goto (-67), 3) := by decide +kernel
theorem dX7_fits_77 : decode cX7_fits 77 = .ok (.iconst 1, 1) := by decide +kernel
theorem dX7_fits_78 : decode cX7_fits 78 = .ok (.ireturn, 1) := by decide +kernel
theorem dX7_tally_0 : decode cX7_tally 0 = .ok (.aload_n 0, 1) := by decide +kernel
theorem dX7_tally_1 : decode cX7_tally 1 = .ok (.dup, 1) := by decide +kernel
theorem dX7_tally_2 : decode cX7_tally 2 = .ok (.getfield 26, 3) := by decide +kernel
theorem dX7_tally_5 : decode cX7_tally 5 = .ok (.iconst 1, 1) := by decide +kernel
theorem dX7_tally_6 : decode cX7_tally 6 = .ok (.iadd, 1) := by decide +kernel
theorem dX7_tally_7 : decode cX7_tally 7 = .ok (.putfield 26, 3) := by decide +kernel
theorem dX7_tally_10 : decode cX7_tally 10 = .ok (.iconst 0, 1) := by decide +kernel
theorem dX7_tally_11 : decode cX7_tally 11 = .ok (.istore_n 1, 1) := by decide +kernel
theorem dX7_tally_12 : decode cX7_tally 12 = .ok (.iload_n 1, 1) := by decide +kernel
theorem dX7_tally_13 : decode cX7_tally 13 = .ok (.aload_n 0, 1) := by decide +kernel
theorem dX7_tally_14 : decode cX7_tally 14 = .ok (.getfield 18, 3) := by decide +kernel
theorem dX7_tally_17 : decode cX7_tally 17 = .ok (.if_icmp .ge 32, 3) := by decide +kernel
theorem dX7_tally_20 : decode cX7_tally 20 = .ok (.iload_n 1, 1) := by decide +kernel
theorem dX7_tally_21 : decode cX7_tally 21 = .ok (.bipush 6, 2) := by decide +kernel
theorem dX7_tally_23 : decode cX7_tally 23 = .ok (.if_icmp .ge 26, 3) := by decide +kernel
theorem dX7_tally_26 : decode cX7_tally 26 = .ok (.aload_n 0, 1) := by decide +kernel
theorem dX7_tally_27 : decode cX7_tally 27 = .ok (.getfield 15, 3) := by decide +kernel
theorem dX7_tally_30 : decode cX7_tally 30 = .ok (.iload_n 1, 1) := by decide +kernel
theorem dX7_tally_31 : decode cX7_tally 31 = .ok (.dup2, 1) := by decide +kernel
theorem dX7_tally_32 : decode cX7_tally 32 = .ok (.iaload, 1) := by decide +kernel
theorem dX7_tally_33 : decode cX7_tally 33 = .ok (.aload_n 0, 1) := by decide +kernel
theorem dX7_tally_34 : decode cX7_tally 34 = .ok (.getfield 9, 3) := by decide +kernel
theorem dX7_tally_37 : decode cX7_tally 37 = .ok (.iconst 1, 1) := by decide +kernel
theorem dX7_tally_38 : decode cX7_tally 38 = .ok (.iload_n 1, 1) := by decide +kernel
theorem dX7_tally_39 : decode cX7_tally 39 = .ok (.ishl, 1) := by decide +kernel
theorem dX7_tally_40 : decode cX7_tally 40 = .ok (.iaload, 1) := by decide +kernel
theorem dX7_tally_41 : decode cX7_tally 41 = .ok (.ior, 1) := by decide +kernel
theorem dX7_tally_42 : decode cX7_tally 42 = .ok (.iastore, 1) := by decide +kernel
theorem dX7_tally_43 : decode cX7_tally 43 = .ok (.iinc 1 1, 3) := by decide +kernel
theorem dX7_tally_46 : decode cX7_tally 46 = .ok (.goto (-34), 3) := by decide +kernel
theorem dX7_tally_49 : decode cX7_tally 49 = .ok (.return_, 1) := by decide +kernel
