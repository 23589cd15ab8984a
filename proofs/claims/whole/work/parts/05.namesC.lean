theorem dX9_init_0 : decode cX9_init 0 = .ok (.aload_n 0, 1) := by decide +kernel
theorem dX9_init_1 : decode cX9_init 1 = .ok (.invokespecial 1, 3) := by decide +kernel
theorem dX9_init_4 : decode cX9_init 4 = .ok (.aload_n 0, 1) := by decide +kernel
theorem dX9_init_5 : decode cX9_init 5 = .ok (.iconst 4, 1) := by decide +kernel
theorem dX9_init_6 : decode cX9_init 6 = .ok (.putfield 7, 3) := by decide +kernel
theorem dX9_init_9 : decode cX9_init 9 = .ok (.aload_n 0, 1) := by decide +kernel
theorem dX9_init_10 : decode cX9_init 10 = .ok (.lconst 1, 1) := by decide +kernel
theorem dX9_init_11 : decode cX9_init 11 = .ok (.putfield 13, 3) := by decide +kernel
theorem dX9_init_14 : decode cX9_init 14 = .ok (.aload_n 0, 1) := by decide +kernel
theorem dX9_init_15 : decode cX9_init 15 = .ok (.bipush 8, 2) := by decide +kernel
theorem dX9_init_17 : decode cX9_init 17 = .ok (.newarray .int, 2) := by decide +kernel
theorem dX9_init_19 : decode cX9_init 19 = .ok (.putfield 17, 3) := by decide +kernel
theorem dX9_init_22 : decode cX9_init 22 = .ok (.aload_n 0, 1) := by decide +kernel
theorem dX9_init_23 : decode cX9_init 23 = .ok (.bipush 8, 2) := by decide +kernel
theorem dX9_init_25 : decode cX9_init 25 = .ok (.newarray .long, 2) := by decide +kernel
theorem dX9_init_27 : decode cX9_init 27 = .ok (.putfield 21, 3) := by decide +kernel
theorem dX9_init_30 : decode cX9_init 30 = .ok (.aload_n 0, 1) := by decide +kernel
theorem dX9_init_31 : decode cX9_init 31 = .ok (.bipush 64, 2) := by decide +kernel
theorem dX9_init_33 : decode cX9_init 33 = .ok (.newarray .long, 2) := by decide +kernel
theorem dX9_init_35 : decode cX9_init 35 = .ok (.putfield 25, 3) := by decide +kernel
theorem dX9_init_38 : decode cX9_init 38 = .ok (.aload_n 0, 1) := by decide +kernel
theorem dX9_init_39 : decode cX9_init 39 = .ok (.bipush 20, 2) := by decide +kernel
theorem dX9_init_41 : decode cX9_init 41 = .ok (.newarray .long, 2) := by decide +kernel
theorem dX9_init_43 : decode cX9_init 43 = .ok (.putfield 28, 3) := by decide +kernel
theorem dX9_init_46 : decode cX9_init 46 = .ok (.aload_n 0, 1) := by decide +kernel
theorem dX9_init_47 : decode cX9_init 47 = .ok (.bipush 20, 2) := by decide +kernel
theorem dX9_init_49 : decode cX9_init 49 = .ok (.newarray .long, 2) := by decide +kernel
theorem dX9_init_51 : decode cX9_init 51 = .ok (.putfield 31, 3) := by decide +kernel
theorem dX9_init_54 : decode cX9_init 54 = .ok (.aload_n 0, 1) := by decide +kernel
theorem dX9_init_55 : decode cX9_init 55 = .ok (.bipush 20, 2) := by decide +kernel
theorem dX9_init_57 : decode cX9_init 57 = .ok (.newarray .long, 2) := by decide +kernel
theorem dX9_init_59 : decode cX9_init 59 = .ok (.putfield 34, 3) := by decide +kernel
theorem dX9_init_62 : decode cX9_init 62 = .ok (.aload_n 0, 1) := by decide +kernel
theorem dX9_init_63 : decode cX9_init 63 = .ok (.bipush 20, 2) := by decide +kernel
theorem dX9_init_65 : decode cX9_init 65 = .ok (.newarray .long, 2) := by decide +kernel
theorem dX9_init_67 : decode cX9_init 67 = .ok (.putfield 37, 3) := by decide +kernel
theorem dX9_init_70 : decode cX9_init 70 = .ok (.aload_n 0, 1) := by decide +kernel
theorem dX9_init_71 : decode cX9_init 71 = .ok (.sipush 384, 3) := by decide +kernel
theorem dX9_init_74 : decode cX9_init 74 = .ok (.newarray .int, 2) := by decide +kernel
theorem dX9_init_76 : decode cX9_init 76 = .ok (.putfield 40, 3) := by decide +kernel
theorem dX9_init_79 : decode cX9_init 79 = .ok (.aload_n 0, 1) := by decide +kernel
theorem dX9_init_80 : decode cX9_init 80 = .ok (.bipush 6, 2) := by decide +kernel
theorem dX9_init_82 : decode cX9_init 82 = .ok (.newarray .int, 2) := by decide +kernel
theorem dX9_init_84 : decode cX9_init 84 = .ok (.putfield 43, 3) := by decide +kernel
theorem dX9_init_87 : decode cX9_init 87 = .ok (.aload_n 0, 1) := by decide +kernel
theorem dX9_init_88 : decode cX9_init 88 = .ok (.sipush 200, 3) := by decide +kernel
theorem dX9_init_91 : decode cX9_init 91 = .ok (.newarray .int, 2) := by decide +kernel
theorem dX9_init_93 : decode cX9_init 93 = .ok (.putfield 46, 3) := by decide +kernel
theorem dX9_init_96 : decode cX9_init 96 = .ok (.aload_n 0, 1) := by decide +kernel
theorem dX9_init_97 : decode cX9_init 97 = .ok (.sipush 200, 3) := by decide +kernel
theorem dX9_init_100 : decode cX9_init 100 = .ok (.newarray .int, 2) := by decide +kernel
theorem dX9_init_102 : decode cX9_init 102 = .ok (.putfield 49, 3) := by decide +kernel
theorem dX9_init_105 : decode cX9_init 105 = .ok (.aload_n 0, 1) := by decide +kernel
theorem dX9_init_106 : decode cX9_init 106 = .ok (.iconst (-1), 1) := by decide +kernel
theorem dX9_init_107 : decode cX9_init 107 = .ok (.putfield 52, 3) := by decide +kernel
theorem dX9_init_110 : decode cX9_init 110 = .ok (.return_, 1) := by decide +kernel
theorem dX9_isIn_0 : decode cX9_isIn 0 = .ok (.iload_n 0, 1) := by decide +kernel
theorem dX9_isIn_1 : decode cX9_isIn 1 = .ok (.iload_n 1, 1) := by decide +kernel
theorem dX9_isIn_2 : decode cX9_isIn 2 = .ok (.if_icmp .lt 12, 3) := by decide +kernel
theorem dX9_isIn_5 : decode cX9_isIn 5 = .ok (.iload_n 0, 1) := by decide +kernel
theorem dX9_isIn_6 : decode cX9_isIn 6 = .ok (.iload_n 2, 1) := by decide +kernel
theorem dX9_isIn_7 : decode cX9_isIn 7 = .ok (.if_icmp .gt 7, 3) := by decide +kernel
theorem dX9_isIn_10 : decode cX9_isIn 10 = .ok (.iconst 1, 1) := by decide +kernel
theorem dX9_isIn_11 : decode cX9_isIn 11 = .ok (.goto 4, 3) := by decide +kernel
theorem dX9_isIn_14 : decode cX9_isIn 14 = .ok (.iconst 0, 1) := by decide +kernel
theorem dX9_isIn_15 : decode cX9_isIn 15 = .ok (.ireturn, 1) := by decide +kernel
theorem dX9_all_0 : decode cX9_all 0 = .ok (.iconst 1, 1) := by decide +kernel
theorem dX9_all_1 : decode cX9_all 1 = .ok (.aload_n 0, 1) := by decide +kernel
theorem dX9_all_2 : decode cX9_all 2 = .ok (.getfield 7, 3) := by decide +kernel
theorem dX9_all_5 : decode cX9_all 5 = .ok (.ishl, 1) := by decide +kernel
theorem dX9_all_6 : decode cX9_all 6 = .ok (.iconst 1, 1) := by decide +kernel
theorem dX9_all_7 : decode cX9_all 7 = .ok (.isub, 1) := by decide +kernel
theorem dX9_all_8 : decode cX9_all 8 = .ok (.ireturn, 1) := by decide +kernel
set_option maxRecDepth 20000 in
theorem ggX9_isSet_X9_all : GoodIn wsX9_isSet wsX9_all := goodIn_r _ [5, 6, 10, 11, 12, 13, 14, 15, 16, 17, 18, 19, 20, 21, 22, 23, 24, 25, 26, 27, 28, 29, 30, 31, 32, 33, 34, 35, 36] (by decide +kernel) (by decide +kernel)
set_option maxRecDepth 20000 in
theorem gX9_isSet_X9_all : GoodIn wsX9_isSet (wsV RX9 55 RX9 yX9_all wsX9_all) := goodIn_app (goodIn_of _ (by decide +kernel)) ggX9_isSet_X9_all
set_option maxRecDepth 20000 in
theorem ggX9_isSet_X9_isIn : GoodIn wsX9_isSet wsX9_isIn := goodIn_r _ [9] (by decide +kernel) (by decide +kernel)
set_option maxRecDepth 20000 in
theorem gX9_isSet_X9_isIn : GoodIn wsX9_isSet (va_wsS RX9 59 yX9_isIn wsX9_isIn) := goodIn_app (goodIn_of _ (by decide +kernel)) ggX9_isSet_X9_isIn
theorem dX9_isSet_0 : decode cX9_isSet 0 = .ok (.iload_n 1, 1) := by decide +kernel
theorem dX9_isSet_1 : decode cX9_isSet 1 = .ok (.iconst 0, 1) := by decide +kernel
theorem dX9_isSet_2 : decode cX9_isSet 2 = .ok (.aload_n 0, 1) := by decide +kernel
theorem dX9_isSet_3 : decode cX9_isSet 3 = .ok (.invokevirtual 55, 3) := by decide +kernel
theorem dX9_isSet_6 : decode cX9_isSet 6 = .ok (.invokestatic 59, 3) := by decide +kernel
theorem dX9_isSet_9 : decode cX9_isSet 9 = .ok (.ireturn, 1) := by decide +kernel
theorem dX9_isFace_0 : decode cX9_isFace 0 = .ok (.aload_n 0, 1) := by decide +kernel
theorem dX9_isFace_1 : decode cX9_isFace 1 = .ok (.getfield 13, 3) := by decide +kernel
theorem dX9_isFace_4 : decode cX9_isFace 4 = .ok (.iload_n 1, 1) := by decide +kernel
theorem dX9_isFace_5 : decode cX9_isFace 5 = .ok (.lshr, 1) := by decide +kernel
theorem dX9_isFace_6 : decode cX9_isFace 6 = .ok (.lconst 1, 1) := by decide +kernel
theorem dX9_isFace_7 : decode cX9_isFace 7 = .ok (.land, 1) := by decide +kernel
theorem dX9_isFace_8 : decode cX9_isFace 8 = .ok (.lconst 1, 1) := by decide +kernel
theorem dX9_isFace_9 : decode cX9_isFace 9 = .ok (.lcmp, 1) := by decide +kernel
theorem dX9_isFace_10 : decode cX9_isFace 10 = .ok (.ifCond .ne 7, 3) := by decide +kernel
theorem dX9_isFace_13 : decode cX9_isFace 13 = .ok (.iconst 1, 1) := by decide +kernel
theorem dX9_isFace_14 : decode cX9_isFace 14 = .ok (.goto 4, 3) := by decide +kernel
theorem dX9_isFace_17 : decode cX9_isFace 17 = .ok (.iconst 0, 1) := by decide +kernel
theorem dX9_isFace_18 : decode cX9_isFace 18 = .ok (.ireturn, 1) := by decide +kernel
theorem dX9_size_0 : decode cX9_size 0 = .ok (.iconst 0, 1) := by decide +kernel
theorem dX9_size_1 : decode cX9_size 1 = .ok (.istore_n 1, 1) := by decide +kernel
theorem dX9_size_2 : decode cX9_size 2 = .ok (.iconst 0, 1) := by decide +kernel
theorem dX9_size_3 : decode cX9_size 3 = .ok (.istore_n 2, 1) := by decide +kernel
theorem dX9_size_4 : decode cX9_size 4 = .ok (.iload_n 2, 1) := by decide +kernel
theorem dX9_size_5 : decode cX9_size 5 = .ok (.bipush 6, 2) := by decide +kernel
theorem dX9_size_7 : decode cX9_size 7 = .ok (.if_icmp .ge 17, 3) := by decide +kernel
theorem dX9_size_10 : decode cX9_size 10 = .ok (.iload_n 1, 1) := by decide +kernel
theorem dX9_size_11 : decode cX9_size 11 = .ok (.iload_n 0, 1) := by decide +kernel
theorem dX9_size_12 : decode cX9_size 12 = .ok (.iload_n 2, 1) := by decide +kernel
theorem dX9_size_13 : decode cX9_size 13 = .ok (.ishr, 1) := by decide +kernel
theorem dX9_size_14 : decode cX9_size 14 = .ok (.iconst 1, 1) := by decide +kernel
theorem dX9_size_15 : decode cX9_size 15 = .ok (.iand, 1) := by decide +kernel
theorem dX9_size_16 : decode cX9_size 16 = .ok (.iadd, 1) := by decide +kernel
theorem dX9_size_17 : decode cX9_size 17 = .ok (.istore_n 1, 1) := by decide +kernel
theorem dX9_size_18 : decode cX9_size 18 = .ok (.iinc 2 1, 3) := by decide +kernel
theorem dX9_size_21 : decode cX9_size 21 = .ok (.goto (-17), 3) := by decide +kernel
theorem dX9_size_24 : decode cX9_size 24 = .ok (.iload_n 1, 1) := by decide +kernel
theorem dX9_size_25 : decode cX9_size 25 = .ok (.ireturn, 1) := by decide +kernel
theorem dX9_keep_0 : decode cX9_keep 0 = .ok (.aload_n 0, 1) := by decide +kernel
theorem dX9_keep_1 : decode cX9_keep 1 = .ok (.getfield 63, 3) := by decide +kernel
theorem dX9_keep_4 : decode cX9_keep 4 = .ok (.bipush 8, 2) := by decide +kernel
theorem dX9_keep_6 : decode cX9_keep 6 = .ok (.if_icmp .ne 57, 3) := by decide +kernel
theorem dX9_keep_9 : decode cX9_keep 9 = .ok (.iconst 0, 1) := by decide +kernel
theorem dX9_keep_10 : decode cX9_keep 10 = .ok (.istore_n 1, 1) := by decide +kernel
theorem dX9_keep_11 : decode cX9_keep 11 = .ok (.iload_n 1, 1) := by decide +kernel
theorem dX9_keep_12 : decode cX9_keep 12 = .ok (.iconst 1, 1) := by decide +kernel
theorem dX9_keep_13 : decode cX9_keep 13 = .ok (.iadd, 1) := by decide +kernel
theorem dX9_keep_14 : decode cX9_keep 14 = .ok (.bipush 8, 2) := by decide +kernel
theorem dX9_keep_16 : decode cX9_keep 16 = .ok (.if_icmp .ge 37, 3) := by decide +kernel
theorem dX9_keep_19 : decode cX9_keep 19 = .ok (.aload_n 0, 1) := by decide +kernel
theorem dX9_keep_20 : decode cX9_keep 20 = .ok (.getfield 17, 3) := by decide +kernel
theorem dX9_keep_23 : decode cX9_keep 23 = .ok (.iload_n 1, 1) := by decide +kernel
theorem dX9_keep_24 : decode cX9_keep 24 = .ok (.aload_n 0, 1) := by decide +kernel
theorem dX9_keep_25 : decode cX9_keep 25 = .ok (.getfield 17, 3) := by decide +kernel
theorem dX9_keep_28 : decode cX9_keep 28 = .ok (.iload_n 1, 1) := by decide +kernel
theorem dX9_keep_29 : decode cX9_keep 29 = .ok (.iconst 1, 1) := by decide +kernel
theorem dX9_keep_30 : decode cX9_keep 30 = .ok (.iadd, 1) := by decide +kernel
theorem dX9_keep_31 : decode cX9_keep 31 = .ok (.iaload, 1) := by decide +kernel
theorem dX9_keep_32 : decode cX9_keep 32 = .ok (.iastore, 1) := by decide +kernel
theorem dX9_keep_33 : decode cX9_keep 33 = .ok (.aload_n 0, 1) := by decide +kernel
theorem dX9_keep_34 : decode cX9_keep 34 = .ok (.getfield 21, 3) := by decide +kernel
theorem dX9_keep_37 : decode cX9_keep 37 = .ok (.iload_n 1, 1) := by decide +kernel
theorem dX9_keep_38 : decode cX9_keep 38 = .ok (.aload_n 0, 1) := by decide +kernel
theorem dX9_keep_39 : decode cX9_keep 39 = .ok (.getfield 21, 3) := by decide +kernel
theorem dX9_keep_42 : decode cX9_keep 42 = .ok (.iload_n 1, 1) := by decide +kernel
theorem dX9_keep_43 : decode cX9_keep 43 = .ok (.iconst 1, 1) := by decide +kernel
theorem dX9_keep_44 : decode cX9_keep 44 = .ok (.iadd, 1) := by decide +kernel
theorem dX9_keep_45 : decode cX9_keep 45 = .ok (.laload, 1) := by decide +kernel
theorem dX9_keep_46 : decode cX9_keep 46 = .ok (.lastore, 1) := by decide +kernel
theorem dX9_keep_47 : decode cX9_keep 47 = .ok (.iinc 1 1, 3) := by decide +kernel
theorem dX9_keep_50 : decode cX9_keep 50 = .ok (.goto (-39), 3) := by decide +kernel
theorem dX9_keep_53 : decode cX9_keep 53 = .ok (.aload_n 0, 1) := by decide +kernel
theorem dX9_keep_54 : decode cX9_keep 54 = .ok (.dup, 1) := by decide +kernel
theorem dX9_keep_55 : decode cX9_keep 55 = .ok (.getfield 63, 3) := by decide +kernel
theorem dX9_keep_58 : decode cX9_keep 58 = .ok (.iconst 1, 1) := by decide +kernel
theorem dX9_keep_59 : decode cX9_keep 59 = .ok (.isub, 1) := by decide +kernel
theorem dX9_keep_60 : decode cX9_keep 60 = .ok (.putfield 63, 3) := by decide +kernel
theorem dX9_keep_63 : decode cX9_keep 63 = .ok (.aload_n 0, 1) := by decide +kernel
theorem dX9_keep_64 : decode cX9_keep 64 = .ok (.getfield 17, 3) := by decide +kernel
theorem dX9_keep_67 : decode cX9_keep 67 = .ok (.aload_n 0, 1) := by decide +kernel
theorem dX9_keep_68 : decode cX9_keep 68 = .ok (.getfield 63, 3) := by decide +kernel
theorem dX9_keep_71 : decode cX9_keep 71 = .ok (.aload_n 0, 1) := by decide +kernel
theorem dX9_keep_72 : decode cX9_keep 72 = .ok (.getfield 7, 3) := by decide +kernel
theorem dX9_keep_75 : decode cX9_keep 75 = .ok (.iastore, 1) := by decide +kernel
theorem dX9_keep_76 : decode cX9_keep 76 = .ok (.aload_n 0, 1) := by decide +kernel
theorem dX9_keep_77 : decode cX9_keep 77 = .ok (.getfield 21, 3) := by decide +kernel
theorem dX9_keep_80 : decode cX9_keep 80 = .ok (.aload_n 0, 1) := by decide +kernel
theorem dX9_keep_81 : decode cX9_keep 81 = .ok (.getfield 63, 3) := by decide +kernel
theorem dX9_keep_84 : decode cX9_keep 84 = .ok (.aload_n 0, 1) := by decide +kernel
theorem dX9_keep_85 : decode cX9_keep 85 = .ok (.getfield 13, 3) := by decide +kernel
theorem dX9_keep_88 : decode cX9_keep 88 = .ok (.lastore, 1) := by decide +kernel
theorem dX9_keep_89 : decode cX9_keep 89 = .ok (.aload_n 0, 1) := by decide +kernel
theorem dX9_keep_90 : decode cX9_keep 90 = .ok (.dup, 1) := by decide +kernel
theorem dX9_keep_91 : decode cX9_keep 91 = .ok (.getfield 63, 3) := by decide +kernel
theorem dX9_keep_94 : decode cX9_keep 94 = .ok (.iconst 1, 1) := by decide +kernel
theorem dX9_keep_95 : decode cX9_keep 95 = .ok (.iadd, 1) := by decide +kernel
theorem dX9_keep_96 : decode cX9_keep 96 = .ok (.putfield 63, 3) := by decide +kernel
theorem dX9_keep_99 : decode cX9_keep 99 = .ok (.return_, 1) := by decide +kernel
set_option maxRecDepth 20000 in
theorem ggX9_becomes_X9_keep : GoodIn wsX9_becomes wsX9_keep := goodIn_r _ [7, 8, 9, 10, 1, 2, 11, 12, 13, 14, 15, 16, 17, 18, 19, 20, 21, 22, 23, 24, 25, 26, 27, 28, 29, 30, 31, 32, 33, 34, 35, 36, 37] (by decide +kernel) (by decide +kernel)
set_option maxRecDepth 20000 in
theorem gX9_becomes_X9_keep : GoodIn wsX9_becomes (wsV RX9 66 RX9 yX9_keep wsX9_keep) := goodIn_app (goodIn_of _ (by decide +kernel)) ggX9_becomes_X9_keep
theorem dX9_becomes_0 : decode cX9_becomes 0 = .ok (.aload_n 0, 1) := by decide +kernel
theorem dX9_becomes_1 : decode cX9_becomes 1 = .ok (.invokevirtual 66, 3) := by decide +kernel
theorem dX9_becomes_4 : decode cX9_becomes 4 = .ok (.aload_n 0, 1) := by decide +kernel
theorem dX9_becomes_5 : decode cX9_becomes 5 = .ok (.iload_n 1, 1) := by decide +kernel
theorem dX9_becomes_6 : decode cX9_becomes 6 = .ok (.putfield 7, 3) := by decide +kernel
theorem dX9_becomes_9 : decode cX9_becomes 9 = .ok (.aload_n 0, 1) := by decide +kernel
theorem dX9_becomes_10 : decode cX9_becomes 10 = .ok (.lload_n 2, 1) := by decide +kernel
theorem dX9_becomes_11 : decode cX9_becomes 11 = .ok (.putfield 13, 3) := by decide +kernel
theorem dX9_becomes_14 : decode cX9_becomes 14 = .ok (.return_, 1) := by decide +kernel
theorem dX9_undo_0 : decode cX9_undo 0 = .ok (.aload_n 0, 1) := by decide +kernel
theorem dX9_undo_1 : decode cX9_undo 1 = .ok (.getfield 63, 3) := by decide +kernel
theorem dX9_undo_4 : decode cX9_undo 4 = .ok (.ifCond .ne 5, 3) := by decide +kernel
theorem dX9_undo_7 : decode cX9_undo 7 = .ok (.iconst 0, 1) := by decide +kernel
theorem dX9_undo_8 : decode cX9_undo 8 = .ok (.ireturn, 1) := by decide +kernel
theorem dX9_undo_9 : decode cX9_undo 9 = .ok (.aload_n 0, 1) := by decide +kernel
theorem dX9_undo_10 : decode cX9_undo 10 = .ok (.dup, 1) := by decide +kernel
theorem dX9_undo_11 : decode cX9_undo 11 = .ok (.getfield 63, 3) := by decide +kernel
theorem dX9_undo_14 : decode cX9_undo 14 = .ok (.iconst 1, 1) := by decide +kernel
theorem dX9_undo_15 : decode cX9_undo 15 = .ok (.isub, 1) := by decide +kernel
theorem dX9_undo_16 : decode cX9_undo 16 = .ok (.putfield 63, 3) := by decide +kernel
theorem dX9_undo_19 : decode cX9_undo 19 = .ok (.aload_n 0, 1) := by decide +kernel
theorem dX9_undo_20 : decode cX9_undo 20 = .ok (.aload_n 0, 1) := by decide +kernel
theorem dX9_undo_21 : decode cX9_undo 21 = .ok (.getfield 17, 3) := by decide +kernel
theorem dX9_undo_24 : decode cX9_undo 24 = .ok (.aload_n 0, 1) := by decide +kernel
theorem dX9_undo_25 : decode cX9_undo 25 = .ok (.getfield 63, 3) := by decide +kernel
theorem dX9_undo_28 : decode cX9_undo 28 = .ok (.iaload, 1) := by decide +kernel
theorem dX9_undo_29 : decode cX9_undo 29 = .ok (.putfield 7, 3) := by decide +kernel
theorem dX9_undo_32 : decode cX9_undo 32 = .ok (.aload_n 0, 1) := by decide +kernel
theorem dX9_undo_33 : decode cX9_undo 33 = .ok (.aload_n 0, 1) := by decide +kernel
theorem dX9_undo_34 : decode cX9_undo 34 = .ok (.getfield 21, 3) := by decide +kernel
theorem dX9_undo_37 : decode cX9_undo 37 = .ok (.aload_n 0, 1) := by decide +kernel
theorem dX9_undo_38 : decode cX9_undo 38 = .ok (.getfield 63, 3) := by decide +kernel
theorem dX9_undo_41 : decode cX9_undo 41 = .ok (.laload, 1) := by decide +kernel
theorem dX9_undo_42 : decode cX9_undo 42 = .ok (.putfield 13, 3) := by decide +kernel
theorem dX9_undo_45 : decode cX9_undo 45 = .ok (.iconst 1, 1) := by decide +kernel
theorem dX9_undo_46 : decode cX9_undo 46 = .ok (.ireturn, 1) := by decide +kernel
set_option maxRecDepth 20000 in
theorem ggX9_points_X9_isIn : GoodIn wsX9_points wsX9_isIn := goodIn_r _ [4] (by decide +kernel) (by decide +kernel)
set_option maxRecDepth 20000 in
theorem gX9_points_X9_isIn : GoodIn wsX9_points (va_wsS RX9 59 yX9_isIn wsX9_isIn) := goodIn_app (goodIn_of _ (by decide +kernel)) ggX9_points_X9_isIn
set_option maxRecDepth 20000 in
theorem ggX9_points_X9_becomes : GoodIn wsX9_points wsX9_becomes := goodIn_r _ [8, 9, 10, 11, 12, 13, 3, 14, 15, 16, 17, 18, 19, 20, 21, 22, 23, 24, 25, 26, 27, 28, 29, 30, 31, 32, 33, 34, 35, 36, 37, 38, 39, 40, 41, 42, 43, 44] (by decide +kernel) (by decide +kernel)
set_option maxRecDepth 20000 in
theorem gX9_points_X9_becomes : GoodIn wsX9_points (wsV RX9 69 RX9 yX9_becomes wsX9_becomes) := goodIn_app (goodIn_of _ (by decide +kernel)) ggX9_points_X9_becomes
theorem dX9_points_0 : decode cX9_points 0 = .ok (.iload_n 1, 1) := by decide +kernel
theorem dX9_points_1 : decode cX9_points 1 = .ok (.iconst 1, 1) := by decide +kernel
theorem dX9_points_2 : decode cX9_points 2 = .ok (.bipush 6, 2) := by decide +kernel
theorem dX9_points_4 : decode cX9_points 4 = .ok (.invokestatic 59, 3) := by decide +kernel
theorem dX9_points_7 : decode cX9_points 7 = .ok (.ifCond .ne 5, 3) := by decide +kernel
theorem dX9_points_10 : decode cX9_points 10 = .ok (.iconst 0, 1) := by decide +kernel
theorem dX9_points_11 : decode cX9_points 11 = .ok (.ireturn, 1) := by decide +kernel
theorem dX9_points_12 : decode cX9_points 12 = .ok (.aload_n 0, 1) := by decide +kernel
theorem dX9_points_13 : decode cX9_points 13 = .ok (.iload_n 1, 1) := by decide +kernel
theorem dX9_points_14 : decode cX9_points 14 = .ok (.lconst 1, 1) := by decide +kernel
theorem dX9_points_15 : decode cX9_points 15 = .ok (.invokevirtual 69, 3) := by decide +kernel
theorem dX9_points_18 : decode cX9_points 18 = .ok (.iconst 1, 1) := by decide +kernel
theorem dX9_points_19 : decode cX9_points 19 = .ok (.ireturn, 1) := by decide +kernel
theorem dX9_within_0 : decode cX9_within 0 = .ok (.lconst 0, 1) := by decide +kernel
theorem dX9_within_1 : decode cX9_within 1 = .ok (.lstore_n 1, 1) := by decide +kernel
theorem dX9_within_2 : decode cX9_within 2 = .ok (.iconst 0, 1) := by decide +kernel
theorem dX9_within_3 : decode cX9_within 3 = .ok (.istore_n 3, 1) := by decide +kernel
theorem dX9_within_4 : decode cX9_within 4 = .ok (.iload_n 3, 1) := by decide +kernel
theorem dX9_within_5 : decode cX9_within 5 = .ok (.iload_n 0, 1) := by decide +kernel
theorem dX9_within_6 : decode cX9_within 6 = .ok (.if_icmp .gt 27, 3) := by decide +kernel
theorem dX9_within_9 : decode cX9_within 9 = .ok (.lload_n 1, 1) := by decide +kernel
theorem dX9_within_10 : decode cX9_within 10 = .ok (.iload_n 3, 1) := by decide +kernel
theorem dX9_within_11 : decode cX9_within 11 = .ok (.iload_n 0, 1) := by decide +kernel
theorem dX9_within_12 : decode cX9_within 12 = .ok (.iconst (-1), 1) := by decide +kernel
theorem dX9_within_13 : decode cX9_within 13 = .ok (.ixor, 1) := by decide +kernel
theorem dX9_within_14 : decode cX9_within 14 = .ok (.iand, 1) := by decide +kernel
theorem dX9_within_15 : decode cX9_within 15 = .ok (.ifCond .ne 9, 3) := by decide +kernel
theorem dX9_within_18 : decode cX9_within 18 = .ok (.lconst 1, 1) := by decide +kernel
theorem dX9_within_19 : decode cX9_within 19 = .ok (.iload_n 3, 1) := by decide +kernel
theorem dX9_within_20 : decode cX9_within 20 = .ok (.lshl, 1) := by decide +kernel
theorem dX9_within_21 : decode cX9_within 21 = .ok (.goto 4, 3) := by decide +kernel
theorem dX9_within_24 : decode cX9_within 24 = .ok (.lconst 0, 1) := by decide +kernel
theorem dX9_within_25 : decode cX9_within 25 = .ok (.lor, 1) := by decide +kernel
theorem dX9_within_26 : decode cX9_within 26 = .ok (.lstore_n 1, 1) := by decide +kernel
theorem dX9_within_27 : decode cX9_within 27 = .ok (.iinc 3 1, 3) := by decide +kernel
theorem dX9_within_30 : decode cX9_within 30 = .ok (.goto (-26), 3) := by decide +kernel
theorem dX9_within_33 : decode cX9_within 33 = .ok (.lload_n 1, 1) := by decide +kernel
theorem dX9_within_34 : decode cX9_within 34 = .ok (.lreturn, 1) := by decide +kernel
theorem dX9_many_0 : decode cX9_many 0 = .ok (.iconst 0, 1) := by decide +kernel
theorem dX9_many_1 : decode cX9_many 1 = .ok (.istore_n 2, 1) := by decide +kernel
theorem dX9_many_2 : decode cX9_many 2 = .ok (.iconst 0, 1) := by decide +kernel
theorem dX9_many_3 : decode cX9_many 3 = .ok (.istore_n 3, 1) := by decide +kernel
theorem dX9_many_4 : decode cX9_many 4 = .ok (.iload_n 3, 1) := by decide +kernel
theorem dX9_many_5 : decode cX9_many 5 = .ok (.bipush 64, 2) := by decide +kernel
theorem dX9_many_7 : decode cX9_many 7 = .ok (.if_icmp .ge 18, 3) := by decide +kernel
theorem dX9_many_10 : decode cX9_many 10 = .ok (.iload_n 2, 1) := by decide +kernel
theorem dX9_many_11 : decode cX9_many 11 = .ok (.lload_n 0, 1) := by decide +kernel
theorem dX9_many_12 : decode cX9_many 12 = .ok (.iload_n 3, 1) := by decide +kernel
theorem dX9_many_13 : decode cX9_many 13 = .ok (.lshr, 1) := by decide +kernel
theorem dX9_many_14 : decode cX9_many 14 = .ok (.lconst 1, 1) := by decide +kernel
theorem dX9_many_15 : decode cX9_many 15 = .ok (.land, 1) := by decide +kernel
theorem dX9_many_16 : decode cX9_many 16 = .ok (.l2i, 1) := by decide +kernel
theorem dX9_many_17 : decode cX9_many 17 = .ok (.iadd, 1) := by decide +kernel
theorem dX9_many_18 : decode cX9_many 18 = .ok (.istore_n 2, 1) := by decide +kernel
theorem dX9_many_19 : decode cX9_many 19 = .ok (.iinc 3 1, 3) := by decide +kernel
theorem dX9_many_22 : decode cX9_many 22 = .ok (.goto (-18), 3) := by decide +kernel
theorem dX9_many_25 : decode cX9_many 25 = .ok (.iload_n 2, 1) := by decide +kernel
theorem dX9_many_26 : decode cX9_many 26 = .ok (.ireturn, 1) := by decide +kernel
set_option maxRecDepth 20000 in
theorem ggX9_face_X9_isSet : GoodIn wsX9_face wsX9_isSet := goodIn_r _ [7, 8, 9, 10, 6, 11, 2, 12, 13, 14, 32, 33, 34, 35, 36, 37, 38, 39, 40, 41, 42, 43, 44, 45, 46, 47, 48, 49, 50, 51, 52, 53, 54, 55, 56, 57, 58] (by decide +kernel) (by decide +kernel)
set_option maxRecDepth 20000 in
theorem gX9_face_X9_isSet : GoodIn wsX9_face (wsV RX9 73 RX9 yX9_isSet wsX9_isSet) := goodIn_app (goodIn_of _ (by decide +kernel)) ggX9_face_X9_isSet
set_option maxRecDepth 20000 in
theorem ggX9_face_X9_many : GoodIn wsX9_face wsX9_many := goodIn_r _ [17] (by decide +kernel) (by decide +kernel)
set_option maxRecDepth 20000 in
theorem gX9_face_X9_many : GoodIn wsX9_face (va_wsS RX9 77 yX9_many wsX9_many) := goodIn_app (goodIn_of _ (by decide +kernel)) ggX9_face_X9_many
set_option maxRecDepth 20000 in
theorem ggX9_face_X9_within : GoodIn wsX9_face wsX9_within := goodIn_r _ [20] (by decide +kernel) (by decide +kernel)
set_option maxRecDepth 20000 in
theorem gX9_face_X9_within : GoodIn wsX9_face (va_wsS RX9 81 yX9_within wsX9_within) := goodIn_app (goodIn_of _ (by decide +kernel)) ggX9_face_X9_within
set_option maxRecDepth 20000 in
theorem ggX9_face_X9_becomes : GoodIn wsX9_face wsX9_becomes := goodIn_r _ [24, 2, 1, 25, 26, 27, 6, 28, 29, 30, 31, 32, 33, 34, 35, 36, 37, 38, 39, 40, 41, 42, 43, 44, 45, 46, 47, 48, 49, 50, 51, 52, 53, 54, 55, 56, 57, 58] (by decide +kernel) (by decide +kernel)
set_option maxRecDepth 20000 in
theorem gX9_face_X9_becomes : GoodIn wsX9_face (wsV RX9 69 RX9 yX9_becomes wsX9_becomes) := goodIn_app (goodIn_of _ (by decide +kernel)) ggX9_face_X9_becomes
theorem dX9_face_0 : decode cX9_face 0 = .ok (.aload_n 0, 1) := by decide +kernel
theorem dX9_face_1 : decode cX9_face 1 = .ok (.iload_n 1, 1) := by decide +kernel
theorem dX9_face_2 : decode cX9_face 2 = .ok (.invokevirtual 73, 3) := by decide +kernel
theorem dX9_face_5 : decode cX9_face 5 = .ok (.ifCond .ne 5, 3) := by decide +kernel
theorem dX9_face_8 : decode cX9_face 8 = .ok (.iconst (-1), 1) := by decide +kernel
theorem dX9_face_9 : decode cX9_face 9 = .ok (.ireturn, 1) := by decide +kernel
theorem dX9_face_10 : decode cX9_face 10 = .ok (.aload_n 0, 1) := by decide +kernel
theorem dX9_face_11 : decode cX9_face 11 = .ok (.getfield 13, 3) := by decide +kernel
theorem dX9_face_14 : decode cX9_face 14 = .ok (.invokestatic 77, 3) := by decide +kernel
theorem dX9_face_17 : decode cX9_face 17 = .ok (.istore_n 2, 1) := by decide +kernel
theorem dX9_face_18 : decode cX9_face 18 = .ok (.aload_n 0, 1) := by decide +kernel
theorem dX9_face_19 : decode cX9_face 19 = .ok (.aload_n 0, 1) := by decide +kernel
theorem dX9_face_20 : decode cX9_face 20 = .ok (.getfield 7, 3) := by decide +kernel
theorem dX9_face_23 : decode cX9_face 23 = .ok (.aload_n 0, 1) := by decide +kernel
theorem dX9_face_24 : decode cX9_face 24 = .ok (.getfield 13, 3) := by decide +kernel
theorem dX9_face_27 : decode cX9_face 27 = .ok (.iload_n 1, 1) := by decide +kernel
theorem dX9_face_28 : decode cX9_face 28 = .ok (.invokestatic 81, 3) := by decide +kernel
theorem dX9_face_31 : decode cX9_face 31 = .ok (.lor, 1) := by decide +kernel
theorem dX9_face_32 : decode cX9_face 32 = .ok (.invokevirtual 69, 3) := by decide +kernel
theorem dX9_face_35 : decode cX9_face 35 = .ok (.aload_n 0, 1) := by decide +kernel
theorem dX9_face_36 : decode cX9_face 36 = .ok (.getfield 13, 3) := by decide +kernel
theorem dX9_face_39 : decode cX9_face 39 = .ok (.invokestatic 77, 3) := by decide +kernel
theorem dX9_face_42 : decode cX9_face 42 = .ok (.iload_n 2, 1) := by decide +kernel
theorem dX9_face_43 : decode cX9_face 43 = .ok (.isub, 1) := by decide +kernel
theorem dX9_face_44 : decode cX9_face 44 = .ok (.ireturn, 1) := by decide +kernel
set_option maxRecDepth 20000 in
theorem ggX9_cut_X9_isSet : GoodIn wsX9_cut wsX9_isSet := goodIn_r _ [8, 9, 10, 11, 7, 12, 3, 13, 14, 15, 34, 35, 36, 37, 38, 39, 40, 41, 42, 43, 44, 45, 46, 47, 48, 49, 50, 51, 52, 53, 54, 55, 56, 57, 58, 59, 60] (by decide +kernel) (by decide +kernel)
set_option maxRecDepth 20000 in
theorem gX9_cut_X9_isSet : GoodIn wsX9_cut (wsV RX9 73 RX9 yX9_isSet wsX9_isSet) := goodIn_app (goodIn_of _ (by decide +kernel)) ggX9_cut_X9_isSet
set_option maxRecDepth 20000 in
theorem ggX9_cut_X9_isFace : GoodIn wsX9_cut wsX9_isFace := goodIn_r _ [19, 1, 34, 35, 36, 37, 38, 39, 40, 41, 42, 43, 44, 45, 46, 47, 48, 49, 50, 51, 52, 53, 54, 55, 56, 57, 58, 59, 60] (by decide +kernel) (by decide +kernel)
set_option maxRecDepth 20000 in
theorem gX9_cut_X9_isFace : GoodIn wsX9_cut (wsV RX9 85 RX9 yX9_isFace wsX9_isFace) := goodIn_app (goodIn_of _ (by decide +kernel)) ggX9_cut_X9_isFace
set_option maxRecDepth 20000 in
theorem ggX9_cut_X9_many : GoodIn wsX9_cut wsX9_many := goodIn_r _ [22] (by decide +kernel) (by decide +kernel)
set_option maxRecDepth 20000 in
theorem gX9_cut_X9_many : GoodIn wsX9_cut (va_wsS RX9 77 yX9_many wsX9_many) := goodIn_app (goodIn_of _ (by decide +kernel)) ggX9_cut_X9_many
set_option maxRecDepth 20000 in
theorem ggX9_cut_X9_all : GoodIn wsX9_cut wsX9_all := goodIn_r _ [12, 3, 34, 35, 36, 37, 38, 39, 40, 41, 42, 43, 44, 45, 46, 47, 48, 49, 50, 51, 52, 53, 54, 55, 56, 57, 58, 59, 60] (by decide +kernel) (by decide +kernel)
set_option maxRecDepth 20000 in
theorem gX9_cut_X9_all : GoodIn wsX9_cut (wsV RX9 55 RX9 yX9_all wsX9_all) := goodIn_app (goodIn_of _ (by decide +kernel)) ggX9_cut_X9_all
set_option maxRecDepth 20000 in
theorem ggX9_cut_X9_becomes : GoodIn wsX9_cut wsX9_becomes := goodIn_r _ [26, 3, 1, 27, 28, 29, 7, 30, 31, 32, 33, 34, 35, 36, 37, 38, 39, 40, 41, 42, 43, 44, 45, 46, 47, 48, 49, 50, 51, 52, 53, 54, 55, 56, 57, 58, 59, 60] (by decide +kernel) (by decide +kernel)
set_option maxRecDepth 20000 in
theorem gX9_cut_X9_becomes : GoodIn wsX9_cut (wsV RX9 69 RX9 yX9_becomes wsX9_becomes) := goodIn_app (goodIn_of _ (by decide +kernel)) ggX9_cut_X9_becomes
theorem dX9_cut_0 : decode cX9_cut 0 = .ok (.aload_n 0, 1) := by decide +kernel
theorem dX9_cut_1 : decode cX9_cut 1 = .ok (.iload_n 1, 1) := by decide +kernel
theorem dX9_cut_2 : decode cX9_cut 2 = .ok (.invokevirtual 73, 3) := by decide +kernel
theorem dX9_cut_5 : decode cX9_cut 5 = .ok (.ifCond .eq 15, 3) := by decide +kernel
theorem dX9_cut_8 : decode cX9_cut 8 = .ok (.iload_n 1, 1) := by decide +kernel
theorem dX9_cut_9 : decode cX9_cut 9 = .ok (.ifCond .eq 11, 3) := by decide +kernel
theorem dX9_cut_12 : decode cX9_cut 12 = .ok (.aload_n 0, 1) := by decide +kernel
theorem dX9_cut_13 : decode cX9_cut 13 = .ok (.iload_n 1, 1) := by decide +kernel
theorem dX9_cut_14 : decode cX9_cut 14 = .ok (.invokevirtual 85, 3) := by decide +kernel
theorem dX9_cut_17 : decode cX9_cut 17 = .ok (.ifCond .ne 5, 3) := by decide +kernel
theorem dX9_cut_20 : decode cX9_cut 20 = .ok (.iconst (-1), 1) := by decide +kernel
theorem dX9_cut_21 : decode cX9_cut 21 = .ok (.ireturn, 1) := by decide +kernel
theorem dX9_cut_22 : decode cX9_cut 22 = .ok (.aload_n 0, 1) := by decide +kernel
theorem dX9_cut_23 : decode cX9_cut 23 = .ok (.getfield 13, 3) := by decide +kernel
theorem dX9_cut_26 : decode cX9_cut 26 = .ok (.invokestatic 77, 3) := by decide +kernel
theorem dX9_cut_29 : decode cX9_cut 29 = .ok (.istore_n 2, 1) := by decide +kernel
theorem dX9_cut_30 : decode cX9_cut 30 = .ok (.aload_n 0, 1) := by decide +kernel
theorem dX9_cut_31 : decode cX9_cut 31 = .ok (.getfield 13, 3) := by decide +kernel
theorem dX9_cut_34 : decode cX9_cut 34 = .ok (.lstore_n 3, 1) := by decide +kernel
theorem dX9_cut_35 : decode cX9_cut 35 = .ok (.iconst 0, 1) := by decide +kernel
theorem dX9_cut_36 : decode cX9_cut 36 = .ok (.istore 5, 2) := by decide +kernel
theorem dX9_cut_38 : decode cX9_cut 38 = .ok (.iload 5, 2) := by decide +kernel
theorem dX9_cut_40 : decode cX9_cut 40 = .ok (.aload_n 0, 1) := by decide +kernel
theorem dX9_cut_41 : decode cX9_cut 41 = .ok (.invokevirtual 55, 3) := by decide +kernel
theorem dX9_cut_44 : decode cX9_cut 44 = .ok (.if_icmp .gt 28, 3) := by decide +kernel
theorem dX9_cut_47 : decode cX9_cut 47 = .ok (.iload 5, 2) := by decide +kernel
theorem dX9_cut_49 : decode cX9_cut 49 = .ok (.iload_n 1, 1) := by decide +kernel
theorem dX9_cut_50 : decode cX9_cut 50 = .ok (.iand, 1) := by decide +kernel
theorem dX9_cut_51 : decode cX9_cut 51 = .ok (.iload_n 1, 1) := by decide +kernel
theorem dX9_cut_52 : decode cX9_cut 52 = .ok (.if_icmp .ne 14, 3) := by decide +kernel
theorem dX9_cut_55 : decode cX9_cut 55 = .ok (.lload_n 3, 1) := by decide +kernel
theorem dX9_cut_56 : decode cX9_cut 56 = .ok (.lconst 1, 1) := by decide +kernel
theorem dX9_cut_57 : decode cX9_cut 57 = .ok (.iload 5, 2) := by decide +kernel
theorem dX9_cut_59 : decode cX9_cut 59 = .ok (.lshl, 1) := by decide +kernel
theorem dX9_cut_60 : decode cX9_cut 60 = .ok (.ldc2_w 88, 3) := by decide +kernel
theorem dX9_cut_63 : decode cX9_cut 63 = .ok (.lxor, 1) := by decide +kernel
theorem dX9_cut_64 : decode cX9_cut 64 = .ok (.land, 1) := by decide +kernel
theorem dX9_cut_65 : decode cX9_cut 65 = .ok (.lstore_n 3, 1) := by decide +kernel
theorem dX9_cut_66 : decode cX9_cut 66 = .ok (.iinc 5 1, 3) := by decide +kernel
theorem dX9_cut_69 : decode cX9_cut 69 = .ok (.goto (-31), 3) := by decide +kernel
theorem dX9_cut_72 : decode cX9_cut 72 = .ok (.aload_n 0, 1) := by decide +kernel
theorem dX9_cut_73 : decode cX9_cut 73 = .ok (.aload_n 0, 1) := by decide +kernel
theorem dX9_cut_74 : decode cX9_cut 74 = .ok (.getfield 7, 3) := by decide +kernel
theorem dX9_cut_77 : decode cX9_cut 77 = .ok (.lload_n 3, 1) := by decide +kernel
theorem dX9_cut_78 : decode cX9_cut 78 = .ok (.invokevirtual 69, 3) := by decide +kernel
theorem dX9_cut_81 : decode cX9_cut 81 = .ok (.iload_n 2, 1) := by decide +kernel
theorem dX9_cut_82 : decode cX9_cut 82 = .ok (.lload_n 3, 1) := by decide +kernel
theorem dX9_cut_83 : decode cX9_cut 83 = .ok (.invokestatic 77, 3) := by decide +kernel
theorem dX9_cut_86 : decode cX9_cut 86 = .ok (.isub, 1) := by decide +kernel
theorem dX9_cut_87 : decode cX9_cut 87 = .ok (.ireturn, 1) := by decide +kernel
set_option maxRecDepth 20000 in
theorem ggX9_link_X9_isSet : GoodIn wsX9_link wsX9_isSet := goodIn_r _ [6, 7, 8, 9, 5, 10, 1, 11, 12, 13, 37, 38, 39, 40, 41, 42, 43, 44, 45, 46, 47, 48, 49, 50, 51, 52, 53, 54, 55, 56, 57, 58, 59, 60, 61, 62, 63] (by decide +kernel) (by decide +kernel)
set_option maxRecDepth 20000 in
theorem gX9_link_X9_isSet : GoodIn wsX9_link (wsV RX9 73 RX9 yX9_isSet wsX9_isSet) := goodIn_app (goodIn_of _ (by decide +kernel)) ggX9_link_X9_isSet
set_option maxRecDepth 20000 in
theorem ggX9_link_X9_all : GoodIn wsX9_link wsX9_all := goodIn_r _ [10, 1, 37, 38, 39, 40, 41, 42, 43, 44, 45, 46, 47, 48, 49, 50, 51, 52, 53, 54, 55, 56, 57, 58, 59, 60, 61, 62, 63] (by decide +kernel) (by decide +kernel)
set_option maxRecDepth 20000 in
theorem gX9_link_X9_all : GoodIn wsX9_link (wsV RX9 55 RX9 yX9_all wsX9_all) := goodIn_app (goodIn_of _ (by decide +kernel)) ggX9_link_X9_all
set_option maxRecDepth 20000 in
theorem ggX9_link_X9_isFace : GoodIn wsX9_link wsX9_isFace := goodIn_r _ [17, 18, 37, 38, 39, 40, 41, 42, 43, 44, 45, 46, 47, 48, 49, 50, 51, 52, 53, 54, 55, 56, 57, 58, 59, 60, 61, 62, 63] (by decide +kernel) (by decide +kernel)
set_option maxRecDepth 20000 in
theorem gX9_link_X9_isFace : GoodIn wsX9_link (wsV RX9 85 RX9 yX9_isFace wsX9_isFace) := goodIn_app (goodIn_of _ (by decide +kernel)) ggX9_link_X9_isFace
set_option maxRecDepth 20000 in
theorem ggX9_link_X9_size : GoodIn wsX9_link wsX9_size := goodIn_r _ [21] (by decide +kernel) (by decide +kernel)
set_option maxRecDepth 20000 in
theorem gX9_link_X9_size : GoodIn wsX9_link (va_wsS RX9 90 yX9_size wsX9_size) := goodIn_app (goodIn_of _ (by decide +kernel)) ggX9_link_X9_size
set_option maxRecDepth 20000 in
theorem ggX9_link_X9_spread : GoodIn wsX9_link wsX9_spread := goodIn_r _ [25, 1, 37, 38, 39, 40, 41, 42, 43, 44, 45, 46, 47, 48, 49, 50, 51, 52, 53, 54, 55, 56, 57, 58, 59, 60, 61, 62, 63] (by decide +kernel) (by decide +kernel)
set_option maxRecDepth 20000 in
theorem gX9_link_X9_spread : GoodIn wsX9_link (wsV RX9 94 RX9 yX9_spread wsX9_spread) := goodIn_app (goodIn_of _ (by decide +kernel)) ggX9_link_X9_spread
set_option maxRecDepth 20000 in
theorem ggX9_link_X9_becomes : GoodIn wsX9_link wsX9_becomes := goodIn_r _ [29, 1, 18, 30, 31, 32, 5, 33, 34, 35, 36, 37, 38, 39, 40, 41, 42, 43, 44, 45, 46, 47, 48, 49, 50, 51, 52, 53, 54, 55, 56, 57, 58, 59, 60, 61, 62, 63] (by decide +kernel) (by decide +kernel)
set_option maxRecDepth 20000 in
theorem gX9_link_X9_becomes : GoodIn wsX9_link (wsV RX9 69 RX9 yX9_becomes wsX9_becomes) := goodIn_app (goodIn_of _ (by decide +kernel)) ggX9_link_X9_becomes
theorem dX9_link_0 : decode cX9_link 0 = .ok (.aload_n 0, 1) := by decide +kernel
theorem dX9_link_1 : decode cX9_link 1 = .ok (.iload_n 1, 1) := by decide +kernel
theorem dX9_link_2 : decode cX9_link 2 = .ok (.invokevirtual 73, 3) := by decide +kernel
theorem dX9_link_5 : decode cX9_link 5 = .ok (.ifCond .eq 23, 3) := by decide +kernel
theorem dX9_link_8 : decode cX9_link 8 = .ok (.iload_n 1, 1) := by decide +kernel
theorem dX9_link_9 : decode cX9_link 9 = .ok (.ifCond .eq 19, 3) := by decide +kernel
theorem dX9_link_12 : decode cX9_link 12 = .ok (.iload_n 1, 1) := by decide +kernel
theorem dX9_link_13 : decode cX9_link 13 = .ok (.aload_n 0, 1) := by decide +kernel
theorem dX9_link_14 : decode cX9_link 14 = .ok (.invokevirtual 55, 3) := by decide +kernel
theorem dX9_link_17 : decode cX9_link 17 = .ok (.if_icmp .eq 11, 3) := by decide +kernel
theorem dX9_link_20 : decode cX9_link 20 = .ok (.aload_n 0, 1) := by decide +kernel
theorem dX9_link_21 : decode cX9_link 21 = .ok (.iload_n 1, 1) := by decide +kernel
theorem dX9_link_22 : decode cX9_link 22 = .ok (.invokevirtual 85, 3) := by decide +kernel
theorem dX9_link_25 : decode cX9_link 25 = .ok (.ifCond .ne 5, 3) := by decide +kernel
theorem dX9_link_28 : decode cX9_link 28 = .ok (.iconst (-1), 1) := by decide +kernel
theorem dX9_link_29 : decode cX9_link 29 = .ok (.ireturn, 1) := by decide +kernel
theorem dX9_link_30 : decode cX9_link 30 = .ok (.aload_n 0, 1) := by decide +kernel
theorem dX9_link_31 : decode cX9_link 31 = .ok (.getfield 7, 3) := by decide +kernel
theorem dX9_link_34 : decode cX9_link 34 = .ok (.iload_n 1, 1) := by decide +kernel
theorem dX9_link_35 : decode cX9_link 35 = .ok (.invokestatic 90, 3) := by decide +kernel
theorem dX9_link_38 : decode cX9_link 38 = .ok (.isub, 1) := by decide +kernel
theorem dX9_link_39 : decode cX9_link 39 = .ok (.istore_n 2, 1) := by decide +kernel
theorem dX9_link_40 : decode cX9_link 40 = .ok (.lconst 0, 1) := by decide +kernel
theorem dX9_link_41 : decode cX9_link 41 = .ok (.lstore_n 3, 1) := by decide +kernel
theorem dX9_link_42 : decode cX9_link 42 = .ok (.iconst 0, 1) := by decide +kernel
theorem dX9_link_43 : decode cX9_link 43 = .ok (.istore 5, 2) := by decide +kernel
theorem dX9_link_45 : decode cX9_link 45 = .ok (.iload 5, 2) := by decide +kernel
theorem dX9_link_47 : decode cX9_link 47 = .ok (.iconst 1, 1) := by decide +kernel
theorem dX9_link_48 : decode cX9_link 48 = .ok (.iload_n 2, 1) := by decide +kernel
theorem dX9_link_49 : decode cX9_link 49 = .ok (.ishl, 1) := by decide +kernel
theorem dX9_link_50 : decode cX9_link 50 = .ok (.if_icmp .ge 36, 3) := by decide +kernel
theorem dX9_link_53 : decode cX9_link 53 = .ok (.lload_n 3, 1) := by decide +kernel
theorem dX9_link_54 : decode cX9_link 54 = .ok (.aload_n 0, 1) := by decide +kernel
theorem dX9_link_55 : decode cX9_link 55 = .ok (.aload_n 0, 1) := by decide +kernel
theorem dX9_link_56 : decode cX9_link 56 = .ok (.iload 5, 2) := by decide +kernel
theorem dX9_link_58 : decode cX9_link 58 = .ok (.iload_n 1, 1) := by decide +kernel
theorem dX9_link_59 : decode cX9_link 59 = .ok (.invokevirtual 94, 3) := by decide +kernel
theorem dX9_link_62 : decode cX9_link 62 = .ok (.iload_n 1, 1) := by decide +kernel
theorem dX9_link_63 : decode cX9_link 63 = .ok (.ior, 1) := by decide +kernel
theorem dX9_link_64 : decode cX9_link 64 = .ok (.invokevirtual 85, 3) := by decide +kernel
theorem dX9_link_67 : decode cX9_link 67 = .ok (.ifCond .eq 10, 3) := by decide +kernel
theorem dX9_link_70 : decode cX9_link 70 = .ok (.lconst 1, 1) := by decide +kernel
theorem dX9_link_71 : decode cX9_link 71 = .ok (.iload 5, 2) := by decide +kernel
theorem dX9_link_73 : decode cX9_link 73 = .ok (.lshl, 1) := by decide +kernel
theorem dX9_link_74 : decode cX9_link 74 = .ok (.goto 4, 3) := by decide +kernel
theorem dX9_link_77 : decode cX9_link 77 = .ok (.lconst 0, 1) := by decide +kernel
theorem dX9_link_78 : decode cX9_link 78 = .ok (.lor, 1) := by decide +kernel
theorem dX9_link_79 : decode cX9_link 79 = .ok (.lstore_n 3, 1) := by decide +kernel
theorem dX9_link_80 : decode cX9_link 80 = .ok (.iinc 5 1, 3) := by decide +kernel
theorem dX9_link_83 : decode cX9_link 83 = .ok (.goto (-38), 3) := by decide +kernel
theorem dX9_link_86 : decode cX9_link 86 = .ok (.aload_n 0, 1) := by decide +kernel
theorem dX9_link_87 : decode cX9_link 87 = .ok (.iload_n 2, 1) := by decide +kernel
theorem dX9_link_88 : decode cX9_link 88 = .ok (.lload_n 3, 1) := by decide +kernel
theorem dX9_link_89 : decode cX9_link 89 = .ok (.invokevirtual 69, 3) := by decide +kernel
theorem dX9_link_92 : decode cX9_link 92 = .ok (.iload_n 2, 1) := by decide +kernel
theorem dX9_link_93 : decode cX9_link 93 = .ok (.ireturn, 1) := by decide +kernel
theorem dX9_spread_0 : decode cX9_spread 0 = .ok (.iconst 0, 1) := by decide +kernel
theorem dX9_spread_1 : decode cX9_spread 1 = .ok (.istore_n 3, 1) := by decide +kernel
theorem dX9_spread_2 : decode cX9_spread 2 = .ok (.iconst 0, 1) := by decide +kernel
theorem dX9_spread_3 : decode cX9_spread 3 = .ok (.istore 4, 2) := by decide +kernel
theorem dX9_spread_5 : decode cX9_spread 5 = .ok (.iconst 0, 1) := by decide +kernel
theorem dX9_spread_6 : decode cX9_spread 6 = .ok (.istore 5, 2) := by decide +kernel
theorem dX9_spread_8 : decode cX9_spread 8 = .ok (.iload 5, 2) := by decide +kernel
theorem dX9_spread_10 : decode cX9_spread 10 = .ok (.aload_n 0, 1) := by decide +kernel
theorem dX9_spread_11 : decode cX9_spread 11 = .ok (.getfield 7, 3) := by decide +kernel
theorem dX9_spread_14 : decode cX9_spread 14 = .ok (.if_icmp .ge 37, 3) := by decide +kernel
theorem dX9_spread_17 : decode cX9_spread 17 = .ok (.iload_n 2, 1) := by decide +kernel
theorem dX9_spread_18 : decode cX9_spread 18 = .ok (.iload 5, 2) := by decide +kernel
theorem dX9_spread_20 : decode cX9_spread 20 = .ok (.ishr, 1) := by decide +kernel
theorem dX9_spread_21 : decode cX9_spread 21 = .ok (.iconst 1, 1) := by decide +kernel
theorem dX9_spread_22 : decode cX9_spread 22 = .ok (.iand, 1) := by decide +kernel
theorem dX9_spread_23 : decode cX9_spread 23 = .ok (.iconst 1, 1) := by decide +kernel
theorem dX9_spread_24 : decode cX9_spread 24 = .ok (.if_icmp .ne 6, 3) := by decide +kernel
theorem dX9_spread_27 : decode cX9_spread 27 = .ok (.goto 18, 3) := by decide +kernel
theorem dX9_spread_30 : decode cX9_spread 30 = .ok (.iload_n 3, 1) := by decide +kernel
theorem dX9_spread_31 : decode cX9_spread 31 = .ok (.iload_n 1, 1) := by decide +kernel
theorem dX9_spread_32 : decode cX9_spread 32 = .ok (.iload 4, 2) := by decide +kernel
theorem dX9_spread_34 : decode cX9_spread 34 = .ok (.ishr, 1) := by decide +kernel
theorem dX9_spread_35 : decode cX9_spread 35 = .ok (.iconst 1, 1) := by decide +kernel
theorem dX9_spread_36 : decode cX9_spread 36 = .ok (.iand, 1) := by decide +kernel
theorem dX9_spread_37 : decode cX9_spread 37 = .ok (.iload 5, 2) := by decide +kernel
theorem dX9_spread_39 : decode cX9_spread 39 = .ok (.ishl, 1) := by decide +kernel
theorem dX9_spread_40 : decode cX9_spread 40 = .ok (.ior, 1) := by decide +kernel
theorem dX9_spread_41 : decode cX9_spread 41 = .ok (.istore_n 3, 1) := by decide +kernel
theorem dX9_spread_42 : decode cX9_spread 42 = .ok (.iinc 4 1, 3) := by decide +kernel
theorem dX9_spread_45 : decode cX9_spread 45 = .ok (.iinc 5 1, 3) := by decide +kernel
theorem dX9_spread_48 : decode cX9_spread 48 = .ok (.goto (-40), 3) := by decide +kernel
theorem dX9_spread_51 : decode cX9_spread 51 = .ok (.iload_n 3, 1) := by decide +kernel
theorem dX9_spread_52 : decode cX9_spread 52 = .ok (.ireturn, 1) := by decide +kernel
set_option maxRecDepth 20000 in
theorem ggX9_dual_X9_all : GoodIn wsX9_dual wsX9_all := goodIn_r _ [6, 1, 23, 24, 25, 26, 27, 28, 29, 30, 31, 32, 33, 34, 35, 36, 37, 38, 39, 40, 41, 42, 43, 44, 45, 46, 47, 48, 49] (by decide +kernel) (by decide +kernel)
set_option maxRecDepth 20000 in
theorem gX9_dual_X9_all : GoodIn wsX9_dual (wsV RX9 55 RX9 yX9_all wsX9_all) := goodIn_app (goodIn_of _ (by decide +kernel)) ggX9_dual_X9_all
set_option maxRecDepth 20000 in
theorem ggX9_dual_X9_isFace : GoodIn wsX9_dual wsX9_isFace := goodIn_r _ [10, 11, 23, 24, 25, 26, 27, 28, 29, 30, 31, 32, 33, 34, 35, 36, 37, 38, 39, 40, 41, 42, 43, 44, 45, 46, 47, 48, 49] (by decide +kernel) (by decide +kernel)
set_option maxRecDepth 20000 in
theorem gX9_dual_X9_isFace : GoodIn wsX9_dual (wsV RX9 85 RX9 yX9_isFace wsX9_isFace) := goodIn_app (goodIn_of _ (by decide +kernel)) ggX9_dual_X9_isFace
set_option maxRecDepth 20000 in
theorem ggX9_dual_X9_becomes : GoodIn wsX9_dual wsX9_becomes := goodIn_r _ [15, 1, 11, 16, 17, 18, 5, 19, 20, 21, 22, 23, 24, 25, 26, 27, 28, 29, 30, 31, 32, 33, 34, 35, 36, 37, 38, 39, 40, 41, 42, 43, 44, 45, 46, 47, 48, 49] (by decide +kernel) (by decide +kernel)
set_option maxRecDepth 20000 in
theorem gX9_dual_X9_becomes : GoodIn wsX9_dual (wsV RX9 69 RX9 yX9_becomes wsX9_becomes) := goodIn_app (goodIn_of _ (by decide +kernel)) ggX9_dual_X9_becomes
theorem dX9_dual_0 : decode cX9_dual 0 = .ok (.aload_n 0, 1) := by decide +kernel
theorem dX9_dual_1 : decode cX9_dual 1 = .ok (.aload_n 0, 1) := by decide +kernel
theorem dX9_dual_2 : decode cX9_dual 2 = .ok (.invokevirtual 55, 3) := by decide +kernel
theorem dX9_dual_5 : decode cX9_dual 5 = .ok (.invokevirtual 85, 3) := by decide +kernel
theorem dX9_dual_8 : decode cX9_dual 8 = .ok (.ifCond .eq 5, 3) := by decide +kernel
theorem dX9_dual_11 : decode cX9_dual 11 = .ok (.iconst 0, 1) := by decide +kernel
theorem dX9_dual_12 : decode cX9_dual 12 = .ok (.ireturn, 1) := by decide +kernel
theorem dX9_dual_13 : decode cX9_dual 13 = .ok (.lconst 0, 1) := by decide +kernel
theorem dX9_dual_14 : decode cX9_dual 14 = .ok (.lstore_n 1, 1) := by decide +kernel
theorem dX9_dual_15 : decode cX9_dual 15 = .ok (.iconst 0, 1) := by decide +kernel
theorem dX9_dual_16 : decode cX9_dual 16 = .ok (.istore_n 3, 1) := by decide +kernel
theorem dX9_dual_17 : decode cX9_dual 17 = .ok (.iload_n 3, 1) := by decide +kernel
theorem dX9_dual_18 : decode cX9_dual 18 = .ok (.aload_n 0, 1) := by decide +kernel
theorem dX9_dual_19 : decode cX9_dual 19 = .ok (.invokevirtual 55, 3) := by decide +kernel
theorem dX9_dual_22 : decode cX9_dual 22 = .ok (.if_icmp .gt 34, 3) := by decide +kernel
theorem dX9_dual_25 : decode cX9_dual 25 = .ok (.lload_n 1, 1) := by decide +kernel
theorem dX9_dual_26 : decode cX9_dual 26 = .ok (.aload_n 0, 1) := by decide +kernel
theorem dX9_dual_27 : decode cX9_dual 27 = .ok (.aload_n 0, 1) := by decide +kernel
theorem dX9_dual_28 : decode cX9_dual 28 = .ok (.invokevirtual 55, 3) := by decide +kernel
theorem dX9_dual_31 : decode cX9_dual 31 = .ok (.iload_n 3, 1) := by decide +kernel
theorem dX9_dual_32 : decode cX9_dual 32 = .ok (.iconst (-1), 1) := by decide +kernel
theorem dX9_dual_33 : decode cX9_dual 33 = .ok (.ixor, 1) := by decide +kernel
theorem dX9_dual_34 : decode cX9_dual 34 = .ok (.iand, 1) := by decide +kernel
theorem dX9_dual_35 : decode cX9_dual 35 = .ok (.invokevirtual 85, 3) := by decide +kernel
theorem dX9_dual_38 : decode cX9_dual 38 = .ok (.ifCond .eq 7, 3) := by decide +kernel
theorem dX9_dual_41 : decode cX9_dual 41 = .ok (.lconst 0, 1) := by decide +kernel
theorem dX9_dual_42 : decode cX9_dual 42 = .ok (.goto 6, 3) := by decide +kernel
theorem dX9_dual_45 : decode cX9_dual 45 = .ok (.lconst 1, 1) := by decide +kernel
theorem dX9_dual_46 : decode cX9_dual 46 = .ok (.iload_n 3, 1) := by decide +kernel
theorem dX9_dual_47 : decode cX9_dual 47 = .ok (.lshl, 1) := by decide +kernel
theorem dX9_dual_48 : decode cX9_dual 48 = .ok (.lor, 1) := by decide +kernel
theorem dX9_dual_49 : decode cX9_dual 49 = .ok (.lstore_n 1, 1) := by decide +kernel
theorem dX9_dual_50 : decode cX9_dual 50 = .ok (.iinc 3 1, 3) := by decide +kernel
theorem dX9_dual_53 : decode cX9_dual 53 = .ok (.goto (-36), 3) := by decide +kernel
theorem dX9_dual_56 : decode cX9_dual 56 = .ok (.aload_n 0, 1) := by decide +kernel
theorem dX9_dual_57 : decode cX9_dual 57 = .ok (.aload_n 0, 1) := by decide +kernel
theorem dX9_dual_58 : decode cX9_dual 58 = .ok (.getfield 7, 3) := by decide +kernel
theorem dX9_dual_61 : decode cX9_dual 61 = .ok (.lload_n 1, 1) := by decide +kernel
theorem dX9_dual_62 : decode cX9_dual 62 = .ok (.invokevirtual 69, 3) := by decide +kernel
theorem dX9_dual_65 : decode cX9_dual 65 = .ok (.iconst 1, 1) := by decide +kernel
theorem dX9_dual_66 : decode cX9_dual 66 = .ok (.ireturn, 1) := by decide +kernel
set_option maxRecDepth 20000 in
theorem ggX9_has_X9_isSet : GoodIn wsX9_has wsX9_isSet := goodIn_r _ [5, 6, 7, 8, 4, 9, 10, 11, 12, 13, 19, 20, 21, 22, 23, 24, 25, 26, 27, 28, 29, 30, 31, 32, 33, 34, 35, 36, 37, 38, 39, 40, 41, 42, 43, 44, 45] (by decide +kernel) (by decide +kernel)
set_option maxRecDepth 20000 in
theorem gX9_has_X9_isSet : GoodIn wsX9_has (wsV RX9 73 RX9 yX9_isSet wsX9_isSet) := goodIn_app (goodIn_of _ (by decide +kernel)) ggX9_has_X9_isSet
set_option maxRecDepth 20000 in
theorem ggX9_has_X9_isFace : GoodIn wsX9_has wsX9_isFace := goodIn_r _ [17, 18, 19, 20, 21, 22, 23, 24, 25, 26, 27, 28, 29, 30, 31, 32, 33, 34, 35, 36, 37, 38, 39, 40, 41, 42, 43, 44, 45] (by decide +kernel) (by decide +kernel)
set_option maxRecDepth 20000 in
theorem gX9_has_X9_isFace : GoodIn wsX9_has (wsV RX9 85 RX9 yX9_isFace wsX9_isFace) := goodIn_app (goodIn_of _ (by decide +kernel)) ggX9_has_X9_isFace
theorem dX9_has_0 : decode cX9_has 0 = .ok (.aload_n 0, 1) := by decide +kernel
theorem dX9_has_1 : decode cX9_has 1 = .ok (.iload_n 1, 1) := by decide +kernel
theorem dX9_has_2 : decode cX9_has 2 = .ok (.invokevirtual 73, 3) := by decide +kernel
theorem dX9_has_5 : decode cX9_has 5 = .ok (.ifCond .ne 7, 3) := by decide +kernel
theorem dX9_has_8 : decode cX9_has 8 = .ok (.iconst (-1), 1) := by decide +kernel
theorem dX9_has_9 : decode cX9_has 9 = .ok (.goto 16, 3) := by decide +kernel
theorem dX9_has_12 : decode cX9_has 12 = .ok (.aload_n 0, 1) := by decide +kernel
theorem dX9_has_13 : decode cX9_has 13 = .ok (.iload_n 1, 1) := by decide +kernel
theorem dX9_has_14 : decode cX9_has 14 = .ok (.invokevirtual 85, 3) := by decide +kernel
theorem dX9_has_17 : decode cX9_has 17 = .ok (.ifCond .eq 7, 3) := by decide +kernel
theorem dX9_has_20 : decode cX9_has 20 = .ok (.iconst 1, 1) := by decide +kernel
theorem dX9_has_21 : decode cX9_has 21 = .ok (.goto 4, 3) := by decide +kernel
theorem dX9_has_24 : decode cX9_has 24 = .ok (.iconst 0, 1) := by decide +kernel
theorem dX9_has_25 : decode cX9_has 25 = .ok (.ireturn, 1) := by decide +kernel
set_option maxRecDepth 20000 in
theorem ggX9_facesOf_X9_all : GoodIn wsX9_facesOf wsX9_all := goodIn_r _ [5, 6, 15, 16, 17, 18, 19, 20, 21, 22, 23, 24, 25, 26, 27, 28, 29, 30, 31, 32, 33, 34, 35, 36, 37, 38, 39, 40, 41] (by decide +kernel) (by decide +kernel)
set_option maxRecDepth 20000 in
theorem gX9_facesOf_X9_all : GoodIn wsX9_facesOf (wsV RX9 55 RX9 yX9_all wsX9_all) := goodIn_app (goodIn_of _ (by decide +kernel)) ggX9_facesOf_X9_all
set_option maxRecDepth 20000 in
theorem ggX9_facesOf_X9_isFace : GoodIn wsX9_facesOf wsX9_isFace := goodIn_r _ [10, 11, 15, 16, 17, 18, 19, 20, 21, 22, 23, 24, 25, 26, 27, 28, 29, 30, 31, 32, 33, 34, 35, 36, 37, 38, 39, 40, 41] (by decide +kernel) (by decide +kernel)
set_option maxRecDepth 20000 in
theorem gX9_facesOf_X9_isFace : GoodIn wsX9_facesOf (wsV RX9 85 RX9 yX9_isFace wsX9_isFace) := goodIn_app (goodIn_of _ (by decide +kernel)) ggX9_facesOf_X9_isFace
set_option maxRecDepth 20000 in
theorem ggX9_facesOf_X9_size : GoodIn wsX9_facesOf wsX9_size := goodIn_r _ [14] (by decide +kernel) (by decide +kernel)
set_option maxRecDepth 20000 in
theorem gX9_facesOf_X9_size : GoodIn wsX9_facesOf (va_wsS RX9 90 yX9_size wsX9_size) := goodIn_app (goodIn_of _ (by decide +kernel)) ggX9_facesOf_X9_size
theorem dX9_facesOf_0 : decode cX9_facesOf 0 = .ok (.lconst 0, 1) := by decide +kernel
theorem dX9_facesOf_1 : decode cX9_facesOf 1 = .ok (.lstore_n 3, 1) := by decide +kernel
theorem dX9_facesOf_2 : decode cX9_facesOf 2 = .ok (.iconst 0, 1) := by decide +kernel
theorem dX9_facesOf_3 : decode cX9_facesOf 3 = .ok (.istore 5, 2) := by decide +kernel
theorem dX9_facesOf_5 : decode cX9_facesOf 5 = .ok (.iload 5, 2) := by decide +kernel
theorem dX9_facesOf_7 : decode cX9_facesOf 7 = .ok (.aload_n 0, 1) := by decide +kernel
theorem dX9_facesOf_8 : decode cX9_facesOf 8 = .ok (.invokevirtual 55, 3) := by decide +kernel
theorem dX9_facesOf_11 : decode cX9_facesOf 11 = .ok (.if_icmp .gt 43, 3) := by decide +kernel
theorem dX9_facesOf_14 : decode cX9_facesOf 14 = .ok (.aload_n 0, 1) := by decide +kernel
theorem dX9_facesOf_15 : decode cX9_facesOf 15 = .ok (.iload 5, 2) := by decide +kernel
theorem dX9_facesOf_17 : decode cX9_facesOf 17 = .ok (.invokevirtual 85, 3) := by decide +kernel
theorem dX9_facesOf_20 : decode cX9_facesOf 20 = .ok (.ifCond .eq 28, 3) := by decide +kernel
theorem dX9_facesOf_23 : decode cX9_facesOf 23 = .ok (.iload 5, 2) := by decide +kernel
theorem dX9_facesOf_25 : decode cX9_facesOf 25 = .ok (.iload_n 1, 1) := by decide +kernel
theorem dX9_facesOf_26 : decode cX9_facesOf 26 = .ok (.iconst (-1), 1) := by decide +kernel
theorem dX9_facesOf_27 : decode cX9_facesOf 27 = .ok (.ixor, 1) := by decide +kernel
theorem dX9_facesOf_28 : decode cX9_facesOf 28 = .ok (.iand, 1) := by decide +kernel
theorem dX9_facesOf_29 : decode cX9_facesOf 29 = .ok (.ifCond .ne 19, 3) := by decide +kernel
theorem dX9_facesOf_32 : decode cX9_facesOf 32 = .ok (.iload 5, 2) := by decide +kernel
theorem dX9_facesOf_34 : decode cX9_facesOf 34 = .ok (.invokestatic 90, 3) := by decide +kernel
theorem dX9_facesOf_37 : decode cX9_facesOf 37 = .ok (.iload_n 2, 1) := by decide +kernel
theorem dX9_facesOf_38 : decode cX9_facesOf 38 = .ok (.if_icmp .ne 10, 3) := by decide +kernel
theorem dX9_facesOf_41 : decode cX9_facesOf 41 = .ok (.lload_n 3, 1) := by decide +kernel
theorem dX9_facesOf_42 : decode cX9_facesOf 42 = .ok (.lconst 1, 1) := by decide +kernel
theorem dX9_facesOf_43 : decode cX9_facesOf 43 = .ok (.iload 5, 2) := by decide +kernel
theorem dX9_facesOf_45 : decode cX9_facesOf 45 = .ok (.lshl, 1) := by decide +kernel
theorem dX9_facesOf_46 : decode cX9_facesOf 46 = .ok (.lor, 1) := by decide +kernel
theorem dX9_facesOf_47 : decode cX9_facesOf 47 = .ok (.lstore_n 3, 1) := by decide +kernel
theorem dX9_facesOf_48 : decode cX9_facesOf 48 = .ok (.iinc 5 1, 3) := by decide +kernel
theorem dX9_facesOf_51 : decode cX9_facesOf 51 = .ok (.goto (-46), 3) := by decide +kernel
theorem dX9_facesOf_54 : decode cX9_facesOf 54 = .ok (.lload_n 3, 1) := by decide +kernel
theorem dX9_facesOf_55 : decode cX9_facesOf 55 = .ok (.lreturn, 1) := by decide +kernel
set_option maxRecDepth 20000 in
theorem ggX9_faces_X9_isIn : GoodIn wsX9_faces wsX9_isIn := goodIn_r _ [4] (by decide +kernel) (by decide +kernel)
set_option maxRecDepth 20000 in
theorem gX9_faces_X9_isIn : GoodIn wsX9_faces (va_wsS RX9 59 yX9_isIn wsX9_isIn) := goodIn_app (goodIn_of _ (by decide +kernel)) ggX9_faces_X9_isIn
set_option maxRecDepth 20000 in
theorem ggX9_faces_X9_all : GoodIn wsX9_faces wsX9_all := goodIn_r _ [8, 9, 25, 26, 27, 28, 29, 30, 31, 32, 33, 34, 35, 36, 37, 38, 39, 40, 41, 42, 43, 44, 45, 46, 47, 48, 49, 50, 51] (by decide +kernel) (by decide +kernel)
set_option maxRecDepth 20000 in
theorem gX9_faces_X9_all : GoodIn wsX9_faces (wsV RX9 55 RX9 yX9_all wsX9_all) := goodIn_app (goodIn_of _ (by decide +kernel)) ggX9_faces_X9_all
set_option maxRecDepth 20000 in
theorem ggX9_faces_X9_facesOf : GoodIn wsX9_faces wsX9_facesOf := goodIn_r _ [13, 5, 6, 7, 3, 8, 9, 14, 15, 16, 17, 18, 19, 20, 21, 25, 26, 27, 28, 29, 30, 31, 32, 33, 34, 35, 36, 37, 38, 39, 40, 41, 42, 43, 44, 45, 46, 47, 48, 49, 50, 51] (by decide +kernel) (by decide +kernel)
set_option maxRecDepth 20000 in
theorem gX9_faces_X9_facesOf : GoodIn wsX9_faces (wsV RX9 98 RX9 yX9_facesOf wsX9_facesOf) := goodIn_app (goodIn_of _ (by decide +kernel)) ggX9_faces_X9_facesOf
set_option maxRecDepth 20000 in
theorem ggX9_faces_X9_many : GoodIn wsX9_faces wsX9_many := goodIn_r _ [24] (by decide +kernel) (by decide +kernel)
set_option maxRecDepth 20000 in
theorem gX9_faces_X9_many : GoodIn wsX9_faces (va_wsS RX9 77 yX9_many wsX9_many) := goodIn_app (goodIn_of _ (by decide +kernel)) ggX9_faces_X9_many
theorem dX9_faces_0 : decode cX9_faces 0 = .ok (.iload_n 1, 1) := by decide +kernel
theorem dX9_faces_1 : decode cX9_faces 1 = .ok (.iconst (-1), 1) := by decide +kernel
theorem dX9_faces_2 : decode cX9_faces 2 = .ok (.iconst 5, 1) := by decide +kernel
theorem dX9_faces_3 : decode cX9_faces 3 = .ok (.invokestatic 59, 3) := by decide +kernel
theorem dX9_faces_6 : decode cX9_faces 6 = .ok (.ifCond .eq 20, 3) := by decide +kernel
theorem dX9_faces_9 : decode cX9_faces 9 = .ok (.aload_n 0, 1) := by decide +kernel
theorem dX9_faces_10 : decode cX9_faces 10 = .ok (.aload_n 0, 1) := by decide +kernel
theorem dX9_faces_11 : decode cX9_faces 11 = .ok (.invokevirtual 55, 3) := by decide +kernel
theorem dX9_faces_14 : decode cX9_faces 14 = .ok (.iload_n 1, 1) := by decide +kernel
theorem dX9_faces_15 : decode cX9_faces 15 = .ok (.iconst 1, 1) := by decide +kernel
theorem dX9_faces_16 : decode cX9_faces 16 = .ok (.iadd, 1) := by decide +kernel
theorem dX9_faces_17 : decode cX9_faces 17 = .ok (.invokevirtual 98, 3) := by decide +kernel
theorem dX9_faces_20 : decode cX9_faces 20 = .ok (.invokestatic 77, 3) := by decide +kernel
theorem dX9_faces_23 : decode cX9_faces 23 = .ok (.goto 4, 3) := by decide +kernel
theorem dX9_faces_26 : decode cX9_faces 26 = .ok (.iconst (-1), 1) := by decide +kernel
theorem dX9_faces_27 : decode cX9_faces 27 = .ok (.ireturn, 1) := by decide +kernel
set_option maxRecDepth 20000 in
theorem ggX9_isMissing_X9_isFace : GoodIn wsX9_isMissing wsX9_isFace := goodIn_r _ [6, 7, 8, 9, 10, 11, 12, 13, 14, 15, 16, 17, 18, 19, 20, 21, 22, 23, 24, 25, 26, 27, 28, 29, 30, 31, 32, 33, 34] (by decide +kernel) (by decide +kernel)
set_option maxRecDepth 20000 in
theorem gX9_isMissing_X9_isFace : GoodIn wsX9_isMissing (wsV RX9 85 RX9 yX9_isFace wsX9_isFace) := goodIn_app (goodIn_of _ (by decide +kernel)) ggX9_isMissing_X9_isFace
theorem dX9_isMissing_0 : decode cX9_isMissing 0 = .ok (.aload_n 0, 1) := by decide +kernel
theorem dX9_isMissing_1 : decode cX9_isMissing 1 = .ok (.iload_n 1, 1) := by decide +kernel
theorem dX9_isMissing_2 : decode cX9_isMissing 2 = .ok (.invokevirtual 85, 3) := by decide +kernel
theorem dX9_isMissing_5 : decode cX9_isMissing 5 = .ok (.ifCond .eq 5, 3) := by decide +kernel
theorem dX9_isMissing_8 : decode cX9_isMissing 8 = .ok (.iconst 0, 1) := by decide +kernel
theorem dX9_isMissing_9 : decode cX9_isMissing 9 = .ok (.ireturn, 1) := by decide +kernel
theorem dX9_isMissing_10 : decode cX9_isMissing 10 = .ok (.iconst 1, 1) := by decide +kernel
theorem dX9_isMissing_11 : decode cX9_isMissing 11 = .ok (.istore_n 2, 1) := by decide +kernel
theorem dX9_isMissing_12 : decode cX9_isMissing 12 = .ok (.iconst 0, 1) := by decide +kernel
theorem dX9_isMissing_13 : decode cX9_isMissing 13 = .ok (.istore_n 3, 1) := by decide +kernel
theorem dX9_isMissing_14 : decode cX9_isMissing 14 = .ok (.iload_n 3, 1) := by decide +kernel
theorem dX9_isMissing_15 : decode cX9_isMissing 15 = .ok (.aload_n 0, 1) := by decide +kernel
theorem dX9_isMissing_16 : decode cX9_isMissing 16 = .ok (.getfield 7, 3) := by decide +kernel
theorem dX9_isMissing_19 : decode cX9_isMissing 19 = .ok (.if_icmp .ge 41, 3) := by decide +kernel
theorem dX9_isMissing_22 : decode cX9_isMissing 22 = .ok (.iload_n 2, 1) := by decide +kernel
theorem dX9_isMissing_23 : decode cX9_isMissing 23 = .ok (.ifCond .eq 29, 3) := by decide +kernel
theorem dX9_isMissing_26 : decode cX9_isMissing 26 = .ok (.iload_n 1, 1) := by decide +kernel
theorem dX9_isMissing_27 : decode cX9_isMissing 27 = .ok (.iload_n 3, 1) := by decide +kernel
theorem dX9_isMissing_28 : decode cX9_isMissing 28 = .ok (.ishr, 1) := by decide +kernel
theorem dX9_isMissing_29 : decode cX9_isMissing 29 = .ok (.iconst 1, 1) := by decide +kernel
theorem dX9_isMissing_30 : decode cX9_isMissing 30 = .ok (.iand, 1) := by decide +kernel
theorem dX9_isMissing_31 : decode cX9_isMissing 31 = .ok (.ifCond .eq 17, 3) := by decide +kernel
theorem dX9_isMissing_34 : decode cX9_isMissing 34 = .ok (.aload_n 0, 1) := by decide +kernel
theorem dX9_isMissing_35 : decode cX9_isMissing 35 = .ok (.iload_n 1, 1) := by decide +kernel
theorem dX9_isMissing_36 : decode cX9_isMissing 36 = .ok (.iconst 1, 1) := by decide +kernel
theorem dX9_isMissing_37 : decode cX9_isMissing 37 = .ok (.iload_n 3, 1) := by decide +kernel
theorem dX9_isMissing_38 : decode cX9_isMissing 38 = .ok (.ishl, 1) := by decide +kernel
theorem dX9_isMissing_39 : decode cX9_isMissing 39 = .ok (.iconst (-1), 1) := by decide +kernel
theorem dX9_isMissing_40 : decode cX9_isMissing 40 = .ok (.ixor, 1) := by decide +kernel
theorem dX9_isMissing_41 : decode cX9_isMissing 41 = .ok (.iand, 1) := by decide +kernel
theorem dX9_isMissing_42 : decode cX9_isMissing 42 = .ok (.invokevirtual 85, 3) := by decide +kernel
theorem dX9_isMissing_45 : decode cX9_isMissing 45 = .ok (.ifCond .eq 7, 3) := by decide +kernel
theorem dX9_isMissing_48 : decode cX9_isMissing 48 = .ok (.iconst 1, 1) := by decide +kernel
theorem dX9_isMissing_49 : decode cX9_isMissing 49 = .ok (.goto 4, 3) := by decide +kernel
theorem dX9_isMissing_52 : decode cX9_isMissing 52 = .ok (.iconst 0, 1) := by decide +kernel
theorem dX9_isMissing_53 : decode cX9_isMissing 53 = .ok (.istore_n 2, 1) := by decide +kernel
theorem dX9_isMissing_54 : decode cX9_isMissing 54 = .ok (.iinc 3 1, 3) := by decide +kernel
theorem dX9_isMissing_57 : decode cX9_isMissing 57 = .ok (.goto (-43), 3) := by decide +kernel
theorem dX9_isMissing_60 : decode cX9_isMissing 60 = .ok (.iload_n 2, 1) := by decide +kernel
theorem dX9_isMissing_61 : decode cX9_isMissing 61 = .ok (.ireturn, 1) := by decide +kernel
set_option maxRecDepth 20000 in
theorem ggX9_missing_X9_all : GoodIn wsX9_missing wsX9_all := goodIn_r _ [5, 6, 16, 17, 18, 19, 20, 21, 22, 23, 24, 25, 26, 27, 28, 29, 30, 31, 32, 33, 34, 35, 36, 37, 38, 39, 40, 41, 42] (by decide +kernel) (by decide +kernel)
set_option maxRecDepth 20000 in
theorem gX9_missing_X9_all : GoodIn wsX9_missing (wsV RX9 55 RX9 yX9_all wsX9_all) := goodIn_app (goodIn_of _ (by decide +kernel)) ggX9_missing_X9_all
set_option maxRecDepth 20000 in
theorem ggX9_missing_X9_isMissing : GoodIn wsX9_missing wsX9_isMissing := goodIn_r _ [10, 6, 11, 12, 13, 4, 14, 15, 16, 17, 18, 19, 20, 21, 22, 23, 24, 25, 26, 27, 28, 29, 30, 31, 32, 33, 34, 35, 36, 37, 38, 39, 40, 41, 42] (by decide +kernel) (by decide +kernel)
set_option maxRecDepth 20000 in
theorem gX9_missing_X9_isMissing : GoodIn wsX9_missing (wsV RX9 102 RX9 yX9_isMissing wsX9_isMissing) := goodIn_app (goodIn_of _ (by decide +kernel)) ggX9_missing_X9_isMissing
theorem dX9_missing_0 : decode cX9_missing 0 = .ok (.iconst 0, 1) := by decide +kernel
theorem dX9_missing_1 : decode cX9_missing 1 = .ok (.istore_n 2, 1) := by decide +kernel
theorem dX9_missing_2 : decode cX9_missing 2 = .ok (.iconst 0, 1) := by decide +kernel
theorem dX9_missing_3 : decode cX9_missing 3 = .ok (.istore_n 3, 1) := by decide +kernel
theorem dX9_missing_4 : decode cX9_missing 4 = .ok (.iload_n 3, 1) := by decide +kernel
theorem dX9_missing_5 : decode cX9_missing 5 = .ok (.aload_n 0, 1) := by decide +kernel
theorem dX9_missing_6 : decode cX9_missing 6 = .ok (.invokevirtual 55, 3) := by decide +kernel
theorem dX9_missing_9 : decode cX9_missing 9 = .ok (.if_icmp .gt 30, 3) := by decide +kernel
theorem dX9_missing_12 : decode cX9_missing 12 = .ok (.aload_n 0, 1) := by decide +kernel
theorem dX9_missing_13 : decode cX9_missing 13 = .ok (.iload_n 3, 1) := by decide +kernel
theorem dX9_missing_14 : decode cX9_missing 14 = .ok (.invokevirtual 102, 3) := by decide +kernel
theorem dX9_missing_17 : decode cX9_missing 17 = .ok (.ifCond .ne 6, 3) := by decide +kernel
theorem dX9_missing_20 : decode cX9_missing 20 = .ok (.goto 13, 3) := by decide +kernel
theorem dX9_missing_23 : decode cX9_missing 23 = .ok (.iload_n 2, 1) := by decide +kernel
theorem dX9_missing_24 : decode cX9_missing 24 = .ok (.iload_n 1, 1) := by decide +kernel
theorem dX9_missing_25 : decode cX9_missing 25 = .ok (.if_icmp .ne 5, 3) := by decide +kernel
theorem dX9_missing_28 : decode cX9_missing 28 = .ok (.iload_n 3, 1) := by decide +kernel
theorem dX9_missing_29 : decode cX9_missing 29 = .ok (.ireturn, 1) := by decide +kernel
theorem dX9_missing_30 : decode cX9_missing 30 = .ok (.iinc 2 1, 3) := by decide +kernel
theorem dX9_missing_33 : decode cX9_missing 33 = .ok (.iinc 3 1, 3) := by decide +kernel
theorem dX9_missing_36 : decode cX9_missing 36 = .ok (.goto (-32), 3) := by decide +kernel
theorem dX9_missing_39 : decode cX9_missing 39 = .ok (.iconst (-1), 1) := by decide +kernel
theorem dX9_missing_40 : decode cX9_missing 40 = .ok (.ireturn, 1) := by decide +kernel
set_option maxRecDepth 20000 in
theorem ggX9_missingMany_X9_all : GoodIn wsX9_missingMany wsX9_all := goodIn_r _ [5, 6, 16, 17, 18, 19, 20, 21, 22, 23, 24, 25, 26, 27, 28, 29, 30, 31, 32, 33, 34, 35, 36, 37, 38, 39, 40, 41, 42] (by decide +kernel) (by decide +kernel)
set_option maxRecDepth 20000 in
theorem gX9_missingMany_X9_all : GoodIn wsX9_missingMany (wsV RX9 55 RX9 yX9_all wsX9_all) := goodIn_app (goodIn_of _ (by decide +kernel)) ggX9_missingMany_X9_all
set_option maxRecDepth 20000 in
theorem ggX9_missingMany_X9_isMissing : GoodIn wsX9_missingMany wsX9_isMissing := goodIn_r _ [10, 6, 11, 12, 13, 4, 14, 15, 16, 17, 18, 19, 20, 21, 22, 23, 24, 25, 26, 27, 28, 29, 30, 31, 32, 33, 34, 35, 36, 37, 38, 39, 40, 41, 42] (by decide +kernel) (by decide +kernel)
set_option maxRecDepth 20000 in
theorem gX9_missingMany_X9_isMissing : GoodIn wsX9_missingMany (wsV RX9 102 RX9 yX9_isMissing wsX9_isMissing) := goodIn_app (goodIn_of _ (by decide +kernel)) ggX9_missingMany_X9_isMissing
theorem dX9_missingMany_0 : decode cX9_missingMany 0 = .ok (.iconst 0, 1) := by decide +kernel
theorem dX9_missingMany_1 : decode cX9_missingMany 1 = .ok (.istore_n 1, 1) := by decide +kernel
theorem dX9_missingMany_2 : decode cX9_missingMany 2 = .ok (.iconst 0, 1) := by decide +kernel
theorem dX9_missingMany_3 : decode cX9_missingMany 3 = .ok (.istore_n 2, 1) := by decide +kernel
theorem dX9_missingMany_4 : decode cX9_missingMany 4 = .ok (.iload_n 2, 1) := by decide +kernel
theorem dX9_missingMany_5 : decode cX9_missingMany 5 = .ok (.aload_n 0, 1) := by decide +kernel
theorem dX9_missingMany_6 : decode cX9_missingMany 6 = .ok (.invokevirtual 55, 3) := by decide +kernel
theorem dX9_missingMany_9 : decode cX9_missingMany 9 = .ok (.if_icmp .gt 25, 3) := by decide +kernel
theorem dX9_missingMany_12 : decode cX9_missingMany 12 = .ok (.iload_n 1, 1) := by decide +kernel
theorem dX9_missingMany_13 : decode cX9_missingMany 13 = .ok (.aload_n 0, 1) := by decide +kernel
theorem dX9_missingMany_14 : decode cX9_missingMany 14 = .ok (.iload_n 2, 1) := by decide +kernel
theorem dX9_missingMany_15 : decode cX9_missingMany 15 = .ok (.invokevirtual 102, 3) := by decide +kernel
theorem dX9_missingMany_18 : decode cX9_missingMany 18 = .ok (.ifCond .eq 7, 3) := by decide +kernel
theorem dX9_missingMany_21 : decode cX9_missingMany 21 = .ok (.iconst 1, 1) := by decide +kernel
theorem dX9_missingMany_22 : decode cX9_missingMany 22 = .ok (.goto 4, 3) := by decide +kernel
theorem dX9_missingMany_25 : decode cX9_missingMany 25 = .ok (.iconst 0, 1) := by decide +kernel
theorem dX9_missingMany_26 : decode cX9_missingMany 26 = .ok (.iadd, 1) := by decide +kernel
theorem dX9_missingMany_27 : decode cX9_missingMany 27 = .ok (.istore_n 1, 1) := by decide +kernel
theorem dX9_missingMany_28 : decode cX9_missingMany 28 = .ok (.iinc 2 1, 3) := by decide +kernel
theorem dX9_missingMany_31 : decode cX9_missingMany 31 = .ok (.goto (-27), 3) := by decide +kernel
theorem dX9_missingMany_34 : decode cX9_missingMany 34 = .ok (.iload_n 1, 1) := by decide +kernel
theorem dX9_missingMany_35 : decode cX9_missingMany 35 = .ok (.ireturn, 1) := by decide +kernel
set_option maxRecDepth 20000 in
theorem ggX9_isFlag_X9_all : GoodIn wsX9_isFlag wsX9_all := goodIn_r _ [5, 6, 19, 20, 21, 22, 23, 24, 25, 26, 27, 28, 29, 30, 31, 32, 33, 34, 35, 36, 37, 38, 39, 40, 41, 42, 43, 44, 45] (by decide +kernel) (by decide +kernel)
set_option maxRecDepth 20000 in
theorem gX9_isFlag_X9_all : GoodIn wsX9_isFlag (wsV RX9 55 RX9 yX9_all wsX9_all) := goodIn_app (goodIn_of _ (by decide +kernel)) ggX9_isFlag_X9_all
set_option maxRecDepth 20000 in
theorem ggX9_isFlag_X9_isMissing : GoodIn wsX9_isFlag wsX9_isMissing := goodIn_r _ [10, 6, 11, 12, 13, 4, 14, 15, 19, 20, 21, 22, 23, 24, 25, 26, 27, 28, 29, 30, 31, 32, 33, 34, 35, 36, 37, 38, 39, 40, 41, 42, 43, 44, 45] (by decide +kernel) (by decide +kernel)
set_option maxRecDepth 20000 in
theorem gX9_isFlag_X9_isMissing : GoodIn wsX9_isFlag (wsV RX9 102 RX9 yX9_isMissing wsX9_isMissing) := goodIn_app (goodIn_of _ (by decide +kernel)) ggX9_isFlag_X9_isMissing
set_option maxRecDepth 20000 in
theorem ggX9_isFlag_X9_size : GoodIn wsX9_isFlag wsX9_size := goodIn_r _ [18] (by decide +kernel) (by decide +kernel)
set_option maxRecDepth 20000 in
theorem gX9_isFlag_X9_size : GoodIn wsX9_isFlag (va_wsS RX9 90 yX9_size wsX9_size) := goodIn_app (goodIn_of _ (by decide +kernel)) ggX9_isFlag_X9_size
theorem dX9_isFlag_0 : decode cX9_isFlag 0 = .ok (.iconst 1, 1) := by decide +kernel
theorem dX9_isFlag_1 : decode cX9_isFlag 1 = .ok (.istore_n 1, 1) := by decide +kernel
theorem dX9_isFlag_2 : decode cX9_isFlag 2 = .ok (.iconst 0, 1) := by decide +kernel
theorem dX9_isFlag_3 : decode cX9_isFlag 3 = .ok (.istore_n 2, 1) := by decide +kernel
theorem dX9_isFlag_4 : decode cX9_isFlag 4 = .ok (.iload_n 2, 1) := by decide +kernel
theorem dX9_isFlag_5 : decode cX9_isFlag 5 = .ok (.aload_n 0, 1) := by decide +kernel
theorem dX9_isFlag_6 : decode cX9_isFlag 6 = .ok (.invokevirtual 55, 3) := by decide +kernel
theorem dX9_isFlag_9 : decode cX9_isFlag 9 = .ok (.if_icmp .gt 35, 3) := by decide +kernel
theorem dX9_isFlag_12 : decode cX9_isFlag 12 = .ok (.iload_n 1, 1) := by decide +kernel
theorem dX9_isFlag_13 : decode cX9_isFlag 13 = .ok (.ifCond .eq 23, 3) := by decide +kernel
theorem dX9_isFlag_16 : decode cX9_isFlag 16 = .ok (.aload_n 0, 1) := by decide +kernel
theorem dX9_isFlag_17 : decode cX9_isFlag 17 = .ok (.iload_n 2, 1) := by decide +kernel
theorem dX9_isFlag_18 : decode cX9_isFlag 18 = .ok (.invokevirtual 102, 3) := by decide +kernel
theorem dX9_isFlag_21 : decode cX9_isFlag 21 = .ok (.ifCond .eq 11, 3) := by decide +kernel
theorem dX9_isFlag_24 : decode cX9_isFlag 24 = .ok (.iload_n 2, 1) := by decide +kernel
theorem dX9_isFlag_25 : decode cX9_isFlag 25 = .ok (.invokestatic 90, 3) := by decide +kernel
theorem dX9_isFlag_28 : decode cX9_isFlag 28 = .ok (.iconst 2, 1) := by decide +kernel
theorem dX9_isFlag_29 : decode cX9_isFlag 29 = .ok (.if_icmp .ne 7, 3) := by decide +kernel
theorem dX9_isFlag_32 : decode cX9_isFlag 32 = .ok (.iconst 1, 1) := by decide +kernel
theorem dX9_isFlag_33 : decode cX9_isFlag 33 = .ok (.goto 4, 3) := by decide +kernel
theorem dX9_isFlag_36 : decode cX9_isFlag 36 = .ok (.iconst 0, 1) := by decide +kernel
theorem dX9_isFlag_37 : decode cX9_isFlag 37 = .ok (.istore_n 1, 1) := by decide +kernel
theorem dX9_isFlag_38 : decode cX9_isFlag 38 = .ok (.iinc 2 1, 3) := by decide +kernel
theorem dX9_isFlag_41 : decode cX9_isFlag 41 = .ok (.goto (-37), 3) := by decide +kernel
theorem dX9_isFlag_44 : decode cX9_isFlag 44 = .ok (.iload_n 1, 1) := by decide +kernel
theorem dX9_isFlag_45 : decode cX9_isFlag 45 = .ok (.ireturn, 1) := by decide +kernel
theorem dX9_clear_0 : decode cX9_clear 0 = .ok (.iconst 0, 1) := by decide +kernel
theorem dX9_clear_1 : decode cX9_clear 1 = .ok (.istore_n 1, 1) := by decide +kernel
theorem dX9_clear_2 : decode cX9_clear 2 = .ok (.iload_n 1, 1) := by decide +kernel
theorem dX9_clear_3 : decode cX9_clear 3 = .ok (.bipush 64, 2) := by decide +kernel
theorem dX9_clear_5 : decode cX9_clear 5 = .ok (.if_icmp .ge 16, 3) := by decide +kernel
theorem dX9_clear_8 : decode cX9_clear 8 = .ok (.aload_n 0, 1) := by decide +kernel
theorem dX9_clear_9 : decode cX9_clear 9 = .ok (.getfield 25, 3) := by decide +kernel
theorem dX9_clear_12 : decode cX9_clear 12 = .ok (.iload_n 1, 1) := by decide +kernel
theorem dX9_clear_13 : decode cX9_clear 13 = .ok (.lconst 0, 1) := by decide +kernel
theorem dX9_clear_14 : decode cX9_clear 14 = .ok (.lastore, 1) := by decide +kernel
theorem dX9_clear_15 : decode cX9_clear 15 = .ok (.iinc 1 1, 3) := by decide +kernel
theorem dX9_clear_18 : decode cX9_clear 18 = .ok (.goto (-16), 3) := by decide +kernel
theorem dX9_clear_21 : decode cX9_clear 21 = .ok (.return_, 1) := by decide +kernel
theorem dX9_lays_0 : decode cX9_lays 0 = .ok (.lload_n 1, 1) := by decide +kernel
theorem dX9_lays_1 : decode cX9_lays 1 = .ok (.lstore_n 3, 1) := by decide +kernel
theorem dX9_lays_2 : decode cX9_lays 2 = .ok (.bipush 63, 2) := by decide +kernel
theorem dX9_lays_4 : decode cX9_lays 4 = .ok (.istore 5, 2) := by decide +kernel
theorem dX9_lays_6 : decode cX9_lays 6 = .ok (.iload 5, 2) := by decide +kernel
theorem dX9_lays_8 : decode cX9_lays 8 = .ok (.ifCond .lt 55, 3) := by decide +kernel
theorem dX9_lays_11 : decode cX9_lays 11 = .ok (.lload_n 3, 1) := by decide +kernel
theorem dX9_lays_12 : decode cX9_lays 12 = .ok (.iload 5, 2) := by decide +kernel
theorem dX9_lays_14 : decode cX9_lays 14 = .ok (.lshr, 1) := by decide +kernel
theorem dX9_lays_15 : decode cX9_lays 15 = .ok (.lconst 1, 1) := by decide +kernel
theorem dX9_lays_16 : decode cX9_lays 16 = .ok (.land, 1) := by decide +kernel
theorem dX9_lays_17 : decode cX9_lays 17 = .ok (.lconst 0, 1) := by decide +kernel
theorem dX9_lays_18 : decode cX9_lays 18 = .ok (.lcmp, 1) := by decide +kernel
theorem dX9_lays_19 : decode cX9_lays 19 = .ok (.ifCond .ne 6, 3) := by decide +kernel
theorem dX9_lays_22 : decode cX9_lays 22 = .ok (.goto 35, 3) := by decide +kernel
theorem dX9_lays_25 : decode cX9_lays 25 = .ok (.aload_n 0, 1) := by decide +kernel
theorem dX9_lays_26 : decode cX9_lays 26 = .ok (.getfield 25, 3) := by decide +kernel
theorem dX9_lays_29 : decode cX9_lays 29 = .ok (.iload 5, 2) := by decide +kernel
theorem dX9_lays_31 : decode cX9_lays 31 = .ok (.laload, 1) := by decide +kernel
theorem dX9_lays_32 : decode cX9_lays 32 = .ok (.lconst 0, 1) := by decide +kernel
theorem dX9_lays_33 : decode cX9_lays 33 = .ok (.lcmp, 1) := by decide +kernel
theorem dX9_lays_34 : decode cX9_lays 34 = .ok (.ifCond .ne 13, 3) := by decide +kernel
theorem dX9_lays_37 : decode cX9_lays 37 = .ok (.aload_n 0, 1) := by decide +kernel
theorem dX9_lays_38 : decode cX9_lays 38 = .ok (.getfield 25, 3) := by decide +kernel
theorem dX9_lays_41 : decode cX9_lays 41 = .ok (.iload 5, 2) := by decide +kernel
theorem dX9_lays_43 : decode cX9_lays 43 = .ok (.lload_n 3, 1) := by decide +kernel
theorem dX9_lays_44 : decode cX9_lays 44 = .ok (.lastore, 1) := by decide +kernel
theorem dX9_lays_45 : decode cX9_lays 45 = .ok (.iconst 1, 1) := by decide +kernel
theorem dX9_lays_46 : decode cX9_lays 46 = .ok (.ireturn, 1) := by decide +kernel
theorem dX9_lays_47 : decode cX9_lays 47 = .ok (.lload_n 3, 1) := by decide +kernel
theorem dX9_lays_48 : decode cX9_lays 48 = .ok (.aload_n 0, 1) := by decide +kernel
theorem dX9_lays_49 : decode cX9_lays 49 = .ok (.getfield 25, 3) := by decide +kernel
theorem dX9_lays_52 : decode cX9_lays 52 = .ok (.iload 5, 2) := by decide +kernel
theorem dX9_lays_54 : decode cX9_lays 54 = .ok (.laload, 1) := by decide +kernel
theorem dX9_lays_55 : decode cX9_lays 55 = .ok (.lxor, 1) := by decide +kernel
theorem dX9_lays_56 : decode cX9_lays 56 = .ok (.lstore_n 3, 1) := by decide +kernel
theorem dX9_lays_57 : decode cX9_lays 57 = .ok (.iinc 5 (-1), 3) := by decide +kernel
theorem dX9_lays_60 : decode cX9_lays 60 = .ok (.goto (-54), 3) := by decide +kernel
theorem dX9_lays_63 : decode cX9_lays 63 = .ok (.iconst 0, 1) := by decide +kernel
theorem dX9_lays_64 : decode cX9_lays 64 = .ok (.ireturn, 1) := by decide +kernel
theorem dX9_border_0 : decode cX9_border 0 = .ok (.lconst 0, 1) := by decide +kernel
theorem dX9_border_1 : decode cX9_border 1 = .ok (.lstore_n 2, 1) := by decide +kernel
theorem dX9_border_2 : decode cX9_border 2 = .ok (.iconst 0, 1) := by decide +kernel
theorem dX9_border_3 : decode cX9_border 3 = .ok (.istore 4, 2) := by decide +kernel
theorem dX9_border_5 : decode cX9_border 5 = .ok (.iload 4, 2) := by decide +kernel
theorem dX9_border_7 : decode cX9_border 7 = .ok (.aload_n 0, 1) := by decide +kernel
theorem dX9_border_8 : decode cX9_border 8 = .ok (.getfield 7, 3) := by decide +kernel
theorem dX9_border_11 : decode cX9_border 11 = .ok (.if_icmp .ge 36, 3) := by decide +kernel
theorem dX9_border_14 : decode cX9_border 14 = .ok (.lload_n 2, 1) := by decide +kernel
theorem dX9_border_15 : decode cX9_border 15 = .ok (.iload_n 1, 1) := by decide +kernel
theorem dX9_border_16 : decode cX9_border 16 = .ok (.iload 4, 2) := by decide +kernel
theorem dX9_border_18 : decode cX9_border 18 = .ok (.ishr, 1) := by decide +kernel
theorem dX9_border_19 : decode cX9_border 19 = .ok (.iconst 1, 1) := by decide +kernel
theorem dX9_border_20 : decode cX9_border 20 = .ok (.iand, 1) := by decide +kernel
theorem dX9_border_21 : decode cX9_border 21 = .ok (.iconst 1, 1) := by decide +kernel
theorem dX9_border_22 : decode cX9_border 22 = .ok (.if_icmp .ne 16, 3) := by decide +kernel
theorem dX9_border_25 : decode cX9_border 25 = .ok (.lconst 1, 1) := by decide +kernel
theorem dX9_border_26 : decode cX9_border 26 = .ok (.iload_n 1, 1) := by decide +kernel
theorem dX9_border_27 : decode cX9_border 27 = .ok (.iconst 1, 1) := by decide +kernel
theorem dX9_border_28 : decode cX9_border 28 = .ok (.iload 4, 2) := by decide +kernel
theorem dX9_border_30 : decode cX9_border 30 = .ok (.ishl, 1) := by decide +kernel
theorem dX9_border_31 : decode cX9_border 31 = .ok (.iconst (-1), 1) := by decide +kernel
theorem dX9_border_32 : decode cX9_border 32 = .ok (.ixor, 1) := by decide +kernel
theorem dX9_border_33 : decode cX9_border 33 = .ok (.iand, 1) := by decide +kernel
theorem dX9_border_34 : decode cX9_border 34 = .ok (.lshl, 1) := by decide +kernel
theorem dX9_border_35 : decode cX9_border 35 = .ok (.goto 4, 3) := by decide +kernel
theorem dX9_border_38 : decode cX9_border 38 = .ok (.lconst 0, 1) := by decide +kernel
theorem dX9_border_39 : decode cX9_border 39 = .ok (.lxor, 1) := by decide +kernel
theorem dX9_border_40 : decode cX9_border 40 = .ok (.lstore_n 2, 1) := by decide +kernel
theorem dX9_border_41 : decode cX9_border 41 = .ok (.iinc 4 1, 3) := by decide +kernel
theorem dX9_border_44 : decode cX9_border 44 = .ok (.goto (-39), 3) := by decide +kernel
theorem dX9_border_47 : decode cX9_border 47 = .ok (.lload_n 2, 1) := by decide +kernel
theorem dX9_border_48 : decode cX9_border 48 = .ok (.lreturn, 1) := by decide +kernel
set_option maxRecDepth 20000 in
theorem ggX9_borders_X9_clear : GoodIn wsX9_borders wsX9_clear := goodIn_r _ [5, 6, 28, 29, 30, 31, 32, 33, 34, 35, 36, 37, 38, 39, 40, 41, 42, 43, 44, 45, 46, 47, 48, 49, 50, 51, 52, 53, 54] (by decide +kernel) (by decide +kernel)
set_option maxRecDepth 20000 in
theorem gX9_borders_X9_clear : GoodIn wsX9_borders (wsV RX9 105 RX9 yX9_clear wsX9_clear) := goodIn_app (goodIn_of _ (by decide +kernel)) ggX9_borders_X9_clear
set_option maxRecDepth 20000 in
theorem ggX9_borders_X9_all : GoodIn wsX9_borders wsX9_all := goodIn_r _ [10, 11, 28, 29, 30, 31, 32, 33, 34, 35, 36, 37, 38, 39, 40, 41, 42, 43, 44, 45, 46, 47, 48, 49, 50, 51, 52, 53, 54] (by decide +kernel) (by decide +kernel)
set_option maxRecDepth 20000 in
theorem gX9_borders_X9_all : GoodIn wsX9_borders (wsV RX9 55 RX9 yX9_all wsX9_all) := goodIn_app (goodIn_of _ (by decide +kernel)) ggX9_borders_X9_all
set_option maxRecDepth 20000 in
theorem ggX9_borders_X9_size : GoodIn wsX9_borders wsX9_size := goodIn_r _ [14] (by decide +kernel) (by decide +kernel)
set_option maxRecDepth 20000 in
theorem gX9_borders_X9_size : GoodIn wsX9_borders (va_wsS RX9 90 yX9_size wsX9_size) := goodIn_app (goodIn_of _ (by decide +kernel)) ggX9_borders_X9_size
set_option maxRecDepth 20000 in
theorem ggX9_borders_X9_isFace : GoodIn wsX9_borders wsX9_isFace := goodIn_r _ [18, 19, 28, 29, 30, 31, 32, 33, 34, 35, 36, 37, 38, 39, 40, 41, 42, 43, 44, 45, 46, 47, 48, 49, 50, 51, 52, 53, 54] (by decide +kernel) (by decide +kernel)
set_option maxRecDepth 20000 in
theorem gX9_borders_X9_isFace : GoodIn wsX9_borders (wsV RX9 85 RX9 yX9_isFace wsX9_isFace) := goodIn_app (goodIn_of _ (by decide +kernel)) ggX9_borders_X9_isFace
set_option maxRecDepth 20000 in
theorem ggX9_borders_X9_border : GoodIn wsX9_borders wsX9_border := goodIn_r _ [23, 11, 28, 29, 30, 31, 32, 33, 34, 35, 36, 37, 38, 39, 40, 41, 42, 43, 44, 45, 46, 47, 48, 49, 50, 51, 52, 53, 54] (by decide +kernel) (by decide +kernel)
set_option maxRecDepth 20000 in
theorem gX9_borders_X9_border : GoodIn wsX9_borders (wsV RX9 108 RX9 yX9_border wsX9_border) := goodIn_app (goodIn_of _ (by decide +kernel)) ggX9_borders_X9_border
set_option maxRecDepth 20000 in
theorem ggX9_borders_X9_lays : GoodIn wsX9_borders wsX9_lays := goodIn_r _ [27, 6, 28, 29, 30, 31, 32, 33, 34, 35, 36, 37, 38, 39, 40, 41, 42, 43, 44, 45, 46, 47, 48, 49, 50, 51, 52, 53, 54] (by decide +kernel) (by decide +kernel)
set_option maxRecDepth 20000 in
theorem gX9_borders_X9_lays : GoodIn wsX9_borders (wsV RX9 111 RX9 yX9_lays wsX9_lays) := goodIn_app (goodIn_of _ (by decide +kernel)) ggX9_borders_X9_lays
theorem dX9_borders_0 : decode cX9_borders 0 = .ok (.aload_n 0, 1) := by decide +kernel
theorem dX9_borders_1 : decode cX9_borders 1 = .ok (.invokevirtual 105, 3) := by decide +kernel
theorem dX9_borders_4 : decode cX9_borders 4 = .ok (.iconst 0, 1) := by decide +kernel
theorem dX9_borders_5 : decode cX9_borders 5 = .ok (.istore_n 3, 1) := by decide +kernel
theorem dX9_borders_6 : decode cX9_borders 6 = .ok (.iconst 0, 1) := by decide +kernel
theorem dX9_borders_7 : decode cX9_borders 7 = .ok (.istore 4, 2) := by decide +kernel
theorem dX9_borders_9 : decode cX9_borders 9 = .ok (.iload 4, 2) := by decide +kernel
theorem dX9_borders_11 : decode cX9_borders 11 = .ok (.aload_n 0, 1) := by decide +kernel
theorem dX9_borders_12 : decode cX9_borders 12 = .ok (.invokevirtual 55, 3) := by decide +kernel
theorem dX9_borders_15 : decode cX9_borders 15 = .ok (.if_icmp .gt 57, 3) := by decide +kernel
theorem dX9_borders_18 : decode cX9_borders 18 = .ok (.iload 4, 2) := by decide +kernel
theorem dX9_borders_20 : decode cX9_borders 20 = .ok (.invokestatic 90, 3) := by decide +kernel
theorem dX9_borders_23 : decode cX9_borders 23 = .ok (.iload_n 2, 1) := by decide +kernel
theorem dX9_borders_24 : decode cX9_borders 24 = .ok (.if_icmp .ne 42, 3) := by decide +kernel
theorem dX9_borders_27 : decode cX9_borders 27 = .ok (.iload 4, 2) := by decide +kernel
theorem dX9_borders_29 : decode cX9_borders 29 = .ok (.iload_n 1, 1) := by decide +kernel
theorem dX9_borders_30 : decode cX9_borders 30 = .ok (.iconst (-1), 1) := by decide +kernel
theorem dX9_borders_31 : decode cX9_borders 31 = .ok (.ixor, 1) := by decide +kernel
theorem dX9_borders_32 : decode cX9_borders 32 = .ok (.iand, 1) := by decide +kernel
theorem dX9_borders_33 : decode cX9_borders 33 = .ok (.ifCond .ne 33, 3) := by decide +kernel
theorem dX9_borders_36 : decode cX9_borders 36 = .ok (.aload_n 0, 1) := by decide +kernel
theorem dX9_borders_37 : decode cX9_borders 37 = .ok (.iload 4, 2) := by decide +kernel
theorem dX9_borders_39 : decode cX9_borders 39 = .ok (.invokevirtual 85, 3) := by decide +kernel
theorem dX9_borders_42 : decode cX9_borders 42 = .ok (.ifCond .eq 24, 3) := by decide +kernel
theorem dX9_borders_45 : decode cX9_borders 45 = .ok (.iload_n 3, 1) := by decide +kernel
theorem dX9_borders_46 : decode cX9_borders 46 = .ok (.aload_n 0, 1) := by decide +kernel
theorem dX9_borders_47 : decode cX9_borders 47 = .ok (.aload_n 0, 1) := by decide +kernel
theorem dX9_borders_48 : decode cX9_borders 48 = .ok (.iload 4, 2) := by decide +kernel
theorem dX9_borders_50 : decode cX9_borders 50 = .ok (.invokevirtual 108, 3) := by decide +kernel
theorem dX9_borders_53 : decode cX9_borders 53 = .ok (.invokevirtual 111, 3) := by decide +kernel
theorem dX9_borders_56 : decode cX9_borders 56 = .ok (.ifCond .eq 7, 3) := by decide +kernel
theorem dX9_borders_59 : decode cX9_borders 59 = .ok (.iconst 1, 1) := by decide +kernel
theorem dX9_borders_60 : decode cX9_borders 60 = .ok (.goto 4, 3) := by decide +kernel
theorem dX9_borders_63 : decode cX9_borders 63 = .ok (.iconst 0, 1) := by decide +kernel
theorem dX9_borders_64 : decode cX9_borders 64 = .ok (.iadd, 1) := by decide +kernel
theorem dX9_borders_65 : decode cX9_borders 65 = .ok (.istore_n 3, 1) := by decide +kernel
theorem dX9_borders_66 : decode cX9_borders 66 = .ok (.iinc 4 1, 3) := by decide +kernel
theorem dX9_borders_69 : decode cX9_borders 69 = .ok (.goto (-60), 3) := by decide +kernel
theorem dX9_borders_72 : decode cX9_borders 72 = .ok (.iload_n 3, 1) := by decide +kernel
theorem dX9_borders_73 : decode cX9_borders 73 = .ok (.ireturn, 1) := by decide +kernel
set_option maxRecDepth 20000 in
theorem ggX9_holesOf_X9_facesOf : GoodIn wsX9_holesOf wsX9_facesOf := goodIn_r _ [5, 6, 7, 8, 4, 9, 10, 11, 12, 13, 14, 15, 16, 17, 18, 39, 40, 41, 42, 43, 44, 45, 46, 47, 48, 49, 50, 51, 52, 53, 54, 55, 56, 57, 58, 59, 60, 61, 62, 63, 64, 65] (by decide +kernel) (by decide +kernel)
set_option maxRecDepth 20000 in
theorem gX9_holesOf_X9_facesOf : GoodIn wsX9_holesOf (wsV RX9 98 RX9 yX9_facesOf wsX9_facesOf) := goodIn_app (goodIn_of _ (by decide +kernel)) ggX9_holesOf_X9_facesOf
set_option maxRecDepth 20000 in
theorem ggX9_holesOf_X9_many : GoodIn wsX9_holesOf wsX9_many := goodIn_r _ [21] (by decide +kernel) (by decide +kernel)
set_option maxRecDepth 20000 in
theorem gX9_holesOf_X9_many : GoodIn wsX9_holesOf (va_wsS RX9 77 yX9_many wsX9_many) := goodIn_app (goodIn_of _ (by decide +kernel)) ggX9_holesOf_X9_many
set_option maxRecDepth 20000 in
theorem ggX9_holesOf_X9_borders : GoodIn wsX9_holesOf wsX9_borders := goodIn_r _ [25, 26, 27, 28, 4, 29, 30, 6, 7, 8, 9, 10, 16, 17, 18, 11, 12, 13, 14, 15, 31, 32, 33, 34, 35, 36, 37, 38, 39, 40, 41, 42, 43, 44, 45, 46, 47, 48, 49, 50, 51, 52, 53, 54, 55, 56, 57, 58, 59, 60, 61, 62, 63, 64, 65] (by decide +kernel) (by decide +kernel)
set_option maxRecDepth 20000 in
theorem gX9_holesOf_X9_borders : GoodIn wsX9_holesOf (wsV RX9 115 RX9 yX9_borders wsX9_borders) := goodIn_app (goodIn_of _ (by decide +kernel)) ggX9_holesOf_X9_borders
theorem dX9_holesOf_0 : decode cX9_holesOf 0 = .ok (.aload_n 0, 1) := by decide +kernel
theorem dX9_holesOf_1 : decode cX9_holesOf 1 = .ok (.iload_n 1, 1) := by decide +kernel
theorem dX9_holesOf_2 : decode cX9_holesOf 2 = .ok (.iload_n 2, 1) := by decide +kernel
theorem dX9_holesOf_3 : decode cX9_holesOf 3 = .ok (.iconst 1, 1) := by decide +kernel
theorem dX9_holesOf_4 : decode cX9_holesOf 4 = .ok (.iadd, 1) := by decide +kernel
theorem dX9_holesOf_5 : decode cX9_holesOf 5 = .ok (.invokevirtual 98, 3) := by decide +kernel
theorem dX9_holesOf_8 : decode cX9_holesOf 8 = .ok (.invokestatic 77, 3) := by decide +kernel
theorem dX9_holesOf_11 : decode cX9_holesOf 11 = .ok (.aload_n 0, 1) := by decide +kernel
theorem dX9_holesOf_12 : decode cX9_holesOf 12 = .ok (.iload_n 1, 1) := by decide +kernel
theorem dX9_holesOf_13 : decode cX9_holesOf 13 = .ok (.iload_n 2, 1) := by decide +kernel
theorem dX9_holesOf_14 : decode cX9_holesOf 14 = .ok (.iconst 1, 1) := by decide +kernel
theorem dX9_holesOf_15 : decode cX9_holesOf 15 = .ok (.iadd, 1) := by decide +kernel
theorem dX9_holesOf_16 : decode cX9_holesOf 16 = .ok (.invokevirtual 115, 3) := by decide +kernel
theorem dX9_holesOf_19 : decode cX9_holesOf 19 = .ok (.isub, 1) := by decide +kernel
theorem dX9_holesOf_20 : decode cX9_holesOf 20 = .ok (.aload_n 0, 1) := by decide +kernel
theorem dX9_holesOf_21 : decode cX9_holesOf 21 = .ok (.iload_n 1, 1) := by decide +kernel
theorem dX9_holesOf_22 : decode cX9_holesOf 22 = .ok (.iload_n 2, 1) := by decide +kernel
theorem dX9_holesOf_23 : decode cX9_holesOf 23 = .ok (.iconst 2, 1) := by decide +kernel
theorem dX9_holesOf_24 : decode cX9_holesOf 24 = .ok (.iadd, 1) := by decide +kernel
theorem dX9_holesOf_25 : decode cX9_holesOf 25 = .ok (.invokevirtual 115, 3) := by decide +kernel
theorem dX9_holesOf_28 : decode cX9_holesOf 28 = .ok (.isub, 1) := by decide +kernel
theorem dX9_holesOf_29 : decode cX9_holesOf 29 = .ok (.ireturn, 1) := by decide +kernel
set_option maxRecDepth 20000 in
theorem ggX9_holes_X9_isSet : GoodIn wsX9_holes wsX9_isSet := goodIn_r _ [5, 6, 7, 8, 4, 9, 10, 11, 12, 13, 50, 51, 52, 53, 54, 55, 56, 57, 58, 59, 60, 61, 62, 63, 64, 65, 66, 67, 68, 69, 70, 71, 72, 73, 74, 75, 76] (by decide +kernel) (by decide +kernel)
set_option maxRecDepth 20000 in
theorem gX9_holes_X9_isSet : GoodIn wsX9_holes (wsV RX9 73 RX9 yX9_isSet wsX9_isSet) := goodIn_app (goodIn_of _ (by decide +kernel)) ggX9_holes_X9_isSet
set_option maxRecDepth 20000 in
theorem ggX9_holes_X9_isIn : GoodIn wsX9_holes wsX9_isIn := goodIn_r _ [13] (by decide +kernel) (by decide +kernel)
set_option maxRecDepth 20000 in
theorem gX9_holes_X9_isIn : GoodIn wsX9_holes (va_wsS RX9 59 yX9_isIn wsX9_isIn) := goodIn_app (goodIn_of _ (by decide +kernel)) ggX9_holes_X9_isIn
set_option maxRecDepth 20000 in
theorem ggX9_holes_X9_holesOf : GoodIn wsX9_holes wsX9_holesOf := goodIn_r _ [17, 18, 19, 20, 4, 21, 6, 7, 8, 9, 10, 22, 23, 24, 25, 26, 27, 28, 29, 30, 31, 32, 33, 34, 35, 36, 37, 38, 39, 40, 41, 42, 43, 44, 45, 46, 47, 48, 49, 50, 51, 52, 53, 54, 55, 56, 57, 58, 59, 60, 61, 62, 63, 64, 65, 66, 67, 68, 69, 70, 71, 72, 73, 74, 75, 76] (by decide +kernel) (by decide +kernel)
set_option maxRecDepth 20000 in
theorem gX9_holes_X9_holesOf : GoodIn wsX9_holes (wsV RX9 118 RX9 yX9_holesOf wsX9_holesOf) := goodIn_app (goodIn_of _ (by decide +kernel)) ggX9_holes_X9_holesOf
theorem dX9_holes_0 : decode cX9_holes 0 = .ok (.aload_n 0, 1) := by decide +kernel
theorem dX9_holes_1 : decode cX9_holes 1 = .ok (.iload_n 1, 1) := by decide +kernel
theorem dX9_holes_2 : decode cX9_holes 2 = .ok (.invokevirtual 73, 3) := by decide +kernel
theorem dX9_holes_5 : decode cX9_holes 5 = .ok (.ifCond .eq 21, 3) := by decide +kernel
theorem dX9_holes_8 : decode cX9_holes 8 = .ok (.iload_n 2, 1) := by decide +kernel
theorem dX9_holes_9 : decode cX9_holes 9 = .ok (.iconst (-1), 1) := by decide +kernel
theorem dX9_holes_10 : decode cX9_holes 10 = .ok (.iconst 5, 1) := by decide +kernel
theorem dX9_holes_11 : decode cX9_holes 11 = .ok (.invokestatic 59, 3) := by decide +kernel
theorem dX9_holes_14 : decode cX9_holes 14 = .ok (.ifCond .eq 12, 3) := by decide +kernel
theorem dX9_holes_17 : decode cX9_holes 17 = .ok (.aload_n 0, 1) := by decide +kernel
theorem dX9_holes_18 : decode cX9_holes 18 = .ok (.iload_n 1, 1) := by decide +kernel
theorem dX9_holes_19 : decode cX9_holes 19 = .ok (.iload_n 2, 1) := by decide +kernel
theorem dX9_holes_20 : decode cX9_holes 20 = .ok (.invokevirtual 118, 3) := by decide +kernel
theorem dX9_holes_23 : decode cX9_holes 23 = .ok (.goto 4, 3) := by decide +kernel
theorem dX9_holes_26 : decode cX9_holes 26 = .ok (.iconst (-1), 1) := by decide +kernel
theorem dX9_holes_27 : decode cX9_holes 27 = .ok (.ireturn, 1) := by decide +kernel
set_option maxRecDepth 20000 in
theorem ggX9_space_X9_isIn : GoodIn wsX9_space wsX9_isIn := goodIn_r _ [4] (by decide +kernel) (by decide +kernel)
set_option maxRecDepth 20000 in
theorem gX9_space_X9_isIn : GoodIn wsX9_space (va_wsS RX9 59 yX9_isIn wsX9_isIn) := goodIn_app (goodIn_of _ (by decide +kernel)) ggX9_space_X9_isIn
set_option maxRecDepth 20000 in
theorem ggX9_space_X9_all : GoodIn wsX9_space wsX9_all := goodIn_r _ [8, 9, 46, 47, 48, 49, 50, 51, 52, 53, 54, 55, 56, 57, 58, 59, 60, 61, 62, 63, 64, 65, 66, 67, 68, 69, 70, 71, 72] (by decide +kernel) (by decide +kernel)
set_option maxRecDepth 20000 in
theorem gX9_space_X9_all : GoodIn wsX9_space (wsV RX9 55 RX9 yX9_all wsX9_all) := goodIn_app (goodIn_of _ (by decide +kernel)) ggX9_space_X9_all
set_option maxRecDepth 20000 in
theorem ggX9_space_X9_size : GoodIn wsX9_space wsX9_size := goodIn_r _ [12] (by decide +kernel) (by decide +kernel)
set_option maxRecDepth 20000 in
theorem gX9_space_X9_size : GoodIn wsX9_space (va_wsS RX9 90 yX9_size wsX9_size) := goodIn_app (goodIn_of _ (by decide +kernel)) ggX9_space_X9_size
set_option maxRecDepth 20000 in
theorem ggX9_space_X9_holesOf : GoodIn wsX9_space wsX9_holesOf := goodIn_r _ [16, 17, 18, 19, 3, 20, 5, 6, 7, 8, 9, 21, 22, 23, 24, 25, 10, 11, 12, 26, 27, 28, 29, 30, 31, 32, 33, 34, 35, 36, 37, 38, 39, 40, 41, 42, 43, 44, 45, 46, 47, 48, 49, 50, 51, 52, 53, 54, 55, 56, 57, 58, 59, 60, 61, 62, 63, 64, 65, 66, 67, 68, 69, 70, 71, 72] (by decide +kernel) (by decide +kernel)
set_option maxRecDepth 20000 in
theorem gX9_space_X9_holesOf : GoodIn wsX9_space (wsV RX9 118 RX9 yX9_holesOf wsX9_holesOf) := goodIn_app (goodIn_of _ (by decide +kernel)) ggX9_space_X9_holesOf
theorem dX9_space_0 : decode cX9_space 0 = .ok (.iload_n 1, 1) := by decide +kernel
theorem dX9_space_1 : decode cX9_space 1 = .ok (.iconst 0, 1) := by decide +kernel
theorem dX9_space_2 : decode cX9_space 2 = .ok (.bipush 12, 2) := by decide +kernel
theorem dX9_space_4 : decode cX9_space 4 = .ok (.invokestatic 59, 3) := by decide +kernel
theorem dX9_space_7 : decode cX9_space 7 = .ok (.ifCond .eq 12, 3) := by decide +kernel
theorem dX9_space_10 : decode cX9_space 10 = .ok (.iload_n 2, 1) := by decide +kernel
theorem dX9_space_11 : decode cX9_space 11 = .ok (.iconst 0, 1) := by decide +kernel
theorem dX9_space_12 : decode cX9_space 12 = .ok (.iconst 1, 1) := by decide +kernel
theorem dX9_space_13 : decode cX9_space 13 = .ok (.invokestatic 59, 3) := by decide +kernel
theorem dX9_space_16 : decode cX9_space 16 = .ok (.ifCond .ne 5, 3) := by decide +kernel
theorem dX9_space_19 : decode cX9_space 19 = .ok (.iconst (-1), 1) := by decide +kernel
theorem dX9_space_20 : decode cX9_space 20 = .ok (.ireturn, 1) := by decide +kernel
theorem dX9_space_21 : decode cX9_space 21 = .ok (.iconst 0, 1) := by decide +kernel
theorem dX9_space_22 : decode cX9_space 22 = .ok (.istore_n 3, 1) := by decide +kernel
theorem dX9_space_23 : decode cX9_space 23 = .ok (.iconst 0, 1) := by decide +kernel
theorem dX9_space_24 : decode cX9_space 24 = .ok (.istore 4, 2) := by decide +kernel
theorem dX9_space_26 : decode cX9_space 26 = .ok (.iload 4, 2) := by decide +kernel
theorem dX9_space_28 : decode cX9_space 28 = .ok (.aload_n 0, 1) := by decide +kernel
theorem dX9_space_29 : decode cX9_space 29 = .ok (.invokevirtual 55, 3) := by decide +kernel
theorem dX9_space_32 : decode cX9_space 32 = .ok (.if_icmp .gt 55, 3) := by decide +kernel
theorem dX9_space_35 : decode cX9_space 35 = .ok (.iload_n 2, 1) := by decide +kernel
theorem dX9_space_36 : decode cX9_space 36 = .ok (.ifCond .ne 15, 3) := by decide +kernel
theorem dX9_space_39 : decode cX9_space 39 = .ok (.iload_n 1, 1) := by decide +kernel
theorem dX9_space_40 : decode cX9_space 40 = .ok (.iload 4, 2) := by decide +kernel
theorem dX9_space_42 : decode cX9_space 42 = .ok (.invokestatic 90, 3) := by decide +kernel
theorem dX9_space_45 : decode cX9_space 45 = .ok (.isub, 1) := by decide +kernel
theorem dX9_space_46 : decode cX9_space 46 = .ok (.iconst 1, 1) := by decide +kernel
theorem dX9_space_47 : decode cX9_space 47 = .ok (.isub, 1) := by decide +kernel
theorem dX9_space_48 : decode cX9_space 48 = .ok (.goto 6, 3) := by decide +kernel
theorem dX9_space_51 : decode cX9_space 51 = .ok (.iload_n 1, 1) := by decide +kernel
theorem dX9_space_52 : decode cX9_space 52 = .ok (.iconst 1, 1) := by decide +kernel
theorem dX9_space_53 : decode cX9_space 53 = .ok (.isub, 1) := by decide +kernel
theorem dX9_space_54 : decode cX9_space 54 = .ok (.istore 5, 2) := by decide +kernel
theorem dX9_space_56 : decode cX9_space 56 = .ok (.iload_n 3, 1) := by decide +kernel
theorem dX9_space_57 : decode cX9_space 57 = .ok (.iload 5, 2) := by decide +kernel
theorem dX9_space_59 : decode cX9_space 59 = .ok (.iconst (-1), 1) := by decide +kernel
theorem dX9_space_60 : decode cX9_space 60 = .ok (.iconst 5, 1) := by decide +kernel
theorem dX9_space_61 : decode cX9_space 61 = .ok (.invokestatic 59, 3) := by decide +kernel
theorem dX9_space_64 : decode cX9_space 64 = .ok (.ifCond .eq 14, 3) := by decide +kernel
theorem dX9_space_67 : decode cX9_space 67 = .ok (.aload_n 0, 1) := by decide +kernel
theorem dX9_space_68 : decode cX9_space 68 = .ok (.iload 4, 2) := by decide +kernel
theorem dX9_space_70 : decode cX9_space 70 = .ok (.iload 5, 2) := by decide +kernel
theorem dX9_space_72 : decode cX9_space 72 = .ok (.invokevirtual 118, 3) := by decide +kernel
theorem dX9_space_75 : decode cX9_space 75 = .ok (.goto 4, 3) := by decide +kernel
theorem dX9_space_78 : decode cX9_space 78 = .ok (.iconst 0, 1) := by decide +kernel
theorem dX9_space_79 : decode cX9_space 79 = .ok (.iadd, 1) := by decide +kernel
theorem dX9_space_80 : decode cX9_space 80 = .ok (.istore_n 3, 1) := by decide +kernel
theorem dX9_space_81 : decode cX9_space 81 = .ok (.iinc 4 1, 3) := by decide +kernel
theorem dX9_space_84 : decode cX9_space 84 = .ok (.goto (-58), 3) := by decide +kernel
theorem dX9_space_87 : decode cX9_space 87 = .ok (.iload_n 3, 1) := by decide +kernel
theorem dX9_space_88 : decode cX9_space 88 = .ok (.ireturn, 1) := by decide +kernel
set_option maxRecDepth 20000 in
theorem ggX9_tower_X9_isIn : GoodIn wsX9_tower wsX9_isIn := goodIn_r _ [4] (by decide +kernel) (by decide +kernel)
set_option maxRecDepth 20000 in
theorem gX9_tower_X9_isIn : GoodIn wsX9_tower (va_wsS RX9 59 yX9_isIn wsX9_isIn) := goodIn_app (goodIn_of _ (by decide +kernel)) ggX9_tower_X9_isIn
set_option maxRecDepth 20000 in
theorem ggX9_tower_X9_all : GoodIn wsX9_tower wsX9_all := goodIn_r _ [8, 9, 46, 47, 48, 49, 50, 51, 52, 53, 54, 55, 56, 57, 58, 59, 60, 61, 62, 63, 64, 65, 66, 67, 68, 69, 70, 71, 72] (by decide +kernel) (by decide +kernel)
set_option maxRecDepth 20000 in
theorem gX9_tower_X9_all : GoodIn wsX9_tower (wsV RX9 55 RX9 yX9_all wsX9_all) := goodIn_app (goodIn_of _ (by decide +kernel)) ggX9_tower_X9_all
set_option maxRecDepth 20000 in
theorem ggX9_tower_X9_size : GoodIn wsX9_tower wsX9_size := goodIn_r _ [12] (by decide +kernel) (by decide +kernel)
set_option maxRecDepth 20000 in
theorem gX9_tower_X9_size : GoodIn wsX9_tower (va_wsS RX9 90 yX9_size wsX9_size) := goodIn_app (goodIn_of _ (by decide +kernel)) ggX9_tower_X9_size
set_option maxRecDepth 20000 in
theorem ggX9_tower_X9_holesOf : GoodIn wsX9_tower wsX9_holesOf := goodIn_r _ [16, 17, 18, 19, 3, 20, 5, 6, 7, 8, 9, 21, 22, 23, 24, 25, 10, 11, 12, 26, 27, 28, 29, 30, 31, 32, 33, 34, 35, 36, 37, 38, 39, 40, 41, 42, 43, 44, 45, 46, 47, 48, 49, 50, 51, 52, 53, 54, 55, 56, 57, 58, 59, 60, 61, 62, 63, 64, 65, 66, 67, 68, 69, 70, 71, 72] (by decide +kernel) (by decide +kernel)
set_option maxRecDepth 20000 in
theorem gX9_tower_X9_holesOf : GoodIn wsX9_tower (wsV RX9 118 RX9 yX9_holesOf wsX9_holesOf) := goodIn_app (goodIn_of _ (by decide +kernel)) ggX9_tower_X9_holesOf
theorem dX9_tower_0 : decode cX9_tower 0 = .ok (.iload_n 1, 1) := by decide +kernel
theorem dX9_tower_1 : decode cX9_tower 1 = .ok (.iconst 0, 1) := by decide +kernel
theorem dX9_tower_2 : decode cX9_tower 2 = .ok (.bipush 6, 2) := by decide +kernel
theorem dX9_tower_4 : decode cX9_tower 4 = .ok (.invokestatic 59, 3) := by decide +kernel
theorem dX9_tower_7 : decode cX9_tower 7 = .ok (.ifCond .eq 13, 3) := by decide +kernel
theorem dX9_tower_10 : decode cX9_tower 10 = .ok (.iload_n 2, 1) := by decide +kernel
theorem dX9_tower_11 : decode cX9_tower 11 = .ok (.iconst 0, 1) := by decide +kernel
theorem dX9_tower_12 : decode cX9_tower 12 = .ok (.bipush 6, 2) := by decide +kernel
theorem dX9_tower_14 : decode cX9_tower 14 = .ok (.invokestatic 59, 3) := by decide +kernel
theorem dX9_tower_17 : decode cX9_tower 17 = .ok (.ifCond .ne 5, 3) := by decide +kernel
theorem dX9_tower_20 : decode cX9_tower 20 = .ok (.iconst (-1), 1) := by decide +kernel
theorem dX9_tower_21 : decode cX9_tower 21 = .ok (.ireturn, 1) := by decide +kernel
theorem dX9_tower_22 : decode cX9_tower 22 = .ok (.iconst 0, 1) := by decide +kernel
theorem dX9_tower_23 : decode cX9_tower 23 = .ok (.istore_n 3, 1) := by decide +kernel
theorem dX9_tower_24 : decode cX9_tower 24 = .ok (.iconst 0, 1) := by decide +kernel
theorem dX9_tower_25 : decode cX9_tower 25 = .ok (.istore 4, 2) := by decide +kernel
theorem dX9_tower_27 : decode cX9_tower 27 = .ok (.iload 4, 2) := by decide +kernel
theorem dX9_tower_29 : decode cX9_tower 29 = .ok (.aload_n 0, 1) := by decide +kernel
theorem dX9_tower_30 : decode cX9_tower 30 = .ok (.invokevirtual 55, 3) := by decide +kernel
theorem dX9_tower_33 : decode cX9_tower 33 = .ok (.if_icmp .gt 49, 3) := by decide +kernel
theorem dX9_tower_36 : decode cX9_tower 36 = .ok (.iload_n 3, 1) := by decide +kernel
theorem dX9_tower_37 : decode cX9_tower 37 = .ok (.iload 4, 2) := by decide +kernel
theorem dX9_tower_39 : decode cX9_tower 39 = .ok (.invokestatic 90, 3) := by decide +kernel
theorem dX9_tower_42 : decode cX9_tower 42 = .ok (.iload_n 2, 1) := by decide +kernel
theorem dX9_tower_43 : decode cX9_tower 43 = .ok (.if_icmp .ne 30, 3) := by decide +kernel
theorem dX9_tower_46 : decode cX9_tower 46 = .ok (.iload_n 2, 1) := by decide +kernel
theorem dX9_tower_47 : decode cX9_tower 47 = .ok (.iload_n 1, 1) := by decide +kernel
theorem dX9_tower_48 : decode cX9_tower 48 = .ok (.isub, 1) := by decide +kernel
theorem dX9_tower_49 : decode cX9_tower 49 = .ok (.iconst 1, 1) := by decide +kernel
theorem dX9_tower_50 : decode cX9_tower 50 = .ok (.isub, 1) := by decide +kernel
theorem dX9_tower_51 : decode cX9_tower 51 = .ok (.iconst (-1), 1) := by decide +kernel
theorem dX9_tower_52 : decode cX9_tower 52 = .ok (.iconst 5, 1) := by decide +kernel
theorem dX9_tower_53 : decode cX9_tower 53 = .ok (.invokestatic 59, 3) := by decide +kernel
theorem dX9_tower_56 : decode cX9_tower 56 = .ok (.ifCond .eq 17, 3) := by decide +kernel
theorem dX9_tower_59 : decode cX9_tower 59 = .ok (.aload_n 0, 1) := by decide +kernel
theorem dX9_tower_60 : decode cX9_tower 60 = .ok (.iload 4, 2) := by decide +kernel
theorem dX9_tower_62 : decode cX9_tower 62 = .ok (.iload_n 2, 1) := by decide +kernel
theorem dX9_tower_63 : decode cX9_tower 63 = .ok (.iload_n 1, 1) := by decide +kernel
theorem dX9_tower_64 : decode cX9_tower 64 = .ok (.isub, 1) := by decide +kernel
theorem dX9_tower_65 : decode cX9_tower 65 = .ok (.iconst 1, 1) := by decide +kernel
theorem dX9_tower_66 : decode cX9_tower 66 = .ok (.isub, 1) := by decide +kernel
theorem dX9_tower_67 : decode cX9_tower 67 = .ok (.invokevirtual 118, 3) := by decide +kernel
theorem dX9_tower_70 : decode cX9_tower 70 = .ok (.goto 4, 3) := by decide +kernel
theorem dX9_tower_73 : decode cX9_tower 73 = .ok (.iconst 0, 1) := by decide +kernel
theorem dX9_tower_74 : decode cX9_tower 74 = .ok (.iadd, 1) := by decide +kernel
theorem dX9_tower_75 : decode cX9_tower 75 = .ok (.istore_n 3, 1) := by decide +kernel
theorem dX9_tower_76 : decode cX9_tower 76 = .ok (.iinc 4 1, 3) := by decide +kernel
theorem dX9_tower_79 : decode cX9_tower 79 = .ok (.goto (-52), 3) := by decide +kernel
theorem dX9_tower_82 : decode cX9_tower 82 = .ok (.iload_n 3, 1) := by decide +kernel
theorem dX9_tower_83 : decode cX9_tower 83 = .ok (.ireturn, 1) := by decide +kernel
