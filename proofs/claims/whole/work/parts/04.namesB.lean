set_option maxRecDepth 20000 in
theorem ggX8_init_X1_init : GoodIn wsX8_init wsX1_init := goodIn_r _ [34, 35, 2, 3, 36, 37, 38, 39, 83, 84, 85] (by decide +kernel) (by decide +kernel)
set_option maxRecDepth 20000 in
theorem gX8_init_X1_init : GoodIn wsX8_init (wsX1_init) := ggX8_init_X1_init
set_option maxRecDepth 20000 in
theorem ggX8_init_X5_init : GoodIn wsX8_init wsX5_init := goodIn_r _ [42, 43, 2, 3, 36, 44, 96, 97] (by decide +kernel) (by decide +kernel)
set_option maxRecDepth 20000 in
theorem gX8_init_X5_init : GoodIn wsX8_init (wsX5_init) := ggX8_init_X5_init
set_option maxRecDepth 20000 in
theorem ggX8_init_X4_init : GoodIn wsX8_init wsX4_init := goodIn_r _ [47, 48, 2, 3, 49, 98, 99] (by decide +kernel) (by decide +kernel)
set_option maxRecDepth 20000 in
theorem gX8_init_X4_init : GoodIn wsX8_init (wsX4_init) := ggX8_init_X4_init
set_option maxRecDepth 20000 in
theorem ggX8_init_X2_init : GoodIn wsX8_init wsX2_init := goodIn_r _ [52, 53, 2, 3, 36, 54, 55, 56, 57, 58, 59, 60, 61, 62, 63, 38, 64, 65, 100, 101, 102, 103, 104, 118, 119, 120, 121, 122] (by decide +kernel) (by decide +kernel)
set_option maxRecDepth 20000 in
theorem gX8_init_X2_init : GoodIn wsX8_init (wsX2_init) := ggX8_init_X2_init
set_option maxRecDepth 20000 in
theorem ggX8_init_X3_init : GoodIn wsX8_init wsX3_init := goodIn_r _ [68, 69, 2, 3, 70, 71, 57, 58, 72, 38, 73, 74, 36, 75, 76, 61, 62, 63, 64, 65, 105, 106, 107, 108, 109, 110, 111, 112, 118, 119, 120, 121, 122] (by decide +kernel) (by decide +kernel)
set_option maxRecDepth 20000 in
theorem gX8_init_X3_init : GoodIn wsX8_init (wsX3_init) := ggX8_init_X3_init
set_option maxRecDepth 20000 in
theorem ggX8_init_X7_init : GoodIn wsX8_init wsX7_init := goodIn_r _ [79, 80, 2, 3, 36, 81, 82, 113, 114, 115, 116, 117] (by decide +kernel) (by decide +kernel)
set_option maxRecDepth 20000 in
theorem gX8_init_X7_init : GoodIn wsX8_init (wsX7_init) := ggX8_init_X7_init
theorem dX8_init_0 : decode cX8_init 0 = .ok (.aload_n 0, 1) := by decide +kernel
theorem dX8_init_1 : decode cX8_init 1 = .ok (.invokespecial 1, 3) := by decide +kernel
theorem dX8_init_4 : decode cX8_init 4 = .ok (.aload_n 0, 1) := by decide +kernel
theorem dX8_init_5 : decode cX8_init 5 = .ok (.new 7, 3) := by decide +kernel
theorem dX8_init_8 : decode cX8_init 8 = .ok (.dup, 1) := by decide +kernel
theorem dX8_init_9 : decode cX8_init 9 = .ok (.invokespecial 9, 3) := by decide +kernel
theorem dX8_init_12 : decode cX8_init 12 = .ok (.putfield 10, 3) := by decide +kernel
theorem dX8_init_15 : decode cX8_init 15 = .ok (.aload_n 0, 1) := by decide +kernel
theorem dX8_init_16 : decode cX8_init 16 = .ok (.new 16, 3) := by decide +kernel
theorem dX8_init_19 : decode cX8_init 19 = .ok (.dup, 1) := by decide +kernel
theorem dX8_init_20 : decode cX8_init 20 = .ok (.invokespecial 18, 3) := by decide +kernel
theorem dX8_init_23 : decode cX8_init 23 = .ok (.putfield 19, 3) := by decide +kernel
theorem dX8_init_26 : decode cX8_init 26 = .ok (.aload_n 0, 1) := by decide +kernel
theorem dX8_init_27 : decode cX8_init 27 = .ok (.new 16, 3) := by decide +kernel
theorem dX8_init_30 : decode cX8_init 30 = .ok (.dup, 1) := by decide +kernel
theorem dX8_init_31 : decode cX8_init 31 = .ok (.invokespecial 18, 3) := by decide +kernel
theorem dX8_init_34 : decode cX8_init 34 = .ok (.putfield 23, 3) := by decide +kernel
theorem dX8_init_37 : decode cX8_init 37 = .ok (.aload_n 0, 1) := by decide +kernel
theorem dX8_init_38 : decode cX8_init 38 = .ok (.new 26, 3) := by decide +kernel
theorem dX8_init_41 : decode cX8_init 41 = .ok (.dup, 1) := by decide +kernel
theorem dX8_init_42 : decode cX8_init 42 = .ok (.invokespecial 28, 3) := by decide +kernel
theorem dX8_init_45 : decode cX8_init 45 = .ok (.putfield 29, 3) := by decide +kernel
theorem dX8_init_48 : decode cX8_init 48 = .ok (.aload_n 0, 1) := by decide +kernel
theorem dX8_init_49 : decode cX8_init 49 = .ok (.new 33, 3) := by decide +kernel
theorem dX8_init_52 : decode cX8_init 52 = .ok (.dup, 1) := by decide +kernel
theorem dX8_init_53 : decode cX8_init 53 = .ok (.invokespecial 35, 3) := by decide +kernel
theorem dX8_init_56 : decode cX8_init 56 = .ok (.putfield 36, 3) := by decide +kernel
theorem dX8_init_59 : decode cX8_init 59 = .ok (.aload_n 0, 1) := by decide +kernel
theorem dX8_init_60 : decode cX8_init 60 = .ok (.new 40, 3) := by decide +kernel
theorem dX8_init_63 : decode cX8_init 63 = .ok (.dup, 1) := by decide +kernel
theorem dX8_init_64 : decode cX8_init 64 = .ok (.aload_n 0, 1) := by decide +kernel
theorem dX8_init_65 : decode cX8_init 65 = .ok (.getfield 36, 3) := by decide +kernel
theorem dX8_init_68 : decode cX8_init 68 = .ok (.invokespecial 42, 3) := by decide +kernel
theorem dX8_init_71 : decode cX8_init 71 = .ok (.putfield 45, 3) := by decide +kernel
theorem dX8_init_74 : decode cX8_init 74 = .ok (.aload_n 0, 1) := by decide +kernel
theorem dX8_init_75 : decode cX8_init 75 = .ok (.new 49, 3) := by decide +kernel
theorem dX8_init_78 : decode cX8_init 78 = .ok (.dup, 1) := by decide +kernel
theorem dX8_init_79 : decode cX8_init 79 = .ok (.invokespecial 51, 3) := by decide +kernel
theorem dX8_init_82 : decode cX8_init 82 = .ok (.putfield 52, 3) := by decide +kernel
theorem dX8_init_85 : decode cX8_init 85 = .ok (.aload_n 0, 1) := by decide +kernel
theorem dX8_init_86 : decode cX8_init 86 = .ok (.iconst 4, 1) := by decide +kernel
theorem dX8_init_87 : decode cX8_init 87 = .ok (.putfield 56, 3) := by decide +kernel
theorem dX8_init_90 : decode cX8_init 90 = .ok (.aload_n 0, 1) := by decide +kernel
theorem dX8_init_91 : decode cX8_init 91 = .ok (.lconst 1, 1) := by decide +kernel
theorem dX8_init_92 : decode cX8_init 92 = .ok (.putfield 60, 3) := by decide +kernel
theorem dX8_init_95 : decode cX8_init 95 = .ok (.aload_n 0, 1) := by decide +kernel
theorem dX8_init_96 : decode cX8_init 96 = .ok (.iconst (-1), 1) := by decide +kernel
theorem dX8_init_97 : decode cX8_init 97 = .ok (.putfield 64, 3) := by decide +kernel
theorem dX8_init_100 : decode cX8_init 100 = .ok (.return_, 1) := by decide +kernel
set_option maxRecDepth 20000 in
theorem ggX8_points_X8_change : GoodIn wsX8_points wsX8_change := goodIn_r _ [5, 6, 7, 8, 9, 10, 11, 12, 13, 14, 15, 16, 17, 18, 19, 20, 21, 22, 23, 24, 25, 26, 27, 28, 29, 30, 31, 32, 33] (by decide +kernel) (by decide +kernel)
set_option maxRecDepth 20000 in
theorem gX8_points_X8_change : GoodIn wsX8_points (wsV RX8 67 RX8 yX8_change wsX8_change) := goodIn_app (goodIn_of _ (by decide +kernel)) ggX8_points_X8_change
theorem dX8_points_0 : decode cX8_points 0 = .ok (.iload_n 1, 1) := by decide +kernel
theorem dX8_points_1 : decode cX8_points 1 = .ok (.iconst 1, 1) := by decide +kernel
theorem dX8_points_2 : decode cX8_points 2 = .ok (.if_icmp .lt 9, 3) := by decide +kernel
theorem dX8_points_5 : decode cX8_points 5 = .ok (.iload_n 1, 1) := by decide +kernel
theorem dX8_points_6 : decode cX8_points 6 = .ok (.bipush 6, 2) := by decide +kernel
theorem dX8_points_8 : decode cX8_points 8 = .ok (.if_icmp .le 5, 3) := by decide +kernel
theorem dX8_points_11 : decode cX8_points 11 = .ok (.iconst 0, 1) := by decide +kernel
theorem dX8_points_12 : decode cX8_points 12 = .ok (.ireturn, 1) := by decide +kernel
theorem dX8_points_13 : decode cX8_points 13 = .ok (.aload_n 0, 1) := by decide +kernel
theorem dX8_points_14 : decode cX8_points 14 = .ok (.iload_n 1, 1) := by decide +kernel
theorem dX8_points_15 : decode cX8_points 15 = .ok (.lconst 1, 1) := by decide +kernel
theorem dX8_points_16 : decode cX8_points 16 = .ok (.invokevirtual 67, 3) := by decide +kernel
theorem dX8_points_19 : decode cX8_points 19 = .ok (.iconst 1, 1) := by decide +kernel
theorem dX8_points_20 : decode cX8_points 20 = .ok (.ireturn, 1) := by decide +kernel
set_option maxRecDepth 20000 in
theorem ggX8_face_X8_isSet : GoodIn wsX8_face wsX8_isSet := goodIn_r _ [7, 8, 9, 10, 6, 11, 2, 43, 44, 45, 46, 47, 48, 49, 50, 51, 52] (by decide +kernel) (by decide +kernel)
set_option maxRecDepth 20000 in
theorem gX8_face_X8_isSet : GoodIn wsX8_face (wsV RX8 71 RX8 yX8_isSet wsX8_isSet) := goodIn_app (goodIn_of _ (by decide +kernel)) ggX8_face_X8_isSet
set_option maxRecDepth 20000 in
theorem ggX8_face_J13_bitCount_95d88 : GoodIn wsX8_face wsJ13_bitCount_95d88 := goodIn_r _ [15, 16, 17, 18] (by decide +kernel) (by decide +kernel)
set_option maxRecDepth 20000 in
theorem gX8_face_J13_bitCount_95d88 : GoodIn wsX8_face (va_wsS RX8 75 yJ13_bitCount_95d88 wsJ13_bitCount_95d88) := goodIn_app (goodIn_of _ (by decide +kernel)) ggX8_face_J13_bitCount_95d88
set_option maxRecDepth 20000 in
theorem ggX8_face_X6_inside : GoodIn wsX8_face wsX6_inside := goodIn_r _ [22, 23, 24, 21, 25] (by decide +kernel) (by decide +kernel)
set_option maxRecDepth 20000 in
theorem gX8_face_X6_inside : GoodIn wsX8_face (va_wsS RX8 81 yX6_inside wsX6_inside) := goodIn_app (goodIn_of _ (by decide +kernel)) ggX8_face_X6_inside
set_option maxRecDepth 20000 in
theorem ggX8_face_X8_change : GoodIn wsX8_face wsX8_change := goodIn_r _ [29, 30, 2, 1, 31, 32, 33, 34, 35, 36, 37, 38, 39, 40, 41, 42, 43, 44, 45, 46, 47, 48, 49, 50, 51, 52, 53, 54, 55] (by decide +kernel) (by decide +kernel)
set_option maxRecDepth 20000 in
theorem gX8_face_X8_change : GoodIn wsX8_face (wsV RX8 67 RX8 yX8_change wsX8_change) := goodIn_app (goodIn_of _ (by decide +kernel)) ggX8_face_X8_change
theorem dX8_face_0 : decode cX8_face 0 = .ok (.aload_n 0, 1) := by decide +kernel
theorem dX8_face_1 : decode cX8_face 1 = .ok (.iload_n 1, 1) := by decide +kernel
theorem dX8_face_2 : decode cX8_face 2 = .ok (.invokevirtual 71, 3) := by decide +kernel
theorem dX8_face_5 : decode cX8_face 5 = .ok (.ifCond .ne 5, 3) := by decide +kernel
theorem dX8_face_8 : decode cX8_face 8 = .ok (.iconst (-1), 1) := by decide +kernel
theorem dX8_face_9 : decode cX8_face 9 = .ok (.ireturn, 1) := by decide +kernel
theorem dX8_face_10 : decode cX8_face 10 = .ok (.aload_n 0, 1) := by decide +kernel
theorem dX8_face_11 : decode cX8_face 11 = .ok (.getfield 60, 3) := by decide +kernel
theorem dX8_face_14 : decode cX8_face 14 = .ok (.invokestatic 75, 3) := by decide +kernel
theorem dX8_face_17 : decode cX8_face 17 = .ok (.istore_n 2, 1) := by decide +kernel
theorem dX8_face_18 : decode cX8_face 18 = .ok (.aload_n 0, 1) := by decide +kernel
theorem dX8_face_19 : decode cX8_face 19 = .ok (.aload_n 0, 1) := by decide +kernel
theorem dX8_face_20 : decode cX8_face 20 = .ok (.getfield 56, 3) := by decide +kernel
theorem dX8_face_23 : decode cX8_face 23 = .ok (.aload_n 0, 1) := by decide +kernel
theorem dX8_face_24 : decode cX8_face 24 = .ok (.getfield 60, 3) := by decide +kernel
theorem dX8_face_27 : decode cX8_face 27 = .ok (.iload_n 1, 1) := by decide +kernel
theorem dX8_face_28 : decode cX8_face 28 = .ok (.invokestatic 81, 3) := by decide +kernel
theorem dX8_face_31 : decode cX8_face 31 = .ok (.lor, 1) := by decide +kernel
theorem dX8_face_32 : decode cX8_face 32 = .ok (.invokevirtual 67, 3) := by decide +kernel
theorem dX8_face_35 : decode cX8_face 35 = .ok (.aload_n 0, 1) := by decide +kernel
theorem dX8_face_36 : decode cX8_face 36 = .ok (.getfield 60, 3) := by decide +kernel
theorem dX8_face_39 : decode cX8_face 39 = .ok (.invokestatic 75, 3) := by decide +kernel
theorem dX8_face_42 : decode cX8_face 42 = .ok (.iload_n 2, 1) := by decide +kernel
theorem dX8_face_43 : decode cX8_face 43 = .ok (.isub, 1) := by decide +kernel
theorem dX8_face_44 : decode cX8_face 44 = .ok (.ireturn, 1) := by decide +kernel
set_option maxRecDepth 20000 in
theorem ggX8_cut_X8_isNonemptyFace : GoodIn wsX8_cut wsX8_isNonemptyFace := goodIn_r _ [8, 1, 9, 10, 11, 7, 12, 13, 14, 15, 16, 2, 17, 18, 19, 20, 54, 55, 56, 57, 58, 59, 60, 61, 62, 63] (by decide +kernel) (by decide +kernel)
set_option maxRecDepth 20000 in
theorem gX8_cut_X8_isNonemptyFace : GoodIn wsX8_cut (wsV RX8 87 RX8 yX8_isNonemptyFace wsX8_isNonemptyFace) := goodIn_app (goodIn_of _ (by decide +kernel)) ggX8_cut_X8_isNonemptyFace
set_option maxRecDepth 20000 in
theorem ggX8_cut_J13_bitCount_95d88 : GoodIn wsX8_cut wsJ13_bitCount_95d88 := goodIn_r _ [24, 25, 26, 27] (by decide +kernel) (by decide +kernel)
set_option maxRecDepth 20000 in
theorem gX8_cut_J13_bitCount_95d88 : GoodIn wsX8_cut (va_wsS RX8 75 yJ13_bitCount_95d88 wsJ13_bitCount_95d88) := goodIn_app (goodIn_of _ (by decide +kernel)) ggX8_cut_J13_bitCount_95d88
set_option maxRecDepth 20000 in
theorem ggX8_cut_X6_around : GoodIn wsX8_cut wsX6_around := goodIn_r _ [30, 31, 32, 19, 33, 34, 35, 36] (by decide +kernel) (by decide +kernel)
set_option maxRecDepth 20000 in
theorem gX8_cut_X6_around : GoodIn wsX8_cut (va_wsS RX8 90 yX6_around wsX6_around) := goodIn_app (goodIn_of _ (by decide +kernel)) ggX8_cut_X6_around
set_option maxRecDepth 20000 in
theorem ggX8_cut_X8_change : GoodIn wsX8_cut wsX8_change := goodIn_r _ [40, 41, 2, 1, 42, 43, 44, 45, 46, 47, 48, 49, 50, 51, 52, 53, 54, 55, 56, 57, 58, 59, 60, 61, 62, 63, 64, 65, 66] (by decide +kernel) (by decide +kernel)
set_option maxRecDepth 20000 in
theorem gX8_cut_X8_change : GoodIn wsX8_cut (wsV RX8 67 RX8 yX8_change wsX8_change) := goodIn_app (goodIn_of _ (by decide +kernel)) ggX8_cut_X8_change
theorem dX8_cut_0 : decode cX8_cut 0 = .ok (.aload_n 0, 1) := by decide +kernel
theorem dX8_cut_1 : decode cX8_cut 1 = .ok (.iload_n 1, 1) := by decide +kernel
theorem dX8_cut_2 : decode cX8_cut 2 = .ok (.invokevirtual 87, 3) := by decide +kernel
theorem dX8_cut_5 : decode cX8_cut 5 = .ok (.ifCond .ne 5, 3) := by decide +kernel
theorem dX8_cut_8 : decode cX8_cut 8 = .ok (.iconst (-1), 1) := by decide +kernel
theorem dX8_cut_9 : decode cX8_cut 9 = .ok (.ireturn, 1) := by decide +kernel
theorem dX8_cut_10 : decode cX8_cut 10 = .ok (.aload_n 0, 1) := by decide +kernel
theorem dX8_cut_11 : decode cX8_cut 11 = .ok (.getfield 60, 3) := by decide +kernel
theorem dX8_cut_14 : decode cX8_cut 14 = .ok (.invokestatic 75, 3) := by decide +kernel
theorem dX8_cut_17 : decode cX8_cut 17 = .ok (.istore_n 2, 1) := by decide +kernel
theorem dX8_cut_18 : decode cX8_cut 18 = .ok (.aload_n 0, 1) := by decide +kernel
theorem dX8_cut_19 : decode cX8_cut 19 = .ok (.aload_n 0, 1) := by decide +kernel
theorem dX8_cut_20 : decode cX8_cut 20 = .ok (.getfield 56, 3) := by decide +kernel
theorem dX8_cut_23 : decode cX8_cut 23 = .ok (.aload_n 0, 1) := by decide +kernel
theorem dX8_cut_24 : decode cX8_cut 24 = .ok (.getfield 60, 3) := by decide +kernel
theorem dX8_cut_27 : decode cX8_cut 27 = .ok (.iload_n 1, 1) := by decide +kernel
theorem dX8_cut_28 : decode cX8_cut 28 = .ok (.invokestatic 90, 3) := by decide +kernel
theorem dX8_cut_31 : decode cX8_cut 31 = .ok (.ldc2_w 93, 3) := by decide +kernel
theorem dX8_cut_34 : decode cX8_cut 34 = .ok (.lxor, 1) := by decide +kernel
theorem dX8_cut_35 : decode cX8_cut 35 = .ok (.land, 1) := by decide +kernel
theorem dX8_cut_36 : decode cX8_cut 36 = .ok (.invokevirtual 67, 3) := by decide +kernel
theorem dX8_cut_39 : decode cX8_cut 39 = .ok (.iload_n 2, 1) := by decide +kernel
theorem dX8_cut_40 : decode cX8_cut 40 = .ok (.aload_n 0, 1) := by decide +kernel
theorem dX8_cut_41 : decode cX8_cut 41 = .ok (.getfield 60, 3) := by decide +kernel
theorem dX8_cut_44 : decode cX8_cut 44 = .ok (.invokestatic 75, 3) := by decide +kernel
theorem dX8_cut_47 : decode cX8_cut 47 = .ok (.isub, 1) := by decide +kernel
theorem dX8_cut_48 : decode cX8_cut 48 = .ok (.ireturn, 1) := by decide +kernel
set_option maxRecDepth 20000 in
theorem ggX8_link_X8_isNonemptyFace : GoodIn wsX8_link wsX8_isNonemptyFace := goodIn_r _ [6, 1, 7, 8, 9, 5, 10, 11, 12, 13, 14, 15, 16, 17, 18, 19, 50, 51, 52, 53, 54, 55, 56, 57, 58, 59] (by decide +kernel) (by decide +kernel)
set_option maxRecDepth 20000 in
theorem gX8_link_X8_isNonemptyFace : GoodIn wsX8_link (wsV RX8 87 RX8 yX8_isNonemptyFace wsX8_isNonemptyFace) := goodIn_app (goodIn_of _ (by decide +kernel)) ggX8_link_X8_isNonemptyFace
set_option maxRecDepth 20000 in
theorem ggX8_link_X8_allPoints : GoodIn wsX8_link wsX8_allPoints := goodIn_r _ [14, 15, 50, 51, 52, 53, 54, 55, 56, 57, 58, 59] (by decide +kernel) (by decide +kernel)
set_option maxRecDepth 20000 in
theorem gX8_link_X8_allPoints : GoodIn wsX8_link (wsV RX8 95 RX8 yX8_allPoints wsX8_allPoints) := goodIn_app (goodIn_of _ (by decide +kernel)) ggX8_link_X8_allPoints
set_option maxRecDepth 20000 in
theorem ggX8_link_J6_bitCount_0f7a4 : GoodIn wsX8_link wsJ6_bitCount_0f7a4 := goodIn_r _ [23, 24, 25, 26] (by decide +kernel) (by decide +kernel)
set_option maxRecDepth 20000 in
theorem gX8_link_J6_bitCount_0f7a4 : GoodIn wsX8_link (va_wsS RX8 99 yJ6_bitCount_0f7a4 wsJ6_bitCount_0f7a4) := goodIn_app (goodIn_of _ (by decide +kernel)) ggX8_link_J6_bitCount_0f7a4
set_option maxRecDepth 20000 in
theorem ggX8_link_X6_spread : GoodIn wsX8_link wsX6_spread := goodIn_r _ [29, 30, 31, 18, 32] (by decide +kernel) (by decide +kernel)
set_option maxRecDepth 20000 in
theorem gX8_link_X6_spread : GoodIn wsX8_link (va_wsS RX8 104 yX6_spread wsX6_spread) := goodIn_app (goodIn_of _ (by decide +kernel)) ggX8_link_X6_spread
set_option maxRecDepth 20000 in
theorem ggX8_link_X6_holds : GoodIn wsX8_link wsX6_holds := goodIn_r _ [19] (by decide +kernel) (by decide +kernel)
set_option maxRecDepth 20000 in
theorem gX8_link_X6_holds : GoodIn wsX8_link (va_wsS RX8 108 yX6_holds wsX6_holds) := goodIn_app (goodIn_of _ (by decide +kernel)) ggX8_link_X6_holds
set_option maxRecDepth 20000 in
theorem ggX8_link_X8_change : GoodIn wsX8_link wsX8_change := goodIn_r _ [36, 37, 15, 1, 38, 39, 40, 41, 42, 43, 44, 45, 46, 47, 48, 49, 50, 51, 52, 53, 54, 55, 56, 57, 58, 59, 60, 61, 62] (by decide +kernel) (by decide +kernel)
set_option maxRecDepth 20000 in
theorem gX8_link_X8_change : GoodIn wsX8_link (wsV RX8 67 RX8 yX8_change wsX8_change) := goodIn_app (goodIn_of _ (by decide +kernel)) ggX8_link_X8_change
theorem dX8_link_0 : decode cX8_link 0 = .ok (.aload_n 0, 1) := by decide +kernel
theorem dX8_link_1 : decode cX8_link 1 = .ok (.iload_n 1, 1) := by decide +kernel
theorem dX8_link_2 : decode cX8_link 2 = .ok (.invokevirtual 87, 3) := by decide +kernel
theorem dX8_link_5 : decode cX8_link 5 = .ok (.ifCond .eq 11, 3) := by decide +kernel
theorem dX8_link_8 : decode cX8_link 8 = .ok (.iload_n 1, 1) := by decide +kernel
theorem dX8_link_9 : decode cX8_link 9 = .ok (.aload_n 0, 1) := by decide +kernel
theorem dX8_link_10 : decode cX8_link 10 = .ok (.invokevirtual 95, 3) := by decide +kernel
theorem dX8_link_13 : decode cX8_link 13 = .ok (.if_icmp .ne 5, 3) := by decide +kernel
theorem dX8_link_16 : decode cX8_link 16 = .ok (.iconst (-1), 1) := by decide +kernel
theorem dX8_link_17 : decode cX8_link 17 = .ok (.ireturn, 1) := by decide +kernel
theorem dX8_link_18 : decode cX8_link 18 = .ok (.aload_n 0, 1) := by decide +kernel
theorem dX8_link_19 : decode cX8_link 19 = .ok (.invokevirtual 95, 3) := by decide +kernel
theorem dX8_link_22 : decode cX8_link 22 = .ok (.iload_n 1, 1) := by decide +kernel
theorem dX8_link_23 : decode cX8_link 23 = .ok (.iconst (-1), 1) := by decide +kernel
theorem dX8_link_24 : decode cX8_link 24 = .ok (.ixor, 1) := by decide +kernel
theorem dX8_link_25 : decode cX8_link 25 = .ok (.iand, 1) := by decide +kernel
theorem dX8_link_26 : decode cX8_link 26 = .ok (.istore_n 2, 1) := by decide +kernel
theorem dX8_link_27 : decode cX8_link 27 = .ok (.iload_n 2, 1) := by decide +kernel
theorem dX8_link_28 : decode cX8_link 28 = .ok (.invokestatic 99, 3) := by decide +kernel
theorem dX8_link_31 : decode cX8_link 31 = .ok (.istore_n 3, 1) := by decide +kernel
theorem dX8_link_32 : decode cX8_link 32 = .ok (.lconst 0, 1) := by decide +kernel
theorem dX8_link_33 : decode cX8_link 33 = .ok (.lstore 4, 2) := by decide +kernel
theorem dX8_link_35 : decode cX8_link 35 = .ok (.iconst 0, 1) := by decide +kernel
theorem dX8_link_36 : decode cX8_link 36 = .ok (.istore 6, 2) := by decide +kernel
theorem dX8_link_38 : decode cX8_link 38 = .ok (.iload 6, 2) := by decide +kernel
theorem dX8_link_40 : decode cX8_link 40 = .ok (.iconst 1, 1) := by decide +kernel
theorem dX8_link_41 : decode cX8_link 41 = .ok (.iload_n 3, 1) := by decide +kernel
theorem dX8_link_42 : decode cX8_link 42 = .ok (.ishl, 1) := by decide +kernel
theorem dX8_link_43 : decode cX8_link 43 = .ok (.if_icmp .ge 36, 3) := by decide +kernel
theorem dX8_link_46 : decode cX8_link 46 = .ok (.aload_n 0, 1) := by decide +kernel
theorem dX8_link_47 : decode cX8_link 47 = .ok (.getfield 60, 3) := by decide +kernel
theorem dX8_link_50 : decode cX8_link 50 = .ok (.iload_n 1, 1) := by decide +kernel
theorem dX8_link_51 : decode cX8_link 51 = .ok (.iload 6, 2) := by decide +kernel
theorem dX8_link_53 : decode cX8_link 53 = .ok (.iload_n 2, 1) := by decide +kernel
theorem dX8_link_54 : decode cX8_link 54 = .ok (.invokestatic 104, 3) := by decide +kernel
theorem dX8_link_57 : decode cX8_link 57 = .ok (.ior, 1) := by decide +kernel
theorem dX8_link_58 : decode cX8_link 58 = .ok (.invokestatic 108, 3) := by decide +kernel
theorem dX8_link_61 : decode cX8_link 61 = .ok (.ifCond .eq 12, 3) := by decide +kernel
theorem dX8_link_64 : decode cX8_link 64 = .ok (.lload 4, 2) := by decide +kernel
theorem dX8_link_66 : decode cX8_link 66 = .ok (.lconst 1, 1) := by decide +kernel
theorem dX8_link_67 : decode cX8_link 67 = .ok (.iload 6, 2) := by decide +kernel
theorem dX8_link_69 : decode cX8_link 69 = .ok (.lshl, 1) := by decide +kernel
theorem dX8_link_70 : decode cX8_link 70 = .ok (.lor, 1) := by decide +kernel
theorem dX8_link_71 : decode cX8_link 71 = .ok (.lstore 4, 2) := by decide +kernel
theorem dX8_link_73 : decode cX8_link 73 = .ok (.iinc 6 1, 3) := by decide +kernel
theorem dX8_link_76 : decode cX8_link 76 = .ok (.goto (-38), 3) := by decide +kernel
theorem dX8_link_79 : decode cX8_link 79 = .ok (.aload_n 0, 1) := by decide +kernel
theorem dX8_link_80 : decode cX8_link 80 = .ok (.iload_n 3, 1) := by decide +kernel
theorem dX8_link_81 : decode cX8_link 81 = .ok (.lload 4, 2) := by decide +kernel
theorem dX8_link_83 : decode cX8_link 83 = .ok (.invokevirtual 67, 3) := by decide +kernel
theorem dX8_link_86 : decode cX8_link 86 = .ok (.iload_n 3, 1) := by decide +kernel
theorem dX8_link_87 : decode cX8_link 87 = .ok (.ireturn, 1) := by decide +kernel
set_option maxRecDepth 20000 in
theorem ggX8_dual_X8_allPoints : GoodIn wsX8_dual wsX8_allPoints := goodIn_r _ [7, 2, 29, 30, 31, 32, 33, 34, 35, 36, 37, 38] (by decide +kernel) (by decide +kernel)
set_option maxRecDepth 20000 in
theorem gX8_dual_X8_allPoints : GoodIn wsX8_dual (wsV RX8 95 RX8 yX8_allPoints wsX8_allPoints) := goodIn_app (goodIn_of _ (by decide +kernel)) ggX8_dual_X8_allPoints
set_option maxRecDepth 20000 in
theorem ggX8_dual_X6_holds : GoodIn wsX8_dual wsX6_holds := goodIn_r _ [11] (by decide +kernel) (by decide +kernel)
set_option maxRecDepth 20000 in
theorem gX8_dual_X6_holds : GoodIn wsX8_dual (va_wsS RX8 108 yX6_holds wsX6_holds) := goodIn_app (goodIn_of _ (by decide +kernel)) ggX8_dual_X6_holds
set_option maxRecDepth 20000 in
theorem ggX8_dual_X8_change : GoodIn wsX8_dual wsX8_change := goodIn_r _ [15, 16, 2, 1, 17, 18, 19, 20, 21, 22, 23, 24, 25, 26, 27, 28, 29, 30, 31, 32, 33, 34, 35, 36, 37, 38, 39, 40, 41] (by decide +kernel) (by decide +kernel)
set_option maxRecDepth 20000 in
theorem gX8_dual_X8_change : GoodIn wsX8_dual (wsV RX8 67 RX8 yX8_change wsX8_change) := goodIn_app (goodIn_of _ (by decide +kernel)) ggX8_dual_X8_change
theorem dX8_dual_0 : decode cX8_dual 0 = .ok (.aload_n 0, 1) := by decide +kernel
theorem dX8_dual_1 : decode cX8_dual 1 = .ok (.invokevirtual 95, 3) := by decide +kernel
theorem dX8_dual_4 : decode cX8_dual 4 = .ok (.istore_n 1, 1) := by decide +kernel
theorem dX8_dual_5 : decode cX8_dual 5 = .ok (.aload_n 0, 1) := by decide +kernel
theorem dX8_dual_6 : decode cX8_dual 6 = .ok (.getfield 60, 3) := by decide +kernel
theorem dX8_dual_9 : decode cX8_dual 9 = .ok (.iload_n 1, 1) := by decide +kernel
theorem dX8_dual_10 : decode cX8_dual 10 = .ok (.invokestatic 108, 3) := by decide +kernel
theorem dX8_dual_13 : decode cX8_dual 13 = .ok (.ifCond .eq 5, 3) := by decide +kernel
theorem dX8_dual_16 : decode cX8_dual 16 = .ok (.iconst 0, 1) := by decide +kernel
theorem dX8_dual_17 : decode cX8_dual 17 = .ok (.ireturn, 1) := by decide +kernel
theorem dX8_dual_18 : decode cX8_dual 18 = .ok (.lconst 0, 1) := by decide +kernel
theorem dX8_dual_19 : decode cX8_dual 19 = .ok (.lstore_n 2, 1) := by decide +kernel
theorem dX8_dual_20 : decode cX8_dual 20 = .ok (.iconst 0, 1) := by decide +kernel
theorem dX8_dual_21 : decode cX8_dual 21 = .ok (.istore 4, 2) := by decide +kernel
theorem dX8_dual_23 : decode cX8_dual 23 = .ok (.iload 4, 2) := by decide +kernel
theorem dX8_dual_25 : decode cX8_dual 25 = .ok (.iload_n 1, 1) := by decide +kernel
theorem dX8_dual_26 : decode cX8_dual 26 = .ok (.if_icmp .gt 32, 3) := by decide +kernel
theorem dX8_dual_29 : decode cX8_dual 29 = .ok (.aload_n 0, 1) := by decide +kernel
theorem dX8_dual_30 : decode cX8_dual 30 = .ok (.getfield 60, 3) := by decide +kernel
theorem dX8_dual_33 : decode cX8_dual 33 = .ok (.iload_n 1, 1) := by decide +kernel
theorem dX8_dual_34 : decode cX8_dual 34 = .ok (.iload 4, 2) := by decide +kernel
theorem dX8_dual_36 : decode cX8_dual 36 = .ok (.iconst (-1), 1) := by decide +kernel
theorem dX8_dual_37 : decode cX8_dual 37 = .ok (.ixor, 1) := by decide +kernel
theorem dX8_dual_38 : decode cX8_dual 38 = .ok (.iand, 1) := by decide +kernel
theorem dX8_dual_39 : decode cX8_dual 39 = .ok (.invokestatic 108, 3) := by decide +kernel
theorem dX8_dual_42 : decode cX8_dual 42 = .ok (.ifCond .ne 10, 3) := by decide +kernel
theorem dX8_dual_45 : decode cX8_dual 45 = .ok (.lload_n 2, 1) := by decide +kernel
theorem dX8_dual_46 : decode cX8_dual 46 = .ok (.lconst 1, 1) := by decide +kernel
theorem dX8_dual_47 : decode cX8_dual 47 = .ok (.iload 4, 2) := by decide +kernel
theorem dX8_dual_49 : decode cX8_dual 49 = .ok (.lshl, 1) := by decide +kernel
theorem dX8_dual_50 : decode cX8_dual 50 = .ok (.lor, 1) := by decide +kernel
theorem dX8_dual_51 : decode cX8_dual 51 = .ok (.lstore_n 2, 1) := by decide +kernel
theorem dX8_dual_52 : decode cX8_dual 52 = .ok (.iinc 4 1, 3) := by decide +kernel
theorem dX8_dual_55 : decode cX8_dual 55 = .ok (.goto (-32), 3) := by decide +kernel
theorem dX8_dual_58 : decode cX8_dual 58 = .ok (.aload_n 0, 1) := by decide +kernel
theorem dX8_dual_59 : decode cX8_dual 59 = .ok (.aload_n 0, 1) := by decide +kernel
theorem dX8_dual_60 : decode cX8_dual 60 = .ok (.getfield 56, 3) := by decide +kernel
theorem dX8_dual_63 : decode cX8_dual 63 = .ok (.lload_n 2, 1) := by decide +kernel
theorem dX8_dual_64 : decode cX8_dual 64 = .ok (.invokevirtual 67, 3) := by decide +kernel
theorem dX8_dual_67 : decode cX8_dual 67 = .ok (.iconst 1, 1) := by decide +kernel
theorem dX8_dual_68 : decode cX8_dual 68 = .ok (.ireturn, 1) := by decide +kernel
set_option maxRecDepth 20000 in
theorem ggX8_undo_X1_drop : GoodIn wsX8_undo wsX1_drop := goodIn_r _ [8, 9, 30, 31, 32] (by decide +kernel) (by decide +kernel)
set_option maxRecDepth 20000 in
theorem gX8_undo_X1_drop : GoodIn wsX8_undo (wsV RX8 112 RX1 yX1_drop wsX1_drop) := goodIn_app (goodIn_of _ (by decide +kernel)) ggX8_undo_X1_drop
set_option maxRecDepth 20000 in
theorem ggX8_undo_X1_droppedPoints : GoodIn wsX8_undo wsX1_droppedPoints := goodIn_r _ [13, 9, 14, 30, 31, 32] (by decide +kernel) (by decide +kernel)
set_option maxRecDepth 20000 in
theorem gX8_undo_X1_droppedPoints : GoodIn wsX8_undo (wsV RX8 116 RX1 yX1_droppedPoints wsX1_droppedPoints) := goodIn_app (goodIn_of _ (by decide +kernel)) ggX8_undo_X1_droppedPoints
set_option maxRecDepth 20000 in
theorem ggX8_undo_X1_droppedFamily : GoodIn wsX8_undo wsX1_droppedFamily := goodIn_r _ [18, 9, 19, 30, 31, 32] (by decide +kernel) (by decide +kernel)
set_option maxRecDepth 20000 in
theorem gX8_undo_X1_droppedFamily : GoodIn wsX8_undo (wsV RX8 119 RX1 yX1_droppedFamily wsX1_droppedFamily) := goodIn_app (goodIn_of _ (by decide +kernel)) ggX8_undo_X1_droppedFamily
theorem dX8_undo_0 : decode cX8_undo 0 = .ok (.aload_n 0, 1) := by decide +kernel
theorem dX8_undo_1 : decode cX8_undo 1 = .ok (.getfield 10, 3) := by decide +kernel
theorem dX8_undo_4 : decode cX8_undo 4 = .ok (.invokevirtual 112, 3) := by decide +kernel
theorem dX8_undo_7 : decode cX8_undo 7 = .ok (.ifCond .ne 5, 3) := by decide +kernel
theorem dX8_undo_10 : decode cX8_undo 10 = .ok (.iconst 0, 1) := by decide +kernel
theorem dX8_undo_11 : decode cX8_undo 11 = .ok (.ireturn, 1) := by decide +kernel
theorem dX8_undo_12 : decode cX8_undo 12 = .ok (.aload_n 0, 1) := by decide +kernel
theorem dX8_undo_13 : decode cX8_undo 13 = .ok (.aload_n 0, 1) := by decide +kernel
theorem dX8_undo_14 : decode cX8_undo 14 = .ok (.getfield 10, 3) := by decide +kernel
theorem dX8_undo_17 : decode cX8_undo 17 = .ok (.invokevirtual 116, 3) := by decide +kernel
theorem dX8_undo_20 : decode cX8_undo 20 = .ok (.putfield 56, 3) := by decide +kernel
theorem dX8_undo_23 : decode cX8_undo 23 = .ok (.aload_n 0, 1) := by decide +kernel
theorem dX8_undo_24 : decode cX8_undo 24 = .ok (.aload_n 0, 1) := by decide +kernel
theorem dX8_undo_25 : decode cX8_undo 25 = .ok (.getfield 10, 3) := by decide +kernel
theorem dX8_undo_28 : decode cX8_undo 28 = .ok (.invokevirtual 119, 3) := by decide +kernel
theorem dX8_undo_31 : decode cX8_undo 31 = .ok (.putfield 60, 3) := by decide +kernel
theorem dX8_undo_34 : decode cX8_undo 34 = .ok (.iconst 1, 1) := by decide +kernel
theorem dX8_undo_35 : decode cX8_undo 35 = .ok (.ireturn, 1) := by decide +kernel
set_option maxRecDepth 20000 in
theorem ggX8_look_J13_bitCount_95d88 : GoodIn wsX8_look wsJ13_bitCount_95d88 := goodIn_r _ [9, 10, 11, 12] (by decide +kernel) (by decide +kernel)
set_option maxRecDepth 20000 in
theorem gX8_look_J13_bitCount_95d88 : GoodIn wsX8_look (va_wsS RX8 75 yJ13_bitCount_95d88 wsJ13_bitCount_95d88) := goodIn_app (goodIn_of _ (by decide +kernel)) ggX8_look_J13_bitCount_95d88
set_option maxRecDepth 20000 in
theorem ggX8_look_X8_greatestDimension : GoodIn wsX8_look wsX8_greatestDimension := goodIn_r _ [17, 2, 18, 19, 20, 21, 22, 181, 182, 183, 184, 185, 186, 187, 188, 189, 190] (by decide +kernel) (by decide +kernel)
set_option maxRecDepth 20000 in
theorem gX8_look_X8_greatestDimension : GoodIn wsX8_look (wsV RX8 123 RX8 yX8_greatestDimension wsX8_greatestDimension) := goodIn_app (goodIn_of _ (by decide +kernel)) ggX8_look_X8_greatestDimension
set_option maxRecDepth 20000 in
theorem ggX8_look_X8_missingFamily : GoodIn wsX8_look wsX8_missingFamily := goodIn_r _ [26, 2, 3, 27, 28, 29, 16, 30, 1, 31, 32, 20, 33, 34, 35, 36, 37, 38, 39, 181, 182, 183, 184, 185, 186, 187, 188, 189, 190] (by decide +kernel) (by decide +kernel)
set_option maxRecDepth 20000 in
theorem gX8_look_X8_missingFamily : GoodIn wsX8_look (wsV RX8 126 RX8 yX8_missingFamily wsX8_missingFamily) := goodIn_app (goodIn_of _ (by decide +kernel)) ggX8_look_X8_missingFamily
set_option maxRecDepth 20000 in
theorem ggX8_look_X6_ofSize : GoodIn wsX8_look wsX6_ofSize := goodIn_r _ [21, 22] (by decide +kernel) (by decide +kernel)
set_option maxRecDepth 20000 in
theorem gX8_look_X6_ofSize : GoodIn wsX8_look (va_wsS RX8 129 yX6_ofSize wsX6_ofSize) := goodIn_app (goodIn_of _ (by decide +kernel)) ggX8_look_X6_ofSize
set_option maxRecDepth 20000 in
theorem ggX8_look_X8_asNumber : GoodIn wsX8_look wsX8_asNumber := goodIn_r _ [42] (by decide +kernel) (by decide +kernel)
set_option maxRecDepth 20000 in
theorem gX8_look_X8_asNumber : GoodIn wsX8_look (va_wsS RX8 132 yX8_asNumber wsX8_asNumber) := goodIn_app (goodIn_of _ (by decide +kernel)) ggX8_look_X8_asNumber
set_option maxRecDepth 20000 in
theorem ggX8_look_X3_know : GoodIn wsX8_look wsX3_know := goodIn_r _ [47, 48, 49, 50, 51, 52, 53, 54, 55, 56, 57, 58, 59, 60, 20, 61, 37, 38, 39, 62, 63, 64, 65, 66, 67, 68, 69, 70, 71, 72, 73, 74, 75, 76, 77, 78, 79, 80, 81, 82, 32, 33, 83, 35, 36, 84, 85, 86, 87, 88, 89, 90, 91, 92, 93, 94, 95, 96, 97, 19, 21, 22, 98, 7, 8, 9, 10, 11, 12, 99, 100, 101, 46, 102, 103, 104, 105, 106, 107, 108, 109, 110, 111, 112, 113, 114, 115, 116, 117, 118, 119, 120, 121, 122, 123, 124, 125, 126, 127, 128, 129, 130, 131, 132, 133, 134, 135, 136, 137, 138, 139, 140, 141, 142, 143, 144, 145, 191, 192, 193, 194, 195, 196, 197, 198, 199, 200, 201, 202, 203, 204, 205, 206, 207, 208] (by decide +kernel) (by decide +kernel)
set_option maxRecDepth 20000 in
theorem gX8_look_X3_know : GoodIn wsX8_look (wsV RX8 136 RX3 yX3_know wsX3_know) := goodIn_app (goodIn_of _ (by decide +kernel)) ggX8_look_X3_know
set_option maxRecDepth 20000 in
theorem ggX8_look_X3_arePlain : GoodIn wsX8_look wsX3_arePlain := goodIn_r _ [149, 51, 191, 192, 193, 194, 195, 196, 197, 198] (by decide +kernel) (by decide +kernel)
set_option maxRecDepth 20000 in
theorem gX8_look_X3_arePlain : GoodIn wsX8_look (wsV RX8 139 RX3 yX3_arePlain wsX3_arePlain) := goodIn_app (goodIn_of _ (by decide +kernel)) ggX8_look_X3_arePlain
set_option maxRecDepth 20000 in
theorem ggX8_look_X7_know : GoodIn wsX8_look wsX7_know := goodIn_r _ [154, 155, 156, 157, 158, 159, 160, 153, 161, 162, 163, 164, 165, 166, 167, 38, 20, 39, 168, 169, 170, 171, 172, 32, 33, 209, 210, 211, 212, 213] (by decide +kernel) (by decide +kernel)
set_option maxRecDepth 20000 in
theorem gX8_look_X7_know : GoodIn wsX8_look (wsV RX8 142 RX7 yX7_know wsX7_know) := goodIn_app (goodIn_of _ (by decide +kernel)) ggX8_look_X7_know
set_option maxRecDepth 20000 in
theorem ggX8_look_X7_howMany : GoodIn wsX8_look wsX7_howMany := goodIn_r _ [176, 157, 209, 210, 211, 212, 213] (by decide +kernel) (by decide +kernel)
set_option maxRecDepth 20000 in
theorem gX8_look_X7_howMany : GoodIn wsX8_look (wsV RX8 143 RX7 yX7_howMany wsX7_howMany) := goodIn_app (goodIn_of _ (by decide +kernel)) ggX8_look_X7_howMany
set_option maxRecDepth 20000 in
theorem ggX8_look_X7_classes : GoodIn wsX8_look wsX7_classes := goodIn_r _ [180, 155, 158, 209, 210, 211, 212, 213] (by decide +kernel) (by decide +kernel)
set_option maxRecDepth 20000 in
theorem gX8_look_X7_classes : GoodIn wsX8_look (wsV RX8 146 RX7 yX7_classes wsX7_classes) := goodIn_app (goodIn_of _ (by decide +kernel)) ggX8_look_X7_classes
theorem dX8_look_0 : decode cX8_look 0 = .ok (.iload_n 1, 1) := by decide +kernel
theorem dX8_look_1 : decode cX8_look 1 = .ok (.tableswitch 172 0 7 #[47, 52, 60, 65, 73, 100, 126, 149], 47) := by decide +kernel
theorem dX8_look_48 : decode cX8_look 48 = .ok (.aload_n 0, 1) := by decide +kernel
theorem dX8_look_49 : decode cX8_look 49 = .ok (.getfield 56, 3) := by decide +kernel
theorem dX8_look_52 : decode cX8_look 52 = .ok (.ireturn, 1) := by decide +kernel
theorem dX8_look_53 : decode cX8_look 53 = .ok (.aload_n 0, 1) := by decide +kernel
theorem dX8_look_54 : decode cX8_look 54 = .ok (.getfield 60, 3) := by decide +kernel
theorem dX8_look_57 : decode cX8_look 57 = .ok (.invokestatic 75, 3) := by decide +kernel
theorem dX8_look_60 : decode cX8_look 60 = .ok (.ireturn, 1) := by decide +kernel
theorem dX8_look_61 : decode cX8_look 61 = .ok (.aload_n 0, 1) := by decide +kernel
theorem dX8_look_62 : decode cX8_look 62 = .ok (.invokevirtual 123, 3) := by decide +kernel
theorem dX8_look_65 : decode cX8_look 65 = .ok (.ireturn, 1) := by decide +kernel
theorem dX8_look_66 : decode cX8_look 66 = .ok (.aload_n 0, 1) := by decide +kernel
theorem dX8_look_67 : decode cX8_look 67 = .ok (.invokevirtual 126, 3) := by decide +kernel
theorem dX8_look_70 : decode cX8_look 70 = .ok (.invokestatic 75, 3) := by decide +kernel
theorem dX8_look_73 : decode cX8_look 73 = .ok (.ireturn, 1) := by decide +kernel
theorem dX8_look_74 : decode cX8_look 74 = .ok (.aload_n 0, 1) := by decide +kernel
theorem dX8_look_75 : decode cX8_look 75 = .ok (.invokevirtual 126, 3) := by decide +kernel
theorem dX8_look_78 : decode cX8_look 78 = .ok (.iconst 2, 1) := by decide +kernel
theorem dX8_look_79 : decode cX8_look 79 = .ok (.invokestatic 129, 3) := by decide +kernel
theorem dX8_look_82 : decode cX8_look 82 = .ok (.ldc2_w 93, 3) := by decide +kernel
theorem dX8_look_85 : decode cX8_look 85 = .ok (.lxor, 1) := by decide +kernel
theorem dX8_look_86 : decode cX8_look 86 = .ok (.land, 1) := by decide +kernel
theorem dX8_look_87 : decode cX8_look 87 = .ok (.lconst 0, 1) := by decide +kernel
theorem dX8_look_88 : decode cX8_look 88 = .ok (.lcmp, 1) := by decide +kernel
theorem dX8_look_89 : decode cX8_look 89 = .ok (.ifCond .ne 7, 3) := by decide +kernel
theorem dX8_look_92 : decode cX8_look 92 = .ok (.iconst 1, 1) := by decide +kernel
theorem dX8_look_93 : decode cX8_look 93 = .ok (.goto 4, 3) := by decide +kernel
theorem dX8_look_96 : decode cX8_look 96 = .ok (.iconst 0, 1) := by decide +kernel
theorem dX8_look_97 : decode cX8_look 97 = .ok (.invokestatic 132, 3) := by decide +kernel
theorem dX8_look_100 : decode cX8_look 100 = .ok (.ireturn, 1) := by decide +kernel
theorem dX8_look_101 : decode cX8_look 101 = .ok (.aload_n 0, 1) := by decide +kernel
theorem dX8_look_102 : decode cX8_look 102 = .ok (.getfield 45, 3) := by decide +kernel
theorem dX8_look_105 : decode cX8_look 105 = .ok (.aload_n 0, 1) := by decide +kernel
theorem dX8_look_106 : decode cX8_look 106 = .ok (.getfield 56, 3) := by decide +kernel
theorem dX8_look_109 : decode cX8_look 109 = .ok (.aload_n 0, 1) := by decide +kernel
theorem dX8_look_110 : decode cX8_look 110 = .ok (.getfield 60, 3) := by decide +kernel
theorem dX8_look_113 : decode cX8_look 113 = .ok (.invokevirtual 136, 3) := by decide +kernel
theorem dX8_look_116 : decode cX8_look 116 = .ok (.aload_n 0, 1) := by decide +kernel
theorem dX8_look_117 : decode cX8_look 117 = .ok (.getfield 45, 3) := by decide +kernel
theorem dX8_look_120 : decode cX8_look 120 = .ok (.invokevirtual 139, 3) := by decide +kernel
theorem dX8_look_123 : decode cX8_look 123 = .ok (.invokestatic 132, 3) := by decide +kernel
theorem dX8_look_126 : decode cX8_look 126 = .ok (.ireturn, 1) := by decide +kernel
theorem dX8_look_127 : decode cX8_look 127 = .ok (.aload_n 0, 1) := by decide +kernel
theorem dX8_look_128 : decode cX8_look 128 = .ok (.getfield 52, 3) := by decide +kernel
theorem dX8_look_131 : decode cX8_look 131 = .ok (.aload_n 0, 1) := by decide +kernel
theorem dX8_look_132 : decode cX8_look 132 = .ok (.getfield 56, 3) := by decide +kernel
theorem dX8_look_135 : decode cX8_look 135 = .ok (.aload_n 0, 1) := by decide +kernel
theorem dX8_look_136 : decode cX8_look 136 = .ok (.getfield 60, 3) := by decide +kernel
theorem dX8_look_139 : decode cX8_look 139 = .ok (.invokevirtual 142, 3) := by decide +kernel
theorem dX8_look_142 : decode cX8_look 142 = .ok (.aload_n 0, 1) := by decide +kernel
theorem dX8_look_143 : decode cX8_look 143 = .ok (.getfield 52, 3) := by decide +kernel
theorem dX8_look_146 : decode cX8_look 146 = .ok (.invokevirtual 143, 3) := by decide +kernel
theorem dX8_look_149 : decode cX8_look 149 = .ok (.ireturn, 1) := by decide +kernel
theorem dX8_look_150 : decode cX8_look 150 = .ok (.aload_n 0, 1) := by decide +kernel
theorem dX8_look_151 : decode cX8_look 151 = .ok (.getfield 52, 3) := by decide +kernel
theorem dX8_look_154 : decode cX8_look 154 = .ok (.aload_n 0, 1) := by decide +kernel
theorem dX8_look_155 : decode cX8_look 155 = .ok (.getfield 56, 3) := by decide +kernel
theorem dX8_look_158 : decode cX8_look 158 = .ok (.aload_n 0, 1) := by decide +kernel
theorem dX8_look_159 : decode cX8_look 159 = .ok (.getfield 60, 3) := by decide +kernel
theorem dX8_look_162 : decode cX8_look 162 = .ok (.invokevirtual 142, 3) := by decide +kernel
theorem dX8_look_165 : decode cX8_look 165 = .ok (.aload_n 0, 1) := by decide +kernel
theorem dX8_look_166 : decode cX8_look 166 = .ok (.getfield 52, 3) := by decide +kernel
theorem dX8_look_169 : decode cX8_look 169 = .ok (.invokevirtual 146, 3) := by decide +kernel
theorem dX8_look_172 : decode cX8_look 172 = .ok (.ireturn, 1) := by decide +kernel
theorem dX8_look_173 : decode cX8_look 173 = .ok (.bipush (-2), 2) := by decide +kernel
theorem dX8_look_175 : decode cX8_look 175 = .ok (.ireturn, 1) := by decide +kernel
set_option maxRecDepth 20000 in
theorem ggX8_has_X8_isSet : GoodIn wsX8_has wsX8_isSet := goodIn_r _ [6, 7, 8, 9, 5, 10, 11, 19, 20, 21, 22, 23, 24, 25, 26, 27, 28] (by decide +kernel) (by decide +kernel)
set_option maxRecDepth 20000 in
theorem gX8_has_X8_isSet : GoodIn wsX8_has (wsV RX8 71 RX8 yX8_isSet wsX8_isSet) := goodIn_app (goodIn_of _ (by decide +kernel)) ggX8_has_X8_isSet
set_option maxRecDepth 20000 in
theorem ggX8_has_X6_holds : GoodIn wsX8_has wsX6_holds := goodIn_r _ [15] (by decide +kernel) (by decide +kernel)
set_option maxRecDepth 20000 in
theorem gX8_has_X6_holds : GoodIn wsX8_has (va_wsS RX8 108 yX6_holds wsX6_holds) := goodIn_app (goodIn_of _ (by decide +kernel)) ggX8_has_X6_holds
set_option maxRecDepth 20000 in
theorem ggX8_has_X8_asNumber : GoodIn wsX8_has wsX8_asNumber := goodIn_r _ [18] (by decide +kernel) (by decide +kernel)
set_option maxRecDepth 20000 in
theorem gX8_has_X8_asNumber : GoodIn wsX8_has (va_wsS RX8 132 yX8_asNumber wsX8_asNumber) := goodIn_app (goodIn_of _ (by decide +kernel)) ggX8_has_X8_asNumber
theorem dX8_has_0 : decode cX8_has 0 = .ok (.aload_n 0, 1) := by decide +kernel
theorem dX8_has_1 : decode cX8_has 1 = .ok (.iload_n 1, 1) := by decide +kernel
theorem dX8_has_2 : decode cX8_has 2 = .ok (.invokevirtual 71, 3) := by decide +kernel
theorem dX8_has_5 : decode cX8_has 5 = .ok (.ifCond .eq 17, 3) := by decide +kernel
theorem dX8_has_8 : decode cX8_has 8 = .ok (.aload_n 0, 1) := by decide +kernel
theorem dX8_has_9 : decode cX8_has 9 = .ok (.getfield 60, 3) := by decide +kernel
theorem dX8_has_12 : decode cX8_has 12 = .ok (.iload_n 1, 1) := by decide +kernel
theorem dX8_has_13 : decode cX8_has 13 = .ok (.invokestatic 108, 3) := by decide +kernel
theorem dX8_has_16 : decode cX8_has 16 = .ok (.invokestatic 132, 3) := by decide +kernel
theorem dX8_has_19 : decode cX8_has 19 = .ok (.goto 4, 3) := by decide +kernel
theorem dX8_has_22 : decode cX8_has 22 = .ok (.iconst (-1), 1) := by decide +kernel
theorem dX8_has_23 : decode cX8_has 23 = .ok (.ireturn, 1) := by decide +kernel
set_option maxRecDepth 20000 in
theorem ggX8_faces_X2_isDimension : GoodIn wsX8_faces wsX2_isDimension := goodIn_r _ [5] (by decide +kernel) (by decide +kernel)
set_option maxRecDepth 20000 in
theorem gX8_faces_X2_isDimension : GoodIn wsX8_faces (va_wsS RX8 149 yX2_isDimension wsX2_isDimension) := goodIn_app (goodIn_of _ (by decide +kernel)) ggX8_faces_X2_isDimension
set_option maxRecDepth 20000 in
theorem ggX8_faces_X6_ofSize : GoodIn wsX8_faces wsX6_ofSize := goodIn_r _ [9, 10] (by decide +kernel) (by decide +kernel)
set_option maxRecDepth 20000 in
theorem gX8_faces_X6_ofSize : GoodIn wsX8_faces (va_wsS RX8 129 yX6_ofSize wsX6_ofSize) := goodIn_app (goodIn_of _ (by decide +kernel)) ggX8_faces_X6_ofSize
set_option maxRecDepth 20000 in
theorem ggX8_faces_J13_bitCount_95d88 : GoodIn wsX8_faces wsJ13_bitCount_95d88 := goodIn_r _ [14, 15, 16, 17] (by decide +kernel) (by decide +kernel)
set_option maxRecDepth 20000 in
theorem gX8_faces_J13_bitCount_95d88 : GoodIn wsX8_faces (va_wsS RX8 75 yJ13_bitCount_95d88 wsJ13_bitCount_95d88) := goodIn_app (goodIn_of _ (by decide +kernel)) ggX8_faces_J13_bitCount_95d88
theorem dX8_faces_0 : decode cX8_faces 0 = .ok (.iload_n 1, 1) := by decide +kernel
theorem dX8_faces_1 : decode cX8_faces 1 = .ok (.invokestatic 149, 3) := by decide +kernel
theorem dX8_faces_4 : decode cX8_faces 4 = .ok (.ifCond .eq 20, 3) := by decide +kernel
theorem dX8_faces_7 : decode cX8_faces 7 = .ok (.aload_n 0, 1) := by decide +kernel
theorem dX8_faces_8 : decode cX8_faces 8 = .ok (.getfield 60, 3) := by decide +kernel
theorem dX8_faces_11 : decode cX8_faces 11 = .ok (.iload_n 1, 1) := by decide +kernel
theorem dX8_faces_12 : decode cX8_faces 12 = .ok (.iconst 1, 1) := by decide +kernel
theorem dX8_faces_13 : decode cX8_faces 13 = .ok (.iadd, 1) := by decide +kernel
theorem dX8_faces_14 : decode cX8_faces 14 = .ok (.invokestatic 129, 3) := by decide +kernel
theorem dX8_faces_17 : decode cX8_faces 17 = .ok (.land, 1) := by decide +kernel
theorem dX8_faces_18 : decode cX8_faces 18 = .ok (.invokestatic 75, 3) := by decide +kernel
theorem dX8_faces_21 : decode cX8_faces 21 = .ok (.goto 4, 3) := by decide +kernel
theorem dX8_faces_24 : decode cX8_faces 24 = .ok (.iconst (-1), 1) := by decide +kernel
theorem dX8_faces_25 : decode cX8_faces 25 = .ok (.ireturn, 1) := by decide +kernel
set_option maxRecDepth 20000 in
theorem ggX8_missing_X8_missingFamily : GoodIn wsX8_missing wsX8_missingFamily := goodIn_r _ [5, 6, 7, 8, 9, 10, 4, 11, 12, 13, 14, 15, 16, 17, 18, 19, 20, 21, 22, 23, 24, 25, 26, 27, 28, 29, 30, 31, 32] (by decide +kernel) (by decide +kernel)
set_option maxRecDepth 20000 in
theorem gX8_missing_X8_missingFamily : GoodIn wsX8_missing (wsV RX8 126 RX8 yX8_missingFamily wsX8_missingFamily) := goodIn_app (goodIn_of _ (by decide +kernel)) ggX8_missing_X8_missingFamily
set_option maxRecDepth 20000 in
theorem ggX8_missing_X6_holds : GoodIn wsX8_missing wsX6_holds := goodIn_r _ [16] (by decide +kernel) (by decide +kernel)
set_option maxRecDepth 20000 in
theorem gX8_missing_X6_holds : GoodIn wsX8_missing (va_wsS RX8 108 yX6_holds wsX6_holds) := goodIn_app (goodIn_of _ (by decide +kernel)) ggX8_missing_X6_holds
theorem dX8_missing_0 : decode cX8_missing 0 = .ok (.iload_n 1, 1) := by decide +kernel
theorem dX8_missing_1 : decode cX8_missing 1 = .ok (.ifCond .ge 5, 3) := by decide +kernel
theorem dX8_missing_4 : decode cX8_missing 4 = .ok (.iconst (-1), 1) := by decide +kernel
theorem dX8_missing_5 : decode cX8_missing 5 = .ok (.ireturn, 1) := by decide +kernel
theorem dX8_missing_6 : decode cX8_missing 6 = .ok (.aload_n 0, 1) := by decide +kernel
theorem dX8_missing_7 : decode cX8_missing 7 = .ok (.invokevirtual 126, 3) := by decide +kernel
theorem dX8_missing_10 : decode cX8_missing 10 = .ok (.lstore_n 2, 1) := by decide +kernel
theorem dX8_missing_11 : decode cX8_missing 11 = .ok (.iconst 0, 1) := by decide +kernel
theorem dX8_missing_12 : decode cX8_missing 12 = .ok (.istore 4, 2) := by decide +kernel
theorem dX8_missing_14 : decode cX8_missing 14 = .ok (.iconst 0, 1) := by decide +kernel
theorem dX8_missing_15 : decode cX8_missing 15 = .ok (.istore 5, 2) := by decide +kernel
theorem dX8_missing_17 : decode cX8_missing 17 = .ok (.iload 5, 2) := by decide +kernel
theorem dX8_missing_19 : decode cX8_missing 19 = .ok (.bipush 64, 2) := by decide +kernel
theorem dX8_missing_21 : decode cX8_missing 21 = .ok (.if_icmp .ge 30, 3) := by decide +kernel
theorem dX8_missing_24 : decode cX8_missing 24 = .ok (.lload_n 2, 1) := by decide +kernel
theorem dX8_missing_25 : decode cX8_missing 25 = .ok (.iload 5, 2) := by decide +kernel
theorem dX8_missing_27 : decode cX8_missing 27 = .ok (.invokestatic 108, 3) := by decide +kernel
theorem dX8_missing_30 : decode cX8_missing 30 = .ok (.ifCond .eq 15, 3) := by decide +kernel
theorem dX8_missing_33 : decode cX8_missing 33 = .ok (.iload 4, 2) := by decide +kernel
theorem dX8_missing_35 : decode cX8_missing 35 = .ok (.iload_n 1, 1) := by decide +kernel
theorem dX8_missing_36 : decode cX8_missing 36 = .ok (.if_icmp .ne 6, 3) := by decide +kernel
theorem dX8_missing_39 : decode cX8_missing 39 = .ok (.iload 5, 2) := by decide +kernel
theorem dX8_missing_41 : decode cX8_missing 41 = .ok (.ireturn, 1) := by decide +kernel
theorem dX8_missing_42 : decode cX8_missing 42 = .ok (.iinc 4 1, 3) := by decide +kernel
theorem dX8_missing_45 : decode cX8_missing 45 = .ok (.iinc 5 1, 3) := by decide +kernel
theorem dX8_missing_48 : decode cX8_missing 48 = .ok (.goto (-31), 3) := by decide +kernel
theorem dX8_missing_51 : decode cX8_missing 51 = .ok (.iconst (-1), 1) := by decide +kernel
theorem dX8_missing_52 : decode cX8_missing 52 = .ok (.ireturn, 1) := by decide +kernel
set_option maxRecDepth 20000 in
theorem ggX8_holes_X8_isSet : GoodIn wsX8_holes wsX8_isSet := goodIn_r _ [8, 9, 10, 11, 7, 12, 2, 85, 86, 87, 88, 89, 90, 91, 92, 93, 94] (by decide +kernel) (by decide +kernel)
set_option maxRecDepth 20000 in
theorem gX8_holes_X8_isSet : GoodIn wsX8_holes (wsV RX8 71 RX8 yX8_isSet wsX8_isSet) := goodIn_app (goodIn_of _ (by decide +kernel)) ggX8_holes_X8_isSet
set_option maxRecDepth 20000 in
theorem ggX8_holes_X2_isDimension : GoodIn wsX8_holes wsX2_isDimension := goodIn_r _ [16] (by decide +kernel) (by decide +kernel)
set_option maxRecDepth 20000 in
theorem gX8_holes_X2_isDimension : GoodIn wsX8_holes (va_wsS RX8 149 yX2_isDimension wsX2_isDimension) := goodIn_app (goodIn_of _ (by decide +kernel)) ggX8_holes_X2_isDimension
set_option maxRecDepth 20000 in
theorem ggX8_holes_X2_know : GoodIn wsX8_holes wsX2_know := goodIn_r _ [20, 21, 22, 23, 24, 25, 26, 27, 28, 29, 30, 31, 32, 15, 33, 34, 35, 36, 37, 38, 39, 40, 41, 42, 43, 44, 45, 46, 47, 48, 49, 50, 51, 52, 53, 54, 55, 56, 57, 58, 59, 60, 61, 62, 63, 64, 65, 66, 67, 68, 69, 70, 71, 72, 73, 74, 75, 76, 77, 78, 79, 95, 96, 97, 98, 99, 100, 101, 102, 103, 104] (by decide +kernel) (by decide +kernel)
set_option maxRecDepth 20000 in
theorem gX8_holes_X2_know : GoodIn wsX8_holes (wsV RX8 152 RX2 yX2_know wsX2_know) := goodIn_app (goodIn_of _ (by decide +kernel)) ggX8_holes_X2_know
set_option maxRecDepth 20000 in
theorem ggX8_holes_X2_holesOf : GoodIn wsX8_holes wsX2_holesOf := goodIn_r _ [83, 34, 84, 14, 15, 16, 95, 96, 97, 98, 99] (by decide +kernel) (by decide +kernel)
set_option maxRecDepth 20000 in
theorem gX8_holes_X2_holesOf : GoodIn wsX8_holes (wsV RX8 153 RX2 yX2_holesOf wsX2_holesOf) := goodIn_app (goodIn_of _ (by decide +kernel)) ggX8_holes_X2_holesOf
theorem dX8_holes_0 : decode cX8_holes 0 = .ok (.aload_n 0, 1) := by decide +kernel
theorem dX8_holes_1 : decode cX8_holes 1 = .ok (.iload_n 1, 1) := by decide +kernel
theorem dX8_holes_2 : decode cX8_holes 2 = .ok (.invokevirtual 71, 3) := by decide +kernel
theorem dX8_holes_5 : decode cX8_holes 5 = .ok (.ifCond .eq 10, 3) := by decide +kernel
theorem dX8_holes_8 : decode cX8_holes 8 = .ok (.iload_n 2, 1) := by decide +kernel
theorem dX8_holes_9 : decode cX8_holes 9 = .ok (.invokestatic 149, 3) := by decide +kernel
theorem dX8_holes_12 : decode cX8_holes 12 = .ok (.ifCond .ne 5, 3) := by decide +kernel
theorem dX8_holes_15 : decode cX8_holes 15 = .ok (.iconst (-1), 1) := by decide +kernel
theorem dX8_holes_16 : decode cX8_holes 16 = .ok (.ireturn, 1) := by decide +kernel
theorem dX8_holes_17 : decode cX8_holes 17 = .ok (.aload_n 0, 1) := by decide +kernel
theorem dX8_holes_18 : decode cX8_holes 18 = .ok (.getfield 36, 3) := by decide +kernel
theorem dX8_holes_21 : decode cX8_holes 21 = .ok (.aload_n 0, 1) := by decide +kernel
theorem dX8_holes_22 : decode cX8_holes 22 = .ok (.getfield 56, 3) := by decide +kernel
theorem dX8_holes_25 : decode cX8_holes 25 = .ok (.aload_n 0, 1) := by decide +kernel
theorem dX8_holes_26 : decode cX8_holes 26 = .ok (.getfield 60, 3) := by decide +kernel
theorem dX8_holes_29 : decode cX8_holes 29 = .ok (.invokevirtual 152, 3) := by decide +kernel
theorem dX8_holes_32 : decode cX8_holes 32 = .ok (.aload_n 0, 1) := by decide +kernel
theorem dX8_holes_33 : decode cX8_holes 33 = .ok (.getfield 36, 3) := by decide +kernel
theorem dX8_holes_36 : decode cX8_holes 36 = .ok (.iload_n 1, 1) := by decide +kernel
theorem dX8_holes_37 : decode cX8_holes 37 = .ok (.iload_n 2, 1) := by decide +kernel
theorem dX8_holes_38 : decode cX8_holes 38 = .ok (.invokevirtual 153, 3) := by decide +kernel
theorem dX8_holes_41 : decode cX8_holes 41 = .ok (.ireturn, 1) := by decide +kernel
set_option maxRecDepth 20000 in
theorem ggX8_space_X2_know : GoodIn wsX8_space wsX2_know := goodIn_r _ [8, 9, 10, 11, 12, 13, 14, 15, 16, 17, 18, 19, 20, 7, 21, 22, 23, 24, 25, 26, 27, 28, 29, 30, 31, 32, 33, 34, 35, 36, 37, 38, 39, 40, 41, 42, 43, 44, 45, 46, 47, 48, 49, 50, 51, 52, 53, 54, 55, 56, 57, 58, 59, 60, 61, 62, 63, 64, 65, 66, 67, 91, 92, 93, 94, 95, 96, 97, 98, 99, 100] (by decide +kernel) (by decide +kernel)
set_option maxRecDepth 20000 in
theorem gX8_space_X2_know : GoodIn wsX8_space (wsV RX8 152 RX2 yX2_know wsX2_know) := goodIn_app (goodIn_of _ (by decide +kernel)) ggX8_space_X2_know
set_option maxRecDepth 20000 in
theorem ggX8_space_X8_allPoints : GoodIn wsX8_space wsX8_allPoints := goodIn_r _ [72, 2, 81, 82, 83, 84, 85, 86, 87, 88, 89, 90] (by decide +kernel) (by decide +kernel)
set_option maxRecDepth 20000 in
theorem gX8_space_X8_allPoints : GoodIn wsX8_space (wsV RX8 95 RX8 yX8_allPoints wsX8_allPoints) := goodIn_app (goodIn_of _ (by decide +kernel)) ggX8_space_X8_allPoints
set_option maxRecDepth 20000 in
theorem ggX8_space_J6_bitCount_0f7a4 : GoodIn wsX8_space wsJ6_bitCount_0f7a4 := goodIn_r _ [53, 54, 55, 56] (by decide +kernel) (by decide +kernel)
set_option maxRecDepth 20000 in
theorem gX8_space_J6_bitCount_0f7a4 : GoodIn wsX8_space (va_wsS RX8 99 yJ6_bitCount_0f7a4 wsJ6_bitCount_0f7a4) := goodIn_app (goodIn_of _ (by decide +kernel)) ggX8_space_J6_bitCount_0f7a4
set_option maxRecDepth 20000 in
theorem ggX8_space_X2_holesOf : GoodIn wsX8_space wsX2_holesOf := goodIn_r _ [77, 22, 78, 79, 7, 80, 91, 92, 93, 94, 95] (by decide +kernel) (by decide +kernel)
set_option maxRecDepth 20000 in
theorem gX8_space_X2_holesOf : GoodIn wsX8_space (wsV RX8 153 RX2 yX2_holesOf wsX2_holesOf) := goodIn_app (goodIn_of _ (by decide +kernel)) ggX8_space_X2_holesOf
theorem dX8_space_0 : decode cX8_space 0 = .ok (.iload_n 1, 1) := by decide +kernel
theorem dX8_space_1 : decode cX8_space 1 = .ok (.ifCond .lt 18, 3) := by decide +kernel
theorem dX8_space_4 : decode cX8_space 4 = .ok (.iload_n 1, 1) := by decide +kernel
theorem dX8_space_5 : decode cX8_space 5 = .ok (.bipush 12, 2) := by decide +kernel
theorem dX8_space_7 : decode cX8_space 7 = .ok (.if_icmp .gt 12, 3) := by decide +kernel
theorem dX8_space_10 : decode cX8_space 10 = .ok (.iload_n 2, 1) := by decide +kernel
theorem dX8_space_11 : decode cX8_space 11 = .ok (.ifCond .lt 8, 3) := by decide +kernel
theorem dX8_space_14 : decode cX8_space 14 = .ok (.iload_n 2, 1) := by decide +kernel
theorem dX8_space_15 : decode cX8_space 15 = .ok (.iconst 1, 1) := by decide +kernel
theorem dX8_space_16 : decode cX8_space 16 = .ok (.if_icmp .le 5, 3) := by decide +kernel
theorem dX8_space_19 : decode cX8_space 19 = .ok (.iconst (-1), 1) := by decide +kernel
theorem dX8_space_20 : decode cX8_space 20 = .ok (.ireturn, 1) := by decide +kernel
theorem dX8_space_21 : decode cX8_space 21 = .ok (.aload_n 0, 1) := by decide +kernel
theorem dX8_space_22 : decode cX8_space 22 = .ok (.getfield 36, 3) := by decide +kernel
theorem dX8_space_25 : decode cX8_space 25 = .ok (.aload_n 0, 1) := by decide +kernel
theorem dX8_space_26 : decode cX8_space 26 = .ok (.getfield 56, 3) := by decide +kernel
theorem dX8_space_29 : decode cX8_space 29 = .ok (.aload_n 0, 1) := by decide +kernel
theorem dX8_space_30 : decode cX8_space 30 = .ok (.getfield 60, 3) := by decide +kernel
theorem dX8_space_33 : decode cX8_space 33 = .ok (.invokevirtual 152, 3) := by decide +kernel
theorem dX8_space_36 : decode cX8_space 36 = .ok (.iconst 0, 1) := by decide +kernel
theorem dX8_space_37 : decode cX8_space 37 = .ok (.istore_n 3, 1) := by decide +kernel
theorem dX8_space_38 : decode cX8_space 38 = .ok (.iconst 0, 1) := by decide +kernel
theorem dX8_space_39 : decode cX8_space 39 = .ok (.istore 4, 2) := by decide +kernel
theorem dX8_space_41 : decode cX8_space 41 = .ok (.iload 4, 2) := by decide +kernel
theorem dX8_space_43 : decode cX8_space 43 = .ok (.aload_n 0, 1) := by decide +kernel
theorem dX8_space_44 : decode cX8_space 44 = .ok (.invokevirtual 95, 3) := by decide +kernel
theorem dX8_space_47 : decode cX8_space 47 = .ok (.if_icmp .gt 42, 3) := by decide +kernel
theorem dX8_space_50 : decode cX8_space 50 = .ok (.iload_n 2, 1) := by decide +kernel
theorem dX8_space_51 : decode cX8_space 51 = .ok (.ifCond .ne 11, 3) := by decide +kernel
theorem dX8_space_54 : decode cX8_space 54 = .ok (.iload 4, 2) := by decide +kernel
theorem dX8_space_56 : decode cX8_space 56 = .ok (.invokestatic 99, 3) := by decide +kernel
theorem dX8_space_59 : decode cX8_space 59 = .ok (.goto 4, 3) := by decide +kernel
theorem dX8_space_62 : decode cX8_space 62 = .ok (.iconst 0, 1) := by decide +kernel
theorem dX8_space_63 : decode cX8_space 63 = .ok (.istore 5, 2) := by decide +kernel
theorem dX8_space_65 : decode cX8_space 65 = .ok (.iload_n 3, 1) := by decide +kernel
theorem dX8_space_66 : decode cX8_space 66 = .ok (.aload_n 0, 1) := by decide +kernel
theorem dX8_space_67 : decode cX8_space 67 = .ok (.getfield 36, 3) := by decide +kernel
theorem dX8_space_70 : decode cX8_space 70 = .ok (.iload 4, 2) := by decide +kernel
theorem dX8_space_72 : decode cX8_space 72 = .ok (.iload_n 1, 1) := by decide +kernel
theorem dX8_space_73 : decode cX8_space 73 = .ok (.iload 5, 2) := by decide +kernel
theorem dX8_space_75 : decode cX8_space 75 = .ok (.isub, 1) := by decide +kernel
theorem dX8_space_76 : decode cX8_space 76 = .ok (.iconst 1, 1) := by decide +kernel
theorem dX8_space_77 : decode cX8_space 77 = .ok (.isub, 1) := by decide +kernel
theorem dX8_space_78 : decode cX8_space 78 = .ok (.invokevirtual 153, 3) := by decide +kernel
theorem dX8_space_81 : decode cX8_space 81 = .ok (.iadd, 1) := by decide +kernel
theorem dX8_space_82 : decode cX8_space 82 = .ok (.istore_n 3, 1) := by decide +kernel
theorem dX8_space_83 : decode cX8_space 83 = .ok (.iinc 4 1, 3) := by decide +kernel
theorem dX8_space_86 : decode cX8_space 86 = .ok (.goto (-45), 3) := by decide +kernel
theorem dX8_space_89 : decode cX8_space 89 = .ok (.iload_n 3, 1) := by decide +kernel
theorem dX8_space_90 : decode cX8_space 90 = .ok (.ireturn, 1) := by decide +kernel
set_option maxRecDepth 20000 in
theorem ggX8_tower_X2_know : GoodIn wsX8_tower wsX2_know := goodIn_r _ [8, 9, 10, 11, 12, 13, 14, 15, 16, 17, 18, 19, 20, 7, 21, 22, 23, 24, 25, 26, 27, 28, 29, 30, 31, 32, 33, 34, 35, 36, 37, 38, 39, 40, 41, 42, 43, 44, 45, 46, 47, 48, 49, 50, 51, 52, 53, 54, 55, 56, 57, 58, 59, 60, 61, 62, 63, 64, 65, 66, 67, 91, 92, 93, 94, 95, 96, 97, 98, 99, 100] (by decide +kernel) (by decide +kernel)
set_option maxRecDepth 20000 in
theorem gX8_tower_X2_know : GoodIn wsX8_tower (wsV RX8 152 RX2 yX2_know wsX2_know) := goodIn_app (goodIn_of _ (by decide +kernel)) ggX8_tower_X2_know
set_option maxRecDepth 20000 in
theorem ggX8_tower_X8_allPoints : GoodIn wsX8_tower wsX8_allPoints := goodIn_r _ [72, 2, 81, 82, 83, 84, 85, 86, 87, 88, 89, 90] (by decide +kernel) (by decide +kernel)
set_option maxRecDepth 20000 in
theorem gX8_tower_X8_allPoints : GoodIn wsX8_tower (wsV RX8 95 RX8 yX8_allPoints wsX8_allPoints) := goodIn_app (goodIn_of _ (by decide +kernel)) ggX8_tower_X8_allPoints
set_option maxRecDepth 20000 in
theorem ggX8_tower_J6_bitCount_0f7a4 : GoodIn wsX8_tower wsJ6_bitCount_0f7a4 := goodIn_r _ [53, 54, 55, 56] (by decide +kernel) (by decide +kernel)
set_option maxRecDepth 20000 in
theorem gX8_tower_J6_bitCount_0f7a4 : GoodIn wsX8_tower (va_wsS RX8 99 yJ6_bitCount_0f7a4 wsJ6_bitCount_0f7a4) := goodIn_app (goodIn_of _ (by decide +kernel)) ggX8_tower_J6_bitCount_0f7a4
set_option maxRecDepth 20000 in
theorem ggX8_tower_X2_holesOf : GoodIn wsX8_tower wsX2_holesOf := goodIn_r _ [77, 22, 78, 79, 7, 80, 91, 92, 93, 94, 95] (by decide +kernel) (by decide +kernel)
set_option maxRecDepth 20000 in
theorem gX8_tower_X2_holesOf : GoodIn wsX8_tower (wsV RX8 153 RX2 yX2_holesOf wsX2_holesOf) := goodIn_app (goodIn_of _ (by decide +kernel)) ggX8_tower_X2_holesOf
theorem dX8_tower_0 : decode cX8_tower 0 = .ok (.iload_n 1, 1) := by decide +kernel
theorem dX8_tower_1 : decode cX8_tower 1 = .ok (.ifCond .lt 19, 3) := by decide +kernel
theorem dX8_tower_4 : decode cX8_tower 4 = .ok (.iload_n 1, 1) := by decide +kernel
theorem dX8_tower_5 : decode cX8_tower 5 = .ok (.bipush 6, 2) := by decide +kernel
theorem dX8_tower_7 : decode cX8_tower 7 = .ok (.if_icmp .gt 13, 3) := by decide +kernel
theorem dX8_tower_10 : decode cX8_tower 10 = .ok (.iload_n 2, 1) := by decide +kernel
theorem dX8_tower_11 : decode cX8_tower 11 = .ok (.ifCond .lt 9, 3) := by decide +kernel
theorem dX8_tower_14 : decode cX8_tower 14 = .ok (.iload_n 2, 1) := by decide +kernel
theorem dX8_tower_15 : decode cX8_tower 15 = .ok (.bipush 6, 2) := by decide +kernel
theorem dX8_tower_17 : decode cX8_tower 17 = .ok (.if_icmp .le 5, 3) := by decide +kernel
theorem dX8_tower_20 : decode cX8_tower 20 = .ok (.iconst (-1), 1) := by decide +kernel
theorem dX8_tower_21 : decode cX8_tower 21 = .ok (.ireturn, 1) := by decide +kernel
theorem dX8_tower_22 : decode cX8_tower 22 = .ok (.aload_n 0, 1) := by decide +kernel
theorem dX8_tower_23 : decode cX8_tower 23 = .ok (.getfield 36, 3) := by decide +kernel
theorem dX8_tower_26 : decode cX8_tower 26 = .ok (.aload_n 0, 1) := by decide +kernel
theorem dX8_tower_27 : decode cX8_tower 27 = .ok (.getfield 56, 3) := by decide +kernel
theorem dX8_tower_30 : decode cX8_tower 30 = .ok (.aload_n 0, 1) := by decide +kernel
theorem dX8_tower_31 : decode cX8_tower 31 = .ok (.getfield 60, 3) := by decide +kernel
theorem dX8_tower_34 : decode cX8_tower 34 = .ok (.invokevirtual 152, 3) := by decide +kernel
theorem dX8_tower_37 : decode cX8_tower 37 = .ok (.iconst 0, 1) := by decide +kernel
theorem dX8_tower_38 : decode cX8_tower 38 = .ok (.istore_n 3, 1) := by decide +kernel
theorem dX8_tower_39 : decode cX8_tower 39 = .ok (.iconst 0, 1) := by decide +kernel
theorem dX8_tower_40 : decode cX8_tower 40 = .ok (.istore 4, 2) := by decide +kernel
theorem dX8_tower_42 : decode cX8_tower 42 = .ok (.iload 4, 2) := by decide +kernel
theorem dX8_tower_44 : decode cX8_tower 44 = .ok (.aload_n 0, 1) := by decide +kernel
theorem dX8_tower_45 : decode cX8_tower 45 = .ok (.invokevirtual 95, 3) := by decide +kernel
theorem dX8_tower_48 : decode cX8_tower 48 = .ok (.if_icmp .gt 35, 3) := by decide +kernel
theorem dX8_tower_51 : decode cX8_tower 51 = .ok (.iload 4, 2) := by decide +kernel
theorem dX8_tower_53 : decode cX8_tower 53 = .ok (.invokestatic 99, 3) := by decide +kernel
theorem dX8_tower_56 : decode cX8_tower 56 = .ok (.iload_n 2, 1) := by decide +kernel
theorem dX8_tower_57 : decode cX8_tower 57 = .ok (.if_icmp .ne 20, 3) := by decide +kernel
theorem dX8_tower_60 : decode cX8_tower 60 = .ok (.iload_n 3, 1) := by decide +kernel
theorem dX8_tower_61 : decode cX8_tower 61 = .ok (.aload_n 0, 1) := by decide +kernel
theorem dX8_tower_62 : decode cX8_tower 62 = .ok (.getfield 36, 3) := by decide +kernel
theorem dX8_tower_65 : decode cX8_tower 65 = .ok (.iload 4, 2) := by decide +kernel
theorem dX8_tower_67 : decode cX8_tower 67 = .ok (.iload_n 2, 1) := by decide +kernel
theorem dX8_tower_68 : decode cX8_tower 68 = .ok (.iload_n 1, 1) := by decide +kernel
theorem dX8_tower_69 : decode cX8_tower 69 = .ok (.isub, 1) := by decide +kernel
theorem dX8_tower_70 : decode cX8_tower 70 = .ok (.iconst 1, 1) := by decide +kernel
theorem dX8_tower_71 : decode cX8_tower 71 = .ok (.isub, 1) := by decide +kernel
theorem dX8_tower_72 : decode cX8_tower 72 = .ok (.invokevirtual 153, 3) := by decide +kernel
theorem dX8_tower_75 : decode cX8_tower 75 = .ok (.iadd, 1) := by decide +kernel
theorem dX8_tower_76 : decode cX8_tower 76 = .ok (.istore_n 3, 1) := by decide +kernel
theorem dX8_tower_77 : decode cX8_tower 77 = .ok (.iinc 4 1, 3) := by decide +kernel
theorem dX8_tower_80 : decode cX8_tower 80 = .ok (.goto (-38), 3) := by decide +kernel
theorem dX8_tower_83 : decode cX8_tower 83 = .ok (.iload_n 3, 1) := by decide +kernel
theorem dX8_tower_84 : decode cX8_tower 84 = .ok (.ireturn, 1) := by decide +kernel
set_option maxRecDepth 20000 in
theorem ggX8_rank_X8_isSet : GoodIn wsX8_rank wsX8_isSet := goodIn_r _ [9, 10, 11, 12, 8, 13, 2, 118, 119, 120, 121, 122, 123, 124, 125, 126, 127] (by decide +kernel) (by decide +kernel)
set_option maxRecDepth 20000 in
theorem gX8_rank_X8_isSet : GoodIn wsX8_rank (wsV RX8 71 RX8 yX8_isSet wsX8_isSet) := goodIn_app (goodIn_of _ (by decide +kernel)) ggX8_rank_X8_isSet
set_option maxRecDepth 20000 in
theorem ggX8_rank_X2_know : GoodIn wsX8_rank wsX2_know := goodIn_r _ [18, 19, 20, 21, 22, 23, 24, 25, 26, 27, 28, 29, 30, 17, 31, 32, 33, 34, 35, 36, 37, 38, 39, 40, 41, 42, 43, 44, 45, 46, 47, 48, 49, 50, 51, 52, 53, 54, 55, 56, 57, 58, 59, 60, 61, 62, 63, 64, 65, 66, 67, 68, 69, 70, 71, 72, 73, 74, 75, 76, 77, 128, 129, 130, 131, 132, 133, 134, 135, 136, 137] (by decide +kernel) (by decide +kernel)
set_option maxRecDepth 20000 in
theorem gX8_rank_X2_know : GoodIn wsX8_rank (wsV RX8 152 RX2 yX2_know wsX2_know) := goodIn_app (goodIn_of _ (by decide +kernel)) ggX8_rank_X2_know
set_option maxRecDepth 20000 in
theorem ggX8_rank_X3_measure : GoodIn wsX8_rank wsX3_measure := goodIn_r _ [82, 83, 84, 85, 86, 87, 88, 89, 17, 90, 32, 91, 92, 93, 94, 22, 23, 24, 25, 26, 27, 95, 96, 97, 81, 98, 99, 68, 69, 70, 100, 41, 42, 43, 44, 45, 46, 47, 101, 102, 103, 104, 49, 50, 105, 55, 56, 57, 58, 59, 106, 107, 108, 109, 110, 111, 112, 113, 114, 115, 116, 117, 138, 139, 140, 141, 142, 143, 144, 145, 128, 129, 130, 131, 132, 133, 134, 135, 136, 137] (by decide +kernel) (by decide +kernel)
set_option maxRecDepth 20000 in
theorem gX8_rank_X3_measure : GoodIn wsX8_rank (wsV RX8 156 RX3 yX3_measure wsX3_measure) := goodIn_app (goodIn_of _ (by decide +kernel)) ggX8_rank_X3_measure
theorem dX8_rank_0 : decode cX8_rank 0 = .ok (.aload_n 0, 1) := by decide +kernel
theorem dX8_rank_1 : decode cX8_rank 1 = .ok (.iload_n 1, 1) := by decide +kernel
theorem dX8_rank_2 : decode cX8_rank 2 = .ok (.invokevirtual 71, 3) := by decide +kernel
theorem dX8_rank_5 : decode cX8_rank 5 = .ok (.ifCond .eq 29, 3) := by decide +kernel
theorem dX8_rank_8 : decode cX8_rank 8 = .ok (.aload_n 0, 1) := by decide +kernel
theorem dX8_rank_9 : decode cX8_rank 9 = .ok (.iload_n 2, 1) := by decide +kernel
theorem dX8_rank_10 : decode cX8_rank 10 = .ok (.invokevirtual 71, 3) := by decide +kernel
theorem dX8_rank_13 : decode cX8_rank 13 = .ok (.ifCond .eq 21, 3) := by decide +kernel
theorem dX8_rank_16 : decode cX8_rank 16 = .ok (.iload_n 1, 1) := by decide +kernel
theorem dX8_rank_17 : decode cX8_rank 17 = .ok (.ifCond .eq 17, 3) := by decide +kernel
theorem dX8_rank_20 : decode cX8_rank 20 = .ok (.iload_n 2, 1) := by decide +kernel
theorem dX8_rank_21 : decode cX8_rank 21 = .ok (.ifCond .eq 13, 3) := by decide +kernel
theorem dX8_rank_24 : decode cX8_rank 24 = .ok (.iload_n 1, 1) := by decide +kernel
theorem dX8_rank_25 : decode cX8_rank 25 = .ok (.iload_n 2, 1) := by decide +kernel
theorem dX8_rank_26 : decode cX8_rank 26 = .ok (.iand, 1) := by decide +kernel
theorem dX8_rank_27 : decode cX8_rank 27 = .ok (.ifCond .ne 7, 3) := by decide +kernel
theorem dX8_rank_30 : decode cX8_rank 30 = .ok (.iconst 1, 1) := by decide +kernel
theorem dX8_rank_31 : decode cX8_rank 31 = .ok (.goto 4, 3) := by decide +kernel
theorem dX8_rank_34 : decode cX8_rank 34 = .ok (.iconst 0, 1) := by decide +kernel
theorem dX8_rank_35 : decode cX8_rank 35 = .ok (.istore 5, 2) := by decide +kernel
theorem dX8_rank_37 : decode cX8_rank 37 = .ok (.iload_n 3, 1) := by decide +kernel
theorem dX8_rank_38 : decode cX8_rank 38 = .ok (.ifCond .lt 23, 3) := by decide +kernel
theorem dX8_rank_41 : decode cX8_rank 41 = .ok (.iload_n 3, 1) := by decide +kernel
theorem dX8_rank_42 : decode cX8_rank 42 = .ok (.iconst 5, 1) := by decide +kernel
theorem dX8_rank_43 : decode cX8_rank 43 = .ok (.if_icmp .gt 18, 3) := by decide +kernel
theorem dX8_rank_46 : decode cX8_rank 46 = .ok (.iload 4, 2) := by decide +kernel
theorem dX8_rank_48 : decode cX8_rank 48 = .ok (.ifCond .lt 13, 3) := by decide +kernel
theorem dX8_rank_51 : decode cX8_rank 51 = .ok (.iload 4, 2) := by decide +kernel
theorem dX8_rank_53 : decode cX8_rank 53 = .ok (.iconst 5, 1) := by decide +kernel
theorem dX8_rank_54 : decode cX8_rank 54 = .ok (.if_icmp .gt 7, 3) := by decide +kernel
theorem dX8_rank_57 : decode cX8_rank 57 = .ok (.iconst 1, 1) := by decide +kernel
theorem dX8_rank_58 : decode cX8_rank 58 = .ok (.goto 4, 3) := by decide +kernel
theorem dX8_rank_61 : decode cX8_rank 61 = .ok (.iconst 0, 1) := by decide +kernel
theorem dX8_rank_62 : decode cX8_rank 62 = .ok (.istore 6, 2) := by decide +kernel
theorem dX8_rank_64 : decode cX8_rank 64 = .ok (.iload 5, 2) := by decide +kernel
theorem dX8_rank_66 : decode cX8_rank 66 = .ok (.ifCond .eq 8, 3) := by decide +kernel
theorem dX8_rank_69 : decode cX8_rank 69 = .ok (.iload 6, 2) := by decide +kernel
theorem dX8_rank_71 : decode cX8_rank 71 = .ok (.ifCond .ne 5, 3) := by decide +kernel
theorem dX8_rank_74 : decode cX8_rank 74 = .ok (.iconst (-1), 1) := by decide +kernel
theorem dX8_rank_75 : decode cX8_rank 75 = .ok (.ireturn, 1) := by decide +kernel
theorem dX8_rank_76 : decode cX8_rank 76 = .ok (.aload_n 0, 1) := by decide +kernel
theorem dX8_rank_77 : decode cX8_rank 77 = .ok (.getfield 36, 3) := by decide +kernel
theorem dX8_rank_80 : decode cX8_rank 80 = .ok (.aload_n 0, 1) := by decide +kernel
theorem dX8_rank_81 : decode cX8_rank 81 = .ok (.getfield 56, 3) := by decide +kernel
theorem dX8_rank_84 : decode cX8_rank 84 = .ok (.aload_n 0, 1) := by decide +kernel
theorem dX8_rank_85 : decode cX8_rank 85 = .ok (.getfield 60, 3) := by decide +kernel
theorem dX8_rank_88 : decode cX8_rank 88 = .ok (.invokevirtual 152, 3) := by decide +kernel
theorem dX8_rank_91 : decode cX8_rank 91 = .ok (.aload_n 0, 1) := by decide +kernel
theorem dX8_rank_92 : decode cX8_rank 92 = .ok (.getfield 45, 3) := by decide +kernel
theorem dX8_rank_95 : decode cX8_rank 95 = .ok (.aload_n 0, 1) := by decide +kernel
theorem dX8_rank_96 : decode cX8_rank 96 = .ok (.getfield 60, 3) := by decide +kernel
theorem dX8_rank_99 : decode cX8_rank 99 = .ok (.iload_n 1, 1) := by decide +kernel
theorem dX8_rank_100 : decode cX8_rank 100 = .ok (.iload_n 2, 1) := by decide +kernel
theorem dX8_rank_101 : decode cX8_rank 101 = .ok (.iload_n 3, 1) := by decide +kernel
theorem dX8_rank_102 : decode cX8_rank 102 = .ok (.iload 4, 2) := by decide +kernel
theorem dX8_rank_104 : decode cX8_rank 104 = .ok (.invokevirtual 156, 3) := by decide +kernel
theorem dX8_rank_107 : decode cX8_rank 107 = .ok (.ireturn, 1) := by decide +kernel
set_option maxRecDepth 20000 in
theorem ggX8_first_X3_know : GoodIn wsX8_first wsX3_know := goodIn_r _ [8, 9, 10, 11, 12, 13, 14, 15, 16, 17, 18, 19, 20, 21, 22, 23, 24, 25, 26, 27, 28, 29, 30, 31, 32, 33, 34, 35, 36, 37, 38, 39, 40, 41, 42, 43, 44, 45, 46, 47, 48, 49, 50, 51, 52, 53, 54, 55, 56, 57, 58, 59, 60, 61, 62, 63, 64, 65, 66, 67, 68, 69, 70, 71, 72, 73, 74, 75, 76, 77, 78, 79, 7, 80, 81, 82, 83, 84, 85, 86, 87, 88, 89, 90, 91, 92, 93, 94, 95, 96, 97, 98, 99, 100, 101, 102, 103, 104, 105, 106, 107, 108, 109, 110, 111, 112, 113, 114, 115, 116, 117, 118, 119, 120, 121, 122, 123, 138, 139, 140, 141, 142, 143, 144, 145, 146, 147, 148, 149, 150, 151, 152, 153, 154, 155] (by decide +kernel) (by decide +kernel)
set_option maxRecDepth 20000 in
theorem gX8_first_X3_know : GoodIn wsX8_first (wsV RX8 136 RX3 yX3_know wsX3_know) := goodIn_app (goodIn_of _ (by decide +kernel)) ggX8_first_X3_know
set_option maxRecDepth 20000 in
theorem ggX8_first_X3_told : GoodIn wsX8_first wsX3_told := goodIn_r _ [127, 12, 85, 138, 139, 140, 141, 142, 143, 144, 145] (by decide +kernel) (by decide +kernel)
set_option maxRecDepth 20000 in
theorem gX8_first_X3_told : GoodIn wsX8_first (wsV RX8 160 RX3 yX3_told wsX3_told) := goodIn_app (goodIn_of _ (by decide +kernel)) ggX8_first_X3_told
theorem dX8_first_0 : decode cX8_first 0 = .ok (.aload_n 0, 1) := by decide +kernel
theorem dX8_first_1 : decode cX8_first 1 = .ok (.getfield 45, 3) := by decide +kernel
theorem dX8_first_4 : decode cX8_first 4 = .ok (.aload_n 0, 1) := by decide +kernel
theorem dX8_first_5 : decode cX8_first 5 = .ok (.getfield 56, 3) := by decide +kernel
theorem dX8_first_8 : decode cX8_first 8 = .ok (.aload_n 0, 1) := by decide +kernel
theorem dX8_first_9 : decode cX8_first 9 = .ok (.getfield 60, 3) := by decide +kernel
theorem dX8_first_12 : decode cX8_first 12 = .ok (.invokevirtual 136, 3) := by decide +kernel
theorem dX8_first_15 : decode cX8_first 15 = .ok (.aload_n 0, 1) := by decide +kernel
theorem dX8_first_16 : decode cX8_first 16 = .ok (.getfield 45, 3) := by decide +kernel
theorem dX8_first_19 : decode cX8_first 19 = .ok (.iload_n 1, 1) := by decide +kernel
theorem dX8_first_20 : decode cX8_first 20 = .ok (.invokevirtual 160, 3) := by decide +kernel
theorem dX8_first_23 : decode cX8_first 23 = .ok (.ireturn, 1) := by decide +kernel
set_option maxRecDepth 20000 in
theorem ggX8_alike_X8_isPoint : GoodIn wsX8_alike wsX8_isPoint := goodIn_r _ [8, 2, 44, 45, 46, 47, 48, 49, 50, 51, 52, 53] (by decide +kernel) (by decide +kernel)
set_option maxRecDepth 20000 in
theorem gX8_alike_X8_isPoint : GoodIn wsX8_alike (wsV RX8 163 RX8 yX8_isPoint wsX8_isPoint) := goodIn_app (goodIn_of _ (by decide +kernel)) ggX8_alike_X8_isPoint
set_option maxRecDepth 20000 in
theorem ggX8_alike_X7_know : GoodIn wsX8_alike wsX7_know := goodIn_r _ [13, 14, 15, 16, 17, 18, 19, 12, 20, 21, 22, 23, 24, 25, 26, 27, 28, 29, 30, 31, 32, 33, 34, 35, 36, 54, 55, 56, 57, 58] (by decide +kernel) (by decide +kernel)
set_option maxRecDepth 20000 in
theorem gX8_alike_X7_know : GoodIn wsX8_alike (wsV RX8 142 RX7 yX7_know wsX7_know) := goodIn_app (goodIn_of _ (by decide +kernel)) ggX8_alike_X7_know
set_option maxRecDepth 20000 in
theorem ggX8_alike_X7_bring : GoodIn wsX8_alike wsX7_bring := goodIn_r _ [40, 17, 26, 27, 28, 29, 54, 55, 56, 57, 58] (by decide +kernel) (by decide +kernel)
set_option maxRecDepth 20000 in
theorem gX8_alike_X7_bring : GoodIn wsX8_alike (wsV RX8 166 RX7 yX7_bring wsX7_bring) := goodIn_app (goodIn_of _ (by decide +kernel)) ggX8_alike_X7_bring
set_option maxRecDepth 20000 in
theorem ggX8_alike_X8_asNumber : GoodIn wsX8_alike wsX8_asNumber := goodIn_r _ [43] (by decide +kernel) (by decide +kernel)
set_option maxRecDepth 20000 in
theorem gX8_alike_X8_asNumber : GoodIn wsX8_alike (va_wsS RX8 132 yX8_asNumber wsX8_asNumber) := goodIn_app (goodIn_of _ (by decide +kernel)) ggX8_alike_X8_asNumber
theorem dX8_alike_0 : decode cX8_alike 0 = .ok (.aload_n 0, 1) := by decide +kernel
theorem dX8_alike_1 : decode cX8_alike 1 = .ok (.iload_n 1, 1) := by decide +kernel
theorem dX8_alike_2 : decode cX8_alike 2 = .ok (.invokevirtual 163, 3) := by decide +kernel
theorem dX8_alike_5 : decode cX8_alike 5 = .ok (.ifCond .eq 11, 3) := by decide +kernel
theorem dX8_alike_8 : decode cX8_alike 8 = .ok (.aload_n 0, 1) := by decide +kernel
theorem dX8_alike_9 : decode cX8_alike 9 = .ok (.iload_n 2, 1) := by decide +kernel
theorem dX8_alike_10 : decode cX8_alike 10 = .ok (.invokevirtual 163, 3) := by decide +kernel
theorem dX8_alike_13 : decode cX8_alike 13 = .ok (.ifCond .ne 5, 3) := by decide +kernel
theorem dX8_alike_16 : decode cX8_alike 16 = .ok (.iconst (-1), 1) := by decide +kernel
theorem dX8_alike_17 : decode cX8_alike 17 = .ok (.ireturn, 1) := by decide +kernel
theorem dX8_alike_18 : decode cX8_alike 18 = .ok (.aload_n 0, 1) := by decide +kernel
theorem dX8_alike_19 : decode cX8_alike 19 = .ok (.getfield 52, 3) := by decide +kernel
theorem dX8_alike_22 : decode cX8_alike 22 = .ok (.aload_n 0, 1) := by decide +kernel
theorem dX8_alike_23 : decode cX8_alike 23 = .ok (.getfield 56, 3) := by decide +kernel
theorem dX8_alike_26 : decode cX8_alike 26 = .ok (.aload_n 0, 1) := by decide +kernel
theorem dX8_alike_27 : decode cX8_alike 27 = .ok (.getfield 60, 3) := by decide +kernel
theorem dX8_alike_30 : decode cX8_alike 30 = .ok (.invokevirtual 142, 3) := by decide +kernel
theorem dX8_alike_33 : decode cX8_alike 33 = .ok (.aload_n 0, 1) := by decide +kernel
theorem dX8_alike_34 : decode cX8_alike 34 = .ok (.getfield 52, 3) := by decide +kernel
theorem dX8_alike_37 : decode cX8_alike 37 = .ok (.iload_n 1, 1) := by decide +kernel
theorem dX8_alike_38 : decode cX8_alike 38 = .ok (.iload_n 2, 1) := by decide +kernel
theorem dX8_alike_39 : decode cX8_alike 39 = .ok (.invokevirtual 166, 3) := by decide +kernel
theorem dX8_alike_42 : decode cX8_alike 42 = .ok (.invokestatic 132, 3) := by decide +kernel
theorem dX8_alike_45 : decode cX8_alike 45 = .ok (.ireturn, 1) := by decide +kernel
set_option maxRecDepth 20000 in
theorem ggX8_feed_X5_size : GoodIn wsX8_feed wsX5_size := goodIn_r _ [6, 7, 27, 28] (by decide +kernel) (by decide +kernel)
set_option maxRecDepth 20000 in
theorem gX8_feed_X5_size : GoodIn wsX8_feed (wsV RX8 170 RX5 yX5_size wsX5_size) := goodIn_app (goodIn_of _ (by decide +kernel)) ggX8_feed_X5_size
set_option maxRecDepth 20000 in
theorem ggX8_feed_X5_addNumber : GoodIn wsX8_feed wsX5_addNumber := goodIn_r _ [11, 12, 13, 14, 5, 15, 7, 16, 27, 28] (by decide +kernel) (by decide +kernel)
set_option maxRecDepth 20000 in
theorem gX8_feed_X5_addNumber : GoodIn wsX8_feed (wsV RX8 173 RX5 yX5_addNumber wsX5_addNumber) := goodIn_app (goodIn_of _ (by decide +kernel)) ggX8_feed_X5_addNumber
theorem dX8_feed_0 : decode cX8_feed 0 = .ok (.aload_n 0, 1) := by decide +kernel
theorem dX8_feed_1 : decode cX8_feed 1 = .ok (.getfield 19, 3) := by decide +kernel
theorem dX8_feed_4 : decode cX8_feed 4 = .ok (.invokevirtual 170, 3) := by decide +kernel
theorem dX8_feed_7 : decode cX8_feed 7 = .ok (.bipush 20, 2) := by decide +kernel
theorem dX8_feed_9 : decode cX8_feed 9 = .ok (.iadd, 1) := by decide +kernel
theorem dX8_feed_10 : decode cX8_feed 10 = .ok (.sipush 200, 3) := by decide +kernel
theorem dX8_feed_13 : decode cX8_feed 13 = .ok (.if_icmp .le 5, 3) := by decide +kernel
theorem dX8_feed_16 : decode cX8_feed 16 = .ok (.iconst (-1), 1) := by decide +kernel
theorem dX8_feed_17 : decode cX8_feed 17 = .ok (.ireturn, 1) := by decide +kernel
theorem dX8_feed_18 : decode cX8_feed 18 = .ok (.aload_n 0, 1) := by decide +kernel
theorem dX8_feed_19 : decode cX8_feed 19 = .ok (.getfield 19, 3) := by decide +kernel
theorem dX8_feed_22 : decode cX8_feed 22 = .ok (.iload_n 1, 1) := by decide +kernel
theorem dX8_feed_23 : decode cX8_feed 23 = .ok (.invokevirtual 173, 3) := by decide +kernel
theorem dX8_feed_26 : decode cX8_feed 26 = .ok (.aload_n 0, 1) := by decide +kernel
theorem dX8_feed_27 : decode cX8_feed 27 = .ok (.getfield 19, 3) := by decide +kernel
theorem dX8_feed_30 : decode cX8_feed 30 = .ok (.iload_n 2, 1) := by decide +kernel
theorem dX8_feed_31 : decode cX8_feed 31 = .ok (.invokevirtual 173, 3) := by decide +kernel
theorem dX8_feed_34 : decode cX8_feed 34 = .ok (.aload_n 0, 1) := by decide +kernel
theorem dX8_feed_35 : decode cX8_feed 35 = .ok (.getfield 19, 3) := by decide +kernel
theorem dX8_feed_38 : decode cX8_feed 38 = .ok (.iload_n 3, 1) := by decide +kernel
theorem dX8_feed_39 : decode cX8_feed 39 = .ok (.invokevirtual 173, 3) := by decide +kernel
theorem dX8_feed_42 : decode cX8_feed 42 = .ok (.aload_n 0, 1) := by decide +kernel
theorem dX8_feed_43 : decode cX8_feed 43 = .ok (.getfield 19, 3) := by decide +kernel
theorem dX8_feed_46 : decode cX8_feed 46 = .ok (.iload 4, 2) := by decide +kernel
theorem dX8_feed_48 : decode cX8_feed 48 = .ok (.invokevirtual 173, 3) := by decide +kernel
theorem dX8_feed_51 : decode cX8_feed 51 = .ok (.aload_n 0, 1) := by decide +kernel
theorem dX8_feed_52 : decode cX8_feed 52 = .ok (.getfield 19, 3) := by decide +kernel
theorem dX8_feed_55 : decode cX8_feed 55 = .ok (.iload 5, 2) := by decide +kernel
theorem dX8_feed_57 : decode cX8_feed 57 = .ok (.invokevirtual 173, 3) := by decide +kernel
theorem dX8_feed_60 : decode cX8_feed 60 = .ok (.aload_n 0, 1) := by decide +kernel
theorem dX8_feed_61 : decode cX8_feed 61 = .ok (.getfield 19, 3) := by decide +kernel
theorem dX8_feed_64 : decode cX8_feed 64 = .ok (.invokevirtual 170, 3) := by decide +kernel
theorem dX8_feed_67 : decode cX8_feed 67 = .ok (.ireturn, 1) := by decide +kernel
set_option maxRecDepth 20000 in
theorem ggX8_end_X5_size : GoodIn wsX8_end wsX5_size := goodIn_r _ [6, 7, 22, 23] (by decide +kernel) (by decide +kernel)
set_option maxRecDepth 20000 in
theorem gX8_end_X5_size : GoodIn wsX8_end (wsV RX8 170 RX5 yX5_size wsX5_size) := goodIn_app (goodIn_of _ (by decide +kernel)) ggX8_end_X5_size
set_option maxRecDepth 20000 in
theorem ggX8_end_X5_shorten : GoodIn wsX8_end wsX5_shorten := goodIn_r _ [11, 7, 22, 23] (by decide +kernel) (by decide +kernel)
set_option maxRecDepth 20000 in
theorem gX8_end_X5_shorten : GoodIn wsX8_end (wsV RX8 177 RX5 yX5_shorten wsX5_shorten) := goodIn_app (goodIn_of _ (by decide +kernel)) ggX8_end_X5_shorten
theorem dX8_end_0 : decode cX8_end 0 = .ok (.iload_n 1, 1) := by decide +kernel
theorem dX8_end_1 : decode cX8_end 1 = .ok (.ifCond .lt 14, 3) := by decide +kernel
theorem dX8_end_4 : decode cX8_end 4 = .ok (.iload_n 1, 1) := by decide +kernel
theorem dX8_end_5 : decode cX8_end 5 = .ok (.aload_n 0, 1) := by decide +kernel
theorem dX8_end_6 : decode cX8_end 6 = .ok (.getfield 19, 3) := by decide +kernel
theorem dX8_end_9 : decode cX8_end 9 = .ok (.invokevirtual 170, 3) := by decide +kernel
theorem dX8_end_12 : decode cX8_end 12 = .ok (.if_icmp .le 5, 3) := by decide +kernel
theorem dX8_end_15 : decode cX8_end 15 = .ok (.iconst 0, 1) := by decide +kernel
theorem dX8_end_16 : decode cX8_end 16 = .ok (.ireturn, 1) := by decide +kernel
theorem dX8_end_17 : decode cX8_end 17 = .ok (.aload_n 0, 1) := by decide +kernel
theorem dX8_end_18 : decode cX8_end 18 = .ok (.getfield 19, 3) := by decide +kernel
theorem dX8_end_21 : decode cX8_end 21 = .ok (.iload_n 1, 1) := by decide +kernel
theorem dX8_end_22 : decode cX8_end 22 = .ok (.invokevirtual 177, 3) := by decide +kernel
theorem dX8_end_25 : decode cX8_end 25 = .ok (.iconst 1, 1) := by decide +kernel
theorem dX8_end_26 : decode cX8_end 26 = .ok (.ireturn, 1) := by decide +kernel
set_option maxRecDepth 20000 in
theorem ggX8_read_X4_parse : GoodIn wsX8_read wsX4_parse := goodIn_r _ [9, 10, 11, 12, 8, 13, 14, 15, 16, 17, 18, 19, 20, 21, 22, 23, 24, 25, 26, 27, 28, 29, 30, 31, 32, 33, 34, 35, 36, 37, 38, 39, 88, 89, 90, 91] (by decide +kernel) (by decide +kernel)
set_option maxRecDepth 20000 in
theorem gX8_read_X4_parse : GoodIn wsX8_read (wsV RX8 180 RX4 yX4_parse wsX4_parse) := goodIn_app (goodIn_of _ (by decide +kernel)) ggX8_read_X4_parse
set_option maxRecDepth 20000 in
theorem ggX8_read_X5_shorten : GoodIn wsX8_read wsX5_shorten := goodIn_r _ [43, 19, 90, 91] (by decide +kernel) (by decide +kernel)
set_option maxRecDepth 20000 in
theorem gX8_read_X5_shorten : GoodIn wsX8_read (wsV RX8 177 RX5 yX5_shorten wsX5_shorten) := goodIn_app (goodIn_of _ (by decide +kernel)) ggX8_read_X5_shorten
set_option maxRecDepth 20000 in
theorem ggX8_read_X4_toldPoints : GoodIn wsX8_read wsX4_toldPoints := goodIn_r _ [47, 10, 88, 89] (by decide +kernel) (by decide +kernel)
set_option maxRecDepth 20000 in
theorem gX8_read_X4_toldPoints : GoodIn wsX8_read (wsV RX8 184 RX4 yX4_toldPoints wsX4_toldPoints) := goodIn_app (goodIn_of _ (by decide +kernel)) ggX8_read_X4_toldPoints
set_option maxRecDepth 20000 in
theorem ggX8_read_X4_toldFamily : GoodIn wsX8_read wsX4_toldFamily := goodIn_r _ [51, 32, 88, 89] (by decide +kernel) (by decide +kernel)
set_option maxRecDepth 20000 in
theorem gX8_read_X4_toldFamily : GoodIn wsX8_read (wsV RX8 187 RX4 yX4_toldFamily wsX4_toldFamily) := goodIn_app (goodIn_of _ (by decide +kernel)) ggX8_read_X4_toldFamily
set_option maxRecDepth 20000 in
theorem ggX8_read_X8_change : GoodIn wsX8_read wsX8_change := goodIn_r _ [56, 57, 58, 4, 59, 60, 61, 62, 63, 64, 65, 66, 67, 68, 69, 70, 78, 79, 80, 81, 82, 83, 84, 85, 86, 87, 92, 93, 94] (by decide +kernel) (by decide +kernel)
set_option maxRecDepth 20000 in
theorem gX8_read_X8_change : GoodIn wsX8_read (wsV RX8 67 RX8 yX8_change wsX8_change) := goodIn_app (goodIn_of _ (by decide +kernel)) ggX8_read_X8_change
set_option maxRecDepth 20000 in
theorem ggX8_read_J13_bitCount_95d88 : GoodIn wsX8_read wsJ13_bitCount_95d88 := goodIn_r _ [74, 75, 76, 77] (by decide +kernel) (by decide +kernel)
set_option maxRecDepth 20000 in
theorem gX8_read_J13_bitCount_95d88 : GoodIn wsX8_read (va_wsS RX8 75 yJ13_bitCount_95d88 wsJ13_bitCount_95d88) := goodIn_app (goodIn_of _ (by decide +kernel)) ggX8_read_J13_bitCount_95d88
theorem dX8_read_0 : decode cX8_read 0 = .ok (.aload_n 0, 1) := by decide +kernel
theorem dX8_read_1 : decode cX8_read 1 = .ok (.aload_n 0, 1) := by decide +kernel
theorem dX8_read_2 : decode cX8_read 2 = .ok (.getfield 29, 3) := by decide +kernel
theorem dX8_read_5 : decode cX8_read 5 = .ok (.aload_n 0, 1) := by decide +kernel
theorem dX8_read_6 : decode cX8_read 6 = .ok (.getfield 19, 3) := by decide +kernel
theorem dX8_read_9 : decode cX8_read 9 = .ok (.invokevirtual 180, 3) := by decide +kernel
theorem dX8_read_12 : decode cX8_read 12 = .ok (.putfield 64, 3) := by decide +kernel
theorem dX8_read_15 : decode cX8_read 15 = .ok (.aload_n 0, 1) := by decide +kernel
theorem dX8_read_16 : decode cX8_read 16 = .ok (.getfield 19, 3) := by decide +kernel
theorem dX8_read_19 : decode cX8_read 19 = .ok (.iconst 0, 1) := by decide +kernel
theorem dX8_read_20 : decode cX8_read 20 = .ok (.invokevirtual 177, 3) := by decide +kernel
theorem dX8_read_23 : decode cX8_read 23 = .ok (.aload_n 0, 1) := by decide +kernel
theorem dX8_read_24 : decode cX8_read 24 = .ok (.getfield 64, 3) := by decide +kernel
theorem dX8_read_27 : decode cX8_read 27 = .ok (.iconst (-1), 1) := by decide +kernel
theorem dX8_read_28 : decode cX8_read 28 = .ok (.if_icmp .eq 5, 3) := by decide +kernel
theorem dX8_read_31 : decode cX8_read 31 = .ok (.iconst (-1), 1) := by decide +kernel
theorem dX8_read_32 : decode cX8_read 32 = .ok (.ireturn, 1) := by decide +kernel
theorem dX8_read_33 : decode cX8_read 33 = .ok (.aload_n 0, 1) := by decide +kernel
theorem dX8_read_34 : decode cX8_read 34 = .ok (.aload_n 0, 1) := by decide +kernel
theorem dX8_read_35 : decode cX8_read 35 = .ok (.getfield 29, 3) := by decide +kernel
theorem dX8_read_38 : decode cX8_read 38 = .ok (.invokevirtual 184, 3) := by decide +kernel
theorem dX8_read_41 : decode cX8_read 41 = .ok (.aload_n 0, 1) := by decide +kernel
theorem dX8_read_42 : decode cX8_read 42 = .ok (.getfield 29, 3) := by decide +kernel
theorem dX8_read_45 : decode cX8_read 45 = .ok (.invokevirtual 187, 3) := by decide +kernel
theorem dX8_read_48 : decode cX8_read 48 = .ok (.invokevirtual 67, 3) := by decide +kernel
theorem dX8_read_51 : decode cX8_read 51 = .ok (.aload_n 0, 1) := by decide +kernel
theorem dX8_read_52 : decode cX8_read 52 = .ok (.getfield 60, 3) := by decide +kernel
theorem dX8_read_55 : decode cX8_read 55 = .ok (.invokestatic 75, 3) := by decide +kernel
theorem dX8_read_58 : decode cX8_read 58 = .ok (.ireturn, 1) := by decide +kernel
theorem dX8_fault_0 : decode cX8_fault 0 = .ok (.aload_n 0, 1) := by decide +kernel
theorem dX8_fault_1 : decode cX8_fault 1 = .ok (.getfield 64, 3) := by decide +kernel
theorem dX8_fault_4 : decode cX8_fault 4 = .ok (.ireturn, 1) := by decide +kernel
set_option maxRecDepth 20000 in
theorem ggX8_write_X5_shorten : GoodIn wsX8_write wsX5_shorten := goodIn_r _ [8, 9, 50, 51] (by decide +kernel) (by decide +kernel)
set_option maxRecDepth 20000 in
theorem gX8_write_X5_shorten : GoodIn wsX8_write (wsV RX8 177 RX5 yX5_shorten wsX5_shorten) := goodIn_app (goodIn_of _ (by decide +kernel)) ggX8_write_X5_shorten
set_option maxRecDepth 20000 in
theorem ggX8_write_X5_add : GoodIn wsX8_write wsX5_add := goodIn_r _ [13, 9, 14, 50, 51] (by decide +kernel) (by decide +kernel)
set_option maxRecDepth 20000 in
theorem gX8_write_X5_add : GoodIn wsX8_write (wsV RX8 190 RX5 yX5_add wsX5_add) := goodIn_app (goodIn_of _ (by decide +kernel)) ggX8_write_X5_add
set_option maxRecDepth 20000 in
theorem ggX8_write_X8_allPoints : GoodIn wsX8_write wsX8_allPoints := goodIn_r _ [19, 2, 40, 41, 42, 43, 44, 45, 46, 47, 48, 49] (by decide +kernel) (by decide +kernel)
set_option maxRecDepth 20000 in
theorem gX8_write_X8_allPoints : GoodIn wsX8_write (wsV RX8 95 RX8 yX8_allPoints wsX8_allPoints) := goodIn_app (goodIn_of _ (by decide +kernel)) ggX8_write_X8_allPoints
set_option maxRecDepth 20000 in
theorem ggX8_write_X6_holds : GoodIn wsX8_write wsX6_holds := goodIn_r _ [23] (by decide +kernel) (by decide +kernel)
set_option maxRecDepth 20000 in
theorem gX8_write_X6_holds : GoodIn wsX8_write (va_wsS RX8 108 yX6_holds wsX6_holds) := goodIn_app (goodIn_of _ (by decide +kernel)) ggX8_write_X6_holds
set_option maxRecDepth 20000 in
theorem ggX8_write_X6_above : GoodIn wsX8_write wsX6_above := goodIn_r _ [26, 27, 28, 22, 29] (by decide +kernel) (by decide +kernel)
set_option maxRecDepth 20000 in
theorem gX8_write_X6_above : GoodIn wsX8_write (va_wsS RX8 193 yX6_above wsX6_above) := goodIn_app (goodIn_of _ (by decide +kernel)) ggX8_write_X6_above
set_option maxRecDepth 20000 in
theorem ggX8_write_X5_addDigitsOf : GoodIn wsX8_write wsX5_addDigitsOf := goodIn_r _ [33, 34, 28, 22, 29, 35, 11, 12, 7, 13, 9, 14, 50, 51] (by decide +kernel) (by decide +kernel)
set_option maxRecDepth 20000 in
theorem gX8_write_X5_addDigitsOf : GoodIn wsX8_write (wsV RX8 196 RX5 yX5_addDigitsOf wsX5_addDigitsOf) := goodIn_app (goodIn_of _ (by decide +kernel)) ggX8_write_X5_addDigitsOf
set_option maxRecDepth 20000 in
theorem ggX8_write_X5_size : GoodIn wsX8_write wsX5_size := goodIn_r _ [39, 9, 50, 51] (by decide +kernel) (by decide +kernel)
set_option maxRecDepth 20000 in
theorem gX8_write_X5_size : GoodIn wsX8_write (wsV RX8 170 RX5 yX5_size wsX5_size) := goodIn_app (goodIn_of _ (by decide +kernel)) ggX8_write_X5_size
theorem dX8_write_0 : decode cX8_write 0 = .ok (.aload_n 0, 1) := by decide +kernel
theorem dX8_write_1 : decode cX8_write 1 = .ok (.getfield 23, 3) := by decide +kernel
theorem dX8_write_4 : decode cX8_write 4 = .ok (.iconst 0, 1) := by decide +kernel
theorem dX8_write_5 : decode cX8_write 5 = .ok (.invokevirtual 177, 3) := by decide +kernel
theorem dX8_write_8 : decode cX8_write 8 = .ok (.aload_n 0, 1) := by decide +kernel
theorem dX8_write_9 : decode cX8_write 9 = .ok (.getfield 23, 3) := by decide +kernel
theorem dX8_write_12 : decode cX8_write 12 = .ok (.bipush 48, 2) := by decide +kernel
theorem dX8_write_14 : decode cX8_write 14 = .ok (.aload_n 0, 1) := by decide +kernel
theorem dX8_write_15 : decode cX8_write 15 = .ok (.getfield 56, 3) := by decide +kernel
theorem dX8_write_18 : decode cX8_write 18 = .ok (.iadd, 1) := by decide +kernel
theorem dX8_write_19 : decode cX8_write 19 = .ok (.invokevirtual 190, 3) := by decide +kernel
theorem dX8_write_22 : decode cX8_write 22 = .ok (.aload_n 0, 1) := by decide +kernel
theorem dX8_write_23 : decode cX8_write 23 = .ok (.getfield 23, 3) := by decide +kernel
theorem dX8_write_26 : decode cX8_write 26 = .ok (.bipush 58, 2) := by decide +kernel
theorem dX8_write_28 : decode cX8_write 28 = .ok (.invokevirtual 190, 3) := by decide +kernel
theorem dX8_write_31 : decode cX8_write 31 = .ok (.iconst 1, 1) := by decide +kernel
theorem dX8_write_32 : decode cX8_write 32 = .ok (.istore_n 1, 1) := by decide +kernel
theorem dX8_write_33 : decode cX8_write 33 = .ok (.iload_n 1, 1) := by decide +kernel
theorem dX8_write_34 : decode cX8_write 34 = .ok (.aload_n 0, 1) := by decide +kernel
theorem dX8_write_35 : decode cX8_write 35 = .ok (.invokevirtual 95, 3) := by decide +kernel
theorem dX8_write_38 : decode cX8_write 38 = .ok (.if_icmp .gt 51, 3) := by decide +kernel
theorem dX8_write_41 : decode cX8_write 41 = .ok (.aload_n 0, 1) := by decide +kernel
theorem dX8_write_42 : decode cX8_write 42 = .ok (.getfield 60, 3) := by decide +kernel
theorem dX8_write_45 : decode cX8_write 45 = .ok (.iload_n 1, 1) := by decide +kernel
theorem dX8_write_46 : decode cX8_write 46 = .ok (.invokestatic 108, 3) := by decide +kernel
theorem dX8_write_49 : decode cX8_write 49 = .ok (.ifCond .eq 34, 3) := by decide +kernel
theorem dX8_write_52 : decode cX8_write 52 = .ok (.aload_n 0, 1) := by decide +kernel
theorem dX8_write_53 : decode cX8_write 53 = .ok (.getfield 60, 3) := by decide +kernel
theorem dX8_write_56 : decode cX8_write 56 = .ok (.iload_n 1, 1) := by decide +kernel
theorem dX8_write_57 : decode cX8_write 57 = .ok (.invokestatic 193, 3) := by decide +kernel
theorem dX8_write_60 : decode cX8_write 60 = .ok (.land, 1) := by decide +kernel
theorem dX8_write_61 : decode cX8_write 61 = .ok (.lconst 0, 1) := by decide +kernel
theorem dX8_write_62 : decode cX8_write 62 = .ok (.lcmp, 1) := by decide +kernel
theorem dX8_write_63 : decode cX8_write 63 = .ok (.ifCond .ne 20, 3) := by decide +kernel
theorem dX8_write_66 : decode cX8_write 66 = .ok (.aload_n 0, 1) := by decide +kernel
theorem dX8_write_67 : decode cX8_write 67 = .ok (.getfield 23, 3) := by decide +kernel
theorem dX8_write_70 : decode cX8_write 70 = .ok (.bipush 32, 2) := by decide +kernel
theorem dX8_write_72 : decode cX8_write 72 = .ok (.invokevirtual 190, 3) := by decide +kernel
theorem dX8_write_75 : decode cX8_write 75 = .ok (.aload_n 0, 1) := by decide +kernel
theorem dX8_write_76 : decode cX8_write 76 = .ok (.getfield 23, 3) := by decide +kernel
theorem dX8_write_79 : decode cX8_write 79 = .ok (.iload_n 1, 1) := by decide +kernel
theorem dX8_write_80 : decode cX8_write 80 = .ok (.invokevirtual 196, 3) := by decide +kernel
theorem dX8_write_83 : decode cX8_write 83 = .ok (.iinc 1 1, 3) := by decide +kernel
theorem dX8_write_86 : decode cX8_write 86 = .ok (.goto (-53), 3) := by decide +kernel
theorem dX8_write_89 : decode cX8_write 89 = .ok (.aload_n 0, 1) := by decide +kernel
theorem dX8_write_90 : decode cX8_write 90 = .ok (.getfield 23, 3) := by decide +kernel
theorem dX8_write_93 : decode cX8_write 93 = .ok (.invokevirtual 170, 3) := by decide +kernel
theorem dX8_write_96 : decode cX8_write 96 = .ok (.ireturn, 1) := by decide +kernel
set_option maxRecDepth 20000 in
theorem ggX8_out_X5_at : GoodIn wsX8_out wsX5_at := goodIn_r _ [6, 7, 8, 19, 20] (by decide +kernel) (by decide +kernel)
set_option maxRecDepth 20000 in
theorem gX8_out_X5_at : GoodIn wsX8_out (wsV RX8 199 RX5 yX5_at wsX5_at) := goodIn_app (goodIn_of _ (by decide +kernel)) ggX8_out_X5_at
theorem dX8_out_0 : decode cX8_out 0 = .ok (.aload_n 0, 1) := by decide +kernel
theorem dX8_out_1 : decode cX8_out 1 = .ok (.getfield 23, 3) := by decide +kernel
theorem dX8_out_4 : decode cX8_out 4 = .ok (.iload_n 1, 1) := by decide +kernel
theorem dX8_out_5 : decode cX8_out 5 = .ok (.invokevirtual 199, 3) := by decide +kernel
theorem dX8_out_8 : decode cX8_out 8 = .ok (.ireturn, 1) := by decide +kernel
set_option maxRecDepth 20000 in
theorem ggX8_take_X5_shorten : GoodIn wsX8_take wsX5_shorten := goodIn_r _ [7, 8, 32, 33] (by decide +kernel) (by decide +kernel)
set_option maxRecDepth 20000 in
theorem gX8_take_X5_shorten : GoodIn wsX8_take (wsV RX8 177 RX5 yX5_shorten wsX5_shorten) := goodIn_app (goodIn_of _ (by decide +kernel)) ggX8_take_X5_shorten
set_option maxRecDepth 20000 in
theorem ggX8_take_X5_size : GoodIn wsX8_take wsX5_size := goodIn_r _ [12, 8, 32, 33] (by decide +kernel) (by decide +kernel)
set_option maxRecDepth 20000 in
theorem gX8_take_X5_size : GoodIn wsX8_take (wsV RX8 170 RX5 yX5_size wsX5_size) := goodIn_app (goodIn_of _ (by decide +kernel)) ggX8_take_X5_size
set_option maxRecDepth 20000 in
theorem ggX8_take_X5_at : GoodIn wsX8_take wsX5_at := goodIn_r _ [16, 8, 17, 32, 33] (by decide +kernel) (by decide +kernel)
set_option maxRecDepth 20000 in
theorem gX8_take_X5_at : GoodIn wsX8_take (wsV RX8 199 RX5 yX5_at wsX5_at) := goodIn_app (goodIn_of _ (by decide +kernel)) ggX8_take_X5_at
set_option maxRecDepth 20000 in
theorem ggX8_take_X5_add : GoodIn wsX8_take wsX5_add := goodIn_r _ [21, 8, 17, 32, 33] (by decide +kernel) (by decide +kernel)
set_option maxRecDepth 20000 in
theorem gX8_take_X5_add : GoodIn wsX8_take (wsV RX8 190 RX5 yX5_add wsX5_add) := goodIn_app (goodIn_of _ (by decide +kernel)) ggX8_take_X5_add
theorem dX8_take_0 : decode cX8_take 0 = .ok (.aload_n 0, 1) := by decide +kernel
theorem dX8_take_1 : decode cX8_take 1 = .ok (.getfield 19, 3) := by decide +kernel
theorem dX8_take_4 : decode cX8_take 4 = .ok (.iconst 0, 1) := by decide +kernel
theorem dX8_take_5 : decode cX8_take 5 = .ok (.invokevirtual 177, 3) := by decide +kernel
theorem dX8_take_8 : decode cX8_take 8 = .ok (.iconst 0, 1) := by decide +kernel
theorem dX8_take_9 : decode cX8_take 9 = .ok (.istore_n 1, 1) := by decide +kernel
theorem dX8_take_10 : decode cX8_take 10 = .ok (.iload_n 1, 1) := by decide +kernel
theorem dX8_take_11 : decode cX8_take 11 = .ok (.aload_n 0, 1) := by decide +kernel
theorem dX8_take_12 : decode cX8_take 12 = .ok (.getfield 23, 3) := by decide +kernel
theorem dX8_take_15 : decode cX8_take 15 = .ok (.invokevirtual 170, 3) := by decide +kernel
theorem dX8_take_18 : decode cX8_take 18 = .ok (.if_icmp .ge 24, 3) := by decide +kernel
theorem dX8_take_21 : decode cX8_take 21 = .ok (.aload_n 0, 1) := by decide +kernel
theorem dX8_take_22 : decode cX8_take 22 = .ok (.getfield 19, 3) := by decide +kernel
theorem dX8_take_25 : decode cX8_take 25 = .ok (.aload_n 0, 1) := by decide +kernel
theorem dX8_take_26 : decode cX8_take 26 = .ok (.getfield 23, 3) := by decide +kernel
theorem dX8_take_29 : decode cX8_take 29 = .ok (.iload_n 1, 1) := by decide +kernel
theorem dX8_take_30 : decode cX8_take 30 = .ok (.invokevirtual 199, 3) := by decide +kernel
theorem dX8_take_33 : decode cX8_take 33 = .ok (.invokevirtual 190, 3) := by decide +kernel
theorem dX8_take_36 : decode cX8_take 36 = .ok (.iinc 1 1, 3) := by decide +kernel
theorem dX8_take_39 : decode cX8_take 39 = .ok (.goto (-29), 3) := by decide +kernel
theorem dX8_take_42 : decode cX8_take 42 = .ok (.aload_n 0, 1) := by decide +kernel
theorem dX8_take_43 : decode cX8_take 43 = .ok (.getfield 19, 3) := by decide +kernel
theorem dX8_take_46 : decode cX8_take 46 = .ok (.invokevirtual 170, 3) := by decide +kernel
theorem dX8_take_49 : decode cX8_take 49 = .ok (.ireturn, 1) := by decide +kernel
set_option maxRecDepth 20000 in
theorem ggX8_change_X1_keep : GoodIn wsX8_change wsX1_keep := goodIn_r _ [8, 9, 10, 11, 12, 13, 14, 15, 26, 27, 28] (by decide +kernel) (by decide +kernel)
set_option maxRecDepth 20000 in
theorem gX8_change_X1_keep : GoodIn wsX8_change (wsV RX8 202 RX1 yX1_keep wsX1_keep) := goodIn_app (goodIn_of _ (by decide +kernel)) ggX8_change_X1_keep
theorem dX8_change_0 : decode cX8_change 0 = .ok (.aload_n 0, 1) := by decide +kernel
theorem dX8_change_1 : decode cX8_change 1 = .ok (.getfield 10, 3) := by decide +kernel
theorem dX8_change_4 : decode cX8_change 4 = .ok (.aload_n 0, 1) := by decide +kernel
theorem dX8_change_5 : decode cX8_change 5 = .ok (.getfield 56, 3) := by decide +kernel
theorem dX8_change_8 : decode cX8_change 8 = .ok (.aload_n 0, 1) := by decide +kernel
theorem dX8_change_9 : decode cX8_change 9 = .ok (.getfield 60, 3) := by decide +kernel
theorem dX8_change_12 : decode cX8_change 12 = .ok (.invokevirtual 202, 3) := by decide +kernel
theorem dX8_change_15 : decode cX8_change 15 = .ok (.aload_n 0, 1) := by decide +kernel
theorem dX8_change_16 : decode cX8_change 16 = .ok (.iload_n 1, 1) := by decide +kernel
theorem dX8_change_17 : decode cX8_change 17 = .ok (.putfield 56, 3) := by decide +kernel
theorem dX8_change_20 : decode cX8_change 20 = .ok (.aload_n 0, 1) := by decide +kernel
theorem dX8_change_21 : decode cX8_change 21 = .ok (.lload_n 2, 1) := by decide +kernel
theorem dX8_change_22 : decode cX8_change 22 = .ok (.putfield 60, 3) := by decide +kernel
theorem dX8_change_25 : decode cX8_change 25 = .ok (.return_, 1) := by decide +kernel
theorem dX8_allPoints_0 : decode cX8_allPoints 0 = .ok (.iconst 1, 1) := by decide +kernel
theorem dX8_allPoints_1 : decode cX8_allPoints 1 = .ok (.aload_n 0, 1) := by decide +kernel
theorem dX8_allPoints_2 : decode cX8_allPoints 2 = .ok (.getfield 56, 3) := by decide +kernel
theorem dX8_allPoints_5 : decode cX8_allPoints 5 = .ok (.ishl, 1) := by decide +kernel
theorem dX8_allPoints_6 : decode cX8_allPoints 6 = .ok (.iconst 1, 1) := by decide +kernel
theorem dX8_allPoints_7 : decode cX8_allPoints 7 = .ok (.isub, 1) := by decide +kernel
theorem dX8_allPoints_8 : decode cX8_allPoints 8 = .ok (.ireturn, 1) := by decide +kernel
set_option maxRecDepth 20000 in
theorem ggX8_isSet_X8_allPoints : GoodIn wsX8_isSet wsX8_allPoints := goodIn_r _ [5, 6, 7, 8, 9, 10, 11, 12, 13, 14, 15, 16] (by decide +kernel) (by decide +kernel)
set_option maxRecDepth 20000 in
theorem gX8_isSet_X8_allPoints : GoodIn wsX8_isSet (wsV RX8 95 RX8 yX8_allPoints wsX8_allPoints) := goodIn_app (goodIn_of _ (by decide +kernel)) ggX8_isSet_X8_allPoints
theorem dX8_isSet_0 : decode cX8_isSet 0 = .ok (.iload_n 1, 1) := by decide +kernel
theorem dX8_isSet_1 : decode cX8_isSet 1 = .ok (.ifCond .lt 15, 3) := by decide +kernel
theorem dX8_isSet_4 : decode cX8_isSet 4 = .ok (.iload_n 1, 1) := by decide +kernel
theorem dX8_isSet_5 : decode cX8_isSet 5 = .ok (.aload_n 0, 1) := by decide +kernel
theorem dX8_isSet_6 : decode cX8_isSet 6 = .ok (.invokevirtual 95, 3) := by decide +kernel
theorem dX8_isSet_9 : decode cX8_isSet 9 = .ok (.if_icmp .gt 7, 3) := by decide +kernel
theorem dX8_isSet_12 : decode cX8_isSet 12 = .ok (.iconst 1, 1) := by decide +kernel
theorem dX8_isSet_13 : decode cX8_isSet 13 = .ok (.goto 4, 3) := by decide +kernel
theorem dX8_isSet_16 : decode cX8_isSet 16 = .ok (.iconst 0, 1) := by decide +kernel
theorem dX8_isSet_17 : decode cX8_isSet 17 = .ok (.ireturn, 1) := by decide +kernel
set_option maxRecDepth 20000 in
theorem ggX8_isNonemptyFace_X8_isSet : GoodIn wsX8_isNonemptyFace wsX8_isSet := goodIn_r _ [6, 7, 8, 9, 5, 10, 11, 16, 17, 18, 19, 20, 21, 22, 23, 24, 25] (by decide +kernel) (by decide +kernel)
set_option maxRecDepth 20000 in
theorem gX8_isNonemptyFace_X8_isSet : GoodIn wsX8_isNonemptyFace (wsV RX8 71 RX8 yX8_isSet wsX8_isSet) := goodIn_app (goodIn_of _ (by decide +kernel)) ggX8_isNonemptyFace_X8_isSet
set_option maxRecDepth 20000 in
theorem ggX8_isNonemptyFace_X6_holds : GoodIn wsX8_isNonemptyFace wsX6_holds := goodIn_r _ [15] (by decide +kernel) (by decide +kernel)
set_option maxRecDepth 20000 in
theorem gX8_isNonemptyFace_X6_holds : GoodIn wsX8_isNonemptyFace (va_wsS RX8 108 yX6_holds wsX6_holds) := goodIn_app (goodIn_of _ (by decide +kernel)) ggX8_isNonemptyFace_X6_holds
theorem dX8_isNonemptyFace_0 : decode cX8_isNonemptyFace 0 = .ok (.iload_n 1, 1) := by decide +kernel
theorem dX8_isNonemptyFace_1 : decode cX8_isNonemptyFace 1 = .ok (.ifCond .eq 26, 3) := by decide +kernel
theorem dX8_isNonemptyFace_4 : decode cX8_isNonemptyFace 4 = .ok (.aload_n 0, 1) := by decide +kernel
theorem dX8_isNonemptyFace_5 : decode cX8_isNonemptyFace 5 = .ok (.iload_n 1, 1) := by decide +kernel
theorem dX8_isNonemptyFace_6 : decode cX8_isNonemptyFace 6 = .ok (.invokevirtual 71, 3) := by decide +kernel
theorem dX8_isNonemptyFace_9 : decode cX8_isNonemptyFace 9 = .ok (.ifCond .eq 18, 3) := by decide +kernel
theorem dX8_isNonemptyFace_12 : decode cX8_isNonemptyFace 12 = .ok (.aload_n 0, 1) := by decide +kernel
theorem dX8_isNonemptyFace_13 : decode cX8_isNonemptyFace 13 = .ok (.getfield 60, 3) := by decide +kernel
theorem dX8_isNonemptyFace_16 : decode cX8_isNonemptyFace 16 = .ok (.iload_n 1, 1) := by decide +kernel
theorem dX8_isNonemptyFace_17 : decode cX8_isNonemptyFace 17 = .ok (.invokestatic 108, 3) := by decide +kernel
theorem dX8_isNonemptyFace_20 : decode cX8_isNonemptyFace 20 = .ok (.ifCond .eq 7, 3) := by decide +kernel
theorem dX8_isNonemptyFace_23 : decode cX8_isNonemptyFace 23 = .ok (.iconst 1, 1) := by decide +kernel
theorem dX8_isNonemptyFace_24 : decode cX8_isNonemptyFace 24 = .ok (.goto 4, 3) := by decide +kernel
theorem dX8_isNonemptyFace_27 : decode cX8_isNonemptyFace 27 = .ok (.iconst 0, 1) := by decide +kernel
theorem dX8_isNonemptyFace_28 : decode cX8_isNonemptyFace 28 = .ok (.ireturn, 1) := by decide +kernel
theorem dX8_isPoint_0 : decode cX8_isPoint 0 = .ok (.iload_n 1, 1) := by decide +kernel
theorem dX8_isPoint_1 : decode cX8_isPoint 1 = .ok (.ifCond .lt 15, 3) := by decide +kernel
theorem dX8_isPoint_4 : decode cX8_isPoint 4 = .ok (.iload_n 1, 1) := by decide +kernel
theorem dX8_isPoint_5 : decode cX8_isPoint 5 = .ok (.aload_n 0, 1) := by decide +kernel
theorem dX8_isPoint_6 : decode cX8_isPoint 6 = .ok (.getfield 56, 3) := by decide +kernel
theorem dX8_isPoint_9 : decode cX8_isPoint 9 = .ok (.if_icmp .ge 7, 3) := by decide +kernel
theorem dX8_isPoint_12 : decode cX8_isPoint 12 = .ok (.iconst 1, 1) := by decide +kernel
theorem dX8_isPoint_13 : decode cX8_isPoint 13 = .ok (.goto 4, 3) := by decide +kernel
theorem dX8_isPoint_16 : decode cX8_isPoint 16 = .ok (.iconst 0, 1) := by decide +kernel
theorem dX8_isPoint_17 : decode cX8_isPoint 17 = .ok (.ireturn, 1) := by decide +kernel
theorem dX8_asNumber_0 : decode cX8_asNumber 0 = .ok (.iload_n 0, 1) := by decide +kernel
theorem dX8_asNumber_1 : decode cX8_asNumber 1 = .ok (.ifCond .eq 7, 3) := by decide +kernel
theorem dX8_asNumber_4 : decode cX8_asNumber 4 = .ok (.iconst 1, 1) := by decide +kernel
theorem dX8_asNumber_5 : decode cX8_asNumber 5 = .ok (.goto 4, 3) := by decide +kernel
theorem dX8_asNumber_8 : decode cX8_asNumber 8 = .ok (.iconst 0, 1) := by decide +kernel
theorem dX8_asNumber_9 : decode cX8_asNumber 9 = .ok (.ireturn, 1) := by decide +kernel
set_option maxRecDepth 20000 in
theorem ggX8_greatestDimension_X6_ofSize : GoodIn wsX8_greatestDimension wsX6_ofSize := goodIn_r _ [5, 6] (by decide +kernel) (by decide +kernel)
set_option maxRecDepth 20000 in
theorem gX8_greatestDimension_X6_ofSize : GoodIn wsX8_greatestDimension (va_wsS RX8 129 yX6_ofSize wsX6_ofSize) := goodIn_app (goodIn_of _ (by decide +kernel)) ggX8_greatestDimension_X6_ofSize
theorem dX8_greatestDimension_0 : decode cX8_greatestDimension 0 = .ok (.iconst 5, 1) := by decide +kernel
theorem dX8_greatestDimension_1 : decode cX8_greatestDimension 1 = .ok (.istore_n 1, 1) := by decide +kernel
theorem dX8_greatestDimension_2 : decode cX8_greatestDimension 2 = .ok (.iload_n 1, 1) := by decide +kernel
theorem dX8_greatestDimension_3 : decode cX8_greatestDimension 3 = .ok (.ifCond .lt 27, 3) := by decide +kernel
theorem dX8_greatestDimension_6 : decode cX8_greatestDimension 6 = .ok (.aload_n 0, 1) := by decide +kernel
theorem dX8_greatestDimension_7 : decode cX8_greatestDimension 7 = .ok (.getfield 60, 3) := by decide +kernel
theorem dX8_greatestDimension_10 : decode cX8_greatestDimension 10 = .ok (.iload_n 1, 1) := by decide +kernel
theorem dX8_greatestDimension_11 : decode cX8_greatestDimension 11 = .ok (.iconst 1, 1) := by decide +kernel
theorem dX8_greatestDimension_12 : decode cX8_greatestDimension 12 = .ok (.iadd, 1) := by decide +kernel
theorem dX8_greatestDimension_13 : decode cX8_greatestDimension 13 = .ok (.invokestatic 129, 3) := by decide +kernel
theorem dX8_greatestDimension_16 : decode cX8_greatestDimension 16 = .ok (.land, 1) := by decide +kernel
theorem dX8_greatestDimension_17 : decode cX8_greatestDimension 17 = .ok (.lconst 0, 1) := by decide +kernel
theorem dX8_greatestDimension_18 : decode cX8_greatestDimension 18 = .ok (.lcmp, 1) := by decide +kernel
theorem dX8_greatestDimension_19 : decode cX8_greatestDimension 19 = .ok (.ifCond .eq 5, 3) := by decide +kernel
theorem dX8_greatestDimension_22 : decode cX8_greatestDimension 22 = .ok (.iload_n 1, 1) := by decide +kernel
theorem dX8_greatestDimension_23 : decode cX8_greatestDimension 23 = .ok (.ireturn, 1) := by decide +kernel
theorem dX8_greatestDimension_24 : decode cX8_greatestDimension 24 = .ok (.iinc 1 (-1), 3) := by decide +kernel
theorem dX8_greatestDimension_27 : decode cX8_greatestDimension 27 = .ok (.goto (-25), 3) := by decide +kernel
theorem dX8_greatestDimension_30 : decode cX8_greatestDimension 30 = .ok (.iconst (-1), 1) := by decide +kernel
theorem dX8_greatestDimension_31 : decode cX8_greatestDimension 31 = .ok (.ireturn, 1) := by decide +kernel
set_option maxRecDepth 20000 in
theorem ggX8_missingFamily_X8_allPoints : GoodIn wsX8_missingFamily wsX8_allPoints := goodIn_r _ [7, 8, 19, 20, 21, 22, 23, 24, 25, 26, 27, 28] (by decide +kernel) (by decide +kernel)
set_option maxRecDepth 20000 in
theorem gX8_missingFamily_X8_allPoints : GoodIn wsX8_missingFamily (wsV RX8 95 RX8 yX8_allPoints wsX8_allPoints) := goodIn_app (goodIn_of _ (by decide +kernel)) ggX8_missingFamily_X8_allPoints
set_option maxRecDepth 20000 in
theorem ggX8_missingFamily_X6_holds : GoodIn wsX8_missingFamily wsX6_holds := goodIn_r _ [12] (by decide +kernel) (by decide +kernel)
set_option maxRecDepth 20000 in
theorem gX8_missingFamily_X6_holds : GoodIn wsX8_missingFamily (va_wsS RX8 108 yX6_holds wsX6_holds) := goodIn_app (goodIn_of _ (by decide +kernel)) ggX8_missingFamily_X6_holds
set_option maxRecDepth 20000 in
theorem ggX8_missingFamily_X6_below : GoodIn wsX8_missingFamily wsX6_below := goodIn_r _ [15, 16, 17, 11, 18] (by decide +kernel) (by decide +kernel)
set_option maxRecDepth 20000 in
theorem gX8_missingFamily_X6_below : GoodIn wsX8_missingFamily (va_wsS RX8 205 yX6_below wsX6_below) := goodIn_app (goodIn_of _ (by decide +kernel)) ggX8_missingFamily_X6_below
theorem dX8_missingFamily_0 : decode cX8_missingFamily 0 = .ok (.lconst 0, 1) := by decide +kernel
theorem dX8_missingFamily_1 : decode cX8_missingFamily 1 = .ok (.lstore_n 1, 1) := by decide +kernel
theorem dX8_missingFamily_2 : decode cX8_missingFamily 2 = .ok (.iconst 1, 1) := by decide +kernel
theorem dX8_missingFamily_3 : decode cX8_missingFamily 3 = .ok (.istore_n 3, 1) := by decide +kernel
theorem dX8_missingFamily_4 : decode cX8_missingFamily 4 = .ok (.iload_n 3, 1) := by decide +kernel
theorem dX8_missingFamily_5 : decode cX8_missingFamily 5 = .ok (.aload_n 0, 1) := by decide +kernel
theorem dX8_missingFamily_6 : decode cX8_missingFamily 6 = .ok (.invokevirtual 95, 3) := by decide +kernel
theorem dX8_missingFamily_9 : decode cX8_missingFamily 9 = .ok (.if_icmp .gt 44, 3) := by decide +kernel
theorem dX8_missingFamily_12 : decode cX8_missingFamily 12 = .ok (.aload_n 0, 1) := by decide +kernel
theorem dX8_missingFamily_13 : decode cX8_missingFamily 13 = .ok (.getfield 60, 3) := by decide +kernel
theorem dX8_missingFamily_16 : decode cX8_missingFamily 16 = .ok (.iload_n 3, 1) := by decide +kernel
theorem dX8_missingFamily_17 : decode cX8_missingFamily 17 = .ok (.invokestatic 108, 3) := by decide +kernel
theorem dX8_missingFamily_20 : decode cX8_missingFamily 20 = .ok (.ifCond .ne 27, 3) := by decide +kernel
theorem dX8_missingFamily_23 : decode cX8_missingFamily 23 = .ok (.iload_n 3, 1) := by decide +kernel
theorem dX8_missingFamily_24 : decode cX8_missingFamily 24 = .ok (.invokestatic 205, 3) := by decide +kernel
theorem dX8_missingFamily_27 : decode cX8_missingFamily 27 = .ok (.aload_n 0, 1) := by decide +kernel
theorem dX8_missingFamily_28 : decode cX8_missingFamily 28 = .ok (.getfield 60, 3) := by decide +kernel
theorem dX8_missingFamily_31 : decode cX8_missingFamily 31 = .ok (.ldc2_w 93, 3) := by decide +kernel
theorem dX8_missingFamily_34 : decode cX8_missingFamily 34 = .ok (.lxor, 1) := by decide +kernel
theorem dX8_missingFamily_35 : decode cX8_missingFamily 35 = .ok (.land, 1) := by decide +kernel
theorem dX8_missingFamily_36 : decode cX8_missingFamily 36 = .ok (.lconst 0, 1) := by decide +kernel
theorem dX8_missingFamily_37 : decode cX8_missingFamily 37 = .ok (.lcmp, 1) := by decide +kernel
theorem dX8_missingFamily_38 : decode cX8_missingFamily 38 = .ok (.ifCond .ne 9, 3) := by decide +kernel
theorem dX8_missingFamily_41 : decode cX8_missingFamily 41 = .ok (.lload_n 1, 1) := by decide +kernel
theorem dX8_missingFamily_42 : decode cX8_missingFamily 42 = .ok (.lconst 1, 1) := by decide +kernel
theorem dX8_missingFamily_43 : decode cX8_missingFamily 43 = .ok (.iload_n 3, 1) := by decide +kernel
theorem dX8_missingFamily_44 : decode cX8_missingFamily 44 = .ok (.lshl, 1) := by decide +kernel
theorem dX8_missingFamily_45 : decode cX8_missingFamily 45 = .ok (.lor, 1) := by decide +kernel
theorem dX8_missingFamily_46 : decode cX8_missingFamily 46 = .ok (.lstore_n 1, 1) := by decide +kernel
theorem dX8_missingFamily_47 : decode cX8_missingFamily 47 = .ok (.iinc 3 1, 3) := by decide +kernel
theorem dX8_missingFamily_50 : decode cX8_missingFamily 50 = .ok (.goto (-46), 3) := by decide +kernel
theorem dX8_missingFamily_53 : decode cX8_missingFamily 53 = .ok (.lload_n 1, 1) := by decide +kernel
theorem dX8_missingFamily_54 : decode cX8_missingFamily 54 = .ok (.lreturn, 1) := by decide +kernel
