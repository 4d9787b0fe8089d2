set_option maxRecDepth 20000 in
theorem ggX7_init_X2_init : GoodIn wsX7_init wsX2_init := goodIn_r _ [34, 35, 2, 3, 36, 37, 38, 39, 40, 41, 42, 76, 77, 78, 79, 80, 81, 82, 83] (by decide +kernel) (by decide +kernel)
set_option maxRecDepth 20000 in
theorem gX7_init_X2_init_n9 : GoodIn wsX7_init (wsX2_init) := ggX7_init_X2_init
set_option maxRecDepth 20000 in
theorem ggX7_init_X1_init : GoodIn wsX7_init wsX1_init := goodIn_r _ [44, 45, 2, 3, 46, 47, 48, 49, 50, 5, 6, 51, 52, 53, 54, 55, 56, 33, 34, 35, 36, 37, 38, 39, 40, 41, 42, 116, 117, 95, 96, 97, 98, 99, 100, 101, 102, 103, 76, 77, 78, 79, 80, 81, 82, 83] (by decide +kernel) (by decide +kernel)
set_option maxRecDepth 20000 in
theorem gX7_init_X1_init_n29 : GoodIn wsX7_init (wsX1_init) := ggX7_init_X1_init
set_option maxRecDepth 20000 in
theorem ggX7_init_X0_init : GoodIn wsX7_init wsX0_init := goodIn_r _ [58, 59, 2, 3, 37, 60, 61, 104, 105, 106, 107] (by decide +kernel) (by decide +kernel)
set_option maxRecDepth 20000 in
theorem gX7_init_X0_init_n41 : GoodIn wsX7_init (wsX0_init) := ggX7_init_X0_init
set_option maxRecDepth 20000 in
theorem ggX7_init_X6_init : GoodIn wsX7_init wsX6_init := goodIn_r _ [63, 64, 2, 3, 37, 65, 10, 66, 108, 109, 110] (by decide +kernel) (by decide +kernel)
set_option maxRecDepth 20000 in
theorem gX7_init_X6_init_n48 : GoodIn wsX7_init (wsX6_init) := ggX7_init_X6_init
set_option maxRecDepth 20000 in
theorem ggX7_init_X4_init : GoodIn wsX7_init wsX4_init := goodIn_r _ [68, 69, 2, 3, 37, 70, 111, 112] (by decide +kernel) (by decide +kernel)
set_option maxRecDepth 20000 in
theorem gX7_init_X4_init_n55 : GoodIn wsX7_init (wsX4_init) := ggX7_init_X4_init
set_option maxRecDepth 20000 in
theorem ggX7_init_X3_init : GoodIn wsX7_init wsX3_init := goodIn_r _ [72, 73, 2, 3, 37, 74, 75, 113, 114, 115] (by decide +kernel) (by decide +kernel)
set_option maxRecDepth 20000 in
theorem gX7_init_X3_init_n66 : GoodIn wsX7_init (wsX3_init) := ggX7_init_X3_init
theorem dX7_init_0 : decode cX7_init 0 = .ok (.aload_n 0, 1) := by decide +kernel
theorem dX7_init_1 : decode cX7_init 1 = .ok (.invokespecial 1, 3) := by decide +kernel
theorem dX7_init_4 : decode cX7_init 4 = .ok (.aload_n 0, 1) := by decide +kernel
theorem dX7_init_5 : decode cX7_init 5 = .ok (.new 7, 3) := by decide +kernel
theorem dX7_init_8 : decode cX7_init 8 = .ok (.dup, 1) := by decide +kernel
theorem dX7_init_9 : decode cX7_init 9 = .ok (.invokespecial 9, 3) := by decide +kernel
theorem dX7_init_12 : decode cX7_init 12 = .ok (.putfield 10, 3) := by decide +kernel
theorem dX7_init_15 : decode cX7_init 15 = .ok (.aload_n 0, 1) := by decide +kernel
theorem dX7_init_16 : decode cX7_init 16 = .ok (.new 7, 3) := by decide +kernel
theorem dX7_init_19 : decode cX7_init 19 = .ok (.dup, 1) := by decide +kernel
theorem dX7_init_20 : decode cX7_init 20 = .ok (.invokespecial 9, 3) := by decide +kernel
theorem dX7_init_23 : decode cX7_init 23 = .ok (.putfield 16, 3) := by decide +kernel
theorem dX7_init_26 : decode cX7_init 26 = .ok (.aload_n 0, 1) := by decide +kernel
theorem dX7_init_27 : decode cX7_init 27 = .ok (.iconst 2, 1) := by decide +kernel
theorem dX7_init_28 : decode cX7_init 28 = .ok (.anewarray 7, 3) := by decide +kernel
theorem dX7_init_31 : decode cX7_init 31 = .ok (.putfield 19, 3) := by decide +kernel
theorem dX7_init_34 : decode cX7_init 34 = .ok (.aload_n 0, 1) := by decide +kernel
theorem dX7_init_35 : decode cX7_init 35 = .ok (.iconst 2, 1) := by decide +kernel
theorem dX7_init_36 : decode cX7_init 36 = .ok (.newarray .boolean, 2) := by decide +kernel
theorem dX7_init_38 : decode cX7_init 38 = .ok (.putfield 23, 3) := by decide +kernel
theorem dX7_init_41 : decode cX7_init 41 = .ok (.aload_n 0, 1) := by decide +kernel
theorem dX7_init_42 : decode cX7_init 42 = .ok (.new 27, 3) := by decide +kernel
theorem dX7_init_45 : decode cX7_init 45 = .ok (.dup, 1) := by decide +kernel
theorem dX7_init_46 : decode cX7_init 46 = .ok (.invokespecial 29, 3) := by decide +kernel
theorem dX7_init_49 : decode cX7_init 49 = .ok (.putfield 30, 3) := by decide +kernel
theorem dX7_init_52 : decode cX7_init 52 = .ok (.aload_n 0, 1) := by decide +kernel
theorem dX7_init_53 : decode cX7_init 53 = .ok (.aload_n 0, 1) := by decide +kernel
theorem dX7_init_54 : decode cX7_init 54 = .ok (.getfield 30, 3) := by decide +kernel
theorem dX7_init_57 : decode cX7_init 57 = .ok (.getfield 34, 3) := by decide +kernel
theorem dX7_init_60 : decode cX7_init 60 = .ok (.putfield 38, 3) := by decide +kernel
theorem dX7_init_63 : decode cX7_init 63 = .ok (.aload_n 0, 1) := by decide +kernel
theorem dX7_init_64 : decode cX7_init 64 = .ok (.new 39, 3) := by decide +kernel
theorem dX7_init_67 : decode cX7_init 67 = .ok (.dup, 1) := by decide +kernel
theorem dX7_init_68 : decode cX7_init 68 = .ok (.invokespecial 41, 3) := by decide +kernel
theorem dX7_init_71 : decode cX7_init 71 = .ok (.putfield 42, 3) := by decide +kernel
theorem dX7_init_74 : decode cX7_init 74 = .ok (.aload_n 0, 1) := by decide +kernel
theorem dX7_init_75 : decode cX7_init 75 = .ok (.new 46, 3) := by decide +kernel
theorem dX7_init_78 : decode cX7_init 78 = .ok (.dup, 1) := by decide +kernel
theorem dX7_init_79 : decode cX7_init 79 = .ok (.invokespecial 48, 3) := by decide +kernel
theorem dX7_init_82 : decode cX7_init 82 = .ok (.putfield 49, 3) := by decide +kernel
theorem dX7_init_85 : decode cX7_init 85 = .ok (.aload_n 0, 1) := by decide +kernel
theorem dX7_init_86 : decode cX7_init 86 = .ok (.new 53, 3) := by decide +kernel
theorem dX7_init_89 : decode cX7_init 89 = .ok (.dup, 1) := by decide +kernel
theorem dX7_init_90 : decode cX7_init 90 = .ok (.invokespecial 55, 3) := by decide +kernel
theorem dX7_init_93 : decode cX7_init 93 = .ok (.putfield 56, 3) := by decide +kernel
theorem dX7_init_96 : decode cX7_init 96 = .ok (.aload_n 0, 1) := by decide +kernel
theorem dX7_init_97 : decode cX7_init 97 = .ok (.iconst 4, 1) := by decide +kernel
theorem dX7_init_98 : decode cX7_init 98 = .ok (.anewarray 60, 3) := by decide +kernel
theorem dX7_init_101 : decode cX7_init 101 = .ok (.putfield 62, 3) := by decide +kernel
theorem dX7_init_104 : decode cX7_init 104 = .ok (.iconst 0, 1) := by decide +kernel
theorem dX7_init_105 : decode cX7_init 105 = .ok (.istore_n 1, 1) := by decide +kernel
theorem dX7_init_106 : decode cX7_init 106 = .ok (.iload_n 1, 1) := by decide +kernel
theorem dX7_init_107 : decode cX7_init 107 = .ok (.iconst 2, 1) := by decide +kernel
theorem dX7_init_108 : decode cX7_init 108 = .ok (.if_icmp .ge 22, 3) := by decide +kernel
theorem dX7_init_111 : decode cX7_init 111 = .ok (.aload_n 0, 1) := by decide +kernel
theorem dX7_init_112 : decode cX7_init 112 = .ok (.getfield 19, 3) := by decide +kernel
theorem dX7_init_115 : decode cX7_init 115 = .ok (.iload_n 1, 1) := by decide +kernel
theorem dX7_init_116 : decode cX7_init 116 = .ok (.new 7, 3) := by decide +kernel
theorem dX7_init_119 : decode cX7_init 119 = .ok (.dup, 1) := by decide +kernel
theorem dX7_init_120 : decode cX7_init 120 = .ok (.invokespecial 9, 3) := by decide +kernel
theorem dX7_init_123 : decode cX7_init 123 = .ok (.aastore, 1) := by decide +kernel
theorem dX7_init_124 : decode cX7_init 124 = .ok (.iinc 1 1, 3) := by decide +kernel
theorem dX7_init_127 : decode cX7_init 127 = .ok (.goto (-21), 3) := by decide +kernel
theorem dX7_init_130 : decode cX7_init 130 = .ok (.iconst 0, 1) := by decide +kernel
theorem dX7_init_131 : decode cX7_init 131 = .ok (.istore_n 1, 1) := by decide +kernel
theorem dX7_init_132 : decode cX7_init 132 = .ok (.iload_n 1, 1) := by decide +kernel
theorem dX7_init_133 : decode cX7_init 133 = .ok (.iconst 4, 1) := by decide +kernel
theorem dX7_init_134 : decode cX7_init 134 = .ok (.if_icmp .ge 22, 3) := by decide +kernel
theorem dX7_init_137 : decode cX7_init 137 = .ok (.aload_n 0, 1) := by decide +kernel
theorem dX7_init_138 : decode cX7_init 138 = .ok (.getfield 62, 3) := by decide +kernel
theorem dX7_init_141 : decode cX7_init 141 = .ok (.iload_n 1, 1) := by decide +kernel
theorem dX7_init_142 : decode cX7_init 142 = .ok (.new 60, 3) := by decide +kernel
theorem dX7_init_145 : decode cX7_init 145 = .ok (.dup, 1) := by decide +kernel
theorem dX7_init_146 : decode cX7_init 146 = .ok (.invokespecial 66, 3) := by decide +kernel
theorem dX7_init_149 : decode cX7_init 149 = .ok (.aastore, 1) := by decide +kernel
theorem dX7_init_150 : decode cX7_init 150 = .ok (.iinc 1 1, 3) := by decide +kernel
theorem dX7_init_153 : decode cX7_init 153 = .ok (.goto (-21), 3) := by decide +kernel
theorem dX7_init_156 : decode cX7_init 156 = .ok (.return_, 1) := by decide +kernel
set_option maxRecDepth 20000 in
theorem ggX7_feed_X7_within : GoodIn wsX7_feed wsX7_within := goodIn_r _ [5] (by decide +kernel) (by decide +kernel)
set_option maxRecDepth 20000 in
theorem gX7_feed_X7_within : GoodIn wsX7_feed (va_wsS RX7 67 yX7_within wsX7_within) := goodIn_app (goodIn_of _ (by decide +kernel)) ggX7_feed_X7_within
set_option maxRecDepth 20000 in
theorem ggX7_feed_X5_add : GoodIn wsX7_feed wsX5_add := goodIn_r _ [10, 11, 12, 24, 25] (by decide +kernel) (by decide +kernel)
set_option maxRecDepth 20000 in
theorem gX7_feed_X5_add : GoodIn wsX7_feed (wsV RX7 71 RX5 yX5_add wsX5_add) := goodIn_app (goodIn_of _ (by decide +kernel)) ggX7_feed_X5_add
theorem dX7_feed_0 : decode cX7_feed 0 = .ok (.iload_n 1, 1) := by decide +kernel
theorem dX7_feed_1 : decode cX7_feed 1 = .ok (.iconst 0, 1) := by decide +kernel
theorem dX7_feed_2 : decode cX7_feed 2 = .ok (.bipush 127, 2) := by decide +kernel
theorem dX7_feed_4 : decode cX7_feed 4 = .ok (.invokestatic 67, 3) := by decide +kernel
theorem dX7_feed_7 : decode cX7_feed 7 = .ok (.ifCond .ne 5, 3) := by decide +kernel
theorem dX7_feed_10 : decode cX7_feed 10 = .ok (.iconst (-1), 1) := by decide +kernel
theorem dX7_feed_11 : decode cX7_feed 11 = .ok (.ireturn, 1) := by decide +kernel
theorem dX7_feed_12 : decode cX7_feed 12 = .ok (.aload_n 0, 1) := by decide +kernel
theorem dX7_feed_13 : decode cX7_feed 13 = .ok (.getfield 38, 3) := by decide +kernel
theorem dX7_feed_16 : decode cX7_feed 16 = .ok (.iload_n 1, 1) := by decide +kernel
theorem dX7_feed_17 : decode cX7_feed 17 = .ok (.invokevirtual 71, 3) := by decide +kernel
theorem dX7_feed_20 : decode cX7_feed 20 = .ok (.ifCond .eq 13, 3) := by decide +kernel
theorem dX7_feed_23 : decode cX7_feed 23 = .ok (.aload_n 0, 1) := by decide +kernel
theorem dX7_feed_24 : decode cX7_feed 24 = .ok (.getfield 38, 3) := by decide +kernel
theorem dX7_feed_27 : decode cX7_feed 27 = .ok (.getfield 77, 3) := by decide +kernel
theorem dX7_feed_30 : decode cX7_feed 30 = .ok (.goto 5, 3) := by decide +kernel
theorem dX7_feed_33 : decode cX7_feed 33 = .ok (.bipush (-3), 2) := by decide +kernel
theorem dX7_feed_35 : decode cX7_feed 35 = .ok (.ireturn, 1) := by decide +kernel
set_option maxRecDepth 20000 in
theorem ggX7_end_X7_within : GoodIn wsX7_end wsX7_within := goodIn_r _ [5] (by decide +kernel) (by decide +kernel)
set_option maxRecDepth 20000 in
theorem gX7_end_X7_within : GoodIn wsX7_end (va_wsS RX7 67 yX7_within wsX7_within) := goodIn_app (goodIn_of _ (by decide +kernel)) ggX7_end_X7_within
theorem dX7_end_0 : decode cX7_end 0 = .ok (.iload_n 1, 1) := by decide +kernel
theorem dX7_end_1 : decode cX7_end 1 = .ok (.iconst 0, 1) := by decide +kernel
theorem dX7_end_2 : decode cX7_end 2 = .ok (.aload_n 0, 1) := by decide +kernel
theorem dX7_end_3 : decode cX7_end 3 = .ok (.getfield 38, 3) := by decide +kernel
theorem dX7_end_6 : decode cX7_end 6 = .ok (.getfield 77, 3) := by decide +kernel
theorem dX7_end_9 : decode cX7_end 9 = .ok (.invokestatic 67, 3) := by decide +kernel
theorem dX7_end_12 : decode cX7_end 12 = .ok (.ifCond .ne 5, 3) := by decide +kernel
theorem dX7_end_15 : decode cX7_end 15 = .ok (.iconst (-1), 1) := by decide +kernel
theorem dX7_end_16 : decode cX7_end 16 = .ok (.ireturn, 1) := by decide +kernel
theorem dX7_end_17 : decode cX7_end 17 = .ok (.aload_n 0, 1) := by decide +kernel
theorem dX7_end_18 : decode cX7_end 18 = .ok (.getfield 38, 3) := by decide +kernel
theorem dX7_end_21 : decode cX7_end 21 = .ok (.getfield 77, 3) := by decide +kernel
theorem dX7_end_24 : decode cX7_end 24 = .ok (.istore_n 2, 1) := by decide +kernel
theorem dX7_end_25 : decode cX7_end 25 = .ok (.aload_n 0, 1) := by decide +kernel
theorem dX7_end_26 : decode cX7_end 26 = .ok (.getfield 38, 3) := by decide +kernel
theorem dX7_end_29 : decode cX7_end 29 = .ok (.iload_n 1, 1) := by decide +kernel
theorem dX7_end_30 : decode cX7_end 30 = .ok (.putfield 77, 3) := by decide +kernel
theorem dX7_end_33 : decode cX7_end 33 = .ok (.iload_n 2, 1) := by decide +kernel
theorem dX7_end_34 : decode cX7_end 34 = .ok (.ireturn, 1) := by decide +kernel
set_option maxRecDepth 20000 in
theorem ggX7_text_X1_tellAll : GoodIn wsX7_text wsX1_tellAll := goodIn_r _ [10, 11, 12, 13, 14, 15, 16, 17, 18, 19, 20, 21, 22, 23, 24, 25, 26, 27, 28, 9, 29, 30, 31, 32, 33, 34, 35, 36, 37, 38, 39, 40, 41, 42, 43, 44, 45, 46, 47, 48, 49, 50, 51, 52, 53, 54, 55, 56, 57, 58, 59, 60, 61, 62, 63, 64, 65, 66, 67, 68, 69, 70, 71, 72, 73, 74, 75, 76, 77, 78, 79, 80, 81, 82, 83, 84, 85, 86, 87, 88, 89, 90, 91, 92, 93, 94, 95, 96, 97, 98, 99, 100, 101, 102, 103, 104, 105, 106, 107, 108, 109, 110, 111, 112, 113, 114, 115, 116, 117, 118, 119, 120, 121, 122, 123, 124, 125, 126, 127, 128, 129, 130, 131, 132, 133, 134, 135, 136, 137, 138, 139, 140, 141, 142, 143, 144, 145, 146, 147, 148, 149, 150, 151, 152, 153, 171, 172, 173, 174, 175, 176, 177, 178, 179, 183, 184, 185, 186, 187, 188, 189, 190, 169, 170] (by decide +kernel) (by decide +kernel)
set_option maxRecDepth 20000 in
theorem gX7_text_X1_tellAll : GoodIn wsX7_text (wsV RX7 81 RX1 yX1_tellAll wsX1_tellAll) := goodIn_app (goodIn_of _ (by decide +kernel)) ggX7_text_X1_tellAll
set_option maxRecDepth 20000 in
theorem ggX7_text_X2_copyFrom : GoodIn wsX7_text wsX2_copyFrom := goodIn_r _ [157, 23, 24, 25, 133, 146, 147, 148, 149, 183, 184, 185, 186, 187, 188, 189, 190] (by decide +kernel) (by decide +kernel)
set_option maxRecDepth 20000 in
theorem gX7_text_X2_copyFrom : GoodIn wsX7_text (wsV RX7 94 RX2 yX2_copyFrom wsX2_copyFrom) := goodIn_app (goodIn_of _ (by decide +kernel)) ggX7_text_X2_copyFrom
theorem dX7_text_0 : decode cX7_text 0 = .ok (.aload_n 0, 1) := by decide +kernel
theorem dX7_text_1 : decode cX7_text 1 = .ok (.getfield 30, 3) := by decide +kernel
theorem dX7_text_4 : decode cX7_text 4 = .ok (.invokevirtual 81, 3) := by decide +kernel
theorem dX7_text_7 : decode cX7_text 7 = .ok (.istore_n 1, 1) := by decide +kernel
theorem dX7_text_8 : decode cX7_text 8 = .ok (.aload_n 0, 1) := by decide +kernel
theorem dX7_text_9 : decode cX7_text 9 = .ok (.getfield 38, 3) := by decide +kernel
theorem dX7_text_12 : decode cX7_text 12 = .ok (.iconst 0, 1) := by decide +kernel
theorem dX7_text_13 : decode cX7_text 13 = .ok (.putfield 77, 3) := by decide +kernel
theorem dX7_text_16 : decode cX7_text 16 = .ok (.aload_n 0, 1) := by decide +kernel
theorem dX7_text_17 : decode cX7_text 17 = .ok (.getfield 30, 3) := by decide +kernel
theorem dX7_text_20 : decode cX7_text 20 = .ok (.getfield 85, 3) := by decide +kernel
theorem dX7_text_23 : decode cX7_text 23 = .ok (.ifCond .eq 14, 3) := by decide +kernel
theorem dX7_text_26 : decode cX7_text 26 = .ok (.bipush (-10), 2) := by decide +kernel
theorem dX7_text_28 : decode cX7_text 28 = .ok (.aload_n 0, 1) := by decide +kernel
theorem dX7_text_29 : decode cX7_text 29 = .ok (.getfield 30, 3) := by decide +kernel
theorem dX7_text_32 : decode cX7_text 32 = .ok (.getfield 88, 3) := by decide +kernel
theorem dX7_text_35 : decode cX7_text 35 = .ok (.isub, 1) := by decide +kernel
theorem dX7_text_36 : decode cX7_text 36 = .ok (.ireturn, 1) := by decide +kernel
theorem dX7_text_37 : decode cX7_text 37 = .ok (.aload_n 0, 1) := by decide +kernel
theorem dX7_text_38 : decode cX7_text 38 = .ok (.getfield 10, 3) := by decide +kernel
theorem dX7_text_41 : decode cX7_text 41 = .ok (.aload_n 0, 1) := by decide +kernel
theorem dX7_text_42 : decode cX7_text 42 = .ok (.getfield 30, 3) := by decide +kernel
theorem dX7_text_45 : decode cX7_text 45 = .ok (.getfield 91, 3) := by decide +kernel
theorem dX7_text_48 : decode cX7_text 48 = .ok (.invokevirtual 94, 3) := by decide +kernel
theorem dX7_text_51 : decode cX7_text 51 = .ok (.aload_n 0, 1) := by decide +kernel
theorem dX7_text_52 : decode cX7_text 52 = .ok (.getfield 49, 3) := by decide +kernel
theorem dX7_text_55 : decode cX7_text 55 = .ok (.iconst 0, 1) := by decide +kernel
theorem dX7_text_56 : decode cX7_text 56 = .ok (.putfield 98, 3) := by decide +kernel
theorem dX7_text_59 : decode cX7_text 59 = .ok (.iconst 0, 1) := by decide +kernel
theorem dX7_text_60 : decode cX7_text 60 = .ok (.istore_n 2, 1) := by decide +kernel
theorem dX7_text_61 : decode cX7_text 61 = .ok (.iload_n 2, 1) := by decide +kernel
theorem dX7_text_62 : decode cX7_text 62 = .ok (.iconst 2, 1) := by decide +kernel
theorem dX7_text_63 : decode cX7_text 63 = .ok (.if_icmp .ge 16, 3) := by decide +kernel
theorem dX7_text_66 : decode cX7_text 66 = .ok (.aload_n 0, 1) := by decide +kernel
theorem dX7_text_67 : decode cX7_text 67 = .ok (.getfield 23, 3) := by decide +kernel
theorem dX7_text_70 : decode cX7_text 70 = .ok (.iload_n 2, 1) := by decide +kernel
theorem dX7_text_71 : decode cX7_text 71 = .ok (.iconst 0, 1) := by decide +kernel
theorem dX7_text_72 : decode cX7_text 72 = .ok (.bastore, 1) := by decide +kernel
theorem dX7_text_73 : decode cX7_text 73 = .ok (.iinc 2 1, 3) := by decide +kernel
theorem dX7_text_76 : decode cX7_text 76 = .ok (.goto (-15), 3) := by decide +kernel
theorem dX7_text_79 : decode cX7_text 79 = .ok (.iload_n 1, 1) := by decide +kernel
theorem dX7_text_80 : decode cX7_text 80 = .ok (.ireturn, 1) := by decide +kernel
theorem dX7_fault_0 : decode cX7_fault 0 = .ok (.aload_n 0, 1) := by decide +kernel
theorem dX7_fault_1 : decode cX7_fault 1 = .ok (.getfield 30, 3) := by decide +kernel
theorem dX7_fault_4 : decode cX7_fault 4 = .ok (.getfield 85, 3) := by decide +kernel
theorem dX7_fault_7 : decode cX7_fault 7 = .ok (.ireturn, 1) := by decide +kernel
set_option maxRecDepth 20000 in
theorem ggX7_rule_X2_everyBorough : GoodIn wsX7_rule wsX2_everyBorough := goodIn_r _ [6, 7, 42, 43, 44, 45, 46, 47, 48, 49] (by decide +kernel) (by decide +kernel)
set_option maxRecDepth 20000 in
theorem gX7_rule_X2_everyBorough : GoodIn wsX7_rule (wsV RX7 110 RX2 yX2_everyBorough wsX2_everyBorough) := goodIn_app (goodIn_of _ (by decide +kernel)) ggX7_rule_X2_everyBorough
set_option maxRecDepth 20000 in
theorem ggX7_rule_X2_seatsIn : GoodIn wsX7_rule wsX2_seatsIn := goodIn_r _ [11, 7, 12, 13, 14, 15, 42, 43, 44, 45, 46, 47, 48, 49] (by decide +kernel) (by decide +kernel)
set_option maxRecDepth 20000 in
theorem gX7_rule_X2_seatsIn : GoodIn wsX7_rule (wsV RX7 113 RX2 yX2_seatsIn wsX2_seatsIn) := goodIn_app (goodIn_of _ (by decide +kernel)) ggX7_rule_X2_seatsIn
set_option maxRecDepth 20000 in
theorem ggX7_rule_X2_allGuineas : GoodIn wsX7_rule wsX2_allGuineas := goodIn_r _ [19, 20, 21, 42, 43, 44, 45, 46, 47, 48, 49] (by decide +kernel) (by decide +kernel)
set_option maxRecDepth 20000 in
theorem gX7_rule_X2_allGuineas : GoodIn wsX7_rule (wsV RX7 117 RX2 yX2_allGuineas wsX2_allGuineas) := goodIn_app (goodIn_of _ (by decide +kernel)) ggX7_rule_X2_allGuineas
set_option maxRecDepth 20000 in
theorem ggX7_rule_X2_ownerless : GoodIn wsX7_rule wsX2_ownerless := goodIn_r _ [25, 7, 26, 42, 43, 44, 45, 46, 47, 48, 49] (by decide +kernel) (by decide +kernel)
set_option maxRecDepth 20000 in
theorem gX7_rule_X2_ownerless : GoodIn wsX7_rule (wsV RX7 120 RX2 yX2_ownerless wsX2_ownerless) := goodIn_app (goodIn_of _ (by decide +kernel)) ggX7_rule_X2_ownerless
set_option maxRecDepth 20000 in
theorem ggX7_rule_X2_seatless : GoodIn wsX7_rule wsX2_seatless := goodIn_r _ [30, 7, 12, 42, 43, 44, 45, 46, 47, 48, 49] (by decide +kernel) (by decide +kernel)
set_option maxRecDepth 20000 in
theorem gX7_rule_X2_seatless : GoodIn wsX7_rule (wsV RX7 123 RX2 yX2_seatless wsX2_seatless) := goodIn_app (goodIn_of _ (by decide +kernel)) ggX7_rule_X2_seatless
theorem dX7_rule_0 : decode cX7_rule 0 = .ok (.iload_n 1, 1) := by decide +kernel
theorem dX7_rule_1 : decode cX7_rule 1 = .ok (.tableswitch 106 0 6 #[43, 51, 59, 67, 82, 90, 98], 43) := by decide +kernel
theorem dX7_rule_44 : decode cX7_rule 44 = .ok (.aload_n 0, 1) := by decide +kernel
theorem dX7_rule_45 : decode cX7_rule 45 = .ok (.getfield 10, 3) := by decide +kernel
theorem dX7_rule_48 : decode cX7_rule 48 = .ok (.getfield 101, 3) := by decide +kernel
theorem dX7_rule_51 : decode cX7_rule 51 = .ok (.ireturn, 1) := by decide +kernel
theorem dX7_rule_52 : decode cX7_rule 52 = .ok (.aload_n 0, 1) := by decide +kernel
theorem dX7_rule_53 : decode cX7_rule 53 = .ok (.getfield 10, 3) := by decide +kernel
theorem dX7_rule_56 : decode cX7_rule 56 = .ok (.getfield 104, 3) := by decide +kernel
theorem dX7_rule_59 : decode cX7_rule 59 = .ok (.ireturn, 1) := by decide +kernel
theorem dX7_rule_60 : decode cX7_rule 60 = .ok (.aload_n 0, 1) := by decide +kernel
theorem dX7_rule_61 : decode cX7_rule 61 = .ok (.getfield 10, 3) := by decide +kernel
theorem dX7_rule_64 : decode cX7_rule 64 = .ok (.getfield 107, 3) := by decide +kernel
theorem dX7_rule_67 : decode cX7_rule 67 = .ok (.ireturn, 1) := by decide +kernel
theorem dX7_rule_68 : decode cX7_rule 68 = .ok (.aload_n 0, 1) := by decide +kernel
theorem dX7_rule_69 : decode cX7_rule 69 = .ok (.getfield 10, 3) := by decide +kernel
theorem dX7_rule_72 : decode cX7_rule 72 = .ok (.aload_n 0, 1) := by decide +kernel
theorem dX7_rule_73 : decode cX7_rule 73 = .ok (.getfield 10, 3) := by decide +kernel
theorem dX7_rule_76 : decode cX7_rule 76 = .ok (.invokevirtual 110, 3) := by decide +kernel
theorem dX7_rule_79 : decode cX7_rule 79 = .ok (.invokevirtual 113, 3) := by decide +kernel
theorem dX7_rule_82 : decode cX7_rule 82 = .ok (.ireturn, 1) := by decide +kernel
theorem dX7_rule_83 : decode cX7_rule 83 = .ok (.aload_n 0, 1) := by decide +kernel
theorem dX7_rule_84 : decode cX7_rule 84 = .ok (.getfield 10, 3) := by decide +kernel
theorem dX7_rule_87 : decode cX7_rule 87 = .ok (.invokevirtual 117, 3) := by decide +kernel
theorem dX7_rule_90 : decode cX7_rule 90 = .ok (.ireturn, 1) := by decide +kernel
theorem dX7_rule_91 : decode cX7_rule 91 = .ok (.aload_n 0, 1) := by decide +kernel
theorem dX7_rule_92 : decode cX7_rule 92 = .ok (.getfield 10, 3) := by decide +kernel
theorem dX7_rule_95 : decode cX7_rule 95 = .ok (.invokevirtual 120, 3) := by decide +kernel
theorem dX7_rule_98 : decode cX7_rule 98 = .ok (.ireturn, 1) := by decide +kernel
theorem dX7_rule_99 : decode cX7_rule 99 = .ok (.aload_n 0, 1) := by decide +kernel
theorem dX7_rule_100 : decode cX7_rule 100 = .ok (.getfield 10, 3) := by decide +kernel
theorem dX7_rule_103 : decode cX7_rule 103 = .ok (.invokevirtual 123, 3) := by decide +kernel
theorem dX7_rule_106 : decode cX7_rule 106 = .ok (.ireturn, 1) := by decide +kernel
theorem dX7_rule_107 : decode cX7_rule 107 = .ok (.iconst (-1), 1) := by decide +kernel
theorem dX7_rule_108 : decode cX7_rule 108 = .ok (.ireturn, 1) := by decide +kernel
set_option maxRecDepth 20000 in
theorem ggX7_lord_X2_hasLord : GoodIn wsX7_lord wsX2_hasLord := goodIn_r _ [6, 7, 33, 34, 35, 36, 37, 38, 39, 40] (by decide +kernel) (by decide +kernel)
set_option maxRecDepth 20000 in
theorem gX7_lord_X2_hasLord : GoodIn wsX7_lord (wsV RX7 126 RX2 yX2_hasLord wsX2_hasLord) := goodIn_app (goodIn_of _ (by decide +kernel)) ggX7_lord_X2_hasLord
set_option maxRecDepth 20000 in
theorem ggX7_lord_X2_heldBy : GoodIn wsX7_lord wsX2_heldBy := goodIn_r _ [11, 12, 13, 14, 15, 16, 33, 34, 35, 36, 37, 38, 39, 40] (by decide +kernel) (by decide +kernel)
set_option maxRecDepth 20000 in
theorem gX7_lord_X2_heldBy : GoodIn wsX7_lord (wsV RX7 133 RX2 yX2_heldBy wsX2_heldBy) := goodIn_app (goodIn_of _ (by decide +kernel)) ggX7_lord_X2_heldBy
set_option maxRecDepth 20000 in
theorem ggX7_lord_X2_seatsIn : GoodIn wsX7_lord wsX2_seatsIn := goodIn_r _ [20, 12, 21, 14, 15, 16, 33, 34, 35, 36, 37, 38, 39, 40] (by decide +kernel) (by decide +kernel)
set_option maxRecDepth 20000 in
theorem gX7_lord_X2_seatsIn : GoodIn wsX7_lord (wsV RX7 113 RX2 yX2_seatsIn wsX2_seatsIn) := goodIn_app (goodIn_of _ (by decide +kernel)) ggX7_lord_X2_seatsIn
theorem dX7_lord_0 : decode cX7_lord 0 = .ok (.aload_n 0, 1) := by decide +kernel
theorem dX7_lord_1 : decode cX7_lord 1 = .ok (.getfield 10, 3) := by decide +kernel
theorem dX7_lord_4 : decode cX7_lord 4 = .ok (.iload_n 1, 1) := by decide +kernel
theorem dX7_lord_5 : decode cX7_lord 5 = .ok (.invokevirtual 126, 3) := by decide +kernel
theorem dX7_lord_8 : decode cX7_lord 8 = .ok (.ifCond .ne 5, 3) := by decide +kernel
theorem dX7_lord_11 : decode cX7_lord 11 = .ok (.iconst (-1), 1) := by decide +kernel
theorem dX7_lord_12 : decode cX7_lord 12 = .ok (.ireturn, 1) := by decide +kernel
theorem dX7_lord_13 : decode cX7_lord 13 = .ok (.iload_n 2, 1) := by decide +kernel
theorem dX7_lord_14 : decode cX7_lord 14 = .ok (.tableswitch 65 0 2 #[26, 36, 47], 26) := by decide +kernel
theorem dX7_lord_40 : decode cX7_lord 40 = .ok (.aload_n 0, 1) := by decide +kernel
theorem dX7_lord_41 : decode cX7_lord 41 = .ok (.getfield 10, 3) := by decide +kernel
theorem dX7_lord_44 : decode cX7_lord 44 = .ok (.getfield 129, 3) := by decide +kernel
theorem dX7_lord_47 : decode cX7_lord 47 = .ok (.iload_n 1, 1) := by decide +kernel
theorem dX7_lord_48 : decode cX7_lord 48 = .ok (.iaload, 1) := by decide +kernel
theorem dX7_lord_49 : decode cX7_lord 49 = .ok (.ireturn, 1) := by decide +kernel
theorem dX7_lord_50 : decode cX7_lord 50 = .ok (.aload_n 0, 1) := by decide +kernel
theorem dX7_lord_51 : decode cX7_lord 51 = .ok (.getfield 10, 3) := by decide +kernel
theorem dX7_lord_54 : decode cX7_lord 54 = .ok (.iconst 1, 1) := by decide +kernel
theorem dX7_lord_55 : decode cX7_lord 55 = .ok (.iload_n 1, 1) := by decide +kernel
theorem dX7_lord_56 : decode cX7_lord 56 = .ok (.ishl, 1) := by decide +kernel
theorem dX7_lord_57 : decode cX7_lord 57 = .ok (.invokevirtual 133, 3) := by decide +kernel
theorem dX7_lord_60 : decode cX7_lord 60 = .ok (.ireturn, 1) := by decide +kernel
theorem dX7_lord_61 : decode cX7_lord 61 = .ok (.aload_n 0, 1) := by decide +kernel
theorem dX7_lord_62 : decode cX7_lord 62 = .ok (.getfield 10, 3) := by decide +kernel
theorem dX7_lord_65 : decode cX7_lord 65 = .ok (.aload_n 0, 1) := by decide +kernel
theorem dX7_lord_66 : decode cX7_lord 66 = .ok (.getfield 10, 3) := by decide +kernel
theorem dX7_lord_69 : decode cX7_lord 69 = .ok (.iconst 1, 1) := by decide +kernel
theorem dX7_lord_70 : decode cX7_lord 70 = .ok (.iload_n 1, 1) := by decide +kernel
theorem dX7_lord_71 : decode cX7_lord 71 = .ok (.ishl, 1) := by decide +kernel
theorem dX7_lord_72 : decode cX7_lord 72 = .ok (.invokevirtual 133, 3) := by decide +kernel
theorem dX7_lord_75 : decode cX7_lord 75 = .ok (.invokevirtual 113, 3) := by decide +kernel
theorem dX7_lord_78 : decode cX7_lord 78 = .ok (.ireturn, 1) := by decide +kernel
theorem dX7_lord_79 : decode cX7_lord 79 = .ok (.iconst (-1), 1) := by decide +kernel
theorem dX7_lord_80 : decode cX7_lord 80 = .ok (.ireturn, 1) := by decide +kernel
set_option maxRecDepth 20000 in
theorem ggX7_borough_X2_hasBorough : GoodIn wsX7_borough wsX2_hasBorough := goodIn_r _ [6, 7, 32, 33, 34, 35, 36, 37, 38, 39] (by decide +kernel) (by decide +kernel)
set_option maxRecDepth 20000 in
theorem gX7_borough_X2_hasBorough : GoodIn wsX7_borough (wsV RX7 136 RX2 yX2_hasBorough wsX2_hasBorough) := goodIn_app (goodIn_of _ (by decide +kernel)) ggX7_borough_X2_hasBorough
set_option maxRecDepth 20000 in
theorem ggX7_borough_X2_votesOf : GoodIn wsX7_borough wsX2_votesOf := goodIn_r _ [11, 12, 13, 14, 3, 4, 5, 6, 7, 32, 33, 34, 35, 36, 37, 38, 39] (by decide +kernel) (by decide +kernel)
set_option maxRecDepth 20000 in
theorem gX7_borough_X2_votesOf : GoodIn wsX7_borough (wsV RX7 151 RX2 yX2_votesOf wsX2_votesOf) := goodIn_app (goodIn_of _ (by decide +kernel)) ggX7_borough_X2_votesOf
set_option maxRecDepth 20000 in
theorem ggX7_borough_X2_costOf : GoodIn wsX7_borough wsX2_costOf := goodIn_r _ [18, 19, 20, 9, 10, 5, 11, 12, 13, 14, 3, 4, 6, 7, 32, 33, 34, 35, 36, 37, 38, 39] (by decide +kernel) (by decide +kernel)
set_option maxRecDepth 20000 in
theorem gX7_borough_X2_costOf : GoodIn wsX7_borough (wsV RX7 154 RX2 yX2_costOf wsX2_costOf) := goodIn_app (goodIn_of _ (by decide +kernel)) ggX7_borough_X2_costOf
theorem dX7_borough_0 : decode cX7_borough 0 = .ok (.aload_n 0, 1) := by decide +kernel
theorem dX7_borough_1 : decode cX7_borough 1 = .ok (.getfield 10, 3) := by decide +kernel
theorem dX7_borough_4 : decode cX7_borough 4 = .ok (.iload_n 1, 1) := by decide +kernel
theorem dX7_borough_5 : decode cX7_borough 5 = .ok (.invokevirtual 136, 3) := by decide +kernel
theorem dX7_borough_8 : decode cX7_borough 8 = .ok (.ifCond .ne 5, 3) := by decide +kernel
theorem dX7_borough_11 : decode cX7_borough 11 = .ok (.iconst (-1), 1) := by decide +kernel
theorem dX7_borough_12 : decode cX7_borough 12 = .ok (.ireturn, 1) := by decide +kernel
theorem dX7_borough_13 : decode cX7_borough 13 = .ok (.iload_n 2, 1) := by decide +kernel
theorem dX7_borough_14 : decode cX7_borough 14 = .ok (.tableswitch 96 0 5 #[38, 48, 58, 68, 78, 87], 38) := by decide +kernel
theorem dX7_borough_52 : decode cX7_borough 52 = .ok (.aload_n 0, 1) := by decide +kernel
theorem dX7_borough_53 : decode cX7_borough 53 = .ok (.getfield 10, 3) := by decide +kernel
theorem dX7_borough_56 : decode cX7_borough 56 = .ok (.getfield 139, 3) := by decide +kernel
theorem dX7_borough_59 : decode cX7_borough 59 = .ok (.iload_n 1, 1) := by decide +kernel
theorem dX7_borough_60 : decode cX7_borough 60 = .ok (.iaload, 1) := by decide +kernel
theorem dX7_borough_61 : decode cX7_borough 61 = .ok (.ireturn, 1) := by decide +kernel
theorem dX7_borough_62 : decode cX7_borough 62 = .ok (.aload_n 0, 1) := by decide +kernel
theorem dX7_borough_63 : decode cX7_borough 63 = .ok (.getfield 10, 3) := by decide +kernel
theorem dX7_borough_66 : decode cX7_borough 66 = .ok (.getfield 142, 3) := by decide +kernel
theorem dX7_borough_69 : decode cX7_borough 69 = .ok (.iload_n 1, 1) := by decide +kernel
theorem dX7_borough_70 : decode cX7_borough 70 = .ok (.iaload, 1) := by decide +kernel
theorem dX7_borough_71 : decode cX7_borough 71 = .ok (.ireturn, 1) := by decide +kernel
theorem dX7_borough_72 : decode cX7_borough 72 = .ok (.aload_n 0, 1) := by decide +kernel
theorem dX7_borough_73 : decode cX7_borough 73 = .ok (.getfield 10, 3) := by decide +kernel
theorem dX7_borough_76 : decode cX7_borough 76 = .ok (.getfield 145, 3) := by decide +kernel
theorem dX7_borough_79 : decode cX7_borough 79 = .ok (.iload_n 1, 1) := by decide +kernel
theorem dX7_borough_80 : decode cX7_borough 80 = .ok (.iaload, 1) := by decide +kernel
theorem dX7_borough_81 : decode cX7_borough 81 = .ok (.ireturn, 1) := by decide +kernel
theorem dX7_borough_82 : decode cX7_borough 82 = .ok (.aload_n 0, 1) := by decide +kernel
theorem dX7_borough_83 : decode cX7_borough 83 = .ok (.getfield 10, 3) := by decide +kernel
theorem dX7_borough_86 : decode cX7_borough 86 = .ok (.getfield 148, 3) := by decide +kernel
theorem dX7_borough_89 : decode cX7_borough 89 = .ok (.iload_n 1, 1) := by decide +kernel
theorem dX7_borough_90 : decode cX7_borough 90 = .ok (.iaload, 1) := by decide +kernel
theorem dX7_borough_91 : decode cX7_borough 91 = .ok (.ireturn, 1) := by decide +kernel
theorem dX7_borough_92 : decode cX7_borough 92 = .ok (.aload_n 0, 1) := by decide +kernel
theorem dX7_borough_93 : decode cX7_borough 93 = .ok (.getfield 10, 3) := by decide +kernel
theorem dX7_borough_96 : decode cX7_borough 96 = .ok (.iload_n 1, 1) := by decide +kernel
theorem dX7_borough_97 : decode cX7_borough 97 = .ok (.invokevirtual 151, 3) := by decide +kernel
theorem dX7_borough_100 : decode cX7_borough 100 = .ok (.ireturn, 1) := by decide +kernel
theorem dX7_borough_101 : decode cX7_borough 101 = .ok (.aload_n 0, 1) := by decide +kernel
theorem dX7_borough_102 : decode cX7_borough 102 = .ok (.getfield 10, 3) := by decide +kernel
theorem dX7_borough_105 : decode cX7_borough 105 = .ok (.iload_n 1, 1) := by decide +kernel
theorem dX7_borough_106 : decode cX7_borough 106 = .ok (.invokevirtual 154, 3) := by decide +kernel
theorem dX7_borough_109 : decode cX7_borough 109 = .ok (.ireturn, 1) := by decide +kernel
theorem dX7_borough_110 : decode cX7_borough 110 = .ok (.iconst (-1), 1) := by decide +kernel
theorem dX7_borough_111 : decode cX7_borough 111 = .ok (.ireturn, 1) := by decide +kernel
set_option maxRecDepth 20000 in
theorem ggX7_alter_X2_hasBorough : GoodIn wsX7_alter wsX2_hasBorough := goodIn_r _ [6, 7, 26, 27, 28, 29, 30, 31, 32, 33] (by decide +kernel) (by decide +kernel)
set_option maxRecDepth 20000 in
theorem gX7_alter_X2_hasBorough : GoodIn wsX7_alter (wsV RX7 136 RX2 yX2_hasBorough wsX2_hasBorough) := goodIn_app (goodIn_of _ (by decide +kernel)) ggX7_alter_X2_hasBorough
set_option maxRecDepth 20000 in
theorem ggX7_alter_X7_within : GoodIn wsX7_alter wsX7_within := goodIn_r _ [11] (by decide +kernel) (by decide +kernel)
set_option maxRecDepth 20000 in
theorem gX7_alter_X7_within : GoodIn wsX7_alter (va_wsS RX7 67 yX7_within wsX7_within) := goodIn_app (goodIn_of _ (by decide +kernel)) ggX7_alter_X7_within
set_option maxRecDepth 20000 in
theorem ggX7_alter_X7_swap : GoodIn wsX7_alter wsX7_swap := goodIn_r _ [14, 8, 9, 10, 11] (by decide +kernel) (by decide +kernel)
set_option maxRecDepth 20000 in
theorem gX7_alter_X7_swap : GoodIn wsX7_alter (va_wsS RX7 157 yX7_swap wsX7_swap) := goodIn_app (goodIn_of _ (by decide +kernel)) ggX7_alter_X7_swap
theorem dX7_alter_0 : decode cX7_alter 0 = .ok (.aload_n 0, 1) := by decide +kernel
theorem dX7_alter_1 : decode cX7_alter 1 = .ok (.getfield 10, 3) := by decide +kernel
theorem dX7_alter_4 : decode cX7_alter 4 = .ok (.iload_n 1, 1) := by decide +kernel
theorem dX7_alter_5 : decode cX7_alter 5 = .ok (.invokevirtual 136, 3) := by decide +kernel
theorem dX7_alter_8 : decode cX7_alter 8 = .ok (.ifCond .ne 5, 3) := by decide +kernel
theorem dX7_alter_11 : decode cX7_alter 11 = .ok (.iconst (-1), 1) := by decide +kernel
theorem dX7_alter_12 : decode cX7_alter 12 = .ok (.ireturn, 1) := by decide +kernel
theorem dX7_alter_13 : decode cX7_alter 13 = .ok (.iload_n 2, 1) := by decide +kernel
theorem dX7_alter_14 : decode cX7_alter 14 = .ok (.tableswitch 105 0 2 #[26, 52, 79], 26) := by decide +kernel
theorem dX7_alter_40 : decode cX7_alter 40 = .ok (.iload_n 3, 1) := by decide +kernel
theorem dX7_alter_41 : decode cX7_alter 41 = .ok (.iconst 0, 1) := by decide +kernel
theorem dX7_alter_42 : decode cX7_alter 42 = .ok (.iconst 3, 1) := by decide +kernel
theorem dX7_alter_43 : decode cX7_alter 43 = .ok (.invokestatic 67, 3) := by decide +kernel
theorem dX7_alter_46 : decode cX7_alter 46 = .ok (.ifCond .eq 18, 3) := by decide +kernel
theorem dX7_alter_49 : decode cX7_alter 49 = .ok (.aload_n 0, 1) := by decide +kernel
theorem dX7_alter_50 : decode cX7_alter 50 = .ok (.getfield 10, 3) := by decide +kernel
theorem dX7_alter_53 : decode cX7_alter 53 = .ok (.getfield 139, 3) := by decide +kernel
theorem dX7_alter_56 : decode cX7_alter 56 = .ok (.iload_n 1, 1) := by decide +kernel
theorem dX7_alter_57 : decode cX7_alter 57 = .ok (.iload_n 3, 1) := by decide +kernel
theorem dX7_alter_58 : decode cX7_alter 58 = .ok (.invokestatic 157, 3) := by decide +kernel
theorem dX7_alter_61 : decode cX7_alter 61 = .ok (.goto 4, 3) := by decide +kernel
theorem dX7_alter_64 : decode cX7_alter 64 = .ok (.iconst (-1), 1) := by decide +kernel
theorem dX7_alter_65 : decode cX7_alter 65 = .ok (.ireturn, 1) := by decide +kernel
theorem dX7_alter_66 : decode cX7_alter 66 = .ok (.iload_n 3, 1) := by decide +kernel
theorem dX7_alter_67 : decode cX7_alter 67 = .ok (.iconst 1, 1) := by decide +kernel
theorem dX7_alter_68 : decode cX7_alter 68 = .ok (.bipush 9, 2) := by decide +kernel
theorem dX7_alter_70 : decode cX7_alter 70 = .ok (.invokestatic 67, 3) := by decide +kernel
theorem dX7_alter_73 : decode cX7_alter 73 = .ok (.ifCond .eq 18, 3) := by decide +kernel
theorem dX7_alter_76 : decode cX7_alter 76 = .ok (.aload_n 0, 1) := by decide +kernel
theorem dX7_alter_77 : decode cX7_alter 77 = .ok (.getfield 10, 3) := by decide +kernel
theorem dX7_alter_80 : decode cX7_alter 80 = .ok (.getfield 142, 3) := by decide +kernel
theorem dX7_alter_83 : decode cX7_alter 83 = .ok (.iload_n 1, 1) := by decide +kernel
theorem dX7_alter_84 : decode cX7_alter 84 = .ok (.iload_n 3, 1) := by decide +kernel
theorem dX7_alter_85 : decode cX7_alter 85 = .ok (.invokestatic 157, 3) := by decide +kernel
theorem dX7_alter_88 : decode cX7_alter 88 = .ok (.goto 4, 3) := by decide +kernel
theorem dX7_alter_91 : decode cX7_alter 91 = .ok (.iconst (-1), 1) := by decide +kernel
theorem dX7_alter_92 : decode cX7_alter 92 = .ok (.ireturn, 1) := by decide +kernel
theorem dX7_alter_93 : decode cX7_alter 93 = .ok (.iload_n 3, 1) := by decide +kernel
theorem dX7_alter_94 : decode cX7_alter 94 = .ok (.iconst 0, 1) := by decide +kernel
theorem dX7_alter_95 : decode cX7_alter 95 = .ok (.iconst 3, 1) := by decide +kernel
theorem dX7_alter_96 : decode cX7_alter 96 = .ok (.invokestatic 67, 3) := by decide +kernel
theorem dX7_alter_99 : decode cX7_alter 99 = .ok (.ifCond .eq 18, 3) := by decide +kernel
theorem dX7_alter_102 : decode cX7_alter 102 = .ok (.aload_n 0, 1) := by decide +kernel
theorem dX7_alter_103 : decode cX7_alter 103 = .ok (.getfield 10, 3) := by decide +kernel
theorem dX7_alter_106 : decode cX7_alter 106 = .ok (.getfield 145, 3) := by decide +kernel
theorem dX7_alter_109 : decode cX7_alter 109 = .ok (.iload_n 1, 1) := by decide +kernel
theorem dX7_alter_110 : decode cX7_alter 110 = .ok (.iload_n 3, 1) := by decide +kernel
theorem dX7_alter_111 : decode cX7_alter 111 = .ok (.invokestatic 157, 3) := by decide +kernel
theorem dX7_alter_114 : decode cX7_alter 114 = .ok (.goto 4, 3) := by decide +kernel
theorem dX7_alter_117 : decode cX7_alter 117 = .ok (.iconst (-1), 1) := by decide +kernel
theorem dX7_alter_118 : decode cX7_alter 118 = .ok (.ireturn, 1) := by decide +kernel
theorem dX7_alter_119 : decode cX7_alter 119 = .ok (.iconst (-1), 1) := by decide +kernel
theorem dX7_alter_120 : decode cX7_alter 120 = .ok (.ireturn, 1) := by decide +kernel
set_option maxRecDepth 20000 in
theorem ggX7_give_X2_hasBorough : GoodIn wsX7_give wsX2_hasBorough := goodIn_r _ [6, 7, 31, 32, 33, 34, 35, 36, 37, 38] (by decide +kernel) (by decide +kernel)
set_option maxRecDepth 20000 in
theorem gX7_give_X2_hasBorough : GoodIn wsX7_give (wsV RX7 136 RX2 yX2_hasBorough wsX2_hasBorough) := goodIn_app (goodIn_of _ (by decide +kernel)) ggX7_give_X2_hasBorough
set_option maxRecDepth 20000 in
theorem ggX7_give_X2_hasLord : GoodIn wsX7_give wsX2_hasLord := goodIn_r _ [11, 12, 31, 32, 33, 34, 35, 36, 37, 38] (by decide +kernel) (by decide +kernel)
set_option maxRecDepth 20000 in
theorem gX7_give_X2_hasLord : GoodIn wsX7_give (wsV RX7 126 RX2 yX2_hasLord wsX2_hasLord) := goodIn_app (goodIn_of _ (by decide +kernel)) ggX7_give_X2_hasLord
set_option maxRecDepth 20000 in
theorem ggX7_give_X7_swap : GoodIn wsX7_give wsX7_swap := goodIn_r _ [16, 17, 18, 15, 19] (by decide +kernel) (by decide +kernel)
set_option maxRecDepth 20000 in
theorem gX7_give_X7_swap : GoodIn wsX7_give (va_wsS RX7 157 yX7_swap wsX7_swap) := goodIn_app (goodIn_of _ (by decide +kernel)) ggX7_give_X7_swap
theorem dX7_give_0 : decode cX7_give 0 = .ok (.aload_n 0, 1) := by decide +kernel
theorem dX7_give_1 : decode cX7_give 1 = .ok (.getfield 10, 3) := by decide +kernel
theorem dX7_give_4 : decode cX7_give 4 = .ok (.iload_n 1, 1) := by decide +kernel
theorem dX7_give_5 : decode cX7_give 5 = .ok (.invokevirtual 136, 3) := by decide +kernel
theorem dX7_give_8 : decode cX7_give 8 = .ok (.ifCond .eq 20, 3) := by decide +kernel
theorem dX7_give_11 : decode cX7_give 11 = .ok (.iload_n 2, 1) := by decide +kernel
theorem dX7_give_12 : decode cX7_give 12 = .ok (.bipush (-4), 2) := by decide +kernel
theorem dX7_give_14 : decode cX7_give 14 = .ok (.if_icmp .eq 16, 3) := by decide +kernel
theorem dX7_give_17 : decode cX7_give 17 = .ok (.aload_n 0, 1) := by decide +kernel
theorem dX7_give_18 : decode cX7_give 18 = .ok (.getfield 10, 3) := by decide +kernel
theorem dX7_give_21 : decode cX7_give 21 = .ok (.iload_n 2, 1) := by decide +kernel
theorem dX7_give_22 : decode cX7_give 22 = .ok (.invokevirtual 126, 3) := by decide +kernel
theorem dX7_give_25 : decode cX7_give 25 = .ok (.ifCond .ne 5, 3) := by decide +kernel
theorem dX7_give_28 : decode cX7_give 28 = .ok (.iconst (-1), 1) := by decide +kernel
theorem dX7_give_29 : decode cX7_give 29 = .ok (.ireturn, 1) := by decide +kernel
theorem dX7_give_30 : decode cX7_give 30 = .ok (.aload_n 0, 1) := by decide +kernel
theorem dX7_give_31 : decode cX7_give 31 = .ok (.getfield 10, 3) := by decide +kernel
theorem dX7_give_34 : decode cX7_give 34 = .ok (.getfield 148, 3) := by decide +kernel
theorem dX7_give_37 : decode cX7_give 37 = .ok (.iload_n 1, 1) := by decide +kernel
theorem dX7_give_38 : decode cX7_give 38 = .ok (.iload_n 2, 1) := by decide +kernel
theorem dX7_give_39 : decode cX7_give 39 = .ok (.invokestatic 157, 3) := by decide +kernel
theorem dX7_give_42 : decode cX7_give 42 = .ok (.ireturn, 1) := by decide +kernel
set_option maxRecDepth 20000 in
theorem ggX7_purse_X2_hasLord : GoodIn wsX7_purse wsX2_hasLord := goodIn_r _ [6, 7, 26, 27, 28, 29, 30, 31, 32, 33] (by decide +kernel) (by decide +kernel)
set_option maxRecDepth 20000 in
theorem gX7_purse_X2_hasLord : GoodIn wsX7_purse (wsV RX7 126 RX2 yX2_hasLord wsX2_hasLord) := goodIn_app (goodIn_of _ (by decide +kernel)) ggX7_purse_X2_hasLord
set_option maxRecDepth 20000 in
theorem ggX7_purse_X7_within : GoodIn wsX7_purse wsX7_within := goodIn_r _ [11] (by decide +kernel) (by decide +kernel)
set_option maxRecDepth 20000 in
theorem gX7_purse_X7_within : GoodIn wsX7_purse (va_wsS RX7 67 yX7_within wsX7_within) := goodIn_app (goodIn_of _ (by decide +kernel)) ggX7_purse_X7_within
set_option maxRecDepth 20000 in
theorem ggX7_purse_X7_swap : GoodIn wsX7_purse wsX7_swap := goodIn_r _ [14, 8, 9, 10, 11] (by decide +kernel) (by decide +kernel)
set_option maxRecDepth 20000 in
theorem gX7_purse_X7_swap : GoodIn wsX7_purse (va_wsS RX7 157 yX7_swap wsX7_swap) := goodIn_app (goodIn_of _ (by decide +kernel)) ggX7_purse_X7_swap
theorem dX7_purse_0 : decode cX7_purse 0 = .ok (.aload_n 0, 1) := by decide +kernel
theorem dX7_purse_1 : decode cX7_purse 1 = .ok (.getfield 10, 3) := by decide +kernel
theorem dX7_purse_4 : decode cX7_purse 4 = .ok (.iload_n 1, 1) := by decide +kernel
theorem dX7_purse_5 : decode cX7_purse 5 = .ok (.invokevirtual 126, 3) := by decide +kernel
theorem dX7_purse_8 : decode cX7_purse 8 = .ok (.ifCond .eq 13, 3) := by decide +kernel
theorem dX7_purse_11 : decode cX7_purse 11 = .ok (.iload_n 2, 1) := by decide +kernel
theorem dX7_purse_12 : decode cX7_purse 12 = .ok (.iconst 0, 1) := by decide +kernel
theorem dX7_purse_13 : decode cX7_purse 13 = .ok (.bipush 99, 2) := by decide +kernel
theorem dX7_purse_15 : decode cX7_purse 15 = .ok (.invokestatic 67, 3) := by decide +kernel
theorem dX7_purse_18 : decode cX7_purse 18 = .ok (.ifCond .ne 5, 3) := by decide +kernel
theorem dX7_purse_21 : decode cX7_purse 21 = .ok (.iconst (-1), 1) := by decide +kernel
theorem dX7_purse_22 : decode cX7_purse 22 = .ok (.ireturn, 1) := by decide +kernel
theorem dX7_purse_23 : decode cX7_purse 23 = .ok (.aload_n 0, 1) := by decide +kernel
theorem dX7_purse_24 : decode cX7_purse 24 = .ok (.getfield 10, 3) := by decide +kernel
theorem dX7_purse_27 : decode cX7_purse 27 = .ok (.getfield 129, 3) := by decide +kernel
theorem dX7_purse_30 : decode cX7_purse 30 = .ok (.iload_n 1, 1) := by decide +kernel
theorem dX7_purse_31 : decode cX7_purse 31 = .ok (.iload_n 2, 1) := by decide +kernel
theorem dX7_purse_32 : decode cX7_purse 32 = .ok (.invokestatic 157, 3) := by decide +kernel
theorem dX7_purse_35 : decode cX7_purse 35 = .ok (.ireturn, 1) := by decide +kernel
set_option maxRecDepth 20000 in
theorem ggX7_price_X7_within : GoodIn wsX7_price wsX7_within := goodIn_r _ [5] (by decide +kernel) (by decide +kernel)
set_option maxRecDepth 20000 in
theorem gX7_price_X7_within : GoodIn wsX7_price (va_wsS RX7 67 yX7_within wsX7_within) := goodIn_app (goodIn_of _ (by decide +kernel)) ggX7_price_X7_within
theorem dX7_price_0 : decode cX7_price 0 = .ok (.iload_n 1, 1) := by decide +kernel
theorem dX7_price_1 : decode cX7_price 1 = .ok (.iconst 0, 1) := by decide +kernel
theorem dX7_price_2 : decode cX7_price 2 = .ok (.bipush 9, 2) := by decide +kernel
theorem dX7_price_4 : decode cX7_price 4 = .ok (.invokestatic 67, 3) := by decide +kernel
theorem dX7_price_7 : decode cX7_price 7 = .ok (.ifCond .ne 5, 3) := by decide +kernel
theorem dX7_price_10 : decode cX7_price 10 = .ok (.iconst (-1), 1) := by decide +kernel
theorem dX7_price_11 : decode cX7_price 11 = .ok (.ireturn, 1) := by decide +kernel
theorem dX7_price_12 : decode cX7_price 12 = .ok (.aload_n 0, 1) := by decide +kernel
theorem dX7_price_13 : decode cX7_price 13 = .ok (.getfield 10, 3) := by decide +kernel
theorem dX7_price_16 : decode cX7_price 16 = .ok (.getfield 107, 3) := by decide +kernel
theorem dX7_price_19 : decode cX7_price 19 = .ok (.istore_n 2, 1) := by decide +kernel
theorem dX7_price_20 : decode cX7_price 20 = .ok (.aload_n 0, 1) := by decide +kernel
theorem dX7_price_21 : decode cX7_price 21 = .ok (.getfield 10, 3) := by decide +kernel
theorem dX7_price_24 : decode cX7_price 24 = .ok (.iload_n 1, 1) := by decide +kernel
theorem dX7_price_25 : decode cX7_price 25 = .ok (.putfield 107, 3) := by decide +kernel
theorem dX7_price_28 : decode cX7_price 28 = .ok (.iload_n 2, 1) := by decide +kernel
theorem dX7_price_29 : decode cX7_price 29 = .ok (.ireturn, 1) := by decide +kernel
set_option maxRecDepth 20000 in
theorem ggX7_buy_X2_hasLord : GoodIn wsX7_buy wsX2_hasLord := goodIn_r _ [6, 7, 51, 52, 53, 54, 55, 56, 57, 58] (by decide +kernel) (by decide +kernel)
set_option maxRecDepth 20000 in
theorem gX7_buy_X2_hasLord : GoodIn wsX7_buy (wsV RX7 126 RX2 yX2_hasLord wsX2_hasLord) := goodIn_app (goodIn_of _ (by decide +kernel)) ggX7_buy_X2_hasLord
set_option maxRecDepth 20000 in
theorem ggX7_buy_X2_hasBorough : GoodIn wsX7_buy wsX2_hasBorough := goodIn_r _ [11, 12, 51, 52, 53, 54, 55, 56, 57, 58] (by decide +kernel) (by decide +kernel)
set_option maxRecDepth 20000 in
theorem gX7_buy_X2_hasBorough : GoodIn wsX7_buy (wsV RX7 136 RX2 yX2_hasBorough wsX2_hasBorough) := goodIn_app (goodIn_of _ (by decide +kernel)) ggX7_buy_X2_hasBorough
set_option maxRecDepth 20000 in
theorem ggX7_buy_X2_sell : GoodIn wsX7_buy wsX2_sell := goodIn_r _ [16, 17, 18, 19, 20, 21, 22, 23, 24, 25, 5, 26, 27, 3, 4, 6, 7, 28, 9, 10, 11, 12, 29, 30, 31, 32, 33, 34, 35, 36, 37, 38, 39, 51, 52, 53, 54, 55, 56, 57, 58] (by decide +kernel) (by decide +kernel)
set_option maxRecDepth 20000 in
theorem gX7_buy_X2_sell : GoodIn wsX7_buy (wsV RX7 161 RX2 yX2_sell wsX2_sell) := goodIn_app (goodIn_of _ (by decide +kernel)) ggX7_buy_X2_sell
theorem dX7_buy_0 : decode cX7_buy 0 = .ok (.aload_n 0, 1) := by decide +kernel
theorem dX7_buy_1 : decode cX7_buy 1 = .ok (.getfield 10, 3) := by decide +kernel
theorem dX7_buy_4 : decode cX7_buy 4 = .ok (.iload_n 1, 1) := by decide +kernel
theorem dX7_buy_5 : decode cX7_buy 5 = .ok (.invokevirtual 126, 3) := by decide +kernel
theorem dX7_buy_8 : decode cX7_buy 8 = .ok (.ifCond .eq 14, 3) := by decide +kernel
theorem dX7_buy_11 : decode cX7_buy 11 = .ok (.aload_n 0, 1) := by decide +kernel
theorem dX7_buy_12 : decode cX7_buy 12 = .ok (.getfield 10, 3) := by decide +kernel
theorem dX7_buy_15 : decode cX7_buy 15 = .ok (.iload_n 2, 1) := by decide +kernel
theorem dX7_buy_16 : decode cX7_buy 16 = .ok (.invokevirtual 136, 3) := by decide +kernel
theorem dX7_buy_19 : decode cX7_buy 19 = .ok (.ifCond .ne 5, 3) := by decide +kernel
theorem dX7_buy_22 : decode cX7_buy 22 = .ok (.iconst (-1), 1) := by decide +kernel
theorem dX7_buy_23 : decode cX7_buy 23 = .ok (.ireturn, 1) := by decide +kernel
theorem dX7_buy_24 : decode cX7_buy 24 = .ok (.aload_n 0, 1) := by decide +kernel
theorem dX7_buy_25 : decode cX7_buy 25 = .ok (.getfield 10, 3) := by decide +kernel
theorem dX7_buy_28 : decode cX7_buy 28 = .ok (.iload_n 1, 1) := by decide +kernel
theorem dX7_buy_29 : decode cX7_buy 29 = .ok (.iload_n 2, 1) := by decide +kernel
theorem dX7_buy_30 : decode cX7_buy 30 = .ok (.invokevirtual 161, 3) := by decide +kernel
theorem dX7_buy_33 : decode cX7_buy 33 = .ok (.ifCond .eq 15, 3) := by decide +kernel
theorem dX7_buy_36 : decode cX7_buy 36 = .ok (.aload_n 0, 1) := by decide +kernel
theorem dX7_buy_37 : decode cX7_buy 37 = .ok (.getfield 10, 3) := by decide +kernel
theorem dX7_buy_40 : decode cX7_buy 40 = .ok (.getfield 129, 3) := by decide +kernel
theorem dX7_buy_43 : decode cX7_buy 43 = .ok (.iload_n 1, 1) := by decide +kernel
theorem dX7_buy_44 : decode cX7_buy 44 = .ok (.iaload, 1) := by decide +kernel
theorem dX7_buy_45 : decode cX7_buy 45 = .ok (.goto 5, 3) := by decide +kernel
theorem dX7_buy_48 : decode cX7_buy 48 = .ok (.bipush (-2), 2) := by decide +kernel
theorem dX7_buy_50 : decode cX7_buy 50 = .ok (.ireturn, 1) := by decide +kernel
set_option maxRecDepth 20000 in
theorem ggX7_take_X7_within : GoodIn wsX7_take wsX7_within := goodIn_r _ [6] (by decide +kernel) (by decide +kernel)
set_option maxRecDepth 20000 in
theorem gX7_take_X7_within : GoodIn wsX7_take (va_wsS RX7 67 yX7_within wsX7_within) := goodIn_app (goodIn_of _ (by decide +kernel)) ggX7_take_X7_within
set_option maxRecDepth 20000 in
theorem ggX7_take_X4_rank : GoodIn wsX7_take wsX4_rank := goodIn_r _ [11, 12, 13, 14, 15, 10, 16, 17, 18, 19, 20, 21, 22, 23, 24, 25, 26, 27, 28, 29, 48, 49, 50, 51, 52, 53, 54, 55, 56, 57] (by decide +kernel) (by decide +kernel)
set_option maxRecDepth 20000 in
theorem gX7_take_X4_rank : GoodIn wsX7_take (wsV RX7 165 RX4 yX4_rank wsX4_rank) := goodIn_app (goodIn_of _ (by decide +kernel)) ggX7_take_X4_rank
set_option maxRecDepth 20000 in
theorem ggX7_take_X4_first : GoodIn wsX7_take wsX4_first := goodIn_r _ [33, 12, 17, 48, 49] (by decide +kernel) (by decide +kernel)
set_option maxRecDepth 20000 in
theorem gX7_take_X4_first : GoodIn wsX7_take (wsV RX7 169 RX4 yX4_first wsX4_first) := goodIn_app (goodIn_of _ (by decide +kernel)) ggX7_take_X4_first
set_option maxRecDepth 20000 in
theorem ggX7_take_X7_holds : GoodIn wsX7_take wsX7_holds := goodIn_r _ [36] (by decide +kernel) (by decide +kernel)
set_option maxRecDepth 20000 in
theorem gX7_take_X7_holds : GoodIn wsX7_take (va_wsS RX7 172 yX7_holds wsX7_holds) := goodIn_app (goodIn_of _ (by decide +kernel)) ggX7_take_X7_holds
theorem dX7_take_0 : decode cX7_take 0 = .ok (.iload_n 1, 1) := by decide +kernel
theorem dX7_take_1 : decode cX7_take 1 = .ok (.iconst 0, 1) := by decide +kernel
theorem dX7_take_2 : decode cX7_take 2 = .ok (.bipush 6, 2) := by decide +kernel
theorem dX7_take_4 : decode cX7_take 4 = .ok (.invokestatic 67, 3) := by decide +kernel
theorem dX7_take_7 : decode cX7_take 7 = .ok (.ifCond .ne 5, 3) := by decide +kernel
theorem dX7_take_10 : decode cX7_take 10 = .ok (.iconst (-1), 1) := by decide +kernel
theorem dX7_take_11 : decode cX7_take 11 = .ok (.ireturn, 1) := by decide +kernel
theorem dX7_take_12 : decode cX7_take 12 = .ok (.aload_n 0, 1) := by decide +kernel
theorem dX7_take_13 : decode cX7_take 13 = .ok (.getfield 56, 3) := by decide +kernel
theorem dX7_take_16 : decode cX7_take 16 = .ok (.aload_n 0, 1) := by decide +kernel
theorem dX7_take_17 : decode cX7_take 17 = .ok (.getfield 10, 3) := by decide +kernel
theorem dX7_take_20 : decode cX7_take 20 = .ok (.invokevirtual 165, 3) := by decide +kernel
theorem dX7_take_23 : decode cX7_take 23 = .ok (.iload_n 1, 1) := by decide +kernel
theorem dX7_take_24 : decode cX7_take 24 = .ok (.aload_n 0, 1) := by decide +kernel
theorem dX7_take_25 : decode cX7_take 25 = .ok (.getfield 56, 3) := by decide +kernel
theorem dX7_take_28 : decode cX7_take 28 = .ok (.getfield 168, 3) := by decide +kernel
theorem dX7_take_31 : decode cX7_take 31 = .ok (.if_icmp .le 6, 3) := by decide +kernel
theorem dX7_take_34 : decode cX7_take 34 = .ok (.bipush (-4), 2) := by decide +kernel
theorem dX7_take_36 : decode cX7_take 36 = .ok (.ireturn, 1) := by decide +kernel
theorem dX7_take_37 : decode cX7_take 37 = .ok (.aload_n 0, 1) := by decide +kernel
theorem dX7_take_38 : decode cX7_take 38 = .ok (.getfield 56, 3) := by decide +kernel
theorem dX7_take_41 : decode cX7_take 41 = .ok (.iload_n 1, 1) := by decide +kernel
theorem dX7_take_42 : decode cX7_take 42 = .ok (.invokevirtual 169, 3) := by decide +kernel
theorem dX7_take_45 : decode cX7_take 45 = .ok (.istore_n 2, 1) := by decide +kernel
theorem dX7_take_46 : decode cX7_take 46 = .ok (.iconst 0, 1) := by decide +kernel
theorem dX7_take_47 : decode cX7_take 47 = .ok (.istore_n 3, 1) := by decide +kernel
theorem dX7_take_48 : decode cX7_take 48 = .ok (.iload_n 3, 1) := by decide +kernel
theorem dX7_take_49 : decode cX7_take 49 = .ok (.aload_n 0, 1) := by decide +kernel
theorem dX7_take_50 : decode cX7_take 50 = .ok (.getfield 10, 3) := by decide +kernel
theorem dX7_take_53 : decode cX7_take 53 = .ok (.getfield 104, 3) := by decide +kernel
theorem dX7_take_56 : decode cX7_take 56 = .ok (.if_icmp .ge 27, 3) := by decide +kernel
theorem dX7_take_59 : decode cX7_take 59 = .ok (.iload_n 2, 1) := by decide +kernel
theorem dX7_take_60 : decode cX7_take 60 = .ok (.iload_n 3, 1) := by decide +kernel
theorem dX7_take_61 : decode cX7_take 61 = .ok (.invokestatic 172, 3) := by decide +kernel
theorem dX7_take_64 : decode cX7_take 64 = .ok (.ifCond .eq 13, 3) := by decide +kernel
theorem dX7_take_67 : decode cX7_take 67 = .ok (.aload_n 0, 1) := by decide +kernel
theorem dX7_take_68 : decode cX7_take 68 = .ok (.getfield 10, 3) := by decide +kernel
theorem dX7_take_71 : decode cX7_take 71 = .ok (.getfield 145, 3) := by decide +kernel
theorem dX7_take_74 : decode cX7_take 74 = .ok (.iload_n 3, 1) := by decide +kernel
theorem dX7_take_75 : decode cX7_take 75 = .ok (.iconst 0, 1) := by decide +kernel
theorem dX7_take_76 : decode cX7_take 76 = .ok (.iastore, 1) := by decide +kernel
theorem dX7_take_77 : decode cX7_take 77 = .ok (.iinc 3 1, 3) := by decide +kernel
theorem dX7_take_80 : decode cX7_take 80 = .ok (.goto (-32), 3) := by decide +kernel
theorem dX7_take_83 : decode cX7_take 83 = .ok (.iload_n 2, 1) := by decide +kernel
theorem dX7_take_84 : decode cX7_take 84 = .ok (.ireturn, 1) := by decide +kernel
set_option maxRecDepth 20000 in
theorem ggX7_carry_X2_hasLords : GoodIn wsX7_carry wsX2_hasLords := goodIn_r _ [6, 7, 8, 9, 5, 10, 11, 47, 48, 49, 50, 51, 52, 53, 54] (by decide +kernel) (by decide +kernel)
set_option maxRecDepth 20000 in
theorem gX7_carry_X2_hasLords : GoodIn wsX7_carry (wsV RX7 175 RX2 yX2_hasLords wsX2_hasLords) := goodIn_app (goodIn_of _ (by decide +kernel)) ggX7_carry_X2_hasLords
set_option maxRecDepth 20000 in
theorem ggX7_carry_X2_heldBy : GoodIn wsX7_carry wsX2_heldBy := goodIn_r _ [15, 16, 17, 18, 19, 20, 47, 48, 49, 50, 51, 52, 53, 54] (by decide +kernel) (by decide +kernel)
set_option maxRecDepth 20000 in
theorem gX7_carry_X2_heldBy : GoodIn wsX7_carry (wsV RX7 133 RX2 yX2_heldBy wsX2_heldBy) := goodIn_app (goodIn_of _ (by decide +kernel)) ggX7_carry_X2_heldBy
set_option maxRecDepth 20000 in
theorem ggX7_carry_X2_seatsIn : GoodIn wsX7_carry wsX2_seatsIn := goodIn_r _ [24, 16, 25, 18, 19, 20, 47, 48, 49, 50, 51, 52, 53, 54] (by decide +kernel) (by decide +kernel)
set_option maxRecDepth 20000 in
theorem gX7_carry_X2_seatsIn : GoodIn wsX7_carry (wsV RX7 113 RX2 yX2_seatsIn wsX2_seatsIn) := goodIn_app (goodIn_of _ (by decide +kernel)) ggX7_carry_X2_seatsIn
set_option maxRecDepth 20000 in
theorem ggX7_carry_X2_carries : GoodIn wsX7_carry wsX2_carries := goodIn_r _ [29, 30, 13, 14, 5, 15, 16, 17, 18, 19, 20, 31, 22, 23, 24, 25, 32, 33, 34, 35, 47, 48, 49, 50, 51, 52, 53, 54] (by decide +kernel) (by decide +kernel)
set_option maxRecDepth 20000 in
theorem gX7_carry_X2_carries : GoodIn wsX7_carry (wsV RX7 178 RX2 yX2_carries wsX2_carries) := goodIn_app (goodIn_of _ (by decide +kernel)) ggX7_carry_X2_carries
theorem dX7_carry_0 : decode cX7_carry 0 = .ok (.aload_n 0, 1) := by decide +kernel
theorem dX7_carry_1 : decode cX7_carry 1 = .ok (.getfield 10, 3) := by decide +kernel
theorem dX7_carry_4 : decode cX7_carry 4 = .ok (.iload_n 1, 1) := by decide +kernel
theorem dX7_carry_5 : decode cX7_carry 5 = .ok (.invokevirtual 175, 3) := by decide +kernel
theorem dX7_carry_8 : decode cX7_carry 8 = .ok (.ifCond .ne 5, 3) := by decide +kernel
theorem dX7_carry_11 : decode cX7_carry 11 = .ok (.iconst (-1), 1) := by decide +kernel
theorem dX7_carry_12 : decode cX7_carry 12 = .ok (.ireturn, 1) := by decide +kernel
theorem dX7_carry_13 : decode cX7_carry 13 = .ok (.iload_n 2, 1) := by decide +kernel
theorem dX7_carry_14 : decode cX7_carry 14 = .ok (.lookupswitch 59 #[(0, 26), (1, 42)], 26) := by decide +kernel
theorem dX7_carry_40 : decode cX7_carry 40 = .ok (.aload_n 0, 1) := by decide +kernel
theorem dX7_carry_41 : decode cX7_carry 41 = .ok (.getfield 10, 3) := by decide +kernel
theorem dX7_carry_44 : decode cX7_carry 44 = .ok (.aload_n 0, 1) := by decide +kernel
theorem dX7_carry_45 : decode cX7_carry 45 = .ok (.getfield 10, 3) := by decide +kernel
theorem dX7_carry_48 : decode cX7_carry 48 = .ok (.iload_n 1, 1) := by decide +kernel
theorem dX7_carry_49 : decode cX7_carry 49 = .ok (.invokevirtual 133, 3) := by decide +kernel
theorem dX7_carry_52 : decode cX7_carry 52 = .ok (.invokevirtual 113, 3) := by decide +kernel
theorem dX7_carry_55 : decode cX7_carry 55 = .ok (.ireturn, 1) := by decide +kernel
theorem dX7_carry_56 : decode cX7_carry 56 = .ok (.aload_n 0, 1) := by decide +kernel
theorem dX7_carry_57 : decode cX7_carry 57 = .ok (.getfield 10, 3) := by decide +kernel
theorem dX7_carry_60 : decode cX7_carry 60 = .ok (.iload_n 1, 1) := by decide +kernel
theorem dX7_carry_61 : decode cX7_carry 61 = .ok (.invokevirtual 178, 3) := by decide +kernel
theorem dX7_carry_64 : decode cX7_carry 64 = .ok (.ifCond .eq 7, 3) := by decide +kernel
theorem dX7_carry_67 : decode cX7_carry 67 = .ok (.iconst 1, 1) := by decide +kernel
theorem dX7_carry_68 : decode cX7_carry 68 = .ok (.goto 4, 3) := by decide +kernel
theorem dX7_carry_71 : decode cX7_carry 71 = .ok (.iconst 0, 1) := by decide +kernel
theorem dX7_carry_72 : decode cX7_carry 72 = .ok (.ireturn, 1) := by decide +kernel
theorem dX7_carry_73 : decode cX7_carry 73 = .ok (.iconst (-1), 1) := by decide +kernel
theorem dX7_carry_74 : decode cX7_carry 74 = .ok (.ireturn, 1) := by decide +kernel
set_option maxRecDepth 20000 in
theorem ggX7_swings_X2_hasLord : GoodIn wsX7_swings wsX2_hasLord := goodIn_r _ [7, 8, 69, 70, 71, 72, 73, 74, 75, 76] (by decide +kernel) (by decide +kernel)
set_option maxRecDepth 20000 in
theorem gX7_swings_X2_hasLord : GoodIn wsX7_swings (wsV RX7 126 RX2 yX2_hasLord wsX2_hasLord) := goodIn_app (goodIn_of _ (by decide +kernel)) ggX7_swings_X2_hasLord
set_option maxRecDepth 20000 in
theorem ggX7_swings_X0_gather : GoodIn wsX7_swings wsX0_gather := goodIn_r _ [13, 14, 15, 16, 17, 18, 6, 19, 20, 21, 22, 23, 24, 25, 26, 27, 28, 29, 30, 31, 32, 33, 34, 35, 36, 12, 37, 38, 77, 78, 79, 80, 69, 70, 71, 72, 73, 74, 75, 76] (by decide +kernel) (by decide +kernel)
set_option maxRecDepth 20000 in
theorem gX7_swings_X0_gather : GoodIn wsX7_swings (wsV RX7 181 RX0 yX0_gather wsX0_gather) := goodIn_app (goodIn_of _ (by decide +kernel)) ggX7_swings_X0_gather
set_option maxRecDepth 20000 in
theorem ggX7_swings_X0_swingsOf : GoodIn wsX7_swings wsX0_swingsOf := goodIn_r _ [42, 14, 43, 27, 44, 45, 46, 47, 12, 48, 49, 38, 50, 51, 52, 53, 54, 55, 56, 57, 15, 77, 78, 79, 80] (by decide +kernel) (by decide +kernel)
set_option maxRecDepth 20000 in
theorem gX7_swings_X0_swingsOf : GoodIn wsX7_swings (wsV RX7 184 RX0 yX0_swingsOf wsX0_swingsOf) := goodIn_app (goodIn_of _ (by decide +kernel)) ggX7_swings_X0_swingsOf
theorem dX7_swings_0 : decode cX7_swings 0 = .ok (.aload_n 0, 1) := by decide +kernel
theorem dX7_swings_1 : decode cX7_swings 1 = .ok (.getfield 10, 3) := by decide +kernel
theorem dX7_swings_4 : decode cX7_swings 4 = .ok (.iload_n 1, 1) := by decide +kernel
theorem dX7_swings_5 : decode cX7_swings 5 = .ok (.invokevirtual 126, 3) := by decide +kernel
theorem dX7_swings_8 : decode cX7_swings 8 = .ok (.ifCond .ne 5, 3) := by decide +kernel
theorem dX7_swings_11 : decode cX7_swings 11 = .ok (.iconst (-1), 1) := by decide +kernel
theorem dX7_swings_12 : decode cX7_swings 12 = .ok (.ireturn, 1) := by decide +kernel
theorem dX7_swings_13 : decode cX7_swings 13 = .ok (.aload_n 0, 1) := by decide +kernel
theorem dX7_swings_14 : decode cX7_swings 14 = .ok (.getfield 42, 3) := by decide +kernel
theorem dX7_swings_17 : decode cX7_swings 17 = .ok (.aload_n 0, 1) := by decide +kernel
theorem dX7_swings_18 : decode cX7_swings 18 = .ok (.getfield 10, 3) := by decide +kernel
theorem dX7_swings_21 : decode cX7_swings 21 = .ok (.invokevirtual 181, 3) := by decide +kernel
theorem dX7_swings_24 : decode cX7_swings 24 = .ok (.aload_n 0, 1) := by decide +kernel
theorem dX7_swings_25 : decode cX7_swings 25 = .ok (.getfield 42, 3) := by decide +kernel
theorem dX7_swings_28 : decode cX7_swings 28 = .ok (.iload_n 1, 1) := by decide +kernel
theorem dX7_swings_29 : decode cX7_swings 29 = .ok (.invokevirtual 184, 3) := by decide +kernel
theorem dX7_swings_32 : decode cX7_swings 32 = .ok (.ireturn, 1) := by decide +kernel
set_option maxRecDepth 20000 in
theorem ggX7_share_X2_hasLord : GoodIn wsX7_share wsX2_hasLord := goodIn_r _ [9, 10, 80, 81, 82, 83, 84, 85, 86, 87] (by decide +kernel) (by decide +kernel)
set_option maxRecDepth 20000 in
theorem gX7_share_X2_hasLord : GoodIn wsX7_share (wsV RX7 126 RX2 yX2_hasLord wsX2_hasLord) := goodIn_app (goodIn_of _ (by decide +kernel)) ggX7_share_X2_hasLord
set_option maxRecDepth 20000 in
theorem ggX7_share_X7_within : GoodIn wsX7_share wsX7_within := goodIn_r _ [14] (by decide +kernel) (by decide +kernel)
set_option maxRecDepth 20000 in
theorem gX7_share_X7_within : GoodIn wsX7_share (va_wsS RX7 67 yX7_within wsX7_within) := goodIn_app (goodIn_of _ (by decide +kernel)) ggX7_share_X7_within
set_option maxRecDepth 20000 in
theorem ggX7_share_X0_gather : GoodIn wsX7_share wsX0_gather := goodIn_r _ [19, 20, 21, 22, 23, 24, 8, 25, 26, 27, 28, 29, 30, 31, 32, 13, 33, 34, 35, 36, 37, 38, 39, 40, 41, 18, 42, 43, 88, 89, 90, 91, 80, 81, 82, 83, 84, 85, 86, 87] (by decide +kernel) (by decide +kernel)
set_option maxRecDepth 20000 in
theorem gX7_share_X0_gather : GoodIn wsX7_share (wsV RX7 181 RX0 yX0_gather wsX0_gather) := goodIn_app (goodIn_of _ (by decide +kernel)) ggX7_share_X0_gather
set_option maxRecDepth 20000 in
theorem ggX7_share_X0_shareOf : GoodIn wsX7_share wsX0_shareOf := goodIn_r _ [47, 20, 48, 49, 12, 13, 14, 50, 51, 52, 18, 53, 54, 43, 55, 56, 57, 58, 59, 60, 61, 62, 21, 88, 89, 90, 91] (by decide +kernel) (by decide +kernel)
set_option maxRecDepth 20000 in
theorem gX7_share_X0_shareOf : GoodIn wsX7_share (wsV RX7 189 RX0 yX0_shareOf wsX0_shareOf) := goodIn_app (goodIn_of _ (by decide +kernel)) ggX7_share_X0_shareOf
set_option maxRecDepth 20000 in
theorem ggX7_share_X7_fraction : GoodIn wsX7_share wsX7_fraction := goodIn_r _ [65, 66, 67, 13, 68] (by decide +kernel) (by decide +kernel)
set_option maxRecDepth 20000 in
theorem gX7_share_X7_fraction : GoodIn wsX7_share (va_wsS RX7 194 yX7_fraction wsX7_fraction) := goodIn_app (goodIn_of _ (by decide +kernel)) ggX7_share_X7_fraction
theorem dX7_share_0 : decode cX7_share 0 = .ok (.aload_n 0, 1) := by decide +kernel
theorem dX7_share_1 : decode cX7_share 1 = .ok (.getfield 10, 3) := by decide +kernel
theorem dX7_share_4 : decode cX7_share 4 = .ok (.iload_n 1, 1) := by decide +kernel
theorem dX7_share_5 : decode cX7_share 5 = .ok (.invokevirtual 126, 3) := by decide +kernel
theorem dX7_share_8 : decode cX7_share 8 = .ok (.ifCond .eq 12, 3) := by decide +kernel
theorem dX7_share_11 : decode cX7_share 11 = .ok (.iload_n 2, 1) := by decide +kernel
theorem dX7_share_12 : decode cX7_share 12 = .ok (.iconst 0, 1) := by decide +kernel
theorem dX7_share_13 : decode cX7_share 13 = .ok (.iconst 1, 1) := by decide +kernel
theorem dX7_share_14 : decode cX7_share 14 = .ok (.invokestatic 67, 3) := by decide +kernel
theorem dX7_share_17 : decode cX7_share 17 = .ok (.ifCond .ne 7, 3) := by decide +kernel
theorem dX7_share_20 : decode cX7_share 20 = .ok (.ldc2_w 187, 3) := by decide +kernel
theorem dX7_share_23 : decode cX7_share 23 = .ok (.lreturn, 1) := by decide +kernel
theorem dX7_share_24 : decode cX7_share 24 = .ok (.aload_n 0, 1) := by decide +kernel
theorem dX7_share_25 : decode cX7_share 25 = .ok (.getfield 42, 3) := by decide +kernel
theorem dX7_share_28 : decode cX7_share 28 = .ok (.aload_n 0, 1) := by decide +kernel
theorem dX7_share_29 : decode cX7_share 29 = .ok (.getfield 10, 3) := by decide +kernel
theorem dX7_share_32 : decode cX7_share 32 = .ok (.invokevirtual 181, 3) := by decide +kernel
theorem dX7_share_35 : decode cX7_share 35 = .ok (.aload_n 0, 1) := by decide +kernel
theorem dX7_share_36 : decode cX7_share 36 = .ok (.getfield 42, 3) := by decide +kernel
theorem dX7_share_39 : decode cX7_share 39 = .ok (.iload_n 1, 1) := by decide +kernel
theorem dX7_share_40 : decode cX7_share 40 = .ok (.invokevirtual 189, 3) := by decide +kernel
theorem dX7_share_43 : decode cX7_share 43 = .ok (.i2l, 1) := by decide +kernel
theorem dX7_share_44 : decode cX7_share 44 = .ok (.ldc2_w 192, 3) := by decide +kernel
theorem dX7_share_47 : decode cX7_share 47 = .ok (.iload_n 2, 1) := by decide +kernel
theorem dX7_share_48 : decode cX7_share 48 = .ok (.invokestatic 194, 3) := by decide +kernel
theorem dX7_share_51 : decode cX7_share 51 = .ok (.lreturn, 1) := by decide +kernel
set_option maxRecDepth 20000 in
theorem ggX7_alone_X2_hasBorough : GoodIn wsX7_alone wsX2_hasBorough := goodIn_r _ [10, 11, 91, 92, 93, 94, 95, 96, 97, 98] (by decide +kernel) (by decide +kernel)
set_option maxRecDepth 20000 in
theorem gX7_alone_X2_hasBorough : GoodIn wsX7_alone (wsV RX7 136 RX2 yX2_hasBorough wsX2_hasBorough) := goodIn_app (goodIn_of _ (by decide +kernel)) ggX7_alone_X2_hasBorough
set_option maxRecDepth 20000 in
theorem ggX7_alone_X7_within : GoodIn wsX7_alone wsX7_within := goodIn_r _ [15] (by decide +kernel) (by decide +kernel)
set_option maxRecDepth 20000 in
theorem gX7_alone_X7_within : GoodIn wsX7_alone (va_wsS RX7 67 yX7_within wsX7_within) := goodIn_app (goodIn_of _ (by decide +kernel)) ggX7_alone_X7_within
set_option maxRecDepth 20000 in
theorem ggX7_alone_X0_gather : GoodIn wsX7_alone wsX0_gather := goodIn_r _ [20, 21, 22, 23, 24, 25, 9, 26, 11, 27, 28, 29, 30, 31, 32, 14, 33, 34, 35, 36, 37, 38, 39, 40, 41, 19, 42, 43, 99, 100, 101, 102, 91, 92, 93, 94, 95, 96, 97, 98] (by decide +kernel) (by decide +kernel)
set_option maxRecDepth 20000 in
theorem gX7_alone_X0_gather : GoodIn wsX7_alone (wsV RX7 181 RX0 yX0_gather wsX0_gather) := goodIn_app (goodIn_of _ (by decide +kernel)) ggX7_alone_X0_gather
set_option maxRecDepth 20000 in
theorem ggX7_alone_X2_ownerless : GoodIn wsX7_alone wsX2_ownerless := goodIn_r _ [47, 11, 38, 91, 92, 93, 94, 95, 96, 97, 98] (by decide +kernel) (by decide +kernel)
set_option maxRecDepth 20000 in
theorem gX7_alone_X2_ownerless : GoodIn wsX7_alone (wsV RX7 120 RX2 yX2_ownerless wsX2_ownerless) := goodIn_app (goodIn_of _ (by decide +kernel)) ggX7_alone_X2_ownerless
set_option maxRecDepth 20000 in
theorem ggX7_alone_J6_bitCount_0f7a4 : GoodIn wsX7_alone wsJ6_bitCount_0f7a4 := goodIn_r _ [51, 52, 53, 54] (by decide +kernel) (by decide +kernel)
set_option maxRecDepth 20000 in
theorem gX7_alone_J6_bitCount_0f7a4 : GoodIn wsX7_alone (va_wsS RX7 200 yJ6_bitCount_0f7a4 wsJ6_bitCount_0f7a4) := goodIn_app (goodIn_of _ (by decide +kernel)) ggX7_alone_J6_bitCount_0f7a4
set_option maxRecDepth 20000 in
theorem ggX7_alone_X0_shareOf : GoodIn wsX7_alone wsX0_shareOf := goodIn_r _ [58, 21, 59, 60, 13, 14, 15, 61, 62, 63, 19, 64, 65, 43, 66, 67, 68, 69, 70, 71, 72, 73, 22, 99, 100, 101, 102] (by decide +kernel) (by decide +kernel)
set_option maxRecDepth 20000 in
theorem gX7_alone_X0_shareOf : GoodIn wsX7_alone (wsV RX7 189 RX0 yX0_shareOf wsX0_shareOf) := goodIn_app (goodIn_of _ (by decide +kernel)) ggX7_alone_X0_shareOf
set_option maxRecDepth 20000 in
theorem ggX7_alone_X7_fraction : GoodIn wsX7_alone wsX7_fraction := goodIn_r _ [76, 77, 78, 14, 79] (by decide +kernel) (by decide +kernel)
set_option maxRecDepth 20000 in
theorem gX7_alone_X7_fraction : GoodIn wsX7_alone (va_wsS RX7 194 yX7_fraction wsX7_fraction) := goodIn_app (goodIn_of _ (by decide +kernel)) ggX7_alone_X7_fraction
theorem dX7_alone_0 : decode cX7_alone 0 = .ok (.aload_n 0, 1) := by decide +kernel
theorem dX7_alone_1 : decode cX7_alone 1 = .ok (.getfield 10, 3) := by decide +kernel
theorem dX7_alone_4 : decode cX7_alone 4 = .ok (.iload_n 1, 1) := by decide +kernel
theorem dX7_alone_5 : decode cX7_alone 5 = .ok (.invokevirtual 136, 3) := by decide +kernel
theorem dX7_alone_8 : decode cX7_alone 8 = .ok (.ifCond .eq 12, 3) := by decide +kernel
theorem dX7_alone_11 : decode cX7_alone 11 = .ok (.iload_n 2, 1) := by decide +kernel
theorem dX7_alone_12 : decode cX7_alone 12 = .ok (.iconst 0, 1) := by decide +kernel
theorem dX7_alone_13 : decode cX7_alone 13 = .ok (.iconst 1, 1) := by decide +kernel
theorem dX7_alone_14 : decode cX7_alone 14 = .ok (.invokestatic 67, 3) := by decide +kernel
theorem dX7_alone_17 : decode cX7_alone 17 = .ok (.ifCond .ne 7, 3) := by decide +kernel
theorem dX7_alone_20 : decode cX7_alone 20 = .ok (.ldc2_w 187, 3) := by decide +kernel
theorem dX7_alone_23 : decode cX7_alone 23 = .ok (.lreturn, 1) := by decide +kernel
theorem dX7_alone_24 : decode cX7_alone 24 = .ok (.aload_n 0, 1) := by decide +kernel
theorem dX7_alone_25 : decode cX7_alone 25 = .ok (.getfield 10, 3) := by decide +kernel
theorem dX7_alone_28 : decode cX7_alone 28 = .ok (.getfield 148, 3) := by decide +kernel
theorem dX7_alone_31 : decode cX7_alone 31 = .ok (.iload_n 1, 1) := by decide +kernel
theorem dX7_alone_32 : decode cX7_alone 32 = .ok (.iaload, 1) := by decide +kernel
theorem dX7_alone_33 : decode cX7_alone 33 = .ok (.bipush (-4), 2) := by decide +kernel
theorem dX7_alone_35 : decode cX7_alone 35 = .ok (.if_icmp .eq 7, 3) := by decide +kernel
theorem dX7_alone_38 : decode cX7_alone 38 = .ok (.ldc2_w 198, 3) := by decide +kernel
theorem dX7_alone_41 : decode cX7_alone 41 = .ok (.lreturn, 1) := by decide +kernel
theorem dX7_alone_42 : decode cX7_alone 42 = .ok (.aload_n 0, 1) := by decide +kernel
theorem dX7_alone_43 : decode cX7_alone 43 = .ok (.getfield 42, 3) := by decide +kernel
theorem dX7_alone_46 : decode cX7_alone 46 = .ok (.aload_n 0, 1) := by decide +kernel
theorem dX7_alone_47 : decode cX7_alone 47 = .ok (.getfield 10, 3) := by decide +kernel
theorem dX7_alone_50 : decode cX7_alone 50 = .ok (.invokevirtual 181, 3) := by decide +kernel
theorem dX7_alone_53 : decode cX7_alone 53 = .ok (.aload_n 0, 1) := by decide +kernel
theorem dX7_alone_54 : decode cX7_alone 54 = .ok (.getfield 10, 3) := by decide +kernel
theorem dX7_alone_57 : decode cX7_alone 57 = .ok (.invokevirtual 120, 3) := by decide +kernel
theorem dX7_alone_60 : decode cX7_alone 60 = .ok (.iconst 1, 1) := by decide +kernel
theorem dX7_alone_61 : decode cX7_alone 61 = .ok (.iload_n 1, 1) := by decide +kernel
theorem dX7_alone_62 : decode cX7_alone 62 = .ok (.ishl, 1) := by decide +kernel
theorem dX7_alone_63 : decode cX7_alone 63 = .ok (.iconst 1, 1) := by decide +kernel
theorem dX7_alone_64 : decode cX7_alone 64 = .ok (.isub, 1) := by decide +kernel
theorem dX7_alone_65 : decode cX7_alone 65 = .ok (.iand, 1) := by decide +kernel
theorem dX7_alone_66 : decode cX7_alone 66 = .ok (.invokestatic 200, 3) := by decide +kernel
theorem dX7_alone_69 : decode cX7_alone 69 = .ok (.istore_n 3, 1) := by decide +kernel
theorem dX7_alone_70 : decode cX7_alone 70 = .ok (.aload_n 0, 1) := by decide +kernel
theorem dX7_alone_71 : decode cX7_alone 71 = .ok (.getfield 42, 3) := by decide +kernel
theorem dX7_alone_74 : decode cX7_alone 74 = .ok (.aload_n 0, 1) := by decide +kernel
theorem dX7_alone_75 : decode cX7_alone 75 = .ok (.getfield 10, 3) := by decide +kernel
theorem dX7_alone_78 : decode cX7_alone 78 = .ok (.getfield 101, 3) := by decide +kernel
theorem dX7_alone_81 : decode cX7_alone 81 = .ok (.iload_n 3, 1) := by decide +kernel
theorem dX7_alone_82 : decode cX7_alone 82 = .ok (.iadd, 1) := by decide +kernel
theorem dX7_alone_83 : decode cX7_alone 83 = .ok (.invokevirtual 189, 3) := by decide +kernel
theorem dX7_alone_86 : decode cX7_alone 86 = .ok (.i2l, 1) := by decide +kernel
theorem dX7_alone_87 : decode cX7_alone 87 = .ok (.ldc2_w 192, 3) := by decide +kernel
theorem dX7_alone_90 : decode cX7_alone 90 = .ok (.iload_n 2, 1) := by decide +kernel
theorem dX7_alone_91 : decode cX7_alone 91 = .ok (.invokestatic 194, 3) := by decide +kernel
theorem dX7_alone_94 : decode cX7_alone 94 = .ok (.lreturn, 1) := by decide +kernel
set_option maxRecDepth 20000 in
theorem ggX7_cheap_X2_hasLord : GoodIn wsX7_cheap wsX2_hasLord := goodIn_r _ [6, 7, 70, 71, 72, 73, 74, 75, 76, 77] (by decide +kernel) (by decide +kernel)
set_option maxRecDepth 20000 in
theorem gX7_cheap_X2_hasLord : GoodIn wsX7_cheap (wsV RX7 126 RX2 yX2_hasLord wsX2_hasLord) := goodIn_app (goodIn_of _ (by decide +kernel)) ggX7_cheap_X2_hasLord
set_option maxRecDepth 20000 in
theorem ggX7_cheap_X7_within : GoodIn wsX7_cheap wsX7_within := goodIn_r _ [11] (by decide +kernel) (by decide +kernel)
set_option maxRecDepth 20000 in
theorem gX7_cheap_X7_within : GoodIn wsX7_cheap (va_wsS RX7 67 yX7_within wsX7_within) := goodIn_app (goodIn_of _ (by decide +kernel)) ggX7_cheap_X7_within
set_option maxRecDepth 20000 in
theorem ggX7_cheap_X2_heldBy : GoodIn wsX7_cheap wsX2_heldBy := goodIn_r _ [15, 16, 17, 18, 10, 19, 70, 71, 72, 73, 74, 75, 76, 77] (by decide +kernel) (by decide +kernel)
set_option maxRecDepth 20000 in
theorem gX7_cheap_X2_heldBy : GoodIn wsX7_cheap (wsV RX7 133 RX2 yX2_heldBy wsX2_heldBy) := goodIn_app (goodIn_of _ (by decide +kernel)) ggX7_cheap_X2_heldBy
set_option maxRecDepth 20000 in
theorem ggX7_cheap_X2_everyBorough : GoodIn wsX7_cheap wsX2_everyBorough := goodIn_r _ [23, 16, 70, 71, 72, 73, 74, 75, 76, 77] (by decide +kernel) (by decide +kernel)
set_option maxRecDepth 20000 in
theorem gX7_cheap_X2_everyBorough : GoodIn wsX7_cheap (wsV RX7 110 RX2 yX2_everyBorough wsX2_everyBorough) := goodIn_app (goodIn_of _ (by decide +kernel)) ggX7_cheap_X2_everyBorough
set_option maxRecDepth 20000 in
theorem ggX7_cheap_X2_seatsIn : GoodIn wsX7_cheap wsX2_seatsIn := goodIn_r _ [27, 16, 28, 18, 10, 19, 70, 71, 72, 73, 74, 75, 76, 77] (by decide +kernel) (by decide +kernel)
set_option maxRecDepth 20000 in
theorem gX7_cheap_X2_seatsIn : GoodIn wsX7_cheap (wsV RX7 113 RX2 yX2_seatsIn wsX2_seatsIn) := goodIn_app (goodIn_of _ (by decide +kernel)) ggX7_cheap_X2_seatsIn
set_option maxRecDepth 20000 in
theorem ggX7_cheap_X2_cheapestMajority : GoodIn wsX7_cheap wsX2_cheapestMajority := goodIn_r _ [32, 33, 21, 22, 5, 23, 16, 34, 25, 26, 27, 28, 18, 10, 19, 35, 36, 37, 38, 39, 40, 41, 42, 43, 44, 45, 46, 47, 48, 49, 50, 51, 52, 53, 70, 71, 72, 73, 74, 75, 76, 77] (by decide +kernel) (by decide +kernel)
set_option maxRecDepth 20000 in
theorem gX7_cheap_X2_cheapestMajority : GoodIn wsX7_cheap (wsV RX7 205 RX2 yX2_cheapestMajority wsX2_cheapestMajority) := goodIn_app (goodIn_of _ (by decide +kernel)) ggX7_cheap_X2_cheapestMajority
set_option maxRecDepth 20000 in
theorem ggX7_cheap_X7_costOrSet : GoodIn wsX7_cheap wsX7_costOrSet := goodIn_r _ [57, 1, 58, 36, 37, 5, 38, 16, 18, 10, 19, 39, 40, 41, 42, 43, 44, 45, 46, 47, 48, 49, 50, 51, 52, 53, 59, 60, 61, 62, 63, 64, 65, 66, 67, 68, 69, 70, 71, 72, 73, 74, 75, 76, 77] (by decide +kernel) (by decide +kernel)
set_option maxRecDepth 20000 in
theorem gX7_cheap_X7_costOrSet : GoodIn wsX7_cheap (wsV RX7 209 RX7 yX7_costOrSet wsX7_costOrSet) := goodIn_app (goodIn_of _ (by decide +kernel)) ggX7_cheap_X7_costOrSet
theorem dX7_cheap_0 : decode cX7_cheap 0 = .ok (.aload_n 0, 1) := by decide +kernel
theorem dX7_cheap_1 : decode cX7_cheap 1 = .ok (.getfield 10, 3) := by decide +kernel
theorem dX7_cheap_4 : decode cX7_cheap 4 = .ok (.iload_n 1, 1) := by decide +kernel
theorem dX7_cheap_5 : decode cX7_cheap 5 = .ok (.invokevirtual 126, 3) := by decide +kernel
theorem dX7_cheap_8 : decode cX7_cheap 8 = .ok (.ifCond .eq 12, 3) := by decide +kernel
theorem dX7_cheap_11 : decode cX7_cheap 11 = .ok (.iload_n 2, 1) := by decide +kernel
theorem dX7_cheap_12 : decode cX7_cheap 12 = .ok (.iconst 0, 1) := by decide +kernel
theorem dX7_cheap_13 : decode cX7_cheap 13 = .ok (.iconst 1, 1) := by decide +kernel
theorem dX7_cheap_14 : decode cX7_cheap 14 = .ok (.invokestatic 67, 3) := by decide +kernel
theorem dX7_cheap_17 : decode cX7_cheap 17 = .ok (.ifCond .ne 5, 3) := by decide +kernel
theorem dX7_cheap_20 : decode cX7_cheap 20 = .ok (.iconst (-1), 1) := by decide +kernel
theorem dX7_cheap_21 : decode cX7_cheap 21 = .ok (.ireturn, 1) := by decide +kernel
theorem dX7_cheap_22 : decode cX7_cheap 22 = .ok (.aload_n 0, 1) := by decide +kernel
theorem dX7_cheap_23 : decode cX7_cheap 23 = .ok (.getfield 10, 3) := by decide +kernel
theorem dX7_cheap_26 : decode cX7_cheap 26 = .ok (.iconst 1, 1) := by decide +kernel
theorem dX7_cheap_27 : decode cX7_cheap 27 = .ok (.iload_n 1, 1) := by decide +kernel
theorem dX7_cheap_28 : decode cX7_cheap 28 = .ok (.ishl, 1) := by decide +kernel
theorem dX7_cheap_29 : decode cX7_cheap 29 = .ok (.invokevirtual 133, 3) := by decide +kernel
theorem dX7_cheap_32 : decode cX7_cheap 32 = .ok (.istore_n 3, 1) := by decide +kernel
theorem dX7_cheap_33 : decode cX7_cheap 33 = .ok (.aload_n 0, 1) := by decide +kernel
theorem dX7_cheap_34 : decode cX7_cheap 34 = .ok (.getfield 10, 3) := by decide +kernel
theorem dX7_cheap_37 : decode cX7_cheap 37 = .ok (.aload_n 0, 1) := by decide +kernel
theorem dX7_cheap_38 : decode cX7_cheap 38 = .ok (.getfield 10, 3) := by decide +kernel
theorem dX7_cheap_41 : decode cX7_cheap 41 = .ok (.invokevirtual 110, 3) := by decide +kernel
theorem dX7_cheap_44 : decode cX7_cheap 44 = .ok (.iload_n 3, 1) := by decide +kernel
theorem dX7_cheap_45 : decode cX7_cheap 45 = .ok (.iconst (-1), 1) := by decide +kernel
theorem dX7_cheap_46 : decode cX7_cheap 46 = .ok (.ixor, 1) := by decide +kernel
theorem dX7_cheap_47 : decode cX7_cheap 47 = .ok (.iand, 1) := by decide +kernel
theorem dX7_cheap_48 : decode cX7_cheap 48 = .ok (.aload_n 0, 1) := by decide +kernel
theorem dX7_cheap_49 : decode cX7_cheap 49 = .ok (.getfield 10, 3) := by decide +kernel
theorem dX7_cheap_52 : decode cX7_cheap 52 = .ok (.iload_n 3, 1) := by decide +kernel
theorem dX7_cheap_53 : decode cX7_cheap 53 = .ok (.invokevirtual 113, 3) := by decide +kernel
theorem dX7_cheap_56 : decode cX7_cheap 56 = .ok (.invokevirtual 205, 3) := by decide +kernel
theorem dX7_cheap_59 : decode cX7_cheap 59 = .ok (.istore 4, 2) := by decide +kernel
theorem dX7_cheap_61 : decode cX7_cheap 61 = .ok (.aload_n 0, 1) := by decide +kernel
theorem dX7_cheap_62 : decode cX7_cheap 62 = .ok (.iload 4, 2) := by decide +kernel
theorem dX7_cheap_64 : decode cX7_cheap 64 = .ok (.iload_n 2, 1) := by decide +kernel
theorem dX7_cheap_65 : decode cX7_cheap 65 = .ok (.invokevirtual 209, 3) := by decide +kernel
theorem dX7_cheap_68 : decode cX7_cheap 68 = .ok (.ireturn, 1) := by decide +kernel
set_option maxRecDepth 20000 in
theorem ggX7_able_X2_hasLord : GoodIn wsX7_able wsX2_hasLord := goodIn_r _ [6, 7, 42, 43, 44, 45, 46, 47, 48, 49] (by decide +kernel) (by decide +kernel)
set_option maxRecDepth 20000 in
theorem gX7_able_X2_hasLord : GoodIn wsX7_able (wsV RX7 126 RX2 yX2_hasLord wsX2_hasLord) := goodIn_app (goodIn_of _ (by decide +kernel)) ggX7_able_X2_hasLord
set_option maxRecDepth 20000 in
theorem ggX7_able_X2_canBuy : GoodIn wsX7_able wsX2_canBuy := goodIn_r _ [11, 12, 13, 14, 3, 4, 5, 6, 7, 15, 16, 17, 18, 19, 20, 21, 22, 23, 24, 25, 26, 27, 28, 29, 30, 42, 43, 44, 45, 46, 47, 48, 49] (by decide +kernel) (by decide +kernel)
set_option maxRecDepth 20000 in
theorem gX7_able_X2_canBuy : GoodIn wsX7_able (wsV RX7 212 RX2 yX2_canBuy wsX2_canBuy) := goodIn_app (goodIn_of _ (by decide +kernel)) ggX7_able_X2_canBuy
theorem dX7_able_0 : decode cX7_able 0 = .ok (.aload_n 0, 1) := by decide +kernel
theorem dX7_able_1 : decode cX7_able 1 = .ok (.getfield 10, 3) := by decide +kernel
theorem dX7_able_4 : decode cX7_able 4 = .ok (.iload_n 1, 1) := by decide +kernel
theorem dX7_able_5 : decode cX7_able 5 = .ok (.invokevirtual 126, 3) := by decide +kernel
theorem dX7_able_8 : decode cX7_able 8 = .ok (.ifCond .ne 5, 3) := by decide +kernel
theorem dX7_able_11 : decode cX7_able 11 = .ok (.iconst (-1), 1) := by decide +kernel
theorem dX7_able_12 : decode cX7_able 12 = .ok (.ireturn, 1) := by decide +kernel
theorem dX7_able_13 : decode cX7_able 13 = .ok (.iconst 0, 1) := by decide +kernel
theorem dX7_able_14 : decode cX7_able 14 = .ok (.istore_n 2, 1) := by decide +kernel
theorem dX7_able_15 : decode cX7_able 15 = .ok (.iconst 0, 1) := by decide +kernel
theorem dX7_able_16 : decode cX7_able 16 = .ok (.istore_n 3, 1) := by decide +kernel
theorem dX7_able_17 : decode cX7_able 17 = .ok (.iload_n 3, 1) := by decide +kernel
theorem dX7_able_18 : decode cX7_able 18 = .ok (.aload_n 0, 1) := by decide +kernel
theorem dX7_able_19 : decode cX7_able 19 = .ok (.getfield 10, 3) := by decide +kernel
theorem dX7_able_22 : decode cX7_able 22 = .ok (.getfield 104, 3) := by decide +kernel
theorem dX7_able_25 : decode cX7_able 25 = .ok (.if_icmp .ge 27, 3) := by decide +kernel
theorem dX7_able_28 : decode cX7_able 28 = .ok (.aload_n 0, 1) := by decide +kernel
theorem dX7_able_29 : decode cX7_able 29 = .ok (.getfield 10, 3) := by decide +kernel
theorem dX7_able_32 : decode cX7_able 32 = .ok (.iload_n 1, 1) := by decide +kernel
theorem dX7_able_33 : decode cX7_able 33 = .ok (.iload_n 3, 1) := by decide +kernel
theorem dX7_able_34 : decode cX7_able 34 = .ok (.invokevirtual 212, 3) := by decide +kernel
theorem dX7_able_37 : decode cX7_able 37 = .ok (.ifCond .eq 9, 3) := by decide +kernel
theorem dX7_able_40 : decode cX7_able 40 = .ok (.iload_n 2, 1) := by decide +kernel
theorem dX7_able_41 : decode cX7_able 41 = .ok (.iconst 1, 1) := by decide +kernel
theorem dX7_able_42 : decode cX7_able 42 = .ok (.iload_n 3, 1) := by decide +kernel
theorem dX7_able_43 : decode cX7_able 43 = .ok (.ishl, 1) := by decide +kernel
theorem dX7_able_44 : decode cX7_able 44 = .ok (.ior, 1) := by decide +kernel
theorem dX7_able_45 : decode cX7_able 45 = .ok (.istore_n 2, 1) := by decide +kernel
theorem dX7_able_46 : decode cX7_able 46 = .ok (.iinc 3 1, 3) := by decide +kernel
theorem dX7_able_49 : decode cX7_able 49 = .ok (.goto (-32), 3) := by decide +kernel
theorem dX7_able_52 : decode cX7_able 52 = .ok (.iload_n 2, 1) := by decide +kernel
theorem dX7_able_53 : decode cX7_able 53 = .ok (.ireturn, 1) := by decide +kernel
set_option maxRecDepth 20000 in
theorem ggX7_climb_X2_hasLord : GoodIn wsX7_climb wsX2_hasLord := goodIn_r _ [8, 9, 97, 98, 99, 100, 101, 102, 103, 104] (by decide +kernel) (by decide +kernel)
set_option maxRecDepth 20000 in
theorem gX7_climb_X2_hasLord : GoodIn wsX7_climb (wsV RX7 126 RX2 yX2_hasLord wsX2_hasLord) := goodIn_app (goodIn_of _ (by decide +kernel)) ggX7_climb_X2_hasLord
set_option maxRecDepth 20000 in
theorem ggX7_climb_X0_gather : GoodIn wsX7_climb wsX0_gather := goodIn_r _ [14, 15, 16, 17, 18, 19, 7, 20, 21, 22, 23, 24, 25, 26, 27, 28, 29, 30, 31, 32, 33, 34, 35, 36, 37, 13, 38, 39, 105, 106, 107, 108, 97, 98, 99, 100, 101, 102, 103, 104] (by decide +kernel) (by decide +kernel)
set_option maxRecDepth 20000 in
theorem gX7_climb_X0_gather : GoodIn wsX7_climb (wsV RX7 181 RX0 yX0_gather wsX0_gather) := goodIn_app (goodIn_of _ (by decide +kernel)) ggX7_climb_X0_gather
set_option maxRecDepth 20000 in
theorem ggX7_climb_X0_shareOf : GoodIn wsX7_climb wsX0_shareOf := goodIn_r _ [43, 15, 44, 45, 46, 28, 47, 48, 49, 50, 13, 51, 52, 39, 53, 54, 55, 56, 57, 58, 59, 60, 16, 105, 106, 107, 108] (by decide +kernel) (by decide +kernel)
set_option maxRecDepth 20000 in
theorem gX7_climb_X0_shareOf : GoodIn wsX7_climb (wsV RX7 189 RX0 yX0_shareOf wsX0_shareOf) := goodIn_app (goodIn_of _ (by decide +kernel)) ggX7_climb_X0_shareOf
set_option maxRecDepth 20000 in
theorem ggX7_climb_X2_canBuy : GoodIn wsX7_climb wsX2_canBuy := goodIn_r _ [64, 34, 65, 66, 5, 6, 7, 8, 9, 67, 68, 69, 70, 21, 71, 72, 73, 74, 75, 76, 77, 78, 79, 80, 81, 97, 98, 99, 100, 101, 102, 103, 104] (by decide +kernel) (by decide +kernel)
set_option maxRecDepth 20000 in
theorem gX7_climb_X2_canBuy : GoodIn wsX7_climb (wsV RX7 212 RX2 yX2_canBuy wsX2_canBuy) := goodIn_app (goodIn_of _ (by decide +kernel)) ggX7_climb_X2_canBuy
set_option maxRecDepth 20000 in
theorem ggX7_climb_X2_copyFrom : GoodIn wsX7_climb wsX2_copyFrom := goodIn_r _ [85, 9, 21, 75, 65, 81, 80, 26, 34, 97, 98, 99, 100, 101, 102, 103, 104] (by decide +kernel) (by decide +kernel)
set_option maxRecDepth 20000 in
theorem gX7_climb_X2_copyFrom : GoodIn wsX7_climb (wsV RX7 94 RX2 yX2_copyFrom wsX2_copyFrom) := goodIn_app (goodIn_of _ (by decide +kernel)) ggX7_climb_X2_copyFrom
theorem dX7_climb_0 : decode cX7_climb 0 = .ok (.aload_n 0, 1) := by decide +kernel
theorem dX7_climb_1 : decode cX7_climb 1 = .ok (.getfield 10, 3) := by decide +kernel
theorem dX7_climb_4 : decode cX7_climb 4 = .ok (.iload_n 1, 1) := by decide +kernel
theorem dX7_climb_5 : decode cX7_climb 5 = .ok (.invokevirtual 126, 3) := by decide +kernel
theorem dX7_climb_8 : decode cX7_climb 8 = .ok (.ifCond .ne 5, 3) := by decide +kernel
theorem dX7_climb_11 : decode cX7_climb 11 = .ok (.iconst (-1), 1) := by decide +kernel
theorem dX7_climb_12 : decode cX7_climb 12 = .ok (.ireturn, 1) := by decide +kernel
theorem dX7_climb_13 : decode cX7_climb 13 = .ok (.aload_n 0, 1) := by decide +kernel
theorem dX7_climb_14 : decode cX7_climb 14 = .ok (.getfield 42, 3) := by decide +kernel
theorem dX7_climb_17 : decode cX7_climb 17 = .ok (.aload_n 0, 1) := by decide +kernel
theorem dX7_climb_18 : decode cX7_climb 18 = .ok (.getfield 10, 3) := by decide +kernel
theorem dX7_climb_21 : decode cX7_climb 21 = .ok (.invokevirtual 181, 3) := by decide +kernel
theorem dX7_climb_24 : decode cX7_climb 24 = .ok (.aload_n 0, 1) := by decide +kernel
theorem dX7_climb_25 : decode cX7_climb 25 = .ok (.getfield 42, 3) := by decide +kernel
theorem dX7_climb_28 : decode cX7_climb 28 = .ok (.iload_n 1, 1) := by decide +kernel
theorem dX7_climb_29 : decode cX7_climb 29 = .ok (.invokevirtual 189, 3) := by decide +kernel
theorem dX7_climb_32 : decode cX7_climb 32 = .ok (.istore_n 2, 1) := by decide +kernel
theorem dX7_climb_33 : decode cX7_climb 33 = .ok (.bipush (-4), 2) := by decide +kernel
theorem dX7_climb_35 : decode cX7_climb 35 = .ok (.istore_n 3, 1) := by decide +kernel
theorem dX7_climb_36 : decode cX7_climb 36 = .ok (.iconst 0, 1) := by decide +kernel
theorem dX7_climb_37 : decode cX7_climb 37 = .ok (.istore 4, 2) := by decide +kernel
theorem dX7_climb_39 : decode cX7_climb 39 = .ok (.iload 4, 2) := by decide +kernel
theorem dX7_climb_41 : decode cX7_climb 41 = .ok (.aload_n 0, 1) := by decide +kernel
theorem dX7_climb_42 : decode cX7_climb 42 = .ok (.getfield 10, 3) := by decide +kernel
theorem dX7_climb_45 : decode cX7_climb 45 = .ok (.getfield 104, 3) := by decide +kernel
theorem dX7_climb_48 : decode cX7_climb 48 = .ok (.if_icmp .ge 77, 3) := by decide +kernel
theorem dX7_climb_51 : decode cX7_climb 51 = .ok (.aload_n 0, 1) := by decide +kernel
theorem dX7_climb_52 : decode cX7_climb 52 = .ok (.getfield 10, 3) := by decide +kernel
theorem dX7_climb_55 : decode cX7_climb 55 = .ok (.iload_n 1, 1) := by decide +kernel
theorem dX7_climb_56 : decode cX7_climb 56 = .ok (.iload 4, 2) := by decide +kernel
theorem dX7_climb_58 : decode cX7_climb 58 = .ok (.invokevirtual 212, 3) := by decide +kernel
theorem dX7_climb_61 : decode cX7_climb 61 = .ok (.ifCond .eq 58, 3) := by decide +kernel
theorem dX7_climb_64 : decode cX7_climb 64 = .ok (.aload_n 0, 1) := by decide +kernel
theorem dX7_climb_65 : decode cX7_climb 65 = .ok (.getfield 16, 3) := by decide +kernel
theorem dX7_climb_68 : decode cX7_climb 68 = .ok (.aload_n 0, 1) := by decide +kernel
theorem dX7_climb_69 : decode cX7_climb 69 = .ok (.getfield 10, 3) := by decide +kernel
theorem dX7_climb_72 : decode cX7_climb 72 = .ok (.invokevirtual 94, 3) := by decide +kernel
theorem dX7_climb_75 : decode cX7_climb 75 = .ok (.aload_n 0, 1) := by decide +kernel
theorem dX7_climb_76 : decode cX7_climb 76 = .ok (.getfield 16, 3) := by decide +kernel
theorem dX7_climb_79 : decode cX7_climb 79 = .ok (.getfield 148, 3) := by decide +kernel
theorem dX7_climb_82 : decode cX7_climb 82 = .ok (.iload 4, 2) := by decide +kernel
theorem dX7_climb_84 : decode cX7_climb 84 = .ok (.iload_n 1, 1) := by decide +kernel
theorem dX7_climb_85 : decode cX7_climb 85 = .ok (.iastore, 1) := by decide +kernel
theorem dX7_climb_86 : decode cX7_climb 86 = .ok (.aload_n 0, 1) := by decide +kernel
theorem dX7_climb_87 : decode cX7_climb 87 = .ok (.getfield 42, 3) := by decide +kernel
theorem dX7_climb_90 : decode cX7_climb 90 = .ok (.aload_n 0, 1) := by decide +kernel
theorem dX7_climb_91 : decode cX7_climb 91 = .ok (.getfield 16, 3) := by decide +kernel
theorem dX7_climb_94 : decode cX7_climb 94 = .ok (.invokevirtual 181, 3) := by decide +kernel
theorem dX7_climb_97 : decode cX7_climb 97 = .ok (.aload_n 0, 1) := by decide +kernel
theorem dX7_climb_98 : decode cX7_climb 98 = .ok (.getfield 42, 3) := by decide +kernel
theorem dX7_climb_101 : decode cX7_climb 101 = .ok (.iload_n 1, 1) := by decide +kernel
theorem dX7_climb_102 : decode cX7_climb 102 = .ok (.invokevirtual 189, 3) := by decide +kernel
theorem dX7_climb_105 : decode cX7_climb 105 = .ok (.istore 5, 2) := by decide +kernel
theorem dX7_climb_107 : decode cX7_climb 107 = .ok (.iload 5, 2) := by decide +kernel
theorem dX7_climb_109 : decode cX7_climb 109 = .ok (.iload_n 2, 1) := by decide +kernel
theorem dX7_climb_110 : decode cX7_climb 110 = .ok (.if_icmp .le 9, 3) := by decide +kernel
theorem dX7_climb_113 : decode cX7_climb 113 = .ok (.iload 5, 2) := by decide +kernel
theorem dX7_climb_115 : decode cX7_climb 115 = .ok (.istore_n 2, 1) := by decide +kernel
theorem dX7_climb_116 : decode cX7_climb 116 = .ok (.iload 4, 2) := by decide +kernel
theorem dX7_climb_118 : decode cX7_climb 118 = .ok (.istore_n 3, 1) := by decide +kernel
theorem dX7_climb_119 : decode cX7_climb 119 = .ok (.iinc 4 1, 3) := by decide +kernel
theorem dX7_climb_122 : decode cX7_climb 122 = .ok (.goto (-83), 3) := by decide +kernel
theorem dX7_climb_125 : decode cX7_climb 125 = .ok (.iload_n 3, 1) := by decide +kernel
theorem dX7_climb_126 : decode cX7_climb 126 = .ok (.ireturn, 1) := by decide +kernel
set_option maxRecDepth 20000 in
theorem ggX7_small_X7_within : GoodIn wsX7_small wsX7_within := goodIn_r _ [6] (by decide +kernel) (by decide +kernel)
set_option maxRecDepth 20000 in
theorem gX7_small_X7_within : GoodIn wsX7_small (va_wsS RX7 67 yX7_within wsX7_within) := goodIn_app (goodIn_of _ (by decide +kernel)) ggX7_small_X7_within
set_option maxRecDepth 20000 in
theorem ggX7_small_X4_rank : GoodIn wsX7_small wsX4_rank := goodIn_r _ [11, 12, 13, 14, 15, 10, 16, 17, 18, 19, 20, 21, 22, 23, 24, 25, 26, 27, 28, 29, 41, 42, 43, 44, 45, 46, 47, 48, 49, 50] (by decide +kernel) (by decide +kernel)
set_option maxRecDepth 20000 in
theorem gX7_small_X4_rank : GoodIn wsX7_small (wsV RX7 165 RX4 yX4_rank wsX4_rank) := goodIn_app (goodIn_of _ (by decide +kernel)) ggX7_small_X4_rank
theorem dX7_small_0 : decode cX7_small 0 = .ok (.iload_n 1, 1) := by decide +kernel
theorem dX7_small_1 : decode cX7_small 1 = .ok (.iconst 0, 1) := by decide +kernel
theorem dX7_small_2 : decode cX7_small 2 = .ok (.iconst 5, 1) := by decide +kernel
theorem dX7_small_3 : decode cX7_small 3 = .ok (.invokestatic 67, 3) := by decide +kernel
theorem dX7_small_6 : decode cX7_small 6 = .ok (.ifCond .ne 5, 3) := by decide +kernel
theorem dX7_small_9 : decode cX7_small 9 = .ok (.iconst (-1), 1) := by decide +kernel
theorem dX7_small_10 : decode cX7_small 10 = .ok (.ireturn, 1) := by decide +kernel
theorem dX7_small_11 : decode cX7_small 11 = .ok (.aload_n 0, 1) := by decide +kernel
theorem dX7_small_12 : decode cX7_small 12 = .ok (.getfield 56, 3) := by decide +kernel
theorem dX7_small_15 : decode cX7_small 15 = .ok (.aload_n 0, 1) := by decide +kernel
theorem dX7_small_16 : decode cX7_small 16 = .ok (.getfield 10, 3) := by decide +kernel
theorem dX7_small_19 : decode cX7_small 19 = .ok (.invokevirtual 165, 3) := by decide +kernel
theorem dX7_small_22 : decode cX7_small 22 = .ok (.iload_n 1, 1) := by decide +kernel
theorem dX7_small_23 : decode cX7_small 23 = .ok (.aload_n 0, 1) := by decide +kernel
theorem dX7_small_24 : decode cX7_small 24 = .ok (.getfield 56, 3) := by decide +kernel
theorem dX7_small_27 : decode cX7_small 27 = .ok (.getfield 168, 3) := by decide +kernel
theorem dX7_small_30 : decode cX7_small 30 = .ok (.if_icmp .ge 15, 3) := by decide +kernel
theorem dX7_small_33 : decode cX7_small 33 = .ok (.aload_n 0, 1) := by decide +kernel
theorem dX7_small_34 : decode cX7_small 34 = .ok (.getfield 56, 3) := by decide +kernel
theorem dX7_small_37 : decode cX7_small 37 = .ok (.getfield 215, 3) := by decide +kernel
theorem dX7_small_40 : decode cX7_small 40 = .ok (.iload_n 1, 1) := by decide +kernel
theorem dX7_small_41 : decode cX7_small 41 = .ok (.iaload, 1) := by decide +kernel
theorem dX7_small_42 : decode cX7_small 42 = .ok (.goto 5, 3) := by decide +kernel
theorem dX7_small_45 : decode cX7_small 45 = .ok (.bipush (-4), 2) := by decide +kernel
theorem dX7_small_47 : decode cX7_small 47 = .ok (.ireturn, 1) := by decide +kernel
set_option maxRecDepth 20000 in
theorem ggX7_line_X7_within : GoodIn wsX7_line wsX7_within := goodIn_r _ [6] (by decide +kernel) (by decide +kernel)
set_option maxRecDepth 20000 in
theorem gX7_line_X7_within : GoodIn wsX7_line (va_wsS RX7 67 yX7_within wsX7_within) := goodIn_app (goodIn_of _ (by decide +kernel)) ggX7_line_X7_within
set_option maxRecDepth 20000 in
theorem ggX7_line_X4_rank : GoodIn wsX7_line wsX4_rank := goodIn_r _ [11, 12, 13, 14, 15, 10, 16, 17, 18, 19, 20, 21, 22, 23, 24, 25, 26, 27, 28, 29, 42, 43, 44, 45, 46, 47, 48, 49, 50, 51] (by decide +kernel) (by decide +kernel)
set_option maxRecDepth 20000 in
theorem gX7_line_X4_rank : GoodIn wsX7_line (wsV RX7 165 RX4 yX4_rank wsX4_rank) := goodIn_app (goodIn_of _ (by decide +kernel)) ggX7_line_X4_rank
set_option maxRecDepth 20000 in
theorem ggX7_line_X2_votesOf : GoodIn wsX7_line wsX2_votesOf := goodIn_r _ [22, 23, 24, 25, 26, 27, 21, 28, 29, 44, 45, 46, 47, 48, 49, 50, 51] (by decide +kernel) (by decide +kernel)
set_option maxRecDepth 20000 in
theorem gX7_line_X2_votesOf : GoodIn wsX7_line (wsV RX7 151 RX2 yX2_votesOf wsX2_votesOf) := goodIn_app (goodIn_of _ (by decide +kernel)) ggX7_line_X2_votesOf
theorem dX7_line_0 : decode cX7_line 0 = .ok (.iload_n 1, 1) := by decide +kernel
theorem dX7_line_1 : decode cX7_line 1 = .ok (.iconst 1, 1) := by decide +kernel
theorem dX7_line_2 : decode cX7_line 2 = .ok (.iconst 5, 1) := by decide +kernel
theorem dX7_line_3 : decode cX7_line 3 = .ok (.invokestatic 67, 3) := by decide +kernel
theorem dX7_line_6 : decode cX7_line 6 = .ok (.ifCond .ne 5, 3) := by decide +kernel
theorem dX7_line_9 : decode cX7_line 9 = .ok (.iconst (-1), 1) := by decide +kernel
theorem dX7_line_10 : decode cX7_line 10 = .ok (.ireturn, 1) := by decide +kernel
theorem dX7_line_11 : decode cX7_line 11 = .ok (.aload_n 0, 1) := by decide +kernel
theorem dX7_line_12 : decode cX7_line 12 = .ok (.getfield 56, 3) := by decide +kernel
theorem dX7_line_15 : decode cX7_line 15 = .ok (.aload_n 0, 1) := by decide +kernel
theorem dX7_line_16 : decode cX7_line 16 = .ok (.getfield 10, 3) := by decide +kernel
theorem dX7_line_19 : decode cX7_line 19 = .ok (.invokevirtual 165, 3) := by decide +kernel
theorem dX7_line_22 : decode cX7_line 22 = .ok (.iload_n 1, 1) := by decide +kernel
theorem dX7_line_23 : decode cX7_line 23 = .ok (.aload_n 0, 1) := by decide +kernel
theorem dX7_line_24 : decode cX7_line 24 = .ok (.getfield 56, 3) := by decide +kernel
theorem dX7_line_27 : decode cX7_line 27 = .ok (.getfield 168, 3) := by decide +kernel
theorem dX7_line_30 : decode cX7_line 30 = .ok (.if_icmp .lt 6, 3) := by decide +kernel
theorem dX7_line_33 : decode cX7_line 33 = .ok (.bipush (-4), 2) := by decide +kernel
theorem dX7_line_35 : decode cX7_line 35 = .ok (.ireturn, 1) := by decide +kernel
theorem dX7_line_36 : decode cX7_line 36 = .ok (.aload_n 0, 1) := by decide +kernel
theorem dX7_line_37 : decode cX7_line 37 = .ok (.getfield 10, 3) := by decide +kernel
theorem dX7_line_40 : decode cX7_line 40 = .ok (.aload_n 0, 1) := by decide +kernel
theorem dX7_line_41 : decode cX7_line 41 = .ok (.getfield 56, 3) := by decide +kernel
theorem dX7_line_44 : decode cX7_line 44 = .ok (.getfield 215, 3) := by decide +kernel
theorem dX7_line_47 : decode cX7_line 47 = .ok (.iload_n 1, 1) := by decide +kernel
theorem dX7_line_48 : decode cX7_line 48 = .ok (.iconst 1, 1) := by decide +kernel
theorem dX7_line_49 : decode cX7_line 49 = .ok (.isub, 1) := by decide +kernel
theorem dX7_line_50 : decode cX7_line 50 = .ok (.iaload, 1) := by decide +kernel
theorem dX7_line_51 : decode cX7_line 51 = .ok (.invokevirtual 151, 3) := by decide +kernel
theorem dX7_line_54 : decode cX7_line 54 = .ok (.aload_n 0, 1) := by decide +kernel
theorem dX7_line_55 : decode cX7_line 55 = .ok (.getfield 10, 3) := by decide +kernel
theorem dX7_line_58 : decode cX7_line 58 = .ok (.aload_n 0, 1) := by decide +kernel
theorem dX7_line_59 : decode cX7_line 59 = .ok (.getfield 56, 3) := by decide +kernel
theorem dX7_line_62 : decode cX7_line 62 = .ok (.getfield 215, 3) := by decide +kernel
theorem dX7_line_65 : decode cX7_line 65 = .ok (.iload_n 1, 1) := by decide +kernel
theorem dX7_line_66 : decode cX7_line 66 = .ok (.iaload, 1) := by decide +kernel
theorem dX7_line_67 : decode cX7_line 67 = .ok (.invokevirtual 151, 3) := by decide +kernel
theorem dX7_line_70 : decode cX7_line 70 = .ok (.if_icmp .eq 7, 3) := by decide +kernel
theorem dX7_line_73 : decode cX7_line 73 = .ok (.iconst 1, 1) := by decide +kernel
theorem dX7_line_74 : decode cX7_line 74 = .ok (.goto 4, 3) := by decide +kernel
theorem dX7_line_77 : decode cX7_line 77 = .ok (.iconst 0, 1) := by decide +kernel
theorem dX7_line_78 : decode cX7_line 78 = .ok (.ireturn, 1) := by decide +kernel
set_option maxRecDepth 20000 in
theorem ggX7_bribe_X7_within : GoodIn wsX7_bribe wsX7_within := goodIn_r _ [6] (by decide +kernel) (by decide +kernel)
set_option maxRecDepth 20000 in
theorem gX7_bribe_X7_within : GoodIn wsX7_bribe (va_wsS RX7 67 yX7_within wsX7_within) := goodIn_app (goodIn_of _ (by decide +kernel)) ggX7_bribe_X7_within
set_option maxRecDepth 20000 in
theorem ggX7_bribe_X4_rank : GoodIn wsX7_bribe wsX4_rank := goodIn_r _ [11, 12, 13, 14, 15, 10, 16, 17, 18, 19, 20, 21, 22, 23, 24, 25, 26, 27, 28, 29, 77, 78, 79, 80, 81, 82, 83, 84, 85, 86] (by decide +kernel) (by decide +kernel)
set_option maxRecDepth 20000 in
theorem gX7_bribe_X4_rank : GoodIn wsX7_bribe (wsV RX7 165 RX4 yX4_rank wsX4_rank) := goodIn_app (goodIn_of _ (by decide +kernel)) ggX7_bribe_X4_rank
set_option maxRecDepth 20000 in
theorem ggX7_bribe_X4_first : GoodIn wsX7_bribe wsX4_first := goodIn_r _ [33, 12, 17, 77, 78] (by decide +kernel) (by decide +kernel)
set_option maxRecDepth 20000 in
theorem gX7_bribe_X4_first : GoodIn wsX7_bribe (wsV RX7 169 RX4 yX4_first wsX4_first) := goodIn_app (goodIn_of _ (by decide +kernel)) ggX7_bribe_X4_first
set_option maxRecDepth 20000 in
theorem ggX7_bribe_X2_everyBorough : GoodIn wsX7_bribe wsX2_everyBorough := goodIn_r _ [37, 29, 79, 80, 81, 82, 83, 84, 85, 86] (by decide +kernel) (by decide +kernel)
set_option maxRecDepth 20000 in
theorem gX7_bribe_X2_everyBorough : GoodIn wsX7_bribe (wsV RX7 110 RX2 yX2_everyBorough wsX2_everyBorough) := goodIn_app (goodIn_of _ (by decide +kernel)) ggX7_bribe_X2_everyBorough
set_option maxRecDepth 20000 in
theorem ggX7_bribe_X2_seatsIn : GoodIn wsX7_bribe wsX2_seatsIn := goodIn_r _ [41, 29, 42, 43, 5, 44, 79, 80, 81, 82, 83, 84, 85, 86] (by decide +kernel) (by decide +kernel)
set_option maxRecDepth 20000 in
theorem gX7_bribe_X2_seatsIn : GoodIn wsX7_bribe (wsV RX7 113 RX2 yX2_seatsIn wsX2_seatsIn) := goodIn_app (goodIn_of _ (by decide +kernel)) ggX7_bribe_X2_seatsIn
set_option maxRecDepth 20000 in
theorem ggX7_bribe_X2_cheapestMajority : GoodIn wsX7_bribe wsX2_cheapestMajority := goodIn_r _ [48, 49, 35, 36, 21, 37, 29, 50, 39, 40, 41, 42, 43, 5, 44, 51, 52, 53, 54, 55, 56, 57, 58, 59, 60, 19, 20, 22, 23, 24, 25, 26, 27, 28, 79, 80, 81, 82, 83, 84, 85, 86] (by decide +kernel) (by decide +kernel)
set_option maxRecDepth 20000 in
theorem gX7_bribe_X2_cheapestMajority : GoodIn wsX7_bribe (wsV RX7 205 RX2 yX2_cheapestMajority wsX2_cheapestMajority) := goodIn_app (goodIn_of _ (by decide +kernel)) ggX7_bribe_X2_cheapestMajority
set_option maxRecDepth 20000 in
theorem ggX7_bribe_X7_costOrSet : GoodIn wsX7_bribe wsX7_costOrSet := goodIn_r _ [64, 2, 65, 52, 53, 21, 54, 29, 43, 5, 44, 55, 56, 57, 58, 59, 60, 19, 20, 22, 23, 24, 25, 26, 27, 28, 66, 67, 68, 69, 70, 71, 72, 73, 74, 75, 76, 79, 80, 81, 82, 83, 84, 85, 86] (by decide +kernel) (by decide +kernel)
set_option maxRecDepth 20000 in
theorem gX7_bribe_X7_costOrSet : GoodIn wsX7_bribe (wsV RX7 209 RX7 yX7_costOrSet wsX7_costOrSet) := goodIn_app (goodIn_of _ (by decide +kernel)) ggX7_bribe_X7_costOrSet
theorem dX7_bribe_0 : decode cX7_bribe 0 = .ok (.iload_n 1, 1) := by decide +kernel
theorem dX7_bribe_1 : decode cX7_bribe 1 = .ok (.iconst 0, 1) := by decide +kernel
theorem dX7_bribe_2 : decode cX7_bribe 2 = .ok (.bipush 6, 2) := by decide +kernel
theorem dX7_bribe_4 : decode cX7_bribe 4 = .ok (.invokestatic 67, 3) := by decide +kernel
theorem dX7_bribe_7 : decode cX7_bribe 7 = .ok (.ifCond .eq 12, 3) := by decide +kernel
theorem dX7_bribe_10 : decode cX7_bribe 10 = .ok (.iload_n 2, 1) := by decide +kernel
theorem dX7_bribe_11 : decode cX7_bribe 11 = .ok (.iconst 0, 1) := by decide +kernel
theorem dX7_bribe_12 : decode cX7_bribe 12 = .ok (.iconst 1, 1) := by decide +kernel
theorem dX7_bribe_13 : decode cX7_bribe 13 = .ok (.invokestatic 67, 3) := by decide +kernel
theorem dX7_bribe_16 : decode cX7_bribe 16 = .ok (.ifCond .ne 5, 3) := by decide +kernel
theorem dX7_bribe_19 : decode cX7_bribe 19 = .ok (.iconst (-1), 1) := by decide +kernel
theorem dX7_bribe_20 : decode cX7_bribe 20 = .ok (.ireturn, 1) := by decide +kernel
theorem dX7_bribe_21 : decode cX7_bribe 21 = .ok (.aload_n 0, 1) := by decide +kernel
theorem dX7_bribe_22 : decode cX7_bribe 22 = .ok (.getfield 56, 3) := by decide +kernel
theorem dX7_bribe_25 : decode cX7_bribe 25 = .ok (.aload_n 0, 1) := by decide +kernel
theorem dX7_bribe_26 : decode cX7_bribe 26 = .ok (.getfield 10, 3) := by decide +kernel
theorem dX7_bribe_29 : decode cX7_bribe 29 = .ok (.invokevirtual 165, 3) := by decide +kernel
theorem dX7_bribe_32 : decode cX7_bribe 32 = .ok (.iload_n 1, 1) := by decide +kernel
theorem dX7_bribe_33 : decode cX7_bribe 33 = .ok (.aload_n 0, 1) := by decide +kernel
theorem dX7_bribe_34 : decode cX7_bribe 34 = .ok (.getfield 56, 3) := by decide +kernel
theorem dX7_bribe_37 : decode cX7_bribe 37 = .ok (.getfield 168, 3) := by decide +kernel
theorem dX7_bribe_40 : decode cX7_bribe 40 = .ok (.if_icmp .le 6, 3) := by decide +kernel
theorem dX7_bribe_43 : decode cX7_bribe 43 = .ok (.bipush (-4), 2) := by decide +kernel
theorem dX7_bribe_45 : decode cX7_bribe 45 = .ok (.ireturn, 1) := by decide +kernel
theorem dX7_bribe_46 : decode cX7_bribe 46 = .ok (.aload_n 0, 1) := by decide +kernel
theorem dX7_bribe_47 : decode cX7_bribe 47 = .ok (.getfield 56, 3) := by decide +kernel
theorem dX7_bribe_50 : decode cX7_bribe 50 = .ok (.iload_n 1, 1) := by decide +kernel
theorem dX7_bribe_51 : decode cX7_bribe 51 = .ok (.invokevirtual 169, 3) := by decide +kernel
theorem dX7_bribe_54 : decode cX7_bribe 54 = .ok (.istore_n 3, 1) := by decide +kernel
theorem dX7_bribe_55 : decode cX7_bribe 55 = .ok (.aload_n 0, 1) := by decide +kernel
theorem dX7_bribe_56 : decode cX7_bribe 56 = .ok (.getfield 10, 3) := by decide +kernel
theorem dX7_bribe_59 : decode cX7_bribe 59 = .ok (.invokevirtual 110, 3) := by decide +kernel
theorem dX7_bribe_62 : decode cX7_bribe 62 = .ok (.iload_n 3, 1) := by decide +kernel
theorem dX7_bribe_63 : decode cX7_bribe 63 = .ok (.iconst (-1), 1) := by decide +kernel
theorem dX7_bribe_64 : decode cX7_bribe 64 = .ok (.ixor, 1) := by decide +kernel
theorem dX7_bribe_65 : decode cX7_bribe 65 = .ok (.iand, 1) := by decide +kernel
theorem dX7_bribe_66 : decode cX7_bribe 66 = .ok (.istore 4, 2) := by decide +kernel
theorem dX7_bribe_68 : decode cX7_bribe 68 = .ok (.aload_n 0, 1) := by decide +kernel
theorem dX7_bribe_69 : decode cX7_bribe 69 = .ok (.aload_n 0, 1) := by decide +kernel
theorem dX7_bribe_70 : decode cX7_bribe 70 = .ok (.getfield 10, 3) := by decide +kernel
theorem dX7_bribe_73 : decode cX7_bribe 73 = .ok (.iload_n 3, 1) := by decide +kernel
theorem dX7_bribe_74 : decode cX7_bribe 74 = .ok (.aload_n 0, 1) := by decide +kernel
theorem dX7_bribe_75 : decode cX7_bribe 75 = .ok (.getfield 10, 3) := by decide +kernel
theorem dX7_bribe_78 : decode cX7_bribe 78 = .ok (.iload 4, 2) := by decide +kernel
theorem dX7_bribe_80 : decode cX7_bribe 80 = .ok (.invokevirtual 113, 3) := by decide +kernel
theorem dX7_bribe_83 : decode cX7_bribe 83 = .ok (.invokevirtual 205, 3) := by decide +kernel
theorem dX7_bribe_86 : decode cX7_bribe 86 = .ok (.iload_n 2, 1) := by decide +kernel
theorem dX7_bribe_87 : decode cX7_bribe 87 = .ok (.invokevirtual 209, 3) := by decide +kernel
theorem dX7_bribe_90 : decode cX7_bribe 90 = .ok (.ireturn, 1) := by decide +kernel
set_option maxRecDepth 20000 in
theorem ggX7_luck_X7_within : GoodIn wsX7_luck wsX7_within := goodIn_r _ [6] (by decide +kernel) (by decide +kernel)
set_option maxRecDepth 20000 in
theorem gX7_luck_X7_within : GoodIn wsX7_luck (va_wsS RX7 67 yX7_within wsX7_within) := goodIn_app (goodIn_of _ (by decide +kernel)) ggX7_luck_X7_within
set_option maxRecDepth 20000 in
theorem ggX7_luck_X2_hasLords : GoodIn wsX7_luck wsX2_hasLords := goodIn_r _ [11, 12, 13, 14, 10, 15, 16, 61, 62, 63, 64, 65, 66, 67, 68] (by decide +kernel) (by decide +kernel)
set_option maxRecDepth 20000 in
theorem gX7_luck_X2_hasLords : GoodIn wsX7_luck (wsV RX7 175 RX2 yX2_hasLords wsX2_hasLords) := goodIn_app (goodIn_of _ (by decide +kernel)) ggX7_luck_X2_hasLords
set_option maxRecDepth 20000 in
theorem ggX7_luck_X2_everyBorough : GoodIn wsX7_luck wsX2_everyBorough := goodIn_r _ [20, 21, 61, 62, 63, 64, 65, 66, 67, 68] (by decide +kernel) (by decide +kernel)
set_option maxRecDepth 20000 in
theorem gX7_luck_X2_everyBorough : GoodIn wsX7_luck (wsV RX7 110 RX2 yX2_everyBorough wsX2_everyBorough) := goodIn_app (goodIn_of _ (by decide +kernel)) ggX7_luck_X2_everyBorough
set_option maxRecDepth 20000 in
theorem ggX7_luck_X2_heldBy : GoodIn wsX7_luck wsX2_heldBy := goodIn_r _ [25, 21, 26, 27, 5, 28, 61, 62, 63, 64, 65, 66, 67, 68] (by decide +kernel) (by decide +kernel)
set_option maxRecDepth 20000 in
theorem gX7_luck_X2_heldBy : GoodIn wsX7_luck (wsV RX7 133 RX2 yX2_heldBy wsX2_heldBy) := goodIn_app (goodIn_of _ (by decide +kernel)) ggX7_luck_X2_heldBy
set_option maxRecDepth 20000 in
theorem ggX7_luck_X2_seatsIn : GoodIn wsX7_luck wsX2_seatsIn := goodIn_r _ [32, 21, 33, 27, 5, 28, 61, 62, 63, 64, 65, 66, 67, 68] (by decide +kernel) (by decide +kernel)
set_option maxRecDepth 20000 in
theorem gX7_luck_X2_seatsIn : GoodIn wsX7_luck (wsV RX7 113 RX2 yX2_seatsIn wsX2_seatsIn) := goodIn_app (goodIn_of _ (by decide +kernel)) ggX7_luck_X2_seatsIn
set_option maxRecDepth 20000 in
theorem ggX7_luck_J6_bitCount_0f7a4 : GoodIn wsX7_luck wsJ6_bitCount_0f7a4 := goodIn_r _ [37, 38, 39, 40] (by decide +kernel) (by decide +kernel)
set_option maxRecDepth 20000 in
theorem gX7_luck_J6_bitCount_0f7a4 : GoodIn wsX7_luck (va_wsS RX7 200 yJ6_bitCount_0f7a4 wsJ6_bitCount_0f7a4) := goodIn_app (goodIn_of _ (by decide +kernel)) ggX7_luck_J6_bitCount_0f7a4
set_option maxRecDepth 20000 in
theorem ggX7_luck_X7_power : GoodIn wsX7_luck wsX7_power := goodIn_r _ [43] (by decide +kernel) (by decide +kernel)
set_option maxRecDepth 20000 in
theorem gX7_luck_X7_power : GoodIn wsX7_luck (va_wsS RX7 218 yX7_power wsX7_power) := goodIn_app (goodIn_of _ (by decide +kernel)) ggX7_luck_X7_power
set_option maxRecDepth 20000 in
theorem ggX7_luck_X7_fraction : GoodIn wsX7_luck wsX7_fraction := goodIn_r _ [46, 47, 48, 5, 49] (by decide +kernel) (by decide +kernel)
set_option maxRecDepth 20000 in
theorem gX7_luck_X7_fraction : GoodIn wsX7_luck (va_wsS RX7 194 yX7_fraction wsX7_fraction) := goodIn_app (goodIn_of _ (by decide +kernel)) ggX7_luck_X7_fraction
theorem dX7_luck_0 : decode cX7_luck 0 = .ok (.iload_n 1, 1) := by decide +kernel
theorem dX7_luck_1 : decode cX7_luck 1 = .ok (.iconst 0, 1) := by decide +kernel
theorem dX7_luck_2 : decode cX7_luck 2 = .ok (.bipush 10, 2) := by decide +kernel
theorem dX7_luck_4 : decode cX7_luck 4 = .ok (.invokestatic 67, 3) := by decide +kernel
theorem dX7_luck_7 : decode cX7_luck 7 = .ok (.ifCond .eq 23, 3) := by decide +kernel
theorem dX7_luck_10 : decode cX7_luck 10 = .ok (.aload_n 0, 1) := by decide +kernel
theorem dX7_luck_11 : decode cX7_luck 11 = .ok (.getfield 10, 3) := by decide +kernel
theorem dX7_luck_14 : decode cX7_luck 14 = .ok (.iload_n 2, 1) := by decide +kernel
theorem dX7_luck_15 : decode cX7_luck 15 = .ok (.invokevirtual 175, 3) := by decide +kernel
theorem dX7_luck_18 : decode cX7_luck 18 = .ok (.ifCond .eq 12, 3) := by decide +kernel
theorem dX7_luck_21 : decode cX7_luck 21 = .ok (.iload_n 3, 1) := by decide +kernel
theorem dX7_luck_22 : decode cX7_luck 22 = .ok (.iconst 0, 1) := by decide +kernel
theorem dX7_luck_23 : decode cX7_luck 23 = .ok (.iconst 1, 1) := by decide +kernel
theorem dX7_luck_24 : decode cX7_luck 24 = .ok (.invokestatic 67, 3) := by decide +kernel
theorem dX7_luck_27 : decode cX7_luck 27 = .ok (.ifCond .ne 7, 3) := by decide +kernel
theorem dX7_luck_30 : decode cX7_luck 30 = .ok (.ldc2_w 187, 3) := by decide +kernel
theorem dX7_luck_33 : decode cX7_luck 33 = .ok (.lreturn, 1) := by decide +kernel
theorem dX7_luck_34 : decode cX7_luck 34 = .ok (.aload_n 0, 1) := by decide +kernel
theorem dX7_luck_35 : decode cX7_luck 35 = .ok (.getfield 10, 3) := by decide +kernel
theorem dX7_luck_38 : decode cX7_luck 38 = .ok (.invokevirtual 110, 3) := by decide +kernel
theorem dX7_luck_41 : decode cX7_luck 41 = .ok (.istore 4, 2) := by decide +kernel
theorem dX7_luck_43 : decode cX7_luck 43 = .ok (.aload_n 0, 1) := by decide +kernel
theorem dX7_luck_44 : decode cX7_luck 44 = .ok (.getfield 10, 3) := by decide +kernel
theorem dX7_luck_47 : decode cX7_luck 47 = .ok (.iload_n 2, 1) := by decide +kernel
theorem dX7_luck_48 : decode cX7_luck 48 = .ok (.invokevirtual 133, 3) := by decide +kernel
theorem dX7_luck_51 : decode cX7_luck 51 = .ok (.istore 5, 2) := by decide +kernel
theorem dX7_luck_53 : decode cX7_luck 53 = .ok (.lconst 0, 1) := by decide +kernel
theorem dX7_luck_54 : decode cX7_luck 54 = .ok (.lstore 6, 2) := by decide +kernel
theorem dX7_luck_56 : decode cX7_luck 56 = .ok (.iconst 0, 1) := by decide +kernel
theorem dX7_luck_57 : decode cX7_luck 57 = .ok (.istore 8, 2) := by decide +kernel
theorem dX7_luck_59 : decode cX7_luck 59 = .ok (.iload 8, 2) := by decide +kernel
theorem dX7_luck_61 : decode cX7_luck 61 = .ok (.iload 4, 2) := by decide +kernel
theorem dX7_luck_63 : decode cX7_luck 63 = .ok (.if_icmp .gt 71, 3) := by decide +kernel
theorem dX7_luck_66 : decode cX7_luck 66 = .ok (.iconst 2, 1) := by decide +kernel
theorem dX7_luck_67 : decode cX7_luck 67 = .ok (.aload_n 0, 1) := by decide +kernel
theorem dX7_luck_68 : decode cX7_luck 68 = .ok (.getfield 10, 3) := by decide +kernel
theorem dX7_luck_71 : decode cX7_luck 71 = .ok (.iload 8, 2) := by decide +kernel
theorem dX7_luck_73 : decode cX7_luck 73 = .ok (.iload 5, 2) := by decide +kernel
theorem dX7_luck_75 : decode cX7_luck 75 = .ok (.iand, 1) := by decide +kernel
theorem dX7_luck_76 : decode cX7_luck 76 = .ok (.invokevirtual 113, 3) := by decide +kernel
theorem dX7_luck_79 : decode cX7_luck 79 = .ok (.imul, 1) := by decide +kernel
theorem dX7_luck_80 : decode cX7_luck 80 = .ok (.aload_n 0, 1) := by decide +kernel
theorem dX7_luck_81 : decode cX7_luck 81 = .ok (.getfield 10, 3) := by decide +kernel
theorem dX7_luck_84 : decode cX7_luck 84 = .ok (.iload 8, 2) := by decide +kernel
theorem dX7_luck_86 : decode cX7_luck 86 = .ok (.invokevirtual 113, 3) := by decide +kernel
theorem dX7_luck_89 : decode cX7_luck 89 = .ok (.if_icmp .le 39, 3) := by decide +kernel
theorem dX7_luck_92 : decode cX7_luck 92 = .ok (.iload 8, 2) := by decide +kernel
theorem dX7_luck_94 : decode cX7_luck 94 = .ok (.invokestatic 200, 3) := by decide +kernel
theorem dX7_luck_97 : decode cX7_luck 97 = .ok (.istore 9, 2) := by decide +kernel
theorem dX7_luck_99 : decode cX7_luck 99 = .ok (.lload 6, 2) := by decide +kernel
theorem dX7_luck_101 : decode cX7_luck 101 = .ok (.bipush 10, 2) := by decide +kernel
theorem dX7_luck_103 : decode cX7_luck 103 = .ok (.iload_n 1, 1) := by decide +kernel
theorem dX7_luck_104 : decode cX7_luck 104 = .ok (.isub, 1) := by decide +kernel
theorem dX7_luck_105 : decode cX7_luck 105 = .ok (.iload 9, 2) := by decide +kernel
theorem dX7_luck_107 : decode cX7_luck 107 = .ok (.invokestatic 218, 3) := by decide +kernel
theorem dX7_luck_110 : decode cX7_luck 110 = .ok (.iload_n 1, 1) := by decide +kernel
theorem dX7_luck_111 : decode cX7_luck 111 = .ok (.aload_n 0, 1) := by decide +kernel
theorem dX7_luck_112 : decode cX7_luck 112 = .ok (.getfield 10, 3) := by decide +kernel
theorem dX7_luck_115 : decode cX7_luck 115 = .ok (.getfield 104, 3) := by decide +kernel
theorem dX7_luck_118 : decode cX7_luck 118 = .ok (.iload 9, 2) := by decide +kernel
theorem dX7_luck_120 : decode cX7_luck 120 = .ok (.isub, 1) := by decide +kernel
theorem dX7_luck_121 : decode cX7_luck 121 = .ok (.invokestatic 218, 3) := by decide +kernel
theorem dX7_luck_124 : decode cX7_luck 124 = .ok (.lmul, 1) := by decide +kernel
theorem dX7_luck_125 : decode cX7_luck 125 = .ok (.ladd, 1) := by decide +kernel
theorem dX7_luck_126 : decode cX7_luck 126 = .ok (.lstore 6, 2) := by decide +kernel
theorem dX7_luck_128 : decode cX7_luck 128 = .ok (.iinc 8 1, 3) := by decide +kernel
theorem dX7_luck_131 : decode cX7_luck 131 = .ok (.goto (-72), 3) := by decide +kernel
theorem dX7_luck_134 : decode cX7_luck 134 = .ok (.lload 6, 2) := by decide +kernel
theorem dX7_luck_136 : decode cX7_luck 136 = .ok (.bipush 10, 2) := by decide +kernel
theorem dX7_luck_138 : decode cX7_luck 138 = .ok (.aload_n 0, 1) := by decide +kernel
theorem dX7_luck_139 : decode cX7_luck 139 = .ok (.getfield 10, 3) := by decide +kernel
theorem dX7_luck_142 : decode cX7_luck 142 = .ok (.getfield 104, 3) := by decide +kernel
theorem dX7_luck_145 : decode cX7_luck 145 = .ok (.invokestatic 218, 3) := by decide +kernel
theorem dX7_luck_148 : decode cX7_luck 148 = .ok (.iload_n 3, 1) := by decide +kernel
theorem dX7_luck_149 : decode cX7_luck 149 = .ok (.invokestatic 194, 3) := by decide +kernel
theorem dX7_luck_152 : decode cX7_luck 152 = .ok (.lreturn, 1) := by decide +kernel
set_option maxRecDepth 20000 in
theorem ggX7_mean_X7_within : GoodIn wsX7_mean wsX7_within := goodIn_r _ [7] (by decide +kernel) (by decide +kernel)
set_option maxRecDepth 20000 in
theorem gX7_mean_X7_within : GoodIn wsX7_mean (va_wsS RX7 67 yX7_within wsX7_within) := goodIn_app (goodIn_of _ (by decide +kernel)) ggX7_mean_X7_within
set_option maxRecDepth 20000 in
theorem ggX7_mean_X2_hasLords : GoodIn wsX7_mean wsX2_hasLords := goodIn_r _ [12, 13, 14, 15, 11, 16, 17, 48, 49, 50, 51, 52, 53, 54, 55] (by decide +kernel) (by decide +kernel)
set_option maxRecDepth 20000 in
theorem gX7_mean_X2_hasLords : GoodIn wsX7_mean (wsV RX7 175 RX2 yX2_hasLords wsX2_hasLords) := goodIn_app (goodIn_of _ (by decide +kernel)) ggX7_mean_X2_hasLords
set_option maxRecDepth 20000 in
theorem ggX7_mean_X2_heldBy : GoodIn wsX7_mean wsX2_heldBy := goodIn_r _ [21, 22, 23, 24, 6, 25, 48, 49, 50, 51, 52, 53, 54, 55] (by decide +kernel) (by decide +kernel)
set_option maxRecDepth 20000 in
theorem gX7_mean_X2_heldBy : GoodIn wsX7_mean (wsV RX7 133 RX2 yX2_heldBy wsX2_heldBy) := goodIn_app (goodIn_of _ (by decide +kernel)) ggX7_mean_X2_heldBy
set_option maxRecDepth 20000 in
theorem ggX7_mean_X2_seatsIn : GoodIn wsX7_mean wsX2_seatsIn := goodIn_r _ [29, 22, 30, 24, 6, 25, 48, 49, 50, 51, 52, 53, 54, 55] (by decide +kernel) (by decide +kernel)
set_option maxRecDepth 20000 in
theorem gX7_mean_X2_seatsIn : GoodIn wsX7_mean (wsV RX7 113 RX2 yX2_seatsIn wsX2_seatsIn) := goodIn_app (goodIn_of _ (by decide +kernel)) ggX7_mean_X2_seatsIn
set_option maxRecDepth 20000 in
theorem ggX7_mean_X7_fraction : GoodIn wsX7_mean wsX7_fraction := goodIn_r _ [33, 34, 35, 6, 36] (by decide +kernel) (by decide +kernel)
set_option maxRecDepth 20000 in
theorem gX7_mean_X7_fraction : GoodIn wsX7_mean (va_wsS RX7 194 yX7_fraction wsX7_fraction) := goodIn_app (goodIn_of _ (by decide +kernel)) ggX7_mean_X7_fraction
theorem dX7_mean_0 : decode cX7_mean 0 = .ok (.iload_n 1, 1) := by decide +kernel
theorem dX7_mean_1 : decode cX7_mean 1 = .ok (.iconst 0, 1) := by decide +kernel
theorem dX7_mean_2 : decode cX7_mean 2 = .ok (.bipush 10, 2) := by decide +kernel
theorem dX7_mean_4 : decode cX7_mean 4 = .ok (.invokestatic 67, 3) := by decide +kernel
theorem dX7_mean_7 : decode cX7_mean 7 = .ok (.ifCond .eq 23, 3) := by decide +kernel
theorem dX7_mean_10 : decode cX7_mean 10 = .ok (.aload_n 0, 1) := by decide +kernel
theorem dX7_mean_11 : decode cX7_mean 11 = .ok (.getfield 10, 3) := by decide +kernel
theorem dX7_mean_14 : decode cX7_mean 14 = .ok (.iload_n 2, 1) := by decide +kernel
theorem dX7_mean_15 : decode cX7_mean 15 = .ok (.invokevirtual 175, 3) := by decide +kernel
theorem dX7_mean_18 : decode cX7_mean 18 = .ok (.ifCond .eq 12, 3) := by decide +kernel
theorem dX7_mean_21 : decode cX7_mean 21 = .ok (.iload_n 3, 1) := by decide +kernel
theorem dX7_mean_22 : decode cX7_mean 22 = .ok (.iconst 0, 1) := by decide +kernel
theorem dX7_mean_23 : decode cX7_mean 23 = .ok (.iconst 1, 1) := by decide +kernel
theorem dX7_mean_24 : decode cX7_mean 24 = .ok (.invokestatic 67, 3) := by decide +kernel
theorem dX7_mean_27 : decode cX7_mean 27 = .ok (.ifCond .ne 7, 3) := by decide +kernel
theorem dX7_mean_30 : decode cX7_mean 30 = .ok (.ldc2_w 187, 3) := by decide +kernel
theorem dX7_mean_33 : decode cX7_mean 33 = .ok (.lreturn, 1) := by decide +kernel
theorem dX7_mean_34 : decode cX7_mean 34 = .ok (.bipush 10, 2) := by decide +kernel
theorem dX7_mean_36 : decode cX7_mean 36 = .ok (.iload_n 1, 1) := by decide +kernel
theorem dX7_mean_37 : decode cX7_mean 37 = .ok (.isub, 1) := by decide +kernel
theorem dX7_mean_38 : decode cX7_mean 38 = .ok (.aload_n 0, 1) := by decide +kernel
theorem dX7_mean_39 : decode cX7_mean 39 = .ok (.getfield 10, 3) := by decide +kernel
theorem dX7_mean_42 : decode cX7_mean 42 = .ok (.aload_n 0, 1) := by decide +kernel
theorem dX7_mean_43 : decode cX7_mean 43 = .ok (.getfield 10, 3) := by decide +kernel
theorem dX7_mean_46 : decode cX7_mean 46 = .ok (.iload_n 2, 1) := by decide +kernel
theorem dX7_mean_47 : decode cX7_mean 47 = .ok (.invokevirtual 133, 3) := by decide +kernel
theorem dX7_mean_50 : decode cX7_mean 50 = .ok (.invokevirtual 113, 3) := by decide +kernel
theorem dX7_mean_53 : decode cX7_mean 53 = .ok (.imul, 1) := by decide +kernel
theorem dX7_mean_54 : decode cX7_mean 54 = .ok (.i2l, 1) := by decide +kernel
theorem dX7_mean_55 : decode cX7_mean 55 = .ok (.ldc2_w 222, 3) := by decide +kernel
theorem dX7_mean_58 : decode cX7_mean 58 = .ok (.iload_n 3, 1) := by decide +kernel
theorem dX7_mean_59 : decode cX7_mean 59 = .ok (.invokestatic 194, 3) := by decide +kernel
theorem dX7_mean_62 : decode cX7_mean 62 = .ok (.lreturn, 1) := by decide +kernel
set_option maxRecDepth 20000 in
theorem ggX7_see_X2_hasLords : GoodIn wsX7_see wsX2_hasLords := goodIn_r _ [7, 8, 9, 10, 6, 11, 12, 35, 36, 37, 38, 39, 40, 41, 42] (by decide +kernel) (by decide +kernel)
set_option maxRecDepth 20000 in
theorem gX7_see_X2_hasLords : GoodIn wsX7_see (wsV RX7 175 RX2 yX2_hasLords wsX2_hasLords) := goodIn_app (goodIn_of _ (by decide +kernel)) ggX7_see_X2_hasLords
set_option maxRecDepth 20000 in
theorem ggX7_see_X6_add : GoodIn wsX7_see wsX6_add := goodIn_r _ [17, 18, 19, 20, 32, 33, 34] (by decide +kernel) (by decide +kernel)
set_option maxRecDepth 20000 in
theorem gX7_see_X6_add : GoodIn wsX7_see (wsV RX7 224 RX6 yX6_add wsX6_add) := goodIn_app (goodIn_of _ (by decide +kernel)) ggX7_see_X6_add
theorem dX7_see_0 : decode cX7_see 0 = .ok (.aload_n 0, 1) := by decide +kernel
theorem dX7_see_1 : decode cX7_see 1 = .ok (.getfield 10, 3) := by decide +kernel
theorem dX7_see_4 : decode cX7_see 4 = .ok (.iload_n 1, 1) := by decide +kernel
theorem dX7_see_5 : decode cX7_see 5 = .ok (.invokevirtual 175, 3) := by decide +kernel
theorem dX7_see_8 : decode cX7_see 8 = .ok (.ifCond .ne 5, 3) := by decide +kernel
theorem dX7_see_11 : decode cX7_see 11 = .ok (.iconst (-1), 1) := by decide +kernel
theorem dX7_see_12 : decode cX7_see 12 = .ok (.ireturn, 1) := by decide +kernel
theorem dX7_see_13 : decode cX7_see 13 = .ok (.aload_n 0, 1) := by decide +kernel
theorem dX7_see_14 : decode cX7_see 14 = .ok (.getfield 49, 3) := by decide +kernel
theorem dX7_see_17 : decode cX7_see 17 = .ok (.iload_n 1, 1) := by decide +kernel
theorem dX7_see_18 : decode cX7_see 18 = .ok (.iload_n 2, 1) := by decide +kernel
theorem dX7_see_19 : decode cX7_see 19 = .ok (.invokevirtual 224, 3) := by decide +kernel
theorem dX7_see_22 : decode cX7_see 22 = .ok (.ifCond .eq 13, 3) := by decide +kernel
theorem dX7_see_25 : decode cX7_see 25 = .ok (.aload_n 0, 1) := by decide +kernel
theorem dX7_see_26 : decode cX7_see 26 = .ok (.getfield 49, 3) := by decide +kernel
theorem dX7_see_29 : decode cX7_see 29 = .ok (.getfield 98, 3) := by decide +kernel
theorem dX7_see_32 : decode cX7_see 32 = .ok (.goto 5, 3) := by decide +kernel
theorem dX7_see_35 : decode cX7_see 35 = .ok (.bipush (-3), 2) := by decide +kernel
theorem dX7_see_37 : decode cX7_see 37 = .ok (.ireturn, 1) := by decide +kernel
set_option maxRecDepth 20000 in
theorem ggX7_forget_X7_within : GoodIn wsX7_forget wsX7_within := goodIn_r _ [5] (by decide +kernel) (by decide +kernel)
set_option maxRecDepth 20000 in
theorem gX7_forget_X7_within : GoodIn wsX7_forget (va_wsS RX7 67 yX7_within wsX7_within) := goodIn_app (goodIn_of _ (by decide +kernel)) ggX7_forget_X7_within
theorem dX7_forget_0 : decode cX7_forget 0 = .ok (.iload_n 1, 1) := by decide +kernel
theorem dX7_forget_1 : decode cX7_forget 1 = .ok (.iconst 0, 1) := by decide +kernel
theorem dX7_forget_2 : decode cX7_forget 2 = .ok (.aload_n 0, 1) := by decide +kernel
theorem dX7_forget_3 : decode cX7_forget 3 = .ok (.getfield 49, 3) := by decide +kernel
theorem dX7_forget_6 : decode cX7_forget 6 = .ok (.getfield 98, 3) := by decide +kernel
theorem dX7_forget_9 : decode cX7_forget 9 = .ok (.invokestatic 67, 3) := by decide +kernel
theorem dX7_forget_12 : decode cX7_forget 12 = .ok (.ifCond .ne 5, 3) := by decide +kernel
theorem dX7_forget_15 : decode cX7_forget 15 = .ok (.iconst (-1), 1) := by decide +kernel
theorem dX7_forget_16 : decode cX7_forget 16 = .ok (.ireturn, 1) := by decide +kernel
theorem dX7_forget_17 : decode cX7_forget 17 = .ok (.aload_n 0, 1) := by decide +kernel
theorem dX7_forget_18 : decode cX7_forget 18 = .ok (.getfield 49, 3) := by decide +kernel
theorem dX7_forget_21 : decode cX7_forget 21 = .ok (.getfield 98, 3) := by decide +kernel
theorem dX7_forget_24 : decode cX7_forget 24 = .ok (.istore_n 2, 1) := by decide +kernel
theorem dX7_forget_25 : decode cX7_forget 25 = .ok (.aload_n 0, 1) := by decide +kernel
theorem dX7_forget_26 : decode cX7_forget 26 = .ok (.getfield 49, 3) := by decide +kernel
theorem dX7_forget_29 : decode cX7_forget 29 = .ok (.iload_n 1, 1) := by decide +kernel
theorem dX7_forget_30 : decode cX7_forget 30 = .ok (.putfield 98, 3) := by decide +kernel
theorem dX7_forget_33 : decode cX7_forget 33 = .ok (.iload_n 2, 1) := by decide +kernel
theorem dX7_forget_34 : decode cX7_forget 34 = .ok (.ireturn, 1) := by decide +kernel
set_option maxRecDepth 20000 in
theorem ggX7_owners_X2_hasBorough : GoodIn wsX7_owners wsX2_hasBorough := goodIn_r _ [6, 7, 74, 75, 76, 77, 78, 79, 80, 81] (by decide +kernel) (by decide +kernel)
set_option maxRecDepth 20000 in
theorem gX7_owners_X2_hasBorough : GoodIn wsX7_owners (wsV RX7 136 RX2 yX2_hasBorough wsX2_hasBorough) := goodIn_app (goodIn_of _ (by decide +kernel)) ggX7_owners_X2_hasBorough
set_option maxRecDepth 20000 in
theorem ggX7_owners_X7_possibleOwners : GoodIn wsX7_owners wsX7_possibleOwners := goodIn_r _ [12, 13, 1, 14, 15, 16, 17, 5, 18, 19, 7, 20, 21, 22, 23, 24, 25, 26, 27, 28, 11, 29, 30, 31, 32, 33, 34, 35, 36, 37, 38, 39, 40, 41, 42, 43, 44, 45, 46, 47, 48, 49, 50, 51, 52, 53, 54, 55, 56, 57, 58, 59, 60, 61, 62, 63, 64, 65, 66, 67, 68, 69, 70, 71, 72, 73, 74, 75, 76, 77, 78, 79, 80, 81, 82, 83, 84] (by decide +kernel) (by decide +kernel)
set_option maxRecDepth 20000 in
theorem gX7_owners_X7_possibleOwners : GoodIn wsX7_owners (wsV RX7 227 RX7 yX7_possibleOwners wsX7_possibleOwners) := goodIn_app (goodIn_of _ (by decide +kernel)) ggX7_owners_X7_possibleOwners
theorem dX7_owners_0 : decode cX7_owners 0 = .ok (.aload_n 0, 1) := by decide +kernel
theorem dX7_owners_1 : decode cX7_owners 1 = .ok (.getfield 10, 3) := by decide +kernel
theorem dX7_owners_4 : decode cX7_owners 4 = .ok (.iload_n 1, 1) := by decide +kernel
theorem dX7_owners_5 : decode cX7_owners 5 = .ok (.invokevirtual 136, 3) := by decide +kernel
theorem dX7_owners_8 : decode cX7_owners 8 = .ok (.ifCond .eq 11, 3) := by decide +kernel
theorem dX7_owners_11 : decode cX7_owners 11 = .ok (.aload_n 0, 1) := by decide +kernel
theorem dX7_owners_12 : decode cX7_owners 12 = .ok (.iload_n 1, 1) := by decide +kernel
theorem dX7_owners_13 : decode cX7_owners 13 = .ok (.invokevirtual 227, 3) := by decide +kernel
theorem dX7_owners_16 : decode cX7_owners 16 = .ok (.goto 4, 3) := by decide +kernel
theorem dX7_owners_19 : decode cX7_owners 19 = .ok (.iconst (-1), 1) := by decide +kernel
theorem dX7_owners_20 : decode cX7_owners 20 = .ok (.ireturn, 1) := by decide +kernel
set_option maxRecDepth 20000 in
theorem ggX7_seats_X2_hasBorough : GoodIn wsX7_seats wsX2_hasBorough := goodIn_r _ [8, 9, 59, 60, 61, 62, 63, 64, 65, 66] (by decide +kernel) (by decide +kernel)
set_option maxRecDepth 20000 in
theorem gX7_seats_X2_hasBorough : GoodIn wsX7_seats (wsV RX7 136 RX2 yX2_hasBorough wsX2_hasBorough) := goodIn_app (goodIn_of _ (by decide +kernel)) ggX7_seats_X2_hasBorough
set_option maxRecDepth 20000 in
theorem ggX7_seats_X2_copyFrom : GoodIn wsX7_seats wsX2_copyFrom := goodIn_r _ [13, 14, 9, 15, 16, 17, 18, 19, 20, 59, 60, 61, 62, 63, 64, 65, 66] (by decide +kernel) (by decide +kernel)
set_option maxRecDepth 20000 in
theorem gX7_seats_X2_copyFrom : GoodIn wsX7_seats (wsV RX7 94 RX2 yX2_copyFrom wsX2_copyFrom) := goodIn_app (goodIn_of _ (by decide +kernel)) ggX7_seats_X2_copyFrom
set_option maxRecDepth 20000 in
theorem ggX7_seats_X6_fits : GoodIn wsX7_seats wsX6_fits := goodIn_r _ [25, 26, 27, 28, 29, 30, 31, 7, 32, 33, 34, 35, 36, 9, 20, 37, 38, 39, 40, 41, 42, 43, 19, 44, 45, 46, 47, 67, 68, 69, 59, 60, 61, 62, 63, 64, 65, 66] (by decide +kernel) (by decide +kernel)
set_option maxRecDepth 20000 in
theorem gX7_seats_X6_fits : GoodIn wsX7_seats (wsV RX7 230 RX6 yX6_fits wsX6_fits) := goodIn_app (goodIn_of _ (by decide +kernel)) ggX7_seats_X6_fits
theorem dX7_seats_0 : decode cX7_seats 0 = .ok (.aload_n 0, 1) := by decide +kernel
theorem dX7_seats_1 : decode cX7_seats 1 = .ok (.getfield 10, 3) := by decide +kernel
theorem dX7_seats_4 : decode cX7_seats 4 = .ok (.iload_n 1, 1) := by decide +kernel
theorem dX7_seats_5 : decode cX7_seats 5 = .ok (.invokevirtual 136, 3) := by decide +kernel
theorem dX7_seats_8 : decode cX7_seats 8 = .ok (.ifCond .ne 5, 3) := by decide +kernel
theorem dX7_seats_11 : decode cX7_seats 11 = .ok (.iconst (-1), 1) := by decide +kernel
theorem dX7_seats_12 : decode cX7_seats 12 = .ok (.ireturn, 1) := by decide +kernel
theorem dX7_seats_13 : decode cX7_seats 13 = .ok (.aload_n 0, 1) := by decide +kernel
theorem dX7_seats_14 : decode cX7_seats 14 = .ok (.getfield 16, 3) := by decide +kernel
theorem dX7_seats_17 : decode cX7_seats 17 = .ok (.aload_n 0, 1) := by decide +kernel
theorem dX7_seats_18 : decode cX7_seats 18 = .ok (.getfield 10, 3) := by decide +kernel
theorem dX7_seats_21 : decode cX7_seats 21 = .ok (.invokevirtual 94, 3) := by decide +kernel
theorem dX7_seats_24 : decode cX7_seats 24 = .ok (.iconst 0, 1) := by decide +kernel
theorem dX7_seats_25 : decode cX7_seats 25 = .ok (.istore_n 2, 1) := by decide +kernel
theorem dX7_seats_26 : decode cX7_seats 26 = .ok (.iconst 0, 1) := by decide +kernel
theorem dX7_seats_27 : decode cX7_seats 27 = .ok (.istore_n 3, 1) := by decide +kernel
theorem dX7_seats_28 : decode cX7_seats 28 = .ok (.iload_n 3, 1) := by decide +kernel
theorem dX7_seats_29 : decode cX7_seats 29 = .ok (.iconst 3, 1) := by decide +kernel
theorem dX7_seats_30 : decode cX7_seats 30 = .ok (.if_icmp .gt 39, 3) := by decide +kernel
theorem dX7_seats_33 : decode cX7_seats 33 = .ok (.aload_n 0, 1) := by decide +kernel
theorem dX7_seats_34 : decode cX7_seats 34 = .ok (.getfield 16, 3) := by decide +kernel
theorem dX7_seats_37 : decode cX7_seats 37 = .ok (.getfield 145, 3) := by decide +kernel
theorem dX7_seats_40 : decode cX7_seats 40 = .ok (.iload_n 1, 1) := by decide +kernel
theorem dX7_seats_41 : decode cX7_seats 41 = .ok (.iload_n 3, 1) := by decide +kernel
theorem dX7_seats_42 : decode cX7_seats 42 = .ok (.iastore, 1) := by decide +kernel
theorem dX7_seats_43 : decode cX7_seats 43 = .ok (.aload_n 0, 1) := by decide +kernel
theorem dX7_seats_44 : decode cX7_seats 44 = .ok (.getfield 49, 3) := by decide +kernel
theorem dX7_seats_47 : decode cX7_seats 47 = .ok (.aload_n 0, 1) := by decide +kernel
theorem dX7_seats_48 : decode cX7_seats 48 = .ok (.getfield 16, 3) := by decide +kernel
theorem dX7_seats_51 : decode cX7_seats 51 = .ok (.invokevirtual 230, 3) := by decide +kernel
theorem dX7_seats_54 : decode cX7_seats 54 = .ok (.ifCond .eq 9, 3) := by decide +kernel
theorem dX7_seats_57 : decode cX7_seats 57 = .ok (.iload_n 2, 1) := by decide +kernel
theorem dX7_seats_58 : decode cX7_seats 58 = .ok (.iconst 1, 1) := by decide +kernel
theorem dX7_seats_59 : decode cX7_seats 59 = .ok (.iload_n 3, 1) := by decide +kernel
theorem dX7_seats_60 : decode cX7_seats 60 = .ok (.ishl, 1) := by decide +kernel
theorem dX7_seats_61 : decode cX7_seats 61 = .ok (.ior, 1) := by decide +kernel
theorem dX7_seats_62 : decode cX7_seats 62 = .ok (.istore_n 2, 1) := by decide +kernel
theorem dX7_seats_63 : decode cX7_seats 63 = .ok (.iinc 3 1, 3) := by decide +kernel
theorem dX7_seats_66 : decode cX7_seats 66 = .ok (.goto (-38), 3) := by decide +kernel
theorem dX7_seats_69 : decode cX7_seats 69 = .ok (.iload_n 2, 1) := by decide +kernel
theorem dX7_seats_70 : decode cX7_seats 70 = .ok (.ireturn, 1) := by decide +kernel
set_option maxRecDepth 20000 in
theorem ggX7_ask_X2_hasBorough : GoodIn wsX7_ask wsX2_hasBorough := goodIn_r _ [10, 11, 98, 99, 100, 101, 102, 103, 104, 105] (by decide +kernel) (by decide +kernel)
set_option maxRecDepth 20000 in
theorem gX7_ask_X2_hasBorough : GoodIn wsX7_ask (wsV RX7 136 RX2 yX2_hasBorough wsX2_hasBorough) := goodIn_app (goodIn_of _ (by decide +kernel)) ggX7_ask_X2_hasBorough
set_option maxRecDepth 20000 in
theorem ggX7_ask_X7_within : GoodIn wsX7_ask wsX7_within := goodIn_r _ [15] (by decide +kernel) (by decide +kernel)
set_option maxRecDepth 20000 in
theorem gX7_ask_X7_within : GoodIn wsX7_ask (va_wsS RX7 67 yX7_within wsX7_within) := goodIn_app (goodIn_of _ (by decide +kernel)) ggX7_ask_X7_within
set_option maxRecDepth 20000 in
theorem ggX7_ask_X7_possibleOwners : GoodIn wsX7_ask wsX7_possibleOwners := goodIn_r _ [19, 20, 1, 21, 22, 23, 24, 9, 25, 26, 11, 27, 28, 29, 30, 31, 32, 33, 34, 35, 14, 36, 37, 38, 39, 40, 41, 42, 43, 44, 45, 46, 47, 48, 49, 50, 51, 52, 53, 54, 55, 56, 57, 58, 59, 60, 61, 62, 63, 64, 65, 66, 67, 68, 69, 87, 88, 89, 90, 91, 92, 93, 94, 95, 96, 97, 98, 99, 100, 101, 102, 103, 104, 105, 106, 107, 108] (by decide +kernel) (by decide +kernel)
set_option maxRecDepth 20000 in
theorem gX7_ask_X7_possibleOwners : GoodIn wsX7_ask (wsV RX7 227 RX7 yX7_possibleOwners wsX7_possibleOwners) := goodIn_app (goodIn_of _ (by decide +kernel)) ggX7_ask_X7_possibleOwners
set_option maxRecDepth 20000 in
theorem ggX7_ask_J6_bitCount_0f7a4 : GoodIn wsX7_ask wsJ6_bitCount_0f7a4 := goodIn_r _ [73, 74, 75, 76] (by decide +kernel) (by decide +kernel)
set_option maxRecDepth 20000 in
theorem gX7_ask_J6_bitCount_0f7a4 : GoodIn wsX7_ask (va_wsS RX7 200 yJ6_bitCount_0f7a4 wsJ6_bitCount_0f7a4) := goodIn_app (goodIn_of _ (by decide +kernel)) ggX7_ask_J6_bitCount_0f7a4
set_option maxRecDepth 20000 in
theorem ggX7_ask_X2_everyLord : GoodIn wsX7_ask wsX2_everyLord := goodIn_r _ [80, 26, 98, 99, 100, 101, 102, 103, 104, 105] (by decide +kernel) (by decide +kernel)
set_option maxRecDepth 20000 in
theorem gX7_ask_X2_everyLord : GoodIn wsX7_ask (wsV RX7 234 RX2 yX2_everyLord wsX2_everyLord) := goodIn_app (goodIn_of _ (by decide +kernel)) ggX7_ask_X2_everyLord
set_option maxRecDepth 20000 in
theorem ggX7_ask_X7_ownersThatCarry : GoodIn wsX7_ask wsX7_ownersThatCarry := goodIn_r _ [84, 20, 1, 22, 23, 24, 9, 25, 26, 11, 27, 28, 29, 30, 31, 32, 85, 60, 14, 61, 41, 42, 43, 86, 53, 54, 55, 56, 57, 58, 59, 62, 63, 64, 65, 66, 67, 68, 69, 87, 88, 89, 90, 91, 92, 93, 94, 95, 96, 97, 98, 99, 100, 101, 102, 103, 104, 105] (by decide +kernel) (by decide +kernel)
set_option maxRecDepth 20000 in
theorem gX7_ask_X7_ownersThatCarry : GoodIn wsX7_ask (wsV RX7 237 RX7 yX7_ownersThatCarry wsX7_ownersThatCarry) := goodIn_app (goodIn_of _ (by decide +kernel)) ggX7_ask_X7_ownersThatCarry
theorem dX7_ask_0 : decode cX7_ask 0 = .ok (.aload_n 0, 1) := by decide +kernel
theorem dX7_ask_1 : decode cX7_ask 1 = .ok (.getfield 10, 3) := by decide +kernel
theorem dX7_ask_4 : decode cX7_ask 4 = .ok (.iload_n 1, 1) := by decide +kernel
theorem dX7_ask_5 : decode cX7_ask 5 = .ok (.invokevirtual 136, 3) := by decide +kernel
theorem dX7_ask_8 : decode cX7_ask 8 = .ok (.ifCond .eq 12, 3) := by decide +kernel
theorem dX7_ask_11 : decode cX7_ask 11 = .ok (.iload_n 2, 1) := by decide +kernel
theorem dX7_ask_12 : decode cX7_ask 12 = .ok (.iconst 0, 1) := by decide +kernel
theorem dX7_ask_13 : decode cX7_ask 13 = .ok (.iconst 1, 1) := by decide +kernel
theorem dX7_ask_14 : decode cX7_ask 14 = .ok (.invokestatic 67, 3) := by decide +kernel
theorem dX7_ask_17 : decode cX7_ask 17 = .ok (.ifCond .ne 5, 3) := by decide +kernel
theorem dX7_ask_20 : decode cX7_ask 20 = .ok (.iconst (-1), 1) := by decide +kernel
theorem dX7_ask_21 : decode cX7_ask 21 = .ok (.ireturn, 1) := by decide +kernel
theorem dX7_ask_22 : decode cX7_ask 22 = .ok (.aload_n 0, 1) := by decide +kernel
theorem dX7_ask_23 : decode cX7_ask 23 = .ok (.iload_n 1, 1) := by decide +kernel
theorem dX7_ask_24 : decode cX7_ask 24 = .ok (.invokevirtual 227, 3) := by decide +kernel
theorem dX7_ask_27 : decode cX7_ask 27 = .ok (.istore_n 3, 1) := by decide +kernel
theorem dX7_ask_28 : decode cX7_ask 28 = .ok (.iload_n 3, 1) := by decide +kernel
theorem dX7_ask_29 : decode cX7_ask 29 = .ok (.invokestatic 200, 3) := by decide +kernel
theorem dX7_ask_32 : decode cX7_ask 32 = .ok (.istore 4, 2) := by decide +kernel
theorem dX7_ask_34 : decode cX7_ask 34 = .ok (.iload 4, 2) := by decide +kernel
theorem dX7_ask_36 : decode cX7_ask 36 = .ok (.istore 5, 2) := by decide +kernel
theorem dX7_ask_38 : decode cX7_ask 38 = .ok (.bipush (-4), 2) := by decide +kernel
theorem dX7_ask_40 : decode cX7_ask 40 = .ok (.istore 6, 2) := by decide +kernel
theorem dX7_ask_42 : decode cX7_ask 42 = .ok (.iconst 1, 1) := by decide +kernel
theorem dX7_ask_43 : decode cX7_ask 43 = .ok (.istore 7, 2) := by decide +kernel
theorem dX7_ask_45 : decode cX7_ask 45 = .ok (.iload 7, 2) := by decide +kernel
theorem dX7_ask_47 : decode cX7_ask 47 = .ok (.aload_n 0, 1) := by decide +kernel
theorem dX7_ask_48 : decode cX7_ask 48 = .ok (.getfield 10, 3) := by decide +kernel
theorem dX7_ask_51 : decode cX7_ask 51 = .ok (.invokevirtual 234, 3) := by decide +kernel
theorem dX7_ask_54 : decode cX7_ask 54 = .ok (.if_icmp .gt 46, 3) := by decide +kernel
theorem dX7_ask_57 : decode cX7_ask 57 = .ok (.aload_n 0, 1) := by decide +kernel
theorem dX7_ask_58 : decode cX7_ask 58 = .ok (.iload_n 1, 1) := by decide +kernel
theorem dX7_ask_59 : decode cX7_ask 59 = .ok (.iload_n 3, 1) := by decide +kernel
theorem dX7_ask_60 : decode cX7_ask 60 = .ok (.iload 7, 2) := by decide +kernel
theorem dX7_ask_62 : decode cX7_ask 62 = .ok (.invokevirtual 237, 3) := by decide +kernel
theorem dX7_ask_65 : decode cX7_ask 65 = .ok (.istore 8, 2) := by decide +kernel
theorem dX7_ask_67 : decode cX7_ask 67 = .ok (.iload 8, 2) := by decide +kernel
theorem dX7_ask_69 : decode cX7_ask 69 = .ok (.iload 4, 2) := by decide +kernel
theorem dX7_ask_71 : decode cX7_ask 71 = .ok (.iload 8, 2) := by decide +kernel
theorem dX7_ask_73 : decode cX7_ask 73 = .ok (.isub, 1) := by decide +kernel
theorem dX7_ask_74 : decode cX7_ask 74 = .ok (.invokestatic 241, 3) := by decide +kernel
theorem dX7_ask_77 : decode cX7_ask 77 = .ok (.istore 9, 2) := by decide +kernel
theorem dX7_ask_79 : decode cX7_ask 79 = .ok (.iload 9, 2) := by decide +kernel
theorem dX7_ask_81 : decode cX7_ask 81 = .ok (.iload 5, 2) := by decide +kernel
theorem dX7_ask_83 : decode cX7_ask 83 = .ok (.if_icmp .ge 11, 3) := by decide +kernel
theorem dX7_ask_86 : decode cX7_ask 86 = .ok (.iload 9, 2) := by decide +kernel
theorem dX7_ask_88 : decode cX7_ask 88 = .ok (.istore 5, 2) := by decide +kernel
theorem dX7_ask_90 : decode cX7_ask 90 = .ok (.iload 7, 2) := by decide +kernel
theorem dX7_ask_92 : decode cX7_ask 92 = .ok (.istore 6, 2) := by decide +kernel
theorem dX7_ask_94 : decode cX7_ask 94 = .ok (.iinc 7 1, 3) := by decide +kernel
theorem dX7_ask_97 : decode cX7_ask 97 = .ok (.goto (-52), 3) := by decide +kernel
theorem dX7_ask_100 : decode cX7_ask 100 = .ok (.iload 6, 2) := by decide +kernel
theorem dX7_ask_102 : decode cX7_ask 102 = .ok (.bipush (-4), 2) := by decide +kernel
theorem dX7_ask_104 : decode cX7_ask 104 = .ok (.if_icmp .eq 7, 3) := by decide +kernel
theorem dX7_ask_107 : decode cX7_ask 107 = .ok (.iload_n 2, 1) := by decide +kernel
theorem dX7_ask_108 : decode cX7_ask 108 = .ok (.ifCond .ne 8, 3) := by decide +kernel
theorem dX7_ask_111 : decode cX7_ask 111 = .ok (.iload 6, 2) := by decide +kernel
theorem dX7_ask_113 : decode cX7_ask 113 = .ok (.goto 5, 3) := by decide +kernel
theorem dX7_ask_116 : decode cX7_ask 116 = .ok (.iload 5, 2) := by decide +kernel
theorem dX7_ask_118 : decode cX7_ask 118 = .ok (.ireturn, 1) := by decide +kernel
set_option maxRecDepth 20000 in
theorem ggX7_drift_X7_within : GoodIn wsX7_drift wsX7_within := goodIn_r _ [6] (by decide +kernel) (by decide +kernel)
set_option maxRecDepth 20000 in
theorem gX7_drift_X7_within : GoodIn wsX7_drift (va_wsS RX7 67 yX7_within wsX7_within) := goodIn_app (goodIn_of _ (by decide +kernel)) ggX7_drift_X7_within
set_option maxRecDepth 20000 in
theorem ggX7_drift_X2_copyFrom : GoodIn wsX7_drift wsX2_copyFrom := goodIn_r _ [11, 12, 13, 14, 15, 16, 17, 18, 19, 70, 71, 72, 73, 74, 75, 76, 77] (by decide +kernel) (by decide +kernel)
set_option maxRecDepth 20000 in
theorem gX7_drift_X2_copyFrom : GoodIn wsX7_drift (wsV RX7 94 RX2 yX2_copyFrom wsX2_copyFrom) := goodIn_app (goodIn_of _ (by decide +kernel)) ggX7_drift_X2_copyFrom
set_option maxRecDepth 20000 in
theorem ggX7_drift_X7_nextSeed : GoodIn wsX7_drift wsX7_nextSeed := goodIn_r _ [22, 23] (by decide +kernel) (by decide +kernel)
set_option maxRecDepth 20000 in
theorem gX7_drift_X7_nextSeed : GoodIn wsX7_drift (va_wsS RX7 246 yX7_nextSeed wsX7_nextSeed) := goodIn_app (goodIn_of _ (by decide +kernel)) ggX7_drift_X7_nextSeed
set_option maxRecDepth 20000 in
theorem ggX7_drift_X7_drawn : GoodIn wsX7_drift wsX7_drawn := goodIn_r _ [26] (by decide +kernel) (by decide +kernel)
set_option maxRecDepth 20000 in
theorem gX7_drift_X7_drawn : GoodIn wsX7_drift (va_wsS RX7 249 yX7_drawn wsX7_drawn) := goodIn_app (goodIn_of _ (by decide +kernel)) ggX7_drift_X7_drawn
set_option maxRecDepth 20000 in
theorem ggX7_drift_X2_sell : GoodIn wsX7_drift wsX2_sell := goodIn_r _ [30, 19, 15, 31, 32, 33, 34, 35, 36, 37, 10, 38, 39, 40, 41, 42, 12, 43, 44, 45, 46, 13, 47, 48, 49, 50, 14, 51, 52, 53, 54, 17, 16, 70, 71, 72, 73, 74, 75, 76, 77] (by decide +kernel) (by decide +kernel)
set_option maxRecDepth 20000 in
theorem gX7_drift_X2_sell : GoodIn wsX7_drift (wsV RX7 161 RX2 yX2_sell wsX2_sell) := goodIn_app (goodIn_of _ (by decide +kernel)) ggX7_drift_X2_sell
set_option maxRecDepth 20000 in
theorem ggX7_drift_X2_allGuineas : GoodIn wsX7_drift wsX2_allGuineas := goodIn_r _ [58, 12, 15, 70, 71, 72, 73, 74, 75, 76, 77] (by decide +kernel) (by decide +kernel)
set_option maxRecDepth 20000 in
theorem gX7_drift_X2_allGuineas : GoodIn wsX7_drift (wsV RX7 117 RX2 yX2_allGuineas wsX2_allGuineas) := goodIn_app (goodIn_of _ (by decide +kernel)) ggX7_drift_X2_allGuineas
theorem dX7_drift_0 : decode cX7_drift 0 = .ok (.iload_n 2, 1) := by decide +kernel
theorem dX7_drift_1 : decode cX7_drift 1 = .ok (.iconst 1, 1) := by decide +kernel
theorem dX7_drift_2 : decode cX7_drift 2 = .ok (.bipush 60, 2) := by decide +kernel
theorem dX7_drift_4 : decode cX7_drift 4 = .ok (.invokestatic 67, 3) := by decide +kernel
theorem dX7_drift_7 : decode cX7_drift 7 = .ok (.ifCond .eq 12, 3) := by decide +kernel
theorem dX7_drift_10 : decode cX7_drift 10 = .ok (.iload_n 3, 1) := by decide +kernel
theorem dX7_drift_11 : decode cX7_drift 11 = .ok (.iconst 0, 1) := by decide +kernel
theorem dX7_drift_12 : decode cX7_drift 12 = .ok (.iconst 1, 1) := by decide +kernel
theorem dX7_drift_13 : decode cX7_drift 13 = .ok (.invokestatic 67, 3) := by decide +kernel
theorem dX7_drift_16 : decode cX7_drift 16 = .ok (.ifCond .ne 5, 3) := by decide +kernel
theorem dX7_drift_19 : decode cX7_drift 19 = .ok (.iconst (-1), 1) := by decide +kernel
theorem dX7_drift_20 : decode cX7_drift 20 = .ok (.ireturn, 1) := by decide +kernel
theorem dX7_drift_21 : decode cX7_drift 21 = .ok (.aload_n 0, 1) := by decide +kernel
theorem dX7_drift_22 : decode cX7_drift 22 = .ok (.getfield 10, 3) := by decide +kernel
theorem dX7_drift_25 : decode cX7_drift 25 = .ok (.getfield 101, 3) := by decide +kernel
theorem dX7_drift_28 : decode cX7_drift 28 = .ok (.ifCond .le 13, 3) := by decide +kernel
theorem dX7_drift_31 : decode cX7_drift 31 = .ok (.aload_n 0, 1) := by decide +kernel
theorem dX7_drift_32 : decode cX7_drift 32 = .ok (.getfield 10, 3) := by decide +kernel
theorem dX7_drift_35 : decode cX7_drift 35 = .ok (.getfield 104, 3) := by decide +kernel
theorem dX7_drift_38 : decode cX7_drift 38 = .ok (.ifCond .gt 6, 3) := by decide +kernel
theorem dX7_drift_41 : decode cX7_drift 41 = .ok (.bipush (-2), 2) := by decide +kernel
theorem dX7_drift_43 : decode cX7_drift 43 = .ok (.ireturn, 1) := by decide +kernel
theorem dX7_drift_44 : decode cX7_drift 44 = .ok (.aload_n 0, 1) := by decide +kernel
theorem dX7_drift_45 : decode cX7_drift 45 = .ok (.getfield 16, 3) := by decide +kernel
theorem dX7_drift_48 : decode cX7_drift 48 = .ok (.aload_n 0, 1) := by decide +kernel
theorem dX7_drift_49 : decode cX7_drift 49 = .ok (.getfield 10, 3) := by decide +kernel
theorem dX7_drift_52 : decode cX7_drift 52 = .ok (.invokevirtual 94, 3) := by decide +kernel
theorem dX7_drift_55 : decode cX7_drift 55 = .ok (.iload_n 1, 1) := by decide +kernel
theorem dX7_drift_56 : decode cX7_drift 56 = .ok (.istore 4, 2) := by decide +kernel
theorem dX7_drift_58 : decode cX7_drift 58 = .ok (.iconst 0, 1) := by decide +kernel
theorem dX7_drift_59 : decode cX7_drift 59 = .ok (.istore 5, 2) := by decide +kernel
theorem dX7_drift_61 : decode cX7_drift 61 = .ok (.iconst 0, 1) := by decide +kernel
theorem dX7_drift_62 : decode cX7_drift 62 = .ok (.istore 6, 2) := by decide +kernel
theorem dX7_drift_64 : decode cX7_drift 64 = .ok (.iload 6, 2) := by decide +kernel
theorem dX7_drift_66 : decode cX7_drift 66 = .ok (.iload_n 2, 1) := by decide +kernel
theorem dX7_drift_67 : decode cX7_drift 67 = .ok (.if_icmp .ge 70, 3) := by decide +kernel
theorem dX7_drift_70 : decode cX7_drift 70 = .ok (.iload 4, 2) := by decide +kernel
theorem dX7_drift_72 : decode cX7_drift 72 = .ok (.invokestatic 246, 3) := by decide +kernel
theorem dX7_drift_75 : decode cX7_drift 75 = .ok (.istore 4, 2) := by decide +kernel
theorem dX7_drift_77 : decode cX7_drift 77 = .ok (.iload 4, 2) := by decide +kernel
theorem dX7_drift_79 : decode cX7_drift 79 = .ok (.invokestatic 249, 3) := by decide +kernel
theorem dX7_drift_82 : decode cX7_drift 82 = .ok (.aload_n 0, 1) := by decide +kernel
theorem dX7_drift_83 : decode cX7_drift 83 = .ok (.getfield 10, 3) := by decide +kernel
theorem dX7_drift_86 : decode cX7_drift 86 = .ok (.getfield 101, 3) := by decide +kernel
theorem dX7_drift_89 : decode cX7_drift 89 = .ok (.irem, 1) := by decide +kernel
theorem dX7_drift_90 : decode cX7_drift 90 = .ok (.istore 7, 2) := by decide +kernel
theorem dX7_drift_92 : decode cX7_drift 92 = .ok (.iload 4, 2) := by decide +kernel
theorem dX7_drift_94 : decode cX7_drift 94 = .ok (.invokestatic 246, 3) := by decide +kernel
theorem dX7_drift_97 : decode cX7_drift 97 = .ok (.istore 4, 2) := by decide +kernel
theorem dX7_drift_99 : decode cX7_drift 99 = .ok (.iload 4, 2) := by decide +kernel
theorem dX7_drift_101 : decode cX7_drift 101 = .ok (.invokestatic 249, 3) := by decide +kernel
theorem dX7_drift_104 : decode cX7_drift 104 = .ok (.aload_n 0, 1) := by decide +kernel
theorem dX7_drift_105 : decode cX7_drift 105 = .ok (.getfield 10, 3) := by decide +kernel
theorem dX7_drift_108 : decode cX7_drift 108 = .ok (.getfield 104, 3) := by decide +kernel
theorem dX7_drift_111 : decode cX7_drift 111 = .ok (.irem, 1) := by decide +kernel
theorem dX7_drift_112 : decode cX7_drift 112 = .ok (.istore 8, 2) := by decide +kernel
theorem dX7_drift_114 : decode cX7_drift 114 = .ok (.aload_n 0, 1) := by decide +kernel
theorem dX7_drift_115 : decode cX7_drift 115 = .ok (.getfield 16, 3) := by decide +kernel
theorem dX7_drift_118 : decode cX7_drift 118 = .ok (.iload 7, 2) := by decide +kernel
theorem dX7_drift_120 : decode cX7_drift 120 = .ok (.iload 8, 2) := by decide +kernel
theorem dX7_drift_122 : decode cX7_drift 122 = .ok (.invokevirtual 161, 3) := by decide +kernel
theorem dX7_drift_125 : decode cX7_drift 125 = .ok (.ifCond .eq 6, 3) := by decide +kernel
theorem dX7_drift_128 : decode cX7_drift 128 = .ok (.iinc 5 1, 3) := by decide +kernel
theorem dX7_drift_131 : decode cX7_drift 131 = .ok (.iinc 6 1, 3) := by decide +kernel
theorem dX7_drift_134 : decode cX7_drift 134 = .ok (.goto (-70), 3) := by decide +kernel
theorem dX7_drift_137 : decode cX7_drift 137 = .ok (.iload_n 3, 1) := by decide +kernel
theorem dX7_drift_138 : decode cX7_drift 138 = .ok (.ifCond .ne 8, 3) := by decide +kernel
theorem dX7_drift_141 : decode cX7_drift 141 = .ok (.iload 5, 2) := by decide +kernel
theorem dX7_drift_143 : decode cX7_drift 143 = .ok (.goto 10, 3) := by decide +kernel
theorem dX7_drift_146 : decode cX7_drift 146 = .ok (.aload_n 0, 1) := by decide +kernel
theorem dX7_drift_147 : decode cX7_drift 147 = .ok (.getfield 16, 3) := by decide +kernel
theorem dX7_drift_150 : decode cX7_drift 150 = .ok (.invokevirtual 117, 3) := by decide +kernel
theorem dX7_drift_153 : decode cX7_drift 153 = .ok (.ireturn, 1) := by decide +kernel
set_option maxRecDepth 20000 in
theorem ggX7_keep_X7_within : GoodIn wsX7_keep wsX7_within := goodIn_r _ [7] (by decide +kernel) (by decide +kernel)
set_option maxRecDepth 20000 in
theorem gX7_keep_X7_within : GoodIn wsX7_keep (va_wsS RX7 67 yX7_within wsX7_within) := goodIn_app (goodIn_of _ (by decide +kernel)) ggX7_keep_X7_within
set_option maxRecDepth 20000 in
theorem ggX7_keep_X2_copyFrom : GoodIn wsX7_keep wsX2_copyFrom := goodIn_r _ [12, 13, 14, 15, 16, 17, 18, 19, 20, 32, 33, 34, 35, 36, 37, 38, 39] (by decide +kernel) (by decide +kernel)
set_option maxRecDepth 20000 in
theorem gX7_keep_X2_copyFrom : GoodIn wsX7_keep (wsV RX7 94 RX2 yX2_copyFrom wsX2_copyFrom) := goodIn_app (goodIn_of _ (by decide +kernel)) ggX7_keep_X2_copyFrom
theorem dX7_keep_0 : decode cX7_keep 0 = .ok (.iload_n 1, 1) := by decide +kernel
theorem dX7_keep_1 : decode cX7_keep 1 = .ok (.iconst 0, 1) := by decide +kernel
theorem dX7_keep_2 : decode cX7_keep 2 = .ok (.iconst 1, 1) := by decide +kernel
theorem dX7_keep_3 : decode cX7_keep 3 = .ok (.invokestatic 67, 3) := by decide +kernel
theorem dX7_keep_6 : decode cX7_keep 6 = .ok (.ifCond .ne 5, 3) := by decide +kernel
theorem dX7_keep_9 : decode cX7_keep 9 = .ok (.iconst (-1), 1) := by decide +kernel
theorem dX7_keep_10 : decode cX7_keep 10 = .ok (.ireturn, 1) := by decide +kernel
theorem dX7_keep_11 : decode cX7_keep 11 = .ok (.aload_n 0, 1) := by decide +kernel
theorem dX7_keep_12 : decode cX7_keep 12 = .ok (.getfield 23, 3) := by decide +kernel
theorem dX7_keep_15 : decode cX7_keep 15 = .ok (.iload_n 1, 1) := by decide +kernel
theorem dX7_keep_16 : decode cX7_keep 16 = .ok (.baload, 1) := by decide +kernel
theorem dX7_keep_17 : decode cX7_keep 17 = .ok (.ifCond .eq 7, 3) := by decide +kernel
theorem dX7_keep_20 : decode cX7_keep 20 = .ok (.iconst 1, 1) := by decide +kernel
theorem dX7_keep_21 : decode cX7_keep 21 = .ok (.goto 4, 3) := by decide +kernel
theorem dX7_keep_24 : decode cX7_keep 24 = .ok (.iconst 0, 1) := by decide +kernel
theorem dX7_keep_25 : decode cX7_keep 25 = .ok (.istore_n 2, 1) := by decide +kernel
theorem dX7_keep_26 : decode cX7_keep 26 = .ok (.aload_n 0, 1) := by decide +kernel
theorem dX7_keep_27 : decode cX7_keep 27 = .ok (.getfield 19, 3) := by decide +kernel
theorem dX7_keep_30 : decode cX7_keep 30 = .ok (.iload_n 1, 1) := by decide +kernel
theorem dX7_keep_31 : decode cX7_keep 31 = .ok (.aaload, 1) := by decide +kernel
theorem dX7_keep_32 : decode cX7_keep 32 = .ok (.aload_n 0, 1) := by decide +kernel
theorem dX7_keep_33 : decode cX7_keep 33 = .ok (.getfield 10, 3) := by decide +kernel
theorem dX7_keep_36 : decode cX7_keep 36 = .ok (.invokevirtual 94, 3) := by decide +kernel
theorem dX7_keep_39 : decode cX7_keep 39 = .ok (.aload_n 0, 1) := by decide +kernel
theorem dX7_keep_40 : decode cX7_keep 40 = .ok (.getfield 23, 3) := by decide +kernel
theorem dX7_keep_43 : decode cX7_keep 43 = .ok (.iload_n 1, 1) := by decide +kernel
theorem dX7_keep_44 : decode cX7_keep 44 = .ok (.iconst 1, 1) := by decide +kernel
theorem dX7_keep_45 : decode cX7_keep 45 = .ok (.bastore, 1) := by decide +kernel
theorem dX7_keep_46 : decode cX7_keep 46 = .ok (.iload_n 2, 1) := by decide +kernel
theorem dX7_keep_47 : decode cX7_keep 47 = .ok (.ireturn, 1) := by decide +kernel
set_option maxRecDepth 20000 in
theorem ggX7_back_X7_within : GoodIn wsX7_back wsX7_within := goodIn_r _ [7] (by decide +kernel) (by decide +kernel)
set_option maxRecDepth 20000 in
theorem gX7_back_X7_within : GoodIn wsX7_back (va_wsS RX7 67 yX7_within wsX7_within) := goodIn_app (goodIn_of _ (by decide +kernel)) ggX7_back_X7_within
set_option maxRecDepth 20000 in
theorem ggX7_back_X2_copyFrom : GoodIn wsX7_back wsX2_copyFrom := goodIn_r _ [12, 13, 14, 15, 16, 17, 18, 19, 20, 36, 37, 38, 39, 40, 41, 42, 43] (by decide +kernel) (by decide +kernel)
set_option maxRecDepth 20000 in
theorem gX7_back_X2_copyFrom : GoodIn wsX7_back (wsV RX7 94 RX2 yX2_copyFrom wsX2_copyFrom) := goodIn_app (goodIn_of _ (by decide +kernel)) ggX7_back_X2_copyFrom
set_option maxRecDepth 20000 in
theorem ggX7_back_X2_allGuineas : GoodIn wsX7_back wsX2_allGuineas := goodIn_r _ [24, 13, 16, 36, 37, 38, 39, 40, 41, 42, 43] (by decide +kernel) (by decide +kernel)
set_option maxRecDepth 20000 in
theorem gX7_back_X2_allGuineas : GoodIn wsX7_back (wsV RX7 117 RX2 yX2_allGuineas wsX2_allGuineas) := goodIn_app (goodIn_of _ (by decide +kernel)) ggX7_back_X2_allGuineas
theorem dX7_back_0 : decode cX7_back 0 = .ok (.iload_n 1, 1) := by decide +kernel
theorem dX7_back_1 : decode cX7_back 1 = .ok (.iconst 0, 1) := by decide +kernel
theorem dX7_back_2 : decode cX7_back 2 = .ok (.iconst 1, 1) := by decide +kernel
theorem dX7_back_3 : decode cX7_back 3 = .ok (.invokestatic 67, 3) := by decide +kernel
theorem dX7_back_6 : decode cX7_back 6 = .ok (.ifCond .ne 5, 3) := by decide +kernel
theorem dX7_back_9 : decode cX7_back 9 = .ok (.iconst (-1), 1) := by decide +kernel
theorem dX7_back_10 : decode cX7_back 10 = .ok (.ireturn, 1) := by decide +kernel
theorem dX7_back_11 : decode cX7_back 11 = .ok (.aload_n 0, 1) := by decide +kernel
theorem dX7_back_12 : decode cX7_back 12 = .ok (.getfield 23, 3) := by decide +kernel
theorem dX7_back_15 : decode cX7_back 15 = .ok (.iload_n 1, 1) := by decide +kernel
theorem dX7_back_16 : decode cX7_back 16 = .ok (.baload, 1) := by decide +kernel
theorem dX7_back_17 : decode cX7_back 17 = .ok (.ifCond .ne 6, 3) := by decide +kernel
theorem dX7_back_20 : decode cX7_back 20 = .ok (.bipush (-2), 2) := by decide +kernel
theorem dX7_back_22 : decode cX7_back 22 = .ok (.ireturn, 1) := by decide +kernel
theorem dX7_back_23 : decode cX7_back 23 = .ok (.aload_n 0, 1) := by decide +kernel
theorem dX7_back_24 : decode cX7_back 24 = .ok (.getfield 10, 3) := by decide +kernel
theorem dX7_back_27 : decode cX7_back 27 = .ok (.aload_n 0, 1) := by decide +kernel
theorem dX7_back_28 : decode cX7_back 28 = .ok (.getfield 19, 3) := by decide +kernel
theorem dX7_back_31 : decode cX7_back 31 = .ok (.iload_n 1, 1) := by decide +kernel
theorem dX7_back_32 : decode cX7_back 32 = .ok (.aaload, 1) := by decide +kernel
theorem dX7_back_33 : decode cX7_back 33 = .ok (.invokevirtual 94, 3) := by decide +kernel
theorem dX7_back_36 : decode cX7_back 36 = .ok (.aload_n 0, 1) := by decide +kernel
theorem dX7_back_37 : decode cX7_back 37 = .ok (.getfield 10, 3) := by decide +kernel
theorem dX7_back_40 : decode cX7_back 40 = .ok (.invokevirtual 117, 3) := by decide +kernel
theorem dX7_back_43 : decode cX7_back 43 = .ok (.ireturn, 1) := by decide +kernel
set_option maxRecDepth 20000 in
theorem ggX7_sheet_X7_within : GoodIn wsX7_sheet wsX7_within := goodIn_r _ [5] (by decide +kernel) (by decide +kernel)
set_option maxRecDepth 20000 in
theorem gX7_sheet_X7_within : GoodIn wsX7_sheet (va_wsS RX7 67 yX7_within wsX7_within) := goodIn_app (goodIn_of _ (by decide +kernel)) ggX7_sheet_X7_within
set_option maxRecDepth 20000 in
theorem ggX7_sheet_X3_renew : GoodIn wsX7_sheet wsX3_renew := goodIn_r _ [10, 11, 12, 13, 25, 26, 27] (by decide +kernel) (by decide +kernel)
set_option maxRecDepth 20000 in
theorem gX7_sheet_X3_renew : GoodIn wsX7_sheet (wsV RX7 252 RX3 yX3_renew wsX3_renew) := goodIn_app (goodIn_of _ (by decide +kernel)) ggX7_sheet_X3_renew
theorem dX7_sheet_0 : decode cX7_sheet 0 = .ok (.iload_n 1, 1) := by decide +kernel
theorem dX7_sheet_1 : decode cX7_sheet 1 = .ok (.iconst 0, 1) := by decide +kernel
theorem dX7_sheet_2 : decode cX7_sheet 2 = .ok (.iconst 3, 1) := by decide +kernel
theorem dX7_sheet_3 : decode cX7_sheet 3 = .ok (.invokestatic 67, 3) := by decide +kernel
theorem dX7_sheet_6 : decode cX7_sheet 6 = .ok (.ifCond .eq 18, 3) := by decide +kernel
theorem dX7_sheet_9 : decode cX7_sheet 9 = .ok (.iload_n 2, 1) := by decide +kernel
theorem dX7_sheet_10 : decode cX7_sheet 10 = .ok (.iconst 0, 1) := by decide +kernel
theorem dX7_sheet_11 : decode cX7_sheet 11 = .ok (.iconst 2, 1) := by decide +kernel
theorem dX7_sheet_12 : decode cX7_sheet 12 = .ok (.invokestatic 67, 3) := by decide +kernel
theorem dX7_sheet_15 : decode cX7_sheet 15 = .ok (.ifCond .eq 9, 3) := by decide +kernel
theorem dX7_sheet_18 : decode cX7_sheet 18 = .ok (.iload_n 3, 1) := by decide +kernel
theorem dX7_sheet_19 : decode cX7_sheet 19 = .ok (.bipush 40, 2) := by decide +kernel
theorem dX7_sheet_21 : decode cX7_sheet 21 = .ok (.if_icmp .le 5, 3) := by decide +kernel
theorem dX7_sheet_24 : decode cX7_sheet 24 = .ok (.iconst (-1), 1) := by decide +kernel
theorem dX7_sheet_25 : decode cX7_sheet 25 = .ok (.ireturn, 1) := by decide +kernel
theorem dX7_sheet_26 : decode cX7_sheet 26 = .ok (.iload_n 3, 1) := by decide +kernel
theorem dX7_sheet_27 : decode cX7_sheet 27 = .ok (.ifCond .ge 6, 3) := by decide +kernel
theorem dX7_sheet_30 : decode cX7_sheet 30 = .ok (.bipush (-14), 2) := by decide +kernel
theorem dX7_sheet_32 : decode cX7_sheet 32 = .ok (.ireturn, 1) := by decide +kernel
theorem dX7_sheet_33 : decode cX7_sheet 33 = .ok (.aload_n 0, 1) := by decide +kernel
theorem dX7_sheet_34 : decode cX7_sheet 34 = .ok (.getfield 62, 3) := by decide +kernel
theorem dX7_sheet_37 : decode cX7_sheet 37 = .ok (.iload_n 1, 1) := by decide +kernel
theorem dX7_sheet_38 : decode cX7_sheet 38 = .ok (.aaload, 1) := by decide +kernel
theorem dX7_sheet_39 : decode cX7_sheet 39 = .ok (.iload_n 2, 1) := by decide +kernel
theorem dX7_sheet_40 : decode cX7_sheet 40 = .ok (.iload_n 3, 1) := by decide +kernel
theorem dX7_sheet_41 : decode cX7_sheet 41 = .ok (.invokevirtual 252, 3) := by decide +kernel
theorem dX7_sheet_44 : decode cX7_sheet 44 = .ok (.iconst 1, 1) := by decide +kernel
theorem dX7_sheet_45 : decode cX7_sheet 45 = .ok (.ireturn, 1) := by decide +kernel
set_option maxRecDepth 20000 in
theorem ggX7_lay_X7_within : GoodIn wsX7_lay wsX7_within := goodIn_r _ [5] (by decide +kernel) (by decide +kernel)
set_option maxRecDepth 20000 in
theorem gX7_lay_X7_within : GoodIn wsX7_lay (va_wsS RX7 67 yX7_within wsX7_within) := goodIn_app (goodIn_of _ (by decide +kernel)) ggX7_lay_X7_within
set_option maxRecDepth 20000 in
theorem ggX7_lay_X3_faultAt : GoodIn wsX7_lay wsX3_faultAt := goodIn_r _ [10, 11, 3, 4, 5, 30, 31, 32] (by decide +kernel) (by decide +kernel)
set_option maxRecDepth 20000 in
theorem gX7_lay_X3_faultAt : GoodIn wsX7_lay (wsV RX7 256 RX3 yX3_faultAt wsX3_faultAt) := goodIn_app (goodIn_of _ (by decide +kernel)) ggX7_lay_X3_faultAt
set_option maxRecDepth 20000 in
theorem ggX7_lay_X3_put : GoodIn wsX7_lay wsX3_put := goodIn_r _ [15, 16, 17, 18, 7, 8, 9, 10, 11, 3, 4, 5, 30, 31, 32] (by decide +kernel) (by decide +kernel)
set_option maxRecDepth 20000 in
theorem gX7_lay_X3_put : GoodIn wsX7_lay (wsV RX7 259 RX3 yX3_put wsX3_put) := goodIn_app (goodIn_of _ (by decide +kernel)) ggX7_lay_X3_put
theorem dX7_lay_0 : decode cX7_lay 0 = .ok (.iload_n 1, 1) := by decide +kernel
theorem dX7_lay_1 : decode cX7_lay 1 = .ok (.iconst 0, 1) := by decide +kernel
theorem dX7_lay_2 : decode cX7_lay 2 = .ok (.iconst 3, 1) := by decide +kernel
theorem dX7_lay_3 : decode cX7_lay 3 = .ok (.invokestatic 67, 3) := by decide +kernel
theorem dX7_lay_6 : decode cX7_lay 6 = .ok (.ifCond .ne 5, 3) := by decide +kernel
theorem dX7_lay_9 : decode cX7_lay 9 = .ok (.iconst (-1), 1) := by decide +kernel
theorem dX7_lay_10 : decode cX7_lay 10 = .ok (.ireturn, 1) := by decide +kernel
theorem dX7_lay_11 : decode cX7_lay 11 = .ok (.aload_n 0, 1) := by decide +kernel
theorem dX7_lay_12 : decode cX7_lay 12 = .ok (.getfield 62, 3) := by decide +kernel
theorem dX7_lay_15 : decode cX7_lay 15 = .ok (.iload_n 1, 1) := by decide +kernel
theorem dX7_lay_16 : decode cX7_lay 16 = .ok (.aaload, 1) := by decide +kernel
theorem dX7_lay_17 : decode cX7_lay 17 = .ok (.iload_n 2, 1) := by decide +kernel
theorem dX7_lay_18 : decode cX7_lay 18 = .ok (.invokevirtual 256, 3) := by decide +kernel
theorem dX7_lay_21 : decode cX7_lay 21 = .ok (.istore 4, 2) := by decide +kernel
theorem dX7_lay_23 : decode cX7_lay 23 = .ok (.iload 4, 2) := by decide +kernel
theorem dX7_lay_25 : decode cX7_lay 25 = .ok (.ifCond .eq 9, 3) := by decide +kernel
theorem dX7_lay_28 : decode cX7_lay 28 = .ok (.bipush (-10), 2) := by decide +kernel
theorem dX7_lay_30 : decode cX7_lay 30 = .ok (.iload 4, 2) := by decide +kernel
theorem dX7_lay_32 : decode cX7_lay 32 = .ok (.isub, 1) := by decide +kernel
theorem dX7_lay_33 : decode cX7_lay 33 = .ok (.ireturn, 1) := by decide +kernel
theorem dX7_lay_34 : decode cX7_lay 34 = .ok (.aload_n 0, 1) := by decide +kernel
theorem dX7_lay_35 : decode cX7_lay 35 = .ok (.getfield 62, 3) := by decide +kernel
theorem dX7_lay_38 : decode cX7_lay 38 = .ok (.iload_n 1, 1) := by decide +kernel
theorem dX7_lay_39 : decode cX7_lay 39 = .ok (.aaload, 1) := by decide +kernel
theorem dX7_lay_40 : decode cX7_lay 40 = .ok (.iload_n 2, 1) := by decide +kernel
theorem dX7_lay_41 : decode cX7_lay 41 = .ok (.iload_n 3, 1) := by decide +kernel
theorem dX7_lay_42 : decode cX7_lay 42 = .ok (.invokevirtual 259, 3) := by decide +kernel
theorem dX7_lay_45 : decode cX7_lay 45 = .ok (.iconst 1, 1) := by decide +kernel
theorem dX7_lay_46 : decode cX7_lay 46 = .ok (.ireturn, 1) := by decide +kernel
set_option maxRecDepth 20000 in
theorem ggX7_read_X7_within : GoodIn wsX7_read wsX7_within := goodIn_r _ [8] (by decide +kernel) (by decide +kernel)
set_option maxRecDepth 20000 in
theorem gX7_read_X7_within : GoodIn wsX7_read (va_wsS RX7 67 yX7_within wsX7_within) := goodIn_app (goodIn_of _ (by decide +kernel)) ggX7_read_X7_within
set_option maxRecDepth 20000 in
theorem ggX7_read_X2_copyFrom : GoodIn wsX7_read wsX2_copyFrom := goodIn_r _ [13, 14, 15, 16, 17, 18, 19, 20, 21, 77, 78, 79, 80, 81, 82, 83, 84] (by decide +kernel) (by decide +kernel)
set_option maxRecDepth 20000 in
theorem gX7_read_X2_copyFrom : GoodIn wsX7_read (wsV RX7 94 RX2 yX2_copyFrom wsX2_copyFrom) := goodIn_app (goodIn_of _ (by decide +kernel)) ggX7_read_X2_copyFrom
set_option maxRecDepth 20000 in
theorem ggX7_read_X3_faultOfPair : GoodIn wsX7_read wsX3_faultOfPair := goodIn_r _ [26, 27, 28, 29, 30, 31, 25, 32, 6, 7, 8, 85, 86, 87] (by decide +kernel) (by decide +kernel)
set_option maxRecDepth 20000 in
theorem gX7_read_X3_faultOfPair : GoodIn wsX7_read (wsV RX7 262 RX3 yX3_faultOfPair wsX3_faultOfPair) := goodIn_app (goodIn_of _ (by decide +kernel)) ggX7_read_X3_faultOfPair
set_option maxRecDepth 20000 in
theorem ggX7_read_X3_cellAt : GoodIn wsX7_read wsX3_cellAt := goodIn_r _ [36, 37, 29, 30, 31, 25, 32, 27, 6, 7, 8, 85, 86, 87] (by decide +kernel) (by decide +kernel)
set_option maxRecDepth 20000 in
theorem gX7_read_X3_cellAt : GoodIn wsX7_read (wsV RX7 265 RX3 yX3_cellAt wsX3_cellAt) := goodIn_app (goodIn_of _ (by decide +kernel)) ggX7_read_X3_cellAt
set_option maxRecDepth 20000 in
theorem ggX7_read_X2_sell : GoodIn wsX7_read wsX2_sell := goodIn_r _ [41, 21, 17, 42, 43, 44, 45, 46, 47, 48, 12, 49, 50, 51, 52, 53, 14, 54, 55, 56, 57, 15, 58, 59, 60, 61, 16, 62, 63, 64, 65, 19, 18, 77, 78, 79, 80, 81, 82, 83, 84] (by decide +kernel) (by decide +kernel)
set_option maxRecDepth 20000 in
theorem gX7_read_X2_sell : GoodIn wsX7_read (wsV RX7 161 RX2 yX2_sell wsX2_sell) := goodIn_app (goodIn_of _ (by decide +kernel)) ggX7_read_X2_sell
theorem dX7_read_0 : decode cX7_read 0 = .ok (.iload_n 1, 1) := by decide +kernel
theorem dX7_read_1 : decode cX7_read 1 = .ok (.iconst 0, 1) := by decide +kernel
theorem dX7_read_2 : decode cX7_read 2 = .ok (.iconst 3, 1) := by decide +kernel
theorem dX7_read_3 : decode cX7_read 3 = .ok (.invokestatic 67, 3) := by decide +kernel
theorem dX7_read_6 : decode cX7_read 6 = .ok (.ifCond .eq 23, 3) := by decide +kernel
theorem dX7_read_9 : decode cX7_read 9 = .ok (.iload_n 2, 1) := by decide +kernel
theorem dX7_read_10 : decode cX7_read 10 = .ok (.iconst 0, 1) := by decide +kernel
theorem dX7_read_11 : decode cX7_read 11 = .ok (.iconst 2, 1) := by decide +kernel
theorem dX7_read_12 : decode cX7_read 12 = .ok (.invokestatic 67, 3) := by decide +kernel
theorem dX7_read_15 : decode cX7_read 15 = .ok (.ifCond .eq 14, 3) := by decide +kernel
theorem dX7_read_18 : decode cX7_read 18 = .ok (.iload 4, 2) := by decide +kernel
theorem dX7_read_20 : decode cX7_read 20 = .ok (.iconst 0, 1) := by decide +kernel
theorem dX7_read_21 : decode cX7_read 21 = .ok (.bipush 20, 2) := by decide +kernel
theorem dX7_read_23 : decode cX7_read 23 = .ok (.invokestatic 67, 3) := by decide +kernel
theorem dX7_read_26 : decode cX7_read 26 = .ok (.ifCond .ne 5, 3) := by decide +kernel
theorem dX7_read_29 : decode cX7_read 29 = .ok (.iconst (-1), 1) := by decide +kernel
theorem dX7_read_30 : decode cX7_read 30 = .ok (.ireturn, 1) := by decide +kernel
theorem dX7_read_31 : decode cX7_read 31 = .ok (.aload_n 0, 1) := by decide +kernel
theorem dX7_read_32 : decode cX7_read 32 = .ok (.getfield 62, 3) := by decide +kernel
theorem dX7_read_35 : decode cX7_read 35 = .ok (.iload_n 1, 1) := by decide +kernel
theorem dX7_read_36 : decode cX7_read 36 = .ok (.aaload, 1) := by decide +kernel
theorem dX7_read_37 : decode cX7_read 37 = .ok (.astore 5, 2) := by decide +kernel
theorem dX7_read_39 : decode cX7_read 39 = .ok (.aload_n 0, 1) := by decide +kernel
theorem dX7_read_40 : decode cX7_read 40 = .ok (.getfield 16, 3) := by decide +kernel
theorem dX7_read_43 : decode cX7_read 43 = .ok (.aload_n 0, 1) := by decide +kernel
theorem dX7_read_44 : decode cX7_read 44 = .ok (.getfield 10, 3) := by decide +kernel
theorem dX7_read_47 : decode cX7_read 47 = .ok (.invokevirtual 94, 3) := by decide +kernel
theorem dX7_read_50 : decode cX7_read 50 = .ok (.iconst 0, 1) := by decide +kernel
theorem dX7_read_51 : decode cX7_read 51 = .ok (.istore 6, 2) := by decide +kernel
theorem dX7_read_53 : decode cX7_read 53 = .ok (.iconst 0, 1) := by decide +kernel
theorem dX7_read_54 : decode cX7_read 54 = .ok (.istore 7, 2) := by decide +kernel
theorem dX7_read_56 : decode cX7_read 56 = .ok (.iconst 0, 1) := by decide +kernel
theorem dX7_read_57 : decode cX7_read 57 = .ok (.istore 8, 2) := by decide +kernel
theorem dX7_read_59 : decode cX7_read 59 = .ok (.iload 8, 2) := by decide +kernel
theorem dX7_read_61 : decode cX7_read 61 = .ok (.iload 4, 2) := by decide +kernel
theorem dX7_read_63 : decode cX7_read 63 = .ok (.if_icmp .ge 76, 3) := by decide +kernel
theorem dX7_read_66 : decode cX7_read 66 = .ok (.iload 7, 2) := by decide +kernel
theorem dX7_read_68 : decode cX7_read 68 = .ok (.ifCond .ne 71, 3) := by decide +kernel
theorem dX7_read_71 : decode cX7_read 71 = .ok (.aload 5, 2) := by decide +kernel
theorem dX7_read_73 : decode cX7_read 73 = .ok (.iload_n 2, 1) := by decide +kernel
theorem dX7_read_74 : decode cX7_read 74 = .ok (.iload_n 3, 1) := by decide +kernel
theorem dX7_read_75 : decode cX7_read 75 = .ok (.iconst 2, 1) := by decide +kernel
theorem dX7_read_76 : decode cX7_read 76 = .ok (.iload 8, 2) := by decide +kernel
theorem dX7_read_78 : decode cX7_read 78 = .ok (.imul, 1) := by decide +kernel
theorem dX7_read_79 : decode cX7_read 79 = .ok (.iadd, 1) := by decide +kernel
theorem dX7_read_80 : decode cX7_read 80 = .ok (.invokevirtual 262, 3) := by decide +kernel
theorem dX7_read_83 : decode cX7_read 83 = .ok (.istore 7, 2) := by decide +kernel
theorem dX7_read_85 : decode cX7_read 85 = .ok (.iload 7, 2) := by decide +kernel
theorem dX7_read_87 : decode cX7_read 87 = .ok (.ifCond .ne 46, 3) := by decide +kernel
theorem dX7_read_90 : decode cX7_read 90 = .ok (.aload_n 0, 1) := by decide +kernel
theorem dX7_read_91 : decode cX7_read 91 = .ok (.getfield 16, 3) := by decide +kernel
theorem dX7_read_94 : decode cX7_read 94 = .ok (.aload 5, 2) := by decide +kernel
theorem dX7_read_96 : decode cX7_read 96 = .ok (.iload_n 3, 1) := by decide +kernel
theorem dX7_read_97 : decode cX7_read 97 = .ok (.iconst 2, 1) := by decide +kernel
theorem dX7_read_98 : decode cX7_read 98 = .ok (.iload 8, 2) := by decide +kernel
theorem dX7_read_100 : decode cX7_read 100 = .ok (.imul, 1) := by decide +kernel
theorem dX7_read_101 : decode cX7_read 101 = .ok (.iadd, 1) := by decide +kernel
theorem dX7_read_102 : decode cX7_read 102 = .ok (.invokevirtual 265, 3) := by decide +kernel
theorem dX7_read_105 : decode cX7_read 105 = .ok (.aload 5, 2) := by decide +kernel
theorem dX7_read_107 : decode cX7_read 107 = .ok (.iload_n 3, 1) := by decide +kernel
theorem dX7_read_108 : decode cX7_read 108 = .ok (.iconst 2, 1) := by decide +kernel
theorem dX7_read_109 : decode cX7_read 109 = .ok (.iload 8, 2) := by decide +kernel
theorem dX7_read_111 : decode cX7_read 111 = .ok (.imul, 1) := by decide +kernel
theorem dX7_read_112 : decode cX7_read 112 = .ok (.iadd, 1) := by decide +kernel
theorem dX7_read_113 : decode cX7_read 113 = .ok (.iconst 1, 1) := by decide +kernel
theorem dX7_read_114 : decode cX7_read 114 = .ok (.iadd, 1) := by decide +kernel
theorem dX7_read_115 : decode cX7_read 115 = .ok (.invokevirtual 265, 3) := by decide +kernel
theorem dX7_read_118 : decode cX7_read 118 = .ok (.invokevirtual 161, 3) := by decide +kernel
theorem dX7_read_121 : decode cX7_read 121 = .ok (.ifCond .ne 9, 3) := by decide +kernel
theorem dX7_read_124 : decode cX7_read 124 = .ok (.bipush (-20), 2) := by decide +kernel
theorem dX7_read_126 : decode cX7_read 126 = .ok (.iload 8, 2) := by decide +kernel
theorem dX7_read_128 : decode cX7_read 128 = .ok (.isub, 1) := by decide +kernel
theorem dX7_read_129 : decode cX7_read 129 = .ok (.ireturn, 1) := by decide +kernel
theorem dX7_read_130 : decode cX7_read 130 = .ok (.iinc 6 1, 3) := by decide +kernel
theorem dX7_read_133 : decode cX7_read 133 = .ok (.iinc 8 1, 3) := by decide +kernel
theorem dX7_read_136 : decode cX7_read 136 = .ok (.goto (-77), 3) := by decide +kernel
theorem dX7_read_139 : decode cX7_read 139 = .ok (.aload_n 0, 1) := by decide +kernel
theorem dX7_read_140 : decode cX7_read 140 = .ok (.getfield 10, 3) := by decide +kernel
theorem dX7_read_143 : decode cX7_read 143 = .ok (.aload_n 0, 1) := by decide +kernel
theorem dX7_read_144 : decode cX7_read 144 = .ok (.getfield 16, 3) := by decide +kernel
theorem dX7_read_147 : decode cX7_read 147 = .ok (.invokevirtual 94, 3) := by decide +kernel
theorem dX7_read_150 : decode cX7_read 150 = .ok (.aload_n 0, 1) := by decide +kernel
theorem dX7_read_151 : decode cX7_read 151 = .ok (.iload 7, 2) := by decide +kernel
theorem dX7_read_153 : decode cX7_read 153 = .ok (.putfield 268, 3) := by decide +kernel
theorem dX7_read_156 : decode cX7_read 156 = .ok (.iload 6, 2) := by decide +kernel
theorem dX7_read_158 : decode cX7_read 158 = .ok (.ireturn, 1) := by decide +kernel
theorem dX7_torn_0 : decode cX7_torn 0 = .ok (.aload_n 0, 1) := by decide +kernel
theorem dX7_torn_1 : decode cX7_torn 1 = .ok (.getfield 268, 3) := by decide +kernel
theorem dX7_torn_4 : decode cX7_torn 4 = .ok (.ireturn, 1) := by decide +kernel
set_option maxRecDepth 20000 in
theorem ggX7_count_X2_allVotes : GoodIn wsX7_count wsX2_allVotes := goodIn_r _ [10, 11, 12, 13, 14, 9, 15, 16, 17, 18, 19, 20, 21, 53, 54, 55, 56, 57, 58, 59, 60] (by decide +kernel) (by decide +kernel)
set_option maxRecDepth 20000 in
theorem gX7_count_X2_allVotes : GoodIn wsX7_count (wsV RX7 272 RX2 yX2_allVotes wsX2_allVotes) := goodIn_app (goodIn_of _ (by decide +kernel)) ggX7_count_X2_allVotes
set_option maxRecDepth 20000 in
theorem ggX7_count_X2_ownerless : GoodIn wsX7_count wsX2_ownerless := goodIn_r _ [25, 11, 26, 53, 54, 55, 56, 57, 58, 59, 60] (by decide +kernel) (by decide +kernel)
set_option maxRecDepth 20000 in
theorem gX7_count_X2_ownerless : GoodIn wsX7_count (wsV RX7 120 RX2 yX2_ownerless wsX2_ownerless) := goodIn_app (goodIn_of _ (by decide +kernel)) ggX7_count_X2_ownerless
set_option maxRecDepth 20000 in
theorem ggX7_count_J6_bitCount_0f7a4 : GoodIn wsX7_count wsJ6_bitCount_0f7a4 := goodIn_r _ [30, 31, 32, 33] (by decide +kernel) (by decide +kernel)
set_option maxRecDepth 20000 in
theorem gX7_count_J6_bitCount_0f7a4 : GoodIn wsX7_count (va_wsS RX7 200 yJ6_bitCount_0f7a4 wsJ6_bitCount_0f7a4) := goodIn_app (goodIn_of _ (by decide +kernel)) ggX7_count_J6_bitCount_0f7a4
theorem dX7_count_0 : decode cX7_count 0 = .ok (.iload_n 1, 1) := by decide +kernel
theorem dX7_count_1 : decode cX7_count 1 = .ok (.tableswitch 122 0 5 #[39, 47, 77, 85, 95, 103], 39) := by decide +kernel
theorem dX7_count_40 : decode cX7_count 40 = .ok (.aload_n 0, 1) := by decide +kernel
theorem dX7_count_41 : decode cX7_count 41 = .ok (.getfield 49, 3) := by decide +kernel
theorem dX7_count_44 : decode cX7_count 44 = .ok (.getfield 98, 3) := by decide +kernel
theorem dX7_count_47 : decode cX7_count 47 = .ok (.ireturn, 1) := by decide +kernel
theorem dX7_count_48 : decode cX7_count 48 = .ok (.aload_n 0, 1) := by decide +kernel
theorem dX7_count_49 : decode cX7_count 49 = .ok (.getfield 23, 3) := by decide +kernel
theorem dX7_count_52 : decode cX7_count 52 = .ok (.iconst 0, 1) := by decide +kernel
theorem dX7_count_53 : decode cX7_count 53 = .ok (.baload, 1) := by decide +kernel
theorem dX7_count_54 : decode cX7_count 54 = .ok (.ifCond .eq 7, 3) := by decide +kernel
theorem dX7_count_57 : decode cX7_count 57 = .ok (.iconst 1, 1) := by decide +kernel
theorem dX7_count_58 : decode cX7_count 58 = .ok (.goto 4, 3) := by decide +kernel
theorem dX7_count_61 : decode cX7_count 61 = .ok (.iconst 0, 1) := by decide +kernel
theorem dX7_count_62 : decode cX7_count 62 = .ok (.aload_n 0, 1) := by decide +kernel
theorem dX7_count_63 : decode cX7_count 63 = .ok (.getfield 23, 3) := by decide +kernel
theorem dX7_count_66 : decode cX7_count 66 = .ok (.iconst 1, 1) := by decide +kernel
theorem dX7_count_67 : decode cX7_count 67 = .ok (.baload, 1) := by decide +kernel
theorem dX7_count_68 : decode cX7_count 68 = .ok (.ifCond .eq 7, 3) := by decide +kernel
theorem dX7_count_71 : decode cX7_count 71 = .ok (.iconst 1, 1) := by decide +kernel
theorem dX7_count_72 : decode cX7_count 72 = .ok (.goto 4, 3) := by decide +kernel
theorem dX7_count_75 : decode cX7_count 75 = .ok (.iconst 0, 1) := by decide +kernel
theorem dX7_count_76 : decode cX7_count 76 = .ok (.iadd, 1) := by decide +kernel
theorem dX7_count_77 : decode cX7_count 77 = .ok (.ireturn, 1) := by decide +kernel
theorem dX7_count_78 : decode cX7_count 78 = .ok (.aload_n 0, 1) := by decide +kernel
theorem dX7_count_79 : decode cX7_count 79 = .ok (.getfield 38, 3) := by decide +kernel
theorem dX7_count_82 : decode cX7_count 82 = .ok (.getfield 77, 3) := by decide +kernel
theorem dX7_count_85 : decode cX7_count 85 = .ok (.ireturn, 1) := by decide +kernel
theorem dX7_count_86 : decode cX7_count 86 = .ok (.aload_n 0, 1) := by decide +kernel
theorem dX7_count_87 : decode cX7_count 87 = .ok (.getfield 62, 3) := by decide +kernel
theorem dX7_count_90 : decode cX7_count 90 = .ok (.iconst 0, 1) := by decide +kernel
theorem dX7_count_91 : decode cX7_count 91 = .ok (.aaload, 1) := by decide +kernel
theorem dX7_count_92 : decode cX7_count 92 = .ok (.getfield 271, 3) := by decide +kernel
theorem dX7_count_95 : decode cX7_count 95 = .ok (.ireturn, 1) := by decide +kernel
theorem dX7_count_96 : decode cX7_count 96 = .ok (.aload_n 0, 1) := by decide +kernel
theorem dX7_count_97 : decode cX7_count 97 = .ok (.getfield 10, 3) := by decide +kernel
theorem dX7_count_100 : decode cX7_count 100 = .ok (.invokevirtual 272, 3) := by decide +kernel
theorem dX7_count_103 : decode cX7_count 103 = .ok (.ireturn, 1) := by decide +kernel
theorem dX7_count_104 : decode cX7_count 104 = .ok (.aload_n 0, 1) := by decide +kernel
theorem dX7_count_105 : decode cX7_count 105 = .ok (.getfield 10, 3) := by decide +kernel
theorem dX7_count_108 : decode cX7_count 108 = .ok (.getfield 101, 3) := by decide +kernel
theorem dX7_count_111 : decode cX7_count 111 = .ok (.aload_n 0, 1) := by decide +kernel
theorem dX7_count_112 : decode cX7_count 112 = .ok (.getfield 10, 3) := by decide +kernel
theorem dX7_count_115 : decode cX7_count 115 = .ok (.invokevirtual 120, 3) := by decide +kernel
theorem dX7_count_118 : decode cX7_count 118 = .ok (.invokestatic 200, 3) := by decide +kernel
theorem dX7_count_121 : decode cX7_count 121 = .ok (.iadd, 1) := by decide +kernel
theorem dX7_count_122 : decode cX7_count 122 = .ok (.ireturn, 1) := by decide +kernel
theorem dX7_count_123 : decode cX7_count 123 = .ok (.iconst (-1), 1) := by decide +kernel
theorem dX7_count_124 : decode cX7_count 124 = .ok (.ireturn, 1) := by decide +kernel
set_option maxRecDepth 20000 in
theorem ggX7_costOrSet_X2_costOfAll : GoodIn wsX7_costOrSet wsX2_costOfAll := goodIn_r _ [6, 7, 8, 9, 10, 11, 12, 13, 5, 14, 15, 16, 17, 18, 19, 20, 21, 22, 23, 24, 25, 37, 38, 39, 40, 41, 42, 43, 44] (by decide +kernel) (by decide +kernel)
set_option maxRecDepth 20000 in
theorem gX7_costOrSet_X2_costOfAll : GoodIn wsX7_costOrSet (wsV RX7 275 RX2 yX2_costOfAll wsX2_costOfAll) := goodIn_app (goodIn_of _ (by decide +kernel)) ggX7_costOrSet_X2_costOfAll
theorem dX7_costOrSet_0 : decode cX7_costOrSet 0 = .ok (.iload_n 1, 1) := by decide +kernel
theorem dX7_costOrSet_1 : decode cX7_costOrSet 1 = .ok (.bipush (-4), 2) := by decide +kernel
theorem dX7_costOrSet_3 : decode cX7_costOrSet 3 = .ok (.if_icmp .eq 8, 3) := by decide +kernel
theorem dX7_costOrSet_6 : decode cX7_costOrSet 6 = .ok (.iload_n 2, 1) := by decide +kernel
theorem dX7_costOrSet_7 : decode cX7_costOrSet 7 = .ok (.iconst 1, 1) := by decide +kernel
theorem dX7_costOrSet_8 : decode cX7_costOrSet 8 = .ok (.if_icmp .ne 7, 3) := by decide +kernel
theorem dX7_costOrSet_11 : decode cX7_costOrSet 11 = .ok (.iload_n 1, 1) := by decide +kernel
theorem dX7_costOrSet_12 : decode cX7_costOrSet 12 = .ok (.goto 11, 3) := by decide +kernel
theorem dX7_costOrSet_15 : decode cX7_costOrSet 15 = .ok (.aload_n 0, 1) := by decide +kernel
theorem dX7_costOrSet_16 : decode cX7_costOrSet 16 = .ok (.getfield 10, 3) := by decide +kernel
theorem dX7_costOrSet_19 : decode cX7_costOrSet 19 = .ok (.iload_n 1, 1) := by decide +kernel
theorem dX7_costOrSet_20 : decode cX7_costOrSet 20 = .ok (.invokevirtual 275, 3) := by decide +kernel
theorem dX7_costOrSet_23 : decode cX7_costOrSet 23 = .ok (.ireturn, 1) := by decide +kernel
set_option maxRecDepth 20000 in
theorem ggX7_possibleOwners_X2_copyFrom : GoodIn wsX7_possibleOwners wsX2_copyFrom := goodIn_r _ [8, 9, 10, 11, 12, 13, 14, 15, 16, 66, 67, 68, 69, 70, 71, 72, 73] (by decide +kernel) (by decide +kernel)
set_option maxRecDepth 20000 in
theorem gX7_possibleOwners_X2_copyFrom : GoodIn wsX7_possibleOwners (wsV RX7 94 RX2 yX2_copyFrom wsX2_copyFrom) := goodIn_app (goodIn_of _ (by decide +kernel)) ggX7_possibleOwners_X2_copyFrom
set_option maxRecDepth 20000 in
theorem ggX7_possibleOwners_X7_isCandidate : GoodIn wsX7_possibleOwners wsX7_isCandidate := goodIn_r _ [21, 2, 22, 23, 24, 7, 25, 9, 55, 56, 57, 58, 59, 60, 61, 62, 63, 64, 65, 66, 67, 68, 69, 70, 71, 72, 73] (by decide +kernel) (by decide +kernel)
set_option maxRecDepth 20000 in
theorem gX7_possibleOwners_X7_isCandidate : GoodIn wsX7_possibleOwners (wsV RX7 278 RX7 yX7_isCandidate wsX7_isCandidate) := goodIn_app (goodIn_of _ (by decide +kernel)) ggX7_possibleOwners_X7_isCandidate
set_option maxRecDepth 20000 in
theorem ggX7_possibleOwners_X7_candidate : GoodIn wsX7_possibleOwners wsX7_candidate := goodIn_r _ [28] (by decide +kernel) (by decide +kernel)
set_option maxRecDepth 20000 in
theorem gX7_possibleOwners_X7_candidate : GoodIn wsX7_possibleOwners (va_wsS RX7 281 yX7_candidate wsX7_candidate) := goodIn_app (goodIn_of _ (by decide +kernel)) ggX7_possibleOwners_X7_candidate
set_option maxRecDepth 20000 in
theorem ggX7_possibleOwners_X6_fits : GoodIn wsX7_possibleOwners wsX6_fits := goodIn_r _ [33, 34, 35, 36, 37, 38, 39, 7, 40, 41, 42, 43, 44, 10, 16, 45, 20, 46, 47, 48, 49, 50, 15, 51, 52, 53, 54, 74, 75, 76, 66, 67, 68, 69, 70, 71, 72, 73] (by decide +kernel) (by decide +kernel)
set_option maxRecDepth 20000 in
theorem gX7_possibleOwners_X6_fits : GoodIn wsX7_possibleOwners (wsV RX7 230 RX6 yX6_fits wsX6_fits) := goodIn_app (goodIn_of _ (by decide +kernel)) ggX7_possibleOwners_X6_fits
theorem dX7_possibleOwners_0 : decode cX7_possibleOwners 0 = .ok (.aload_n 0, 1) := by decide +kernel
theorem dX7_possibleOwners_1 : decode cX7_possibleOwners 1 = .ok (.getfield 16, 3) := by decide +kernel
theorem dX7_possibleOwners_4 : decode cX7_possibleOwners 4 = .ok (.aload_n 0, 1) := by decide +kernel
theorem dX7_possibleOwners_5 : decode cX7_possibleOwners 5 = .ok (.getfield 10, 3) := by decide +kernel
theorem dX7_possibleOwners_8 : decode cX7_possibleOwners 8 = .ok (.invokevirtual 94, 3) := by decide +kernel
theorem dX7_possibleOwners_11 : decode cX7_possibleOwners 11 = .ok (.iconst 0, 1) := by decide +kernel
theorem dX7_possibleOwners_12 : decode cX7_possibleOwners 12 = .ok (.istore_n 2, 1) := by decide +kernel
theorem dX7_possibleOwners_13 : decode cX7_possibleOwners 13 = .ok (.iconst 0, 1) := by decide +kernel
theorem dX7_possibleOwners_14 : decode cX7_possibleOwners 14 = .ok (.istore_n 3, 1) := by decide +kernel
theorem dX7_possibleOwners_15 : decode cX7_possibleOwners 15 = .ok (.iload_n 3, 1) := by decide +kernel
theorem dX7_possibleOwners_16 : decode cX7_possibleOwners 16 = .ok (.iconst 4, 1) := by decide +kernel
theorem dX7_possibleOwners_17 : decode cX7_possibleOwners 17 = .ok (.if_icmp .gt 50, 3) := by decide +kernel
theorem dX7_possibleOwners_20 : decode cX7_possibleOwners 20 = .ok (.aload_n 0, 1) := by decide +kernel
theorem dX7_possibleOwners_21 : decode cX7_possibleOwners 21 = .ok (.iload_n 3, 1) := by decide +kernel
theorem dX7_possibleOwners_22 : decode cX7_possibleOwners 22 = .ok (.invokevirtual 278, 3) := by decide +kernel
theorem dX7_possibleOwners_25 : decode cX7_possibleOwners 25 = .ok (.ifCond .eq 36, 3) := by decide +kernel
theorem dX7_possibleOwners_28 : decode cX7_possibleOwners 28 = .ok (.aload_n 0, 1) := by decide +kernel
theorem dX7_possibleOwners_29 : decode cX7_possibleOwners 29 = .ok (.getfield 16, 3) := by decide +kernel
theorem dX7_possibleOwners_32 : decode cX7_possibleOwners 32 = .ok (.getfield 148, 3) := by decide +kernel
theorem dX7_possibleOwners_35 : decode cX7_possibleOwners 35 = .ok (.iload_n 1, 1) := by decide +kernel
theorem dX7_possibleOwners_36 : decode cX7_possibleOwners 36 = .ok (.iload_n 3, 1) := by decide +kernel
theorem dX7_possibleOwners_37 : decode cX7_possibleOwners 37 = .ok (.invokestatic 281, 3) := by decide +kernel
theorem dX7_possibleOwners_40 : decode cX7_possibleOwners 40 = .ok (.iastore, 1) := by decide +kernel
theorem dX7_possibleOwners_41 : decode cX7_possibleOwners 41 = .ok (.aload_n 0, 1) := by decide +kernel
theorem dX7_possibleOwners_42 : decode cX7_possibleOwners 42 = .ok (.getfield 49, 3) := by decide +kernel
theorem dX7_possibleOwners_45 : decode cX7_possibleOwners 45 = .ok (.aload_n 0, 1) := by decide +kernel
theorem dX7_possibleOwners_46 : decode cX7_possibleOwners 46 = .ok (.getfield 16, 3) := by decide +kernel
theorem dX7_possibleOwners_49 : decode cX7_possibleOwners 49 = .ok (.invokevirtual 230, 3) := by decide +kernel
theorem dX7_possibleOwners_52 : decode cX7_possibleOwners 52 = .ok (.ifCond .eq 9, 3) := by decide +kernel
theorem dX7_possibleOwners_55 : decode cX7_possibleOwners 55 = .ok (.iload_n 2, 1) := by decide +kernel
theorem dX7_possibleOwners_56 : decode cX7_possibleOwners 56 = .ok (.iconst 1, 1) := by decide +kernel
theorem dX7_possibleOwners_57 : decode cX7_possibleOwners 57 = .ok (.iload_n 3, 1) := by decide +kernel
theorem dX7_possibleOwners_58 : decode cX7_possibleOwners 58 = .ok (.ishl, 1) := by decide +kernel
theorem dX7_possibleOwners_59 : decode cX7_possibleOwners 59 = .ok (.ior, 1) := by decide +kernel
theorem dX7_possibleOwners_60 : decode cX7_possibleOwners 60 = .ok (.istore_n 2, 1) := by decide +kernel
theorem dX7_possibleOwners_61 : decode cX7_possibleOwners 61 = .ok (.iinc 3 1, 3) := by decide +kernel
theorem dX7_possibleOwners_64 : decode cX7_possibleOwners 64 = .ok (.goto (-49), 3) := by decide +kernel
theorem dX7_possibleOwners_67 : decode cX7_possibleOwners 67 = .ok (.iload_n 2, 1) := by decide +kernel
theorem dX7_possibleOwners_68 : decode cX7_possibleOwners 68 = .ok (.ireturn, 1) := by decide +kernel
set_option maxRecDepth 20000 in
theorem ggX7_ownersThatCarry_X2_copyFrom : GoodIn wsX7_ownersThatCarry wsX2_copyFrom := goodIn_r _ [7, 8, 9, 10, 11, 12, 13, 14, 15, 50, 51, 52, 53, 54, 55, 56, 57] (by decide +kernel) (by decide +kernel)
set_option maxRecDepth 20000 in
theorem gX7_ownersThatCarry_X2_copyFrom : GoodIn wsX7_ownersThatCarry (wsV RX7 94 RX2 yX2_copyFrom wsX2_copyFrom) := goodIn_app (goodIn_of _ (by decide +kernel)) ggX7_ownersThatCarry_X2_copyFrom
set_option maxRecDepth 20000 in
theorem ggX7_ownersThatCarry_X7_holds : GoodIn wsX7_ownersThatCarry wsX7_holds := goodIn_r _ [19] (by decide +kernel) (by decide +kernel)
set_option maxRecDepth 20000 in
theorem gX7_ownersThatCarry_X7_holds : GoodIn wsX7_ownersThatCarry (va_wsS RX7 172 yX7_holds wsX7_holds) := goodIn_app (goodIn_of _ (by decide +kernel)) ggX7_ownersThatCarry_X7_holds
set_option maxRecDepth 20000 in
theorem ggX7_ownersThatCarry_X7_candidate : GoodIn wsX7_ownersThatCarry wsX7_candidate := goodIn_r _ [22] (by decide +kernel) (by decide +kernel)
set_option maxRecDepth 20000 in
theorem gX7_ownersThatCarry_X7_candidate : GoodIn wsX7_ownersThatCarry (va_wsS RX7 281 yX7_candidate wsX7_candidate) := goodIn_app (goodIn_of _ (by decide +kernel)) ggX7_ownersThatCarry_X7_candidate
set_option maxRecDepth 20000 in
theorem ggX7_ownersThatCarry_X2_carries : GoodIn wsX7_ownersThatCarry wsX2_carries := goodIn_r _ [26, 27, 28, 29, 6, 30, 9, 15, 17, 18, 19, 31, 32, 33, 34, 14, 35, 36, 37, 38, 50, 51, 52, 53, 54, 55, 56, 57] (by decide +kernel) (by decide +kernel)
set_option maxRecDepth 20000 in
theorem gX7_ownersThatCarry_X2_carries : GoodIn wsX7_ownersThatCarry (wsV RX7 178 RX2 yX2_carries wsX2_carries) := goodIn_app (goodIn_of _ (by decide +kernel)) ggX7_ownersThatCarry_X2_carries
theorem dX7_ownersThatCarry_0 : decode cX7_ownersThatCarry 0 = .ok (.aload_n 0, 1) := by decide +kernel
theorem dX7_ownersThatCarry_1 : decode cX7_ownersThatCarry 1 = .ok (.getfield 16, 3) := by decide +kernel
theorem dX7_ownersThatCarry_4 : decode cX7_ownersThatCarry 4 = .ok (.aload_n 0, 1) := by decide +kernel
theorem dX7_ownersThatCarry_5 : decode cX7_ownersThatCarry 5 = .ok (.getfield 10, 3) := by decide +kernel
theorem dX7_ownersThatCarry_8 : decode cX7_ownersThatCarry 8 = .ok (.invokevirtual 94, 3) := by decide +kernel
theorem dX7_ownersThatCarry_11 : decode cX7_ownersThatCarry 11 = .ok (.iconst 0, 1) := by decide +kernel
theorem dX7_ownersThatCarry_12 : decode cX7_ownersThatCarry 12 = .ok (.istore 4, 2) := by decide +kernel
theorem dX7_ownersThatCarry_14 : decode cX7_ownersThatCarry 14 = .ok (.iconst 0, 1) := by decide +kernel
theorem dX7_ownersThatCarry_15 : decode cX7_ownersThatCarry 15 = .ok (.istore 5, 2) := by decide +kernel
theorem dX7_ownersThatCarry_17 : decode cX7_ownersThatCarry 17 = .ok (.iload 5, 2) := by decide +kernel
theorem dX7_ownersThatCarry_19 : decode cX7_ownersThatCarry 19 = .ok (.iconst 4, 1) := by decide +kernel
theorem dX7_ownersThatCarry_20 : decode cX7_ownersThatCarry 20 = .ok (.if_icmp .gt 46, 3) := by decide +kernel
theorem dX7_ownersThatCarry_23 : decode cX7_ownersThatCarry 23 = .ok (.iload_n 2, 1) := by decide +kernel
theorem dX7_ownersThatCarry_24 : decode cX7_ownersThatCarry 24 = .ok (.iload 5, 2) := by decide +kernel
theorem dX7_ownersThatCarry_26 : decode cX7_ownersThatCarry 26 = .ok (.invokestatic 172, 3) := by decide +kernel
theorem dX7_ownersThatCarry_29 : decode cX7_ownersThatCarry 29 = .ok (.ifCond .eq 31, 3) := by decide +kernel
theorem dX7_ownersThatCarry_32 : decode cX7_ownersThatCarry 32 = .ok (.aload_n 0, 1) := by decide +kernel
theorem dX7_ownersThatCarry_33 : decode cX7_ownersThatCarry 33 = .ok (.getfield 16, 3) := by decide +kernel
theorem dX7_ownersThatCarry_36 : decode cX7_ownersThatCarry 36 = .ok (.getfield 148, 3) := by decide +kernel
theorem dX7_ownersThatCarry_39 : decode cX7_ownersThatCarry 39 = .ok (.iload_n 1, 1) := by decide +kernel
theorem dX7_ownersThatCarry_40 : decode cX7_ownersThatCarry 40 = .ok (.iload 5, 2) := by decide +kernel
theorem dX7_ownersThatCarry_42 : decode cX7_ownersThatCarry 42 = .ok (.invokestatic 281, 3) := by decide +kernel
theorem dX7_ownersThatCarry_45 : decode cX7_ownersThatCarry 45 = .ok (.iastore, 1) := by decide +kernel
theorem dX7_ownersThatCarry_46 : decode cX7_ownersThatCarry 46 = .ok (.aload_n 0, 1) := by decide +kernel
theorem dX7_ownersThatCarry_47 : decode cX7_ownersThatCarry 47 = .ok (.getfield 16, 3) := by decide +kernel
theorem dX7_ownersThatCarry_50 : decode cX7_ownersThatCarry 50 = .ok (.iload_n 3, 1) := by decide +kernel
theorem dX7_ownersThatCarry_51 : decode cX7_ownersThatCarry 51 = .ok (.invokevirtual 178, 3) := by decide +kernel
theorem dX7_ownersThatCarry_54 : decode cX7_ownersThatCarry 54 = .ok (.ifCond .eq 6, 3) := by decide +kernel
theorem dX7_ownersThatCarry_57 : decode cX7_ownersThatCarry 57 = .ok (.iinc 4 1, 3) := by decide +kernel
theorem dX7_ownersThatCarry_60 : decode cX7_ownersThatCarry 60 = .ok (.iinc 5 1, 3) := by decide +kernel
theorem dX7_ownersThatCarry_63 : decode cX7_ownersThatCarry 63 = .ok (.goto (-46), 3) := by decide +kernel
theorem dX7_ownersThatCarry_66 : decode cX7_ownersThatCarry 66 = .ok (.iload 4, 2) := by decide +kernel
theorem dX7_ownersThatCarry_68 : decode cX7_ownersThatCarry 68 = .ok (.ireturn, 1) := by decide +kernel
set_option maxRecDepth 20000 in
theorem ggX7_isCandidate_X2_hasLord : GoodIn wsX7_isCandidate wsX2_hasLord := goodIn_r _ [6, 7, 19, 20, 21, 22, 23, 24, 25, 26] (by decide +kernel) (by decide +kernel)
set_option maxRecDepth 20000 in
theorem gX7_isCandidate_X2_hasLord : GoodIn wsX7_isCandidate (wsV RX7 126 RX2 yX2_hasLord wsX2_hasLord) := goodIn_app (goodIn_of _ (by decide +kernel)) ggX7_isCandidate_X2_hasLord
theorem dX7_isCandidate_0 : decode cX7_isCandidate 0 = .ok (.aload_n 0, 1) := by decide +kernel
theorem dX7_isCandidate_1 : decode cX7_isCandidate 1 = .ok (.getfield 10, 3) := by decide +kernel
theorem dX7_isCandidate_4 : decode cX7_isCandidate 4 = .ok (.iload_n 1, 1) := by decide +kernel
theorem dX7_isCandidate_5 : decode cX7_isCandidate 5 = .ok (.invokevirtual 126, 3) := by decide +kernel
theorem dX7_isCandidate_8 : decode cX7_isCandidate 8 = .ok (.ifCond .ne 11, 3) := by decide +kernel
theorem dX7_isCandidate_11 : decode cX7_isCandidate 11 = .ok (.iconst 1, 1) := by decide +kernel
theorem dX7_isCandidate_12 : decode cX7_isCandidate 12 = .ok (.iload_n 1, 1) := by decide +kernel
theorem dX7_isCandidate_13 : decode cX7_isCandidate 13 = .ok (.ishl, 1) := by decide +kernel
theorem dX7_isCandidate_14 : decode cX7_isCandidate 14 = .ok (.bipush 16, 2) := by decide +kernel
theorem dX7_isCandidate_16 : decode cX7_isCandidate 16 = .ok (.if_icmp .ne 7, 3) := by decide +kernel
theorem dX7_isCandidate_19 : decode cX7_isCandidate 19 = .ok (.iconst 1, 1) := by decide +kernel
theorem dX7_isCandidate_20 : decode cX7_isCandidate 20 = .ok (.goto 4, 3) := by decide +kernel
theorem dX7_isCandidate_23 : decode cX7_isCandidate 23 = .ok (.iconst 0, 1) := by decide +kernel
theorem dX7_isCandidate_24 : decode cX7_isCandidate 24 = .ok (.ireturn, 1) := by decide +kernel
theorem dX7_candidate_0 : decode cX7_candidate 0 = .ok (.iconst 1, 1) := by decide +kernel
theorem dX7_candidate_1 : decode cX7_candidate 1 = .ok (.iload_n 0, 1) := by decide +kernel
theorem dX7_candidate_2 : decode cX7_candidate 2 = .ok (.ishl, 1) := by decide +kernel
theorem dX7_candidate_3 : decode cX7_candidate 3 = .ok (.bipush 16, 2) := by decide +kernel
theorem dX7_candidate_5 : decode cX7_candidate 5 = .ok (.if_icmp .ne 8, 3) := by decide +kernel
theorem dX7_candidate_8 : decode cX7_candidate 8 = .ok (.bipush (-4), 2) := by decide +kernel
theorem dX7_candidate_10 : decode cX7_candidate 10 = .ok (.goto 4, 3) := by decide +kernel
theorem dX7_candidate_13 : decode cX7_candidate 13 = .ok (.iload_n 0, 1) := by decide +kernel
theorem dX7_candidate_14 : decode cX7_candidate 14 = .ok (.ireturn, 1) := by decide +kernel
theorem dX7_within_0 : decode cX7_within 0 = .ok (.iload_n 0, 1) := by decide +kernel
theorem dX7_within_1 : decode cX7_within 1 = .ok (.iload_n 1, 1) := by decide +kernel
theorem dX7_within_2 : decode cX7_within 2 = .ok (.if_icmp .lt 12, 3) := by decide +kernel
theorem dX7_within_5 : decode cX7_within 5 = .ok (.iload_n 0, 1) := by decide +kernel
theorem dX7_within_6 : decode cX7_within 6 = .ok (.iload_n 2, 1) := by decide +kernel
theorem dX7_within_7 : decode cX7_within 7 = .ok (.if_icmp .gt 7, 3) := by decide +kernel
theorem dX7_within_10 : decode cX7_within 10 = .ok (.iconst 1, 1) := by decide +kernel
theorem dX7_within_11 : decode cX7_within 11 = .ok (.goto 4, 3) := by decide +kernel
theorem dX7_within_14 : decode cX7_within 14 = .ok (.iconst 0, 1) := by decide +kernel
theorem dX7_within_15 : decode cX7_within 15 = .ok (.ireturn, 1) := by decide +kernel
theorem dX7_holds_0 : decode cX7_holds 0 = .ok (.iload_n 0, 1) := by decide +kernel
theorem dX7_holds_1 : decode cX7_holds 1 = .ok (.iload_n 1, 1) := by decide +kernel
theorem dX7_holds_2 : decode cX7_holds 2 = .ok (.ishr, 1) := by decide +kernel
theorem dX7_holds_3 : decode cX7_holds 3 = .ok (.iconst 1, 1) := by decide +kernel
theorem dX7_holds_4 : decode cX7_holds 4 = .ok (.iand, 1) := by decide +kernel
theorem dX7_holds_5 : decode cX7_holds 5 = .ok (.iconst 1, 1) := by decide +kernel
theorem dX7_holds_6 : decode cX7_holds 6 = .ok (.if_icmp .ne 7, 3) := by decide +kernel
theorem dX7_holds_9 : decode cX7_holds 9 = .ok (.iconst 1, 1) := by decide +kernel
theorem dX7_holds_10 : decode cX7_holds 10 = .ok (.goto 4, 3) := by decide +kernel
theorem dX7_holds_13 : decode cX7_holds 13 = .ok (.iconst 0, 1) := by decide +kernel
theorem dX7_holds_14 : decode cX7_holds 14 = .ok (.ireturn, 1) := by decide +kernel
set_option maxRecDepth 20000 in
theorem ggX7_swap_X7_within : GoodIn wsX7_swap wsX7_within := goodIn_r _ [4] (by decide +kernel) (by decide +kernel)
set_option maxRecDepth 20000 in
theorem gX7_swap_X7_within : GoodIn wsX7_swap (va_wsS RX7 67 yX7_within wsX7_within) := goodIn_app (goodIn_of _ (by decide +kernel)) ggX7_swap_X7_within
theorem dX7_swap_0 : decode cX7_swap 0 = .ok (.iload_n 1, 1) := by decide +kernel
theorem dX7_swap_1 : decode cX7_swap 1 = .ok (.iconst 0, 1) := by decide +kernel
theorem dX7_swap_2 : decode cX7_swap 2 = .ok (.aload_n 0, 1) := by decide +kernel
theorem dX7_swap_3 : decode cX7_swap 3 = .ok (.arraylength, 1) := by decide +kernel
theorem dX7_swap_4 : decode cX7_swap 4 = .ok (.iconst 1, 1) := by decide +kernel
theorem dX7_swap_5 : decode cX7_swap 5 = .ok (.isub, 1) := by decide +kernel
theorem dX7_swap_6 : decode cX7_swap 6 = .ok (.invokestatic 67, 3) := by decide +kernel
theorem dX7_swap_9 : decode cX7_swap 9 = .ok (.ifCond .ne 5, 3) := by decide +kernel
theorem dX7_swap_12 : decode cX7_swap 12 = .ok (.iconst (-1), 1) := by decide +kernel
theorem dX7_swap_13 : decode cX7_swap 13 = .ok (.ireturn, 1) := by decide +kernel
theorem dX7_swap_14 : decode cX7_swap 14 = .ok (.aload_n 0, 1) := by decide +kernel
theorem dX7_swap_15 : decode cX7_swap 15 = .ok (.iload_n 1, 1) := by decide +kernel
theorem dX7_swap_16 : decode cX7_swap 16 = .ok (.iaload, 1) := by decide +kernel
theorem dX7_swap_17 : decode cX7_swap 17 = .ok (.istore_n 3, 1) := by decide +kernel
theorem dX7_swap_18 : decode cX7_swap 18 = .ok (.aload_n 0, 1) := by decide +kernel
theorem dX7_swap_19 : decode cX7_swap 19 = .ok (.iload_n 1, 1) := by decide +kernel
theorem dX7_swap_20 : decode cX7_swap 20 = .ok (.iload_n 2, 1) := by decide +kernel
theorem dX7_swap_21 : decode cX7_swap 21 = .ok (.iastore, 1) := by decide +kernel
theorem dX7_swap_22 : decode cX7_swap 22 = .ok (.iload_n 3, 1) := by decide +kernel
theorem dX7_swap_23 : decode cX7_swap 23 = .ok (.ireturn, 1) := by decide +kernel
theorem dX7_nextSeed_0 : decode cX7_nextSeed 0 = .ok (.iload_n 0, 1) := by decide +kernel
theorem dX7_nextSeed_1 : decode cX7_nextSeed 1 = .ok (.ldc_w 284, 3) := by decide +kernel
theorem dX7_nextSeed_4 : decode cX7_nextSeed 4 = .ok (.imul, 1) := by decide +kernel
theorem dX7_nextSeed_5 : decode cX7_nextSeed 5 = .ok (.sipush 12345, 3) := by decide +kernel
theorem dX7_nextSeed_8 : decode cX7_nextSeed 8 = .ok (.iadd, 1) := by decide +kernel
theorem dX7_nextSeed_9 : decode cX7_nextSeed 9 = .ok (.ireturn, 1) := by decide +kernel
theorem dX7_drawn_0 : decode cX7_drawn 0 = .ok (.iload_n 0, 1) := by decide +kernel
theorem dX7_drawn_1 : decode cX7_drawn 1 = .ok (.bipush 16, 2) := by decide +kernel
theorem dX7_drawn_3 : decode cX7_drawn 3 = .ok (.iushr, 1) := by decide +kernel
theorem dX7_drawn_4 : decode cX7_drawn 4 = .ok (.sipush 32767, 3) := by decide +kernel
theorem dX7_drawn_7 : decode cX7_drawn 7 = .ok (.iand, 1) := by decide +kernel
theorem dX7_drawn_8 : decode cX7_drawn 8 = .ok (.ireturn, 1) := by decide +kernel
theorem dX7_power_0 : decode cX7_power 0 = .ok (.lconst 1, 1) := by decide +kernel
theorem dX7_power_1 : decode cX7_power 1 = .ok (.lstore_n 2, 1) := by decide +kernel
theorem dX7_power_2 : decode cX7_power 2 = .ok (.iconst 0, 1) := by decide +kernel
theorem dX7_power_3 : decode cX7_power 3 = .ok (.istore 4, 2) := by decide +kernel
theorem dX7_power_5 : decode cX7_power 5 = .ok (.iload 4, 2) := by decide +kernel
theorem dX7_power_7 : decode cX7_power 7 = .ok (.iload_n 1, 1) := by decide +kernel
theorem dX7_power_8 : decode cX7_power 8 = .ok (.if_icmp .ge 14, 3) := by decide +kernel
theorem dX7_power_11 : decode cX7_power 11 = .ok (.lload_n 2, 1) := by decide +kernel
theorem dX7_power_12 : decode cX7_power 12 = .ok (.iload_n 0, 1) := by decide +kernel
theorem dX7_power_13 : decode cX7_power 13 = .ok (.i2l, 1) := by decide +kernel
theorem dX7_power_14 : decode cX7_power 14 = .ok (.lmul, 1) := by decide +kernel
theorem dX7_power_15 : decode cX7_power 15 = .ok (.lstore_n 2, 1) := by decide +kernel
theorem dX7_power_16 : decode cX7_power 16 = .ok (.iinc 4 1, 3) := by decide +kernel
theorem dX7_power_19 : decode cX7_power 19 = .ok (.goto (-14), 3) := by decide +kernel
theorem dX7_power_22 : decode cX7_power 22 = .ok (.lload_n 2, 1) := by decide +kernel
theorem dX7_power_23 : decode cX7_power 23 = .ok (.lreturn, 1) := by decide +kernel
set_option maxRecDepth 20000 in
theorem ggX7_fraction_X7_commonDivisor : GoodIn wsX7_fraction wsX7_commonDivisor := goodIn_r _ [4] (by decide +kernel) (by decide +kernel)
set_option maxRecDepth 20000 in
theorem gX7_fraction_X7_commonDivisor : GoodIn wsX7_fraction (va_wsS RX7 285 yX7_commonDivisor wsX7_commonDivisor) := goodIn_app (goodIn_of _ (by decide +kernel)) ggX7_fraction_X7_commonDivisor
theorem dX7_fraction_0 : decode cX7_fraction 0 = .ok (.lload_n 0, 1) := by decide +kernel
theorem dX7_fraction_1 : decode cX7_fraction 1 = .ok (.lload_n 2, 1) := by decide +kernel
theorem dX7_fraction_2 : decode cX7_fraction 2 = .ok (.invokestatic 285, 3) := by decide +kernel
theorem dX7_fraction_5 : decode cX7_fraction 5 = .ok (.lstore 5, 2) := by decide +kernel
theorem dX7_fraction_7 : decode cX7_fraction 7 = .ok (.lload 5, 2) := by decide +kernel
theorem dX7_fraction_9 : decode cX7_fraction 9 = .ok (.lconst 0, 1) := by decide +kernel
theorem dX7_fraction_10 : decode cX7_fraction 10 = .ok (.lcmp, 1) := by decide +kernel
theorem dX7_fraction_11 : decode cX7_fraction 11 = .ok (.ifCond .gt 7, 3) := by decide +kernel
theorem dX7_fraction_14 : decode cX7_fraction 14 = .ok (.lconst 0, 1) := by decide +kernel
theorem dX7_fraction_15 : decode cX7_fraction 15 = .ok (.goto 16, 3) := by decide +kernel
theorem dX7_fraction_18 : decode cX7_fraction 18 = .ok (.iload 4, 2) := by decide +kernel
theorem dX7_fraction_20 : decode cX7_fraction 20 = .ok (.ifCond .ne 7, 3) := by decide +kernel
theorem dX7_fraction_23 : decode cX7_fraction 23 = .ok (.lload_n 0, 1) := by decide +kernel
theorem dX7_fraction_24 : decode cX7_fraction 24 = .ok (.goto 4, 3) := by decide +kernel
theorem dX7_fraction_27 : decode cX7_fraction 27 = .ok (.lload_n 2, 1) := by decide +kernel
theorem dX7_fraction_28 : decode cX7_fraction 28 = .ok (.lload 5, 2) := by decide +kernel
theorem dX7_fraction_30 : decode cX7_fraction 30 = .ok (.ldiv, 1) := by decide +kernel
theorem dX7_fraction_31 : decode cX7_fraction 31 = .ok (.lreturn, 1) := by decide +kernel
theorem dX7_commonDivisor_0 : decode cX7_commonDivisor 0 = .ok (.lload_n 0, 1) := by decide +kernel
theorem dX7_commonDivisor_1 : decode cX7_commonDivisor 1 = .ok (.lstore 4, 2) := by decide +kernel
theorem dX7_commonDivisor_3 : decode cX7_commonDivisor 3 = .ok (.lload_n 2, 1) := by decide +kernel
theorem dX7_commonDivisor_4 : decode cX7_commonDivisor 4 = .ok (.lstore 6, 2) := by decide +kernel
theorem dX7_commonDivisor_6 : decode cX7_commonDivisor 6 = .ok (.iconst 0, 1) := by decide +kernel
theorem dX7_commonDivisor_7 : decode cX7_commonDivisor 7 = .ok (.istore 8, 2) := by decide +kernel
theorem dX7_commonDivisor_9 : decode cX7_commonDivisor 9 = .ok (.iload 8, 2) := by decide +kernel
theorem dX7_commonDivisor_11 : decode cX7_commonDivisor 11 = .ok (.bipush 100, 2) := by decide +kernel
theorem dX7_commonDivisor_13 : decode cX7_commonDivisor 13 = .ok (.if_icmp .ge 31, 3) := by decide +kernel
theorem dX7_commonDivisor_16 : decode cX7_commonDivisor 16 = .ok (.lload 6, 2) := by decide +kernel
theorem dX7_commonDivisor_18 : decode cX7_commonDivisor 18 = .ok (.lconst 0, 1) := by decide +kernel
theorem dX7_commonDivisor_19 : decode cX7_commonDivisor 19 = .ok (.lcmp, 1) := by decide +kernel
theorem dX7_commonDivisor_20 : decode cX7_commonDivisor 20 = .ok (.ifCond .eq 24, 3) := by decide +kernel
theorem dX7_commonDivisor_23 : decode cX7_commonDivisor 23 = .ok (.lload 4, 2) := by decide +kernel
theorem dX7_commonDivisor_25 : decode cX7_commonDivisor 25 = .ok (.lload 6, 2) := by decide +kernel
theorem dX7_commonDivisor_27 : decode cX7_commonDivisor 27 = .ok (.lrem, 1) := by decide +kernel
theorem dX7_commonDivisor_28 : decode cX7_commonDivisor 28 = .ok (.lstore 9, 2) := by decide +kernel
theorem dX7_commonDivisor_30 : decode cX7_commonDivisor 30 = .ok (.lload 6, 2) := by decide +kernel
theorem dX7_commonDivisor_32 : decode cX7_commonDivisor 32 = .ok (.lstore 4, 2) := by decide +kernel
theorem dX7_commonDivisor_34 : decode cX7_commonDivisor 34 = .ok (.lload 9, 2) := by decide +kernel
theorem dX7_commonDivisor_36 : decode cX7_commonDivisor 36 = .ok (.lstore 6, 2) := by decide +kernel
theorem dX7_commonDivisor_38 : decode cX7_commonDivisor 38 = .ok (.iinc 8 1, 3) := by decide +kernel
theorem dX7_commonDivisor_41 : decode cX7_commonDivisor 41 = .ok (.goto (-32), 3) := by decide +kernel
theorem dX7_commonDivisor_44 : decode cX7_commonDivisor 44 = .ok (.lload 4, 2) := by decide +kernel
theorem dX7_commonDivisor_46 : decode cX7_commonDivisor 46 = .ok (.lreturn, 1) := by decide +kernel
