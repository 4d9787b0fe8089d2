theorem dX0_init_0 : decode cX0_init 0 = .ok (.aload_n 0, 1) := by decide +kernel
theorem dX0_init_1 : decode cX0_init 1 = .ok (.invokespecial 5, 3) := by decide +kernel
theorem dX0_init_4 : decode cX0_init 4 = .ok (.aload_n 0, 1) := by decide +kernel
theorem dX0_init_5 : decode cX0_init 5 = .ok (.bipush 10, 2) := by decide +kernel
theorem dX0_init_7 : decode cX0_init 7 = .ok (.newarray .int, 2) := by decide +kernel
theorem dX0_init_9 : decode cX0_init 9 = .ok (.putfield 11, 3) := by decide +kernel
theorem dX0_init_12 : decode cX0_init 12 = .ok (.aload_n 0, 1) := by decide +kernel
theorem dX0_init_13 : decode cX0_init 13 = .ok (.sipush 190, 3) := by decide +kernel
theorem dX0_init_16 : decode cX0_init 16 = .ok (.newarray .int, 2) := by decide +kernel
theorem dX0_init_18 : decode cX0_init 18 = .ok (.putfield 15, 3) := by decide +kernel
theorem dX0_init_21 : decode cX0_init 21 = .ok (.return_, 1) := by decide +kernel
set_option maxRecDepth 20000 in
theorem ggX0_gather_X2_everyBorough : GoodIn wsX0_gather wsX2_everyBorough := goodIn_r _ [7, 8, 32, 33, 34, 35, 36, 37, 38, 39] (by decide +kernel) (by decide +kernel)
set_option maxRecDepth 20000 in
theorem gX0_gather_X2_everyBorough : GoodIn wsX0_gather (wsV RX0 22 RX2 yX2_everyBorough wsX2_everyBorough) := goodIn_app (goodIn_of _ (by decide +kernel)) ggX0_gather_X2_everyBorough
set_option maxRecDepth 20000 in
theorem ggX0_gather_X2_seatsIn : GoodIn wsX0_gather wsX2_seatsIn := goodIn_r _ [12, 8, 13, 14, 15, 16, 32, 33, 34, 35, 36, 37, 38, 39] (by decide +kernel) (by decide +kernel)
set_option maxRecDepth 20000 in
theorem gX0_gather_X2_seatsIn : GoodIn wsX0_gather (wsV RX0 28 RX2 yX2_seatsIn wsX2_seatsIn) := goodIn_app (goodIn_of _ (by decide +kernel)) ggX0_gather_X2_seatsIn
set_option maxRecDepth 20000 in
theorem ggX0_gather_X2_heldBy : GoodIn wsX0_gather wsX2_heldBy := goodIn_r _ [20, 8, 21, 14, 15, 16, 32, 33, 34, 35, 36, 37, 38, 39] (by decide +kernel) (by decide +kernel)
set_option maxRecDepth 20000 in
theorem gX0_gather_X2_heldBy : GoodIn wsX0_gather (wsV RX0 38 RX2 yX2_heldBy wsX2_heldBy) := goodIn_app (goodIn_of _ (by decide +kernel)) ggX0_gather_X2_heldBy
set_option maxRecDepth 20000 in
theorem ggX0_gather_X0_add : GoodIn wsX0_gather wsX0_add := goodIn_r _ [26, 1, 27, 28, 29, 30, 31] (by decide +kernel) (by decide +kernel)
set_option maxRecDepth 20000 in
theorem gX0_gather_X0_add : GoodIn wsX0_gather (wsV RX0 41 RX0 yX0_add wsX0_add) := goodIn_app (goodIn_of _ (by decide +kernel)) ggX0_gather_X0_add
theorem dX0_gather_0 : decode cX0_gather 0 = .ok (.aload_n 0, 1) := by decide +kernel
theorem dX0_gather_1 : decode cX0_gather 1 = .ok (.iconst 0, 1) := by decide +kernel
theorem dX0_gather_2 : decode cX0_gather 2 = .ok (.putfield 18, 3) := by decide +kernel
theorem dX0_gather_5 : decode cX0_gather 5 = .ok (.aload_n 0, 1) := by decide +kernel
theorem dX0_gather_6 : decode cX0_gather 6 = .ok (.aload_n 1, 1) := by decide +kernel
theorem dX0_gather_7 : decode cX0_gather 7 = .ok (.aload_n 1, 1) := by decide +kernel
theorem dX0_gather_8 : decode cX0_gather 8 = .ok (.invokevirtual 22, 3) := by decide +kernel
theorem dX0_gather_11 : decode cX0_gather 11 = .ok (.invokevirtual 28, 3) := by decide +kernel
theorem dX0_gather_14 : decode cX0_gather 14 = .ok (.putfield 32, 3) := by decide +kernel
theorem dX0_gather_17 : decode cX0_gather 17 = .ok (.iconst 0, 1) := by decide +kernel
theorem dX0_gather_18 : decode cX0_gather 18 = .ok (.istore_n 2, 1) := by decide +kernel
theorem dX0_gather_19 : decode cX0_gather 19 = .ok (.iload_n 2, 1) := by decide +kernel
theorem dX0_gather_20 : decode cX0_gather 20 = .ok (.aload_n 1, 1) := by decide +kernel
theorem dX0_gather_21 : decode cX0_gather 21 = .ok (.getfield 35, 3) := by decide +kernel
theorem dX0_gather_24 : decode cX0_gather 24 = .ok (.if_icmp .ge 24, 3) := by decide +kernel
theorem dX0_gather_27 : decode cX0_gather 27 = .ok (.aload_n 0, 1) := by decide +kernel
theorem dX0_gather_28 : decode cX0_gather 28 = .ok (.aload_n 1, 1) := by decide +kernel
theorem dX0_gather_29 : decode cX0_gather 29 = .ok (.aload_n 1, 1) := by decide +kernel
theorem dX0_gather_30 : decode cX0_gather 30 = .ok (.iconst 1, 1) := by decide +kernel
theorem dX0_gather_31 : decode cX0_gather 31 = .ok (.iload_n 2, 1) := by decide +kernel
theorem dX0_gather_32 : decode cX0_gather 32 = .ok (.ishl, 1) := by decide +kernel
theorem dX0_gather_33 : decode cX0_gather 33 = .ok (.invokevirtual 38, 3) := by decide +kernel
theorem dX0_gather_36 : decode cX0_gather 36 = .ok (.invokevirtual 28, 3) := by decide +kernel
theorem dX0_gather_39 : decode cX0_gather 39 = .ok (.invokevirtual 41, 3) := by decide +kernel
theorem dX0_gather_42 : decode cX0_gather 42 = .ok (.iinc 2 1, 3) := by decide +kernel
theorem dX0_gather_45 : decode cX0_gather 45 = .ok (.goto (-26), 3) := by decide +kernel
theorem dX0_gather_48 : decode cX0_gather 48 = .ok (.iconst 0, 1) := by decide +kernel
theorem dX0_gather_49 : decode cX0_gather 49 = .ok (.istore_n 2, 1) := by decide +kernel
theorem dX0_gather_50 : decode cX0_gather 50 = .ok (.iload_n 2, 1) := by decide +kernel
theorem dX0_gather_51 : decode cX0_gather 51 = .ok (.aload_n 1, 1) := by decide +kernel
theorem dX0_gather_52 : decode cX0_gather 52 = .ok (.getfield 45, 3) := by decide +kernel
theorem dX0_gather_55 : decode cX0_gather 55 = .ok (.if_icmp .ge 30, 3) := by decide +kernel
theorem dX0_gather_58 : decode cX0_gather 58 = .ok (.aload_n 1, 1) := by decide +kernel
theorem dX0_gather_59 : decode cX0_gather 59 = .ok (.getfield 48, 3) := by decide +kernel
theorem dX0_gather_62 : decode cX0_gather 62 = .ok (.iload_n 2, 1) := by decide +kernel
theorem dX0_gather_63 : decode cX0_gather 63 = .ok (.iaload, 1) := by decide +kernel
theorem dX0_gather_64 : decode cX0_gather 64 = .ok (.bipush (-4), 2) := by decide +kernel
theorem dX0_gather_66 : decode cX0_gather 66 = .ok (.if_icmp .ne 13, 3) := by decide +kernel
theorem dX0_gather_69 : decode cX0_gather 69 = .ok (.aload_n 0, 1) := by decide +kernel
theorem dX0_gather_70 : decode cX0_gather 70 = .ok (.aload_n 1, 1) := by decide +kernel
theorem dX0_gather_71 : decode cX0_gather 71 = .ok (.getfield 51, 3) := by decide +kernel
theorem dX0_gather_74 : decode cX0_gather 74 = .ok (.iload_n 2, 1) := by decide +kernel
theorem dX0_gather_75 : decode cX0_gather 75 = .ok (.iaload, 1) := by decide +kernel
theorem dX0_gather_76 : decode cX0_gather 76 = .ok (.invokevirtual 41, 3) := by decide +kernel
theorem dX0_gather_79 : decode cX0_gather 79 = .ok (.iinc 2 1, 3) := by decide +kernel
theorem dX0_gather_82 : decode cX0_gather 82 = .ok (.goto (-32), 3) := by decide +kernel
theorem dX0_gather_85 : decode cX0_gather 85 = .ok (.return_, 1) := by decide +kernel
theorem dX0_add_0 : decode cX0_add 0 = .ok (.aload_n 0, 1) := by decide +kernel
theorem dX0_add_1 : decode cX0_add 1 = .ok (.getfield 18, 3) := by decide +kernel
theorem dX0_add_4 : decode cX0_add 4 = .ok (.bipush 10, 2) := by decide +kernel
theorem dX0_add_6 : decode cX0_add 6 = .ok (.if_icmp .ge 23, 3) := by decide +kernel
theorem dX0_add_9 : decode cX0_add 9 = .ok (.aload_n 0, 1) := by decide +kernel
theorem dX0_add_10 : decode cX0_add 10 = .ok (.getfield 11, 3) := by decide +kernel
theorem dX0_add_13 : decode cX0_add 13 = .ok (.aload_n 0, 1) := by decide +kernel
theorem dX0_add_14 : decode cX0_add 14 = .ok (.getfield 18, 3) := by decide +kernel
theorem dX0_add_17 : decode cX0_add 17 = .ok (.iload_n 1, 1) := by decide +kernel
theorem dX0_add_18 : decode cX0_add 18 = .ok (.iastore, 1) := by decide +kernel
theorem dX0_add_19 : decode cX0_add 19 = .ok (.aload_n 0, 1) := by decide +kernel
theorem dX0_add_20 : decode cX0_add 20 = .ok (.dup, 1) := by decide +kernel
theorem dX0_add_21 : decode cX0_add 21 = .ok (.getfield 18, 3) := by decide +kernel
theorem dX0_add_24 : decode cX0_add 24 = .ok (.iconst 1, 1) := by decide +kernel
theorem dX0_add_25 : decode cX0_add 25 = .ok (.iadd, 1) := by decide +kernel
theorem dX0_add_26 : decode cX0_add 26 = .ok (.putfield 18, 3) := by decide +kernel
theorem dX0_add_29 : decode cX0_add 29 = .ok (.return_, 1) := by decide +kernel
set_option maxRecDepth 20000 in
theorem ggX0_swingsOf_X7_within : GoodIn wsX0_swingsOf wsX7_within := goodIn_r _ [4] (by decide +kernel) (by decide +kernel)
set_option maxRecDepth 20000 in
theorem gX0_swingsOf_X7_within_n54 : GoodIn wsX0_swingsOf (wsX7_within) := ggX0_swingsOf_X7_within
set_option maxRecDepth 20000 in
theorem ggX0_swingsOf_X0_countSetsWithout : GoodIn wsX0_swingsOf wsX0_countSetsWithout := goodIn_r _ [9, 10, 1, 11, 12, 13, 14, 8, 15, 21, 22, 23, 24] (by decide +kernel) (by decide +kernel)
set_option maxRecDepth 20000 in
theorem gX0_swingsOf_X0_countSetsWithout : GoodIn wsX0_swingsOf (wsV RX0 58 RX0 yX0_countSetsWithout wsX0_countSetsWithout) := goodIn_app (goodIn_of _ (by decide +kernel)) ggX0_swingsOf_X0_countSetsWithout
set_option maxRecDepth 20000 in
theorem ggX0_swingsOf_X0_decided : GoodIn wsX0_swingsOf wsX0_decided := goodIn_r _ [19, 20, 11, 10, 21, 22, 23, 24] (by decide +kernel) (by decide +kernel)
set_option maxRecDepth 20000 in
theorem gX0_swingsOf_X0_decided : GoodIn wsX0_swingsOf (wsV RX0 61 RX0 yX0_decided wsX0_decided) := goodIn_app (goodIn_of _ (by decide +kernel)) ggX0_swingsOf_X0_decided
theorem dX0_swingsOf_0 : decode cX0_swingsOf 0 = .ok (.iload_n 1, 1) := by decide +kernel
theorem dX0_swingsOf_1 : decode cX0_swingsOf 1 = .ok (.iconst 0, 1) := by decide +kernel
theorem dX0_swingsOf_2 : decode cX0_swingsOf 2 = .ok (.aload_n 0, 1) := by decide +kernel
theorem dX0_swingsOf_3 : decode cX0_swingsOf 3 = .ok (.getfield 18, 3) := by decide +kernel
theorem dX0_swingsOf_6 : decode cX0_swingsOf 6 = .ok (.iconst 1, 1) := by decide +kernel
theorem dX0_swingsOf_7 : decode cX0_swingsOf 7 = .ok (.isub, 1) := by decide +kernel
theorem dX0_swingsOf_8 : decode cX0_swingsOf 8 = .ok (.invokestatic 54, 3) := by decide +kernel
theorem dX0_swingsOf_11 : decode cX0_swingsOf 11 = .ok (.ifCond .ne 5, 3) := by decide +kernel
theorem dX0_swingsOf_14 : decode cX0_swingsOf 14 = .ok (.iconst 0, 1) := by decide +kernel
theorem dX0_swingsOf_15 : decode cX0_swingsOf 15 = .ok (.ireturn, 1) := by decide +kernel
theorem dX0_swingsOf_16 : decode cX0_swingsOf 16 = .ok (.aload_n 0, 1) := by decide +kernel
theorem dX0_swingsOf_17 : decode cX0_swingsOf 17 = .ok (.iload_n 1, 1) := by decide +kernel
theorem dX0_swingsOf_18 : decode cX0_swingsOf 18 = .ok (.invokevirtual 58, 3) := by decide +kernel
theorem dX0_swingsOf_21 : decode cX0_swingsOf 21 = .ok (.iconst 0, 1) := by decide +kernel
theorem dX0_swingsOf_22 : decode cX0_swingsOf 22 = .ok (.istore_n 2, 1) := by decide +kernel
theorem dX0_swingsOf_23 : decode cX0_swingsOf 23 = .ok (.iconst 0, 1) := by decide +kernel
theorem dX0_swingsOf_24 : decode cX0_swingsOf 24 = .ok (.istore_n 3, 1) := by decide +kernel
theorem dX0_swingsOf_25 : decode cX0_swingsOf 25 = .ok (.iload_n 3, 1) := by decide +kernel
theorem dX0_swingsOf_26 : decode cX0_swingsOf 26 = .ok (.aload_n 0, 1) := by decide +kernel
theorem dX0_swingsOf_27 : decode cX0_swingsOf 27 = .ok (.getfield 18, 3) := by decide +kernel
theorem dX0_swingsOf_30 : decode cX0_swingsOf 30 = .ok (.if_icmp .ge 18, 3) := by decide +kernel
theorem dX0_swingsOf_33 : decode cX0_swingsOf 33 = .ok (.iload_n 2, 1) := by decide +kernel
theorem dX0_swingsOf_34 : decode cX0_swingsOf 34 = .ok (.aload_n 0, 1) := by decide +kernel
theorem dX0_swingsOf_35 : decode cX0_swingsOf 35 = .ok (.iload_n 1, 1) := by decide +kernel
theorem dX0_swingsOf_36 : decode cX0_swingsOf 36 = .ok (.iload_n 3, 1) := by decide +kernel
theorem dX0_swingsOf_37 : decode cX0_swingsOf 37 = .ok (.invokevirtual 61, 3) := by decide +kernel
theorem dX0_swingsOf_40 : decode cX0_swingsOf 40 = .ok (.iadd, 1) := by decide +kernel
theorem dX0_swingsOf_41 : decode cX0_swingsOf 41 = .ok (.istore_n 2, 1) := by decide +kernel
theorem dX0_swingsOf_42 : decode cX0_swingsOf 42 = .ok (.iinc 3 1, 3) := by decide +kernel
theorem dX0_swingsOf_45 : decode cX0_swingsOf 45 = .ok (.goto (-20), 3) := by decide +kernel
theorem dX0_swingsOf_48 : decode cX0_swingsOf 48 = .ok (.iload_n 2, 1) := by decide +kernel
theorem dX0_swingsOf_49 : decode cX0_swingsOf 49 = .ok (.ireturn, 1) := by decide +kernel
set_option maxRecDepth 20000 in
theorem ggX0_shareOf_X7_within : GoodIn wsX0_shareOf wsX7_within := goodIn_r _ [6] (by decide +kernel) (by decide +kernel)
set_option maxRecDepth 20000 in
theorem gX0_shareOf_X7_within_n54 : GoodIn wsX0_shareOf (wsX7_within) := ggX0_shareOf_X7_within
set_option maxRecDepth 20000 in
theorem ggX0_shareOf_X0_countSetsWithout : GoodIn wsX0_shareOf wsX0_countSetsWithout := goodIn_r _ [11, 12, 1, 13, 14, 15, 16, 10, 17, 23, 24, 25, 26] (by decide +kernel) (by decide +kernel)
set_option maxRecDepth 20000 in
theorem gX0_shareOf_X0_countSetsWithout : GoodIn wsX0_shareOf (wsV RX0 58 RX0 yX0_countSetsWithout wsX0_countSetsWithout) := goodIn_app (goodIn_of _ (by decide +kernel)) ggX0_shareOf_X0_countSetsWithout
set_option maxRecDepth 20000 in
theorem ggX0_shareOf_X0_decided : GoodIn wsX0_shareOf wsX0_decided := goodIn_r _ [21, 22, 13, 12, 23, 24, 25, 26] (by decide +kernel) (by decide +kernel)
set_option maxRecDepth 20000 in
theorem gX0_shareOf_X0_decided : GoodIn wsX0_shareOf (wsV RX0 61 RX0 yX0_decided wsX0_decided) := goodIn_app (goodIn_of _ (by decide +kernel)) ggX0_shareOf_X0_decided
theorem dX0_shareOf_0 : decode cX0_shareOf 0 = .ok (.iload_n 1, 1) := by decide +kernel
theorem dX0_shareOf_1 : decode cX0_shareOf 1 = .ok (.iconst 0, 1) := by decide +kernel
theorem dX0_shareOf_2 : decode cX0_shareOf 2 = .ok (.aload_n 0, 1) := by decide +kernel
theorem dX0_shareOf_3 : decode cX0_shareOf 3 = .ok (.getfield 18, 3) := by decide +kernel
theorem dX0_shareOf_6 : decode cX0_shareOf 6 = .ok (.iconst 1, 1) := by decide +kernel
theorem dX0_shareOf_7 : decode cX0_shareOf 7 = .ok (.isub, 1) := by decide +kernel
theorem dX0_shareOf_8 : decode cX0_shareOf 8 = .ok (.invokestatic 54, 3) := by decide +kernel
theorem dX0_shareOf_11 : decode cX0_shareOf 11 = .ok (.ifCond .ne 5, 3) := by decide +kernel
theorem dX0_shareOf_14 : decode cX0_shareOf 14 = .ok (.iconst 0, 1) := by decide +kernel
theorem dX0_shareOf_15 : decode cX0_shareOf 15 = .ok (.ireturn, 1) := by decide +kernel
theorem dX0_shareOf_16 : decode cX0_shareOf 16 = .ok (.aload_n 0, 1) := by decide +kernel
theorem dX0_shareOf_17 : decode cX0_shareOf 17 = .ok (.iload_n 1, 1) := by decide +kernel
theorem dX0_shareOf_18 : decode cX0_shareOf 18 = .ok (.invokevirtual 58, 3) := by decide +kernel
theorem dX0_shareOf_21 : decode cX0_shareOf 21 = .ok (.iconst 0, 1) := by decide +kernel
theorem dX0_shareOf_22 : decode cX0_shareOf 22 = .ok (.istore_n 2, 1) := by decide +kernel
theorem dX0_shareOf_23 : decode cX0_shareOf 23 = .ok (.iconst 0, 1) := by decide +kernel
theorem dX0_shareOf_24 : decode cX0_shareOf 24 = .ok (.istore_n 3, 1) := by decide +kernel
theorem dX0_shareOf_25 : decode cX0_shareOf 25 = .ok (.iload_n 3, 1) := by decide +kernel
theorem dX0_shareOf_26 : decode cX0_shareOf 26 = .ok (.aload_n 0, 1) := by decide +kernel
theorem dX0_shareOf_27 : decode cX0_shareOf 27 = .ok (.getfield 18, 3) := by decide +kernel
theorem dX0_shareOf_30 : decode cX0_shareOf 30 = .ok (.if_icmp .ge 37, 3) := by decide +kernel
theorem dX0_shareOf_33 : decode cX0_shareOf 33 = .ok (.iload_n 2, 1) := by decide +kernel
theorem dX0_shareOf_34 : decode cX0_shareOf 34 = .ok (.aload_n 0, 1) := by decide +kernel
theorem dX0_shareOf_35 : decode cX0_shareOf 35 = .ok (.iload_n 1, 1) := by decide +kernel
theorem dX0_shareOf_36 : decode cX0_shareOf 36 = .ok (.iload_n 3, 1) := by decide +kernel
theorem dX0_shareOf_37 : decode cX0_shareOf 37 = .ok (.invokevirtual 61, 3) := by decide +kernel
theorem dX0_shareOf_40 : decode cX0_shareOf 40 = .ok (.getstatic 65, 3) := by decide +kernel
theorem dX0_shareOf_43 : decode cX0_shareOf 43 = .ok (.iload_n 3, 1) := by decide +kernel
theorem dX0_shareOf_44 : decode cX0_shareOf 44 = .ok (.iaload, 1) := by decide +kernel
theorem dX0_shareOf_45 : decode cX0_shareOf 45 = .ok (.imul, 1) := by decide +kernel
theorem dX0_shareOf_46 : decode cX0_shareOf 46 = .ok (.getstatic 65, 3) := by decide +kernel
theorem dX0_shareOf_49 : decode cX0_shareOf 49 = .ok (.aload_n 0, 1) := by decide +kernel
theorem dX0_shareOf_50 : decode cX0_shareOf 50 = .ok (.getfield 18, 3) := by decide +kernel
theorem dX0_shareOf_53 : decode cX0_shareOf 53 = .ok (.iconst 1, 1) := by decide +kernel
theorem dX0_shareOf_54 : decode cX0_shareOf 54 = .ok (.isub, 1) := by decide +kernel
theorem dX0_shareOf_55 : decode cX0_shareOf 55 = .ok (.iload_n 3, 1) := by decide +kernel
theorem dX0_shareOf_56 : decode cX0_shareOf 56 = .ok (.isub, 1) := by decide +kernel
theorem dX0_shareOf_57 : decode cX0_shareOf 57 = .ok (.iaload, 1) := by decide +kernel
theorem dX0_shareOf_58 : decode cX0_shareOf 58 = .ok (.imul, 1) := by decide +kernel
theorem dX0_shareOf_59 : decode cX0_shareOf 59 = .ok (.iadd, 1) := by decide +kernel
theorem dX0_shareOf_60 : decode cX0_shareOf 60 = .ok (.istore_n 2, 1) := by decide +kernel
theorem dX0_shareOf_61 : decode cX0_shareOf 61 = .ok (.iinc 3 1, 3) := by decide +kernel
theorem dX0_shareOf_64 : decode cX0_shareOf 64 = .ok (.goto (-39), 3) := by decide +kernel
theorem dX0_shareOf_67 : decode cX0_shareOf 67 = .ok (.iload_n 2, 1) := by decide +kernel
theorem dX0_shareOf_68 : decode cX0_shareOf 68 = .ok (.getstatic 68, 3) := by decide +kernel
theorem dX0_shareOf_71 : decode cX0_shareOf 71 = .ok (.aload_n 0, 1) := by decide +kernel
theorem dX0_shareOf_72 : decode cX0_shareOf 72 = .ok (.getfield 18, 3) := by decide +kernel
theorem dX0_shareOf_75 : decode cX0_shareOf 75 = .ok (.iaload, 1) := by decide +kernel
theorem dX0_shareOf_76 : decode cX0_shareOf 76 = .ok (.imul, 1) := by decide +kernel
theorem dX0_shareOf_77 : decode cX0_shareOf 77 = .ok (.ireturn, 1) := by decide +kernel
theorem dX0_decided_0 : decode cX0_decided 0 = .ok (.iconst 0, 1) := by decide +kernel
theorem dX0_decided_1 : decode cX0_decided 1 = .ok (.istore_n 3, 1) := by decide +kernel
theorem dX0_decided_2 : decode cX0_decided 2 = .ok (.iconst 0, 1) := by decide +kernel
theorem dX0_decided_3 : decode cX0_decided 3 = .ok (.istore 4, 2) := by decide +kernel
theorem dX0_decided_5 : decode cX0_decided 5 = .ok (.iload 4, 2) := by decide +kernel
theorem dX0_decided_7 : decode cX0_decided 7 = .ok (.bipush 18, 2) := by decide +kernel
theorem dX0_decided_9 : decode cX0_decided 9 = .ok (.if_icmp .gt 53, 3) := by decide +kernel
theorem dX0_decided_12 : decode cX0_decided 12 = .ok (.iconst 2, 1) := by decide +kernel
theorem dX0_decided_13 : decode cX0_decided 13 = .ok (.iload 4, 2) := by decide +kernel
theorem dX0_decided_15 : decode cX0_decided 15 = .ok (.imul, 1) := by decide +kernel
theorem dX0_decided_16 : decode cX0_decided 16 = .ok (.aload_n 0, 1) := by decide +kernel
theorem dX0_decided_17 : decode cX0_decided 17 = .ok (.getfield 32, 3) := by decide +kernel
theorem dX0_decided_20 : decode cX0_decided 20 = .ok (.if_icmp .gt 36, 3) := by decide +kernel
theorem dX0_decided_23 : decode cX0_decided 23 = .ok (.iconst 2, 1) := by decide +kernel
theorem dX0_decided_24 : decode cX0_decided 24 = .ok (.iload 4, 2) := by decide +kernel
theorem dX0_decided_26 : decode cX0_decided 26 = .ok (.aload_n 0, 1) := by decide +kernel
theorem dX0_decided_27 : decode cX0_decided 27 = .ok (.getfield 11, 3) := by decide +kernel
theorem dX0_decided_30 : decode cX0_decided 30 = .ok (.iload_n 1, 1) := by decide +kernel
theorem dX0_decided_31 : decode cX0_decided 31 = .ok (.iaload, 1) := by decide +kernel
theorem dX0_decided_32 : decode cX0_decided 32 = .ok (.iadd, 1) := by decide +kernel
theorem dX0_decided_33 : decode cX0_decided 33 = .ok (.imul, 1) := by decide +kernel
theorem dX0_decided_34 : decode cX0_decided 34 = .ok (.aload_n 0, 1) := by decide +kernel
theorem dX0_decided_35 : decode cX0_decided 35 = .ok (.getfield 32, 3) := by decide +kernel
theorem dX0_decided_38 : decode cX0_decided 38 = .ok (.if_icmp .le 18, 3) := by decide +kernel
theorem dX0_decided_41 : decode cX0_decided 41 = .ok (.iload_n 3, 1) := by decide +kernel
theorem dX0_decided_42 : decode cX0_decided 42 = .ok (.aload_n 0, 1) := by decide +kernel
theorem dX0_decided_43 : decode cX0_decided 43 = .ok (.getfield 15, 3) := by decide +kernel
theorem dX0_decided_46 : decode cX0_decided 46 = .ok (.iload_n 2, 1) := by decide +kernel
theorem dX0_decided_47 : decode cX0_decided 47 = .ok (.bipush 19, 2) := by decide +kernel
theorem dX0_decided_49 : decode cX0_decided 49 = .ok (.imul, 1) := by decide +kernel
theorem dX0_decided_50 : decode cX0_decided 50 = .ok (.iload 4, 2) := by decide +kernel
theorem dX0_decided_52 : decode cX0_decided 52 = .ok (.iadd, 1) := by decide +kernel
theorem dX0_decided_53 : decode cX0_decided 53 = .ok (.iaload, 1) := by decide +kernel
theorem dX0_decided_54 : decode cX0_decided 54 = .ok (.iadd, 1) := by decide +kernel
theorem dX0_decided_55 : decode cX0_decided 55 = .ok (.istore_n 3, 1) := by decide +kernel
theorem dX0_decided_56 : decode cX0_decided 56 = .ok (.iinc 4 1, 3) := by decide +kernel
theorem dX0_decided_59 : decode cX0_decided 59 = .ok (.goto (-54), 3) := by decide +kernel
theorem dX0_decided_62 : decode cX0_decided 62 = .ok (.iload_n 3, 1) := by decide +kernel
theorem dX0_decided_63 : decode cX0_decided 63 = .ok (.ireturn, 1) := by decide +kernel
set_option maxRecDepth 20000 in
theorem ggX0_countSetsWithout_X0_widenBy : GoodIn wsX0_countSetsWithout wsX0_widenBy := goodIn_r _ [8, 1, 9, 10, 11, 12] (by decide +kernel) (by decide +kernel)
set_option maxRecDepth 20000 in
theorem gX0_countSetsWithout_X0_widenBy : GoodIn wsX0_countSetsWithout (wsV RX0 71 RX0 yX0_widenBy wsX0_widenBy) := goodIn_app (goodIn_of _ (by decide +kernel)) ggX0_countSetsWithout_X0_widenBy
theorem dX0_countSetsWithout_0 : decode cX0_countSetsWithout 0 = .ok (.iconst 0, 1) := by decide +kernel
theorem dX0_countSetsWithout_1 : decode cX0_countSetsWithout 1 = .ok (.istore_n 2, 1) := by decide +kernel
theorem dX0_countSetsWithout_2 : decode cX0_countSetsWithout 2 = .ok (.iload_n 2, 1) := by decide +kernel
theorem dX0_countSetsWithout_3 : decode cX0_countSetsWithout 3 = .ok (.sipush 190, 3) := by decide +kernel
theorem dX0_countSetsWithout_6 : decode cX0_countSetsWithout 6 = .ok (.if_icmp .ge 16, 3) := by decide +kernel
theorem dX0_countSetsWithout_9 : decode cX0_countSetsWithout 9 = .ok (.aload_n 0, 1) := by decide +kernel
theorem dX0_countSetsWithout_10 : decode cX0_countSetsWithout 10 = .ok (.getfield 15, 3) := by decide +kernel
theorem dX0_countSetsWithout_13 : decode cX0_countSetsWithout 13 = .ok (.iload_n 2, 1) := by decide +kernel
theorem dX0_countSetsWithout_14 : decode cX0_countSetsWithout 14 = .ok (.iconst 0, 1) := by decide +kernel
theorem dX0_countSetsWithout_15 : decode cX0_countSetsWithout 15 = .ok (.iastore, 1) := by decide +kernel
theorem dX0_countSetsWithout_16 : decode cX0_countSetsWithout 16 = .ok (.iinc 2 1, 3) := by decide +kernel
theorem dX0_countSetsWithout_19 : decode cX0_countSetsWithout 19 = .ok (.goto (-17), 3) := by decide +kernel
theorem dX0_countSetsWithout_22 : decode cX0_countSetsWithout 22 = .ok (.aload_n 0, 1) := by decide +kernel
theorem dX0_countSetsWithout_23 : decode cX0_countSetsWithout 23 = .ok (.getfield 15, 3) := by decide +kernel
theorem dX0_countSetsWithout_26 : decode cX0_countSetsWithout 26 = .ok (.iconst 0, 1) := by decide +kernel
theorem dX0_countSetsWithout_27 : decode cX0_countSetsWithout 27 = .ok (.iconst 1, 1) := by decide +kernel
theorem dX0_countSetsWithout_28 : decode cX0_countSetsWithout 28 = .ok (.iastore, 1) := by decide +kernel
theorem dX0_countSetsWithout_29 : decode cX0_countSetsWithout 29 = .ok (.iconst 0, 1) := by decide +kernel
theorem dX0_countSetsWithout_30 : decode cX0_countSetsWithout 30 = .ok (.istore_n 2, 1) := by decide +kernel
theorem dX0_countSetsWithout_31 : decode cX0_countSetsWithout 31 = .ok (.iload_n 2, 1) := by decide +kernel
theorem dX0_countSetsWithout_32 : decode cX0_countSetsWithout 32 = .ok (.aload_n 0, 1) := by decide +kernel
theorem dX0_countSetsWithout_33 : decode cX0_countSetsWithout 33 = .ok (.getfield 18, 3) := by decide +kernel
theorem dX0_countSetsWithout_36 : decode cX0_countSetsWithout 36 = .ok (.if_icmp .ge 24, 3) := by decide +kernel
theorem dX0_countSetsWithout_39 : decode cX0_countSetsWithout 39 = .ok (.iload_n 2, 1) := by decide +kernel
theorem dX0_countSetsWithout_40 : decode cX0_countSetsWithout 40 = .ok (.iload_n 1, 1) := by decide +kernel
theorem dX0_countSetsWithout_41 : decode cX0_countSetsWithout 41 = .ok (.if_icmp .eq 13, 3) := by decide +kernel
theorem dX0_countSetsWithout_44 : decode cX0_countSetsWithout 44 = .ok (.aload_n 0, 1) := by decide +kernel
theorem dX0_countSetsWithout_45 : decode cX0_countSetsWithout 45 = .ok (.aload_n 0, 1) := by decide +kernel
theorem dX0_countSetsWithout_46 : decode cX0_countSetsWithout 46 = .ok (.getfield 11, 3) := by decide +kernel
theorem dX0_countSetsWithout_49 : decode cX0_countSetsWithout 49 = .ok (.iload_n 2, 1) := by decide +kernel
theorem dX0_countSetsWithout_50 : decode cX0_countSetsWithout 50 = .ok (.iaload, 1) := by decide +kernel
theorem dX0_countSetsWithout_51 : decode cX0_countSetsWithout 51 = .ok (.invokevirtual 71, 3) := by decide +kernel
theorem dX0_countSetsWithout_54 : decode cX0_countSetsWithout 54 = .ok (.iinc 2 1, 3) := by decide +kernel
theorem dX0_countSetsWithout_57 : decode cX0_countSetsWithout 57 = .ok (.goto (-26), 3) := by decide +kernel
theorem dX0_countSetsWithout_60 : decode cX0_countSetsWithout 60 = .ok (.return_, 1) := by decide +kernel
theorem dX0_widenBy_0 : decode cX0_widenBy 0 = .ok (.bipush 8, 2) := by decide +kernel
theorem dX0_widenBy_2 : decode cX0_widenBy 2 = .ok (.istore_n 2, 1) := by decide +kernel
theorem dX0_widenBy_3 : decode cX0_widenBy 3 = .ok (.iload_n 2, 1) := by decide +kernel
theorem dX0_widenBy_4 : decode cX0_widenBy 4 = .ok (.ifCond .lt 54, 3) := by decide +kernel
theorem dX0_widenBy_7 : decode cX0_widenBy 7 = .ok (.iconst 0, 1) := by decide +kernel
theorem dX0_widenBy_8 : decode cX0_widenBy 8 = .ok (.istore_n 3, 1) := by decide +kernel
theorem dX0_widenBy_9 : decode cX0_widenBy 9 = .ok (.iload_n 3, 1) := by decide +kernel
theorem dX0_widenBy_10 : decode cX0_widenBy 10 = .ok (.iload_n 1, 1) := by decide +kernel
theorem dX0_widenBy_11 : decode cX0_widenBy 11 = .ok (.iadd, 1) := by decide +kernel
theorem dX0_widenBy_12 : decode cX0_widenBy 12 = .ok (.bipush 18, 2) := by decide +kernel
theorem dX0_widenBy_14 : decode cX0_widenBy 14 = .ok (.if_icmp .gt 38, 3) := by decide +kernel
theorem dX0_widenBy_17 : decode cX0_widenBy 17 = .ok (.aload_n 0, 1) := by decide +kernel
theorem dX0_widenBy_18 : decode cX0_widenBy 18 = .ok (.getfield 15, 3) := by decide +kernel
theorem dX0_widenBy_21 : decode cX0_widenBy 21 = .ok (.iload_n 2, 1) := by decide +kernel
theorem dX0_widenBy_22 : decode cX0_widenBy 22 = .ok (.iconst 1, 1) := by decide +kernel
theorem dX0_widenBy_23 : decode cX0_widenBy 23 = .ok (.iadd, 1) := by decide +kernel
theorem dX0_widenBy_24 : decode cX0_widenBy 24 = .ok (.bipush 19, 2) := by decide +kernel
theorem dX0_widenBy_26 : decode cX0_widenBy 26 = .ok (.imul, 1) := by decide +kernel
theorem dX0_widenBy_27 : decode cX0_widenBy 27 = .ok (.iload_n 3, 1) := by decide +kernel
theorem dX0_widenBy_28 : decode cX0_widenBy 28 = .ok (.iadd, 1) := by decide +kernel
theorem dX0_widenBy_29 : decode cX0_widenBy 29 = .ok (.iload_n 1, 1) := by decide +kernel
theorem dX0_widenBy_30 : decode cX0_widenBy 30 = .ok (.iadd, 1) := by decide +kernel
theorem dX0_widenBy_31 : decode cX0_widenBy 31 = .ok (.dup2, 1) := by decide +kernel
theorem dX0_widenBy_32 : decode cX0_widenBy 32 = .ok (.iaload, 1) := by decide +kernel
theorem dX0_widenBy_33 : decode cX0_widenBy 33 = .ok (.aload_n 0, 1) := by decide +kernel
theorem dX0_widenBy_34 : decode cX0_widenBy 34 = .ok (.getfield 15, 3) := by decide +kernel
theorem dX0_widenBy_37 : decode cX0_widenBy 37 = .ok (.iload_n 2, 1) := by decide +kernel
theorem dX0_widenBy_38 : decode cX0_widenBy 38 = .ok (.bipush 19, 2) := by decide +kernel
theorem dX0_widenBy_40 : decode cX0_widenBy 40 = .ok (.imul, 1) := by decide +kernel
theorem dX0_widenBy_41 : decode cX0_widenBy 41 = .ok (.iload_n 3, 1) := by decide +kernel
theorem dX0_widenBy_42 : decode cX0_widenBy 42 = .ok (.iadd, 1) := by decide +kernel
theorem dX0_widenBy_43 : decode cX0_widenBy 43 = .ok (.iaload, 1) := by decide +kernel
theorem dX0_widenBy_44 : decode cX0_widenBy 44 = .ok (.iadd, 1) := by decide +kernel
theorem dX0_widenBy_45 : decode cX0_widenBy 45 = .ok (.iastore, 1) := by decide +kernel
theorem dX0_widenBy_46 : decode cX0_widenBy 46 = .ok (.iinc 3 1, 3) := by decide +kernel
theorem dX0_widenBy_49 : decode cX0_widenBy 49 = .ok (.goto (-40), 3) := by decide +kernel
theorem dX0_widenBy_52 : decode cX0_widenBy 52 = .ok (.iinc 2 (-1), 3) := by decide +kernel
theorem dX0_widenBy_55 : decode cX0_widenBy 55 = .ok (.goto (-52), 3) := by decide +kernel
theorem dX0_widenBy_58 : decode cX0_widenBy 58 = .ok (.return_, 1) := by decide +kernel
set_option maxRecDepth 20000 in
theorem ggX1_init_X5_init : GoodIn wsX1_init wsX5_init := goodIn_r _ [13, 14, 2, 3, 15, 16, 27, 28] (by decide +kernel) (by decide +kernel)
set_option maxRecDepth 20000 in
theorem gX1_init_X5_init_n11 : GoodIn wsX1_init (wsX5_init) := ggX1_init_X5_init
set_option maxRecDepth 20000 in
theorem ggX1_init_X2_init : GoodIn wsX1_init wsX2_init := goodIn_r _ [18, 19, 2, 3, 20, 21, 22, 23, 24, 25, 26, 38, 39, 40, 41, 42, 43, 44, 45] (by decide +kernel) (by decide +kernel)
set_option maxRecDepth 20000 in
theorem gX1_init_X2_init_n20 : GoodIn wsX1_init (wsX2_init) := ggX1_init_X2_init
theorem dX1_init_0 : decode cX1_init 0 = .ok (.aload_n 0, 1) := by decide +kernel
theorem dX1_init_1 : decode cX1_init 1 = .ok (.invokespecial 3, 3) := by decide +kernel
theorem dX1_init_4 : decode cX1_init 4 = .ok (.aload_n 0, 1) := by decide +kernel
theorem dX1_init_5 : decode cX1_init 5 = .ok (.new 9, 3) := by decide +kernel
theorem dX1_init_8 : decode cX1_init 8 = .ok (.dup, 1) := by decide +kernel
theorem dX1_init_9 : decode cX1_init 9 = .ok (.invokespecial 11, 3) := by decide +kernel
theorem dX1_init_12 : decode cX1_init 12 = .ok (.putfield 12, 3) := by decide +kernel
theorem dX1_init_15 : decode cX1_init 15 = .ok (.aload_n 0, 1) := by decide +kernel
theorem dX1_init_16 : decode cX1_init 16 = .ok (.new 18, 3) := by decide +kernel
theorem dX1_init_19 : decode cX1_init 19 = .ok (.dup, 1) := by decide +kernel
theorem dX1_init_20 : decode cX1_init 20 = .ok (.invokespecial 20, 3) := by decide +kernel
theorem dX1_init_23 : decode cX1_init 23 = .ok (.putfield 21, 3) := by decide +kernel
theorem dX1_init_26 : decode cX1_init 26 = .ok (.return_, 1) := by decide +kernel
set_option maxRecDepth 20000 in
theorem ggX1_tellAll_X2_empty : GoodIn wsX1_tellAll wsX2_empty := goodIn_r _ [12, 13, 14, 15, 154, 155, 156, 157, 158, 159, 160, 161] (by decide +kernel) (by decide +kernel)
set_option maxRecDepth 20000 in
theorem gX1_tellAll_X2_empty : GoodIn wsX1_tellAll (wsV RX1 25 RX2 yX2_empty wsX2_empty) := goodIn_app (goodIn_of _ (by decide +kernel)) ggX1_tellAll_X2_empty
set_option maxRecDepth 20000 in
theorem ggX1_tellAll_X1_advance : GoodIn wsX1_tellAll wsX1_advance := goodIn_r _ [20, 2, 4, 7, 21, 6, 22, 23, 24, 25, 26, 27, 28, 29, 30, 19, 31, 32, 33, 34, 35, 36, 37, 38, 39, 40, 41, 42, 43, 44, 45, 46, 47, 3, 145, 146, 147, 148, 149, 150, 151, 152, 153, 162, 163] (by decide +kernel) (by decide +kernel)
set_option maxRecDepth 20000 in
theorem gX1_tellAll_X1_advance : GoodIn wsX1_tellAll (wsV RX1 42 RX1 yX1_advance wsX1_advance) := goodIn_app (goodIn_of _ (by decide +kernel)) ggX1_tellAll_X1_advance
set_option maxRecDepth 20000 in
theorem ggX1_tellAll_X1_beginning : GoodIn wsX1_tellAll wsX1_beginning := goodIn_r _ [51, 52, 53, 54, 19, 55, 6, 4, 7, 21, 56, 57, 58, 59, 60, 61, 62, 63, 64, 65, 66, 67, 22, 23, 24, 25, 26, 27, 28, 68, 69, 70, 71, 72, 73, 74, 75, 76, 77, 78, 79, 80, 81, 82, 83, 84, 85, 86, 87, 88, 89, 90, 91, 92, 93, 94, 95, 96, 97, 98, 99, 100, 101, 102, 103, 104, 145, 146, 147, 148, 149, 150, 151, 152, 153, 162, 163] (by decide +kernel) (by decide +kernel)
set_option maxRecDepth 20000 in
theorem gX1_tellAll_X1_beginning : GoodIn wsX1_tellAll (wsV RX1 48 RX1 yX1_beginning wsX1_beginning) := goodIn_app (goodIn_of _ (by decide +kernel)) ggX1_tellAll_X1_beginning
set_option maxRecDepth 20000 in
theorem ggX1_tellAll_X1_tellLord : GoodIn wsX1_tellAll wsX1_tellLord := goodIn_r _ [108, 1, 7, 44, 45, 46, 19, 47, 2, 3, 16, 17, 18, 20, 4, 21, 6, 22, 23, 24, 25, 26, 27, 28, 29, 30, 31, 32, 33, 34, 35, 36, 37, 38, 39, 40, 41, 42, 43, 109, 110, 111, 112, 113, 114, 115, 116, 117, 118, 119, 120, 121, 122, 11, 123, 13, 124, 145, 146, 147, 148, 149, 150, 151, 152, 153, 154, 155, 156, 157, 158, 159, 160, 161, 162, 163] (by decide +kernel) (by decide +kernel)
set_option maxRecDepth 20000 in
theorem gX1_tellAll_X1_tellLord : GoodIn wsX1_tellAll (wsV RX1 52 RX1 yX1_tellLord wsX1_tellLord) := goodIn_app (goodIn_of _ (by decide +kernel)) ggX1_tellAll_X1_tellLord
set_option maxRecDepth 20000 in
theorem ggX1_tellAll_X1_tellPrice : GoodIn wsX1_tellAll wsX1_tellPrice := goodIn_r _ [128, 5, 7, 1, 44, 45, 46, 19, 47, 2, 3, 16, 17, 18, 20, 4, 21, 6, 22, 23, 24, 25, 26, 27, 28, 29, 30, 31, 32, 33, 34, 35, 36, 37, 38, 39, 40, 41, 42, 43, 109, 110, 111, 112, 113, 114, 115, 116, 117, 118, 119, 145, 146, 147, 148, 149, 150, 151, 152, 153, 154, 155, 156, 157, 158, 159, 160, 161, 162, 163] (by decide +kernel) (by decide +kernel)
set_option maxRecDepth 20000 in
theorem gX1_tellAll_X1_tellPrice : GoodIn wsX1_tellAll (wsV RX1 55 RX1 yX1_tellPrice wsX1_tellPrice) := goodIn_app (goodIn_of _ (by decide +kernel)) ggX1_tellAll_X1_tellPrice
set_option maxRecDepth 20000 in
theorem ggX1_tellAll_X1_tellBorough : GoodIn wsX1_tellAll wsX1_tellBorough := goodIn_r _ [132, 1, 7, 6, 44, 45, 46, 19, 47, 2, 3, 16, 17, 18, 20, 4, 21, 22, 23, 24, 25, 26, 27, 28, 29, 30, 31, 32, 33, 34, 35, 36, 37, 38, 39, 40, 41, 42, 43, 109, 110, 111, 112, 113, 114, 115, 116, 117, 118, 119, 133, 134, 135, 11, 136, 14, 137, 138, 139, 140, 145, 146, 147, 148, 149, 150, 151, 152, 153, 154, 155, 156, 157, 158, 159, 160, 161, 162, 163] (by decide +kernel) (by decide +kernel)
set_option maxRecDepth 20000 in
theorem gX1_tellAll_X1_tellBorough : GoodIn wsX1_tellAll (wsV RX1 58 RX1 yX1_tellBorough wsX1_tellBorough) := goodIn_app (goodIn_of _ (by decide +kernel)) ggX1_tellAll_X1_tellBorough
set_option maxRecDepth 20000 in
theorem ggX1_tellAll_X1_refuse : GoodIn wsX1_tellAll wsX1_refuse := goodIn_r _ [47, 2, 3, 145, 146, 147, 148, 149, 150, 151, 152, 153] (by decide +kernel) (by decide +kernel)
set_option maxRecDepth 20000 in
theorem gX1_tellAll_X1_refuse : GoodIn wsX1_tellAll (wsV RX1 65 RX1 yX1_refuse wsX1_refuse) := goodIn_app (goodIn_of _ (by decide +kernel)) ggX1_tellAll_X1_refuse
set_option maxRecDepth 20000 in
theorem ggX1_tellAll_X1_checkOwners : GoodIn wsX1_tellAll wsX1_checkOwners := goodIn_r _ [144, 1, 21, 44, 45, 46, 19, 47, 2, 3, 145, 146, 147, 148, 149, 150, 151, 152, 153, 154, 155, 156, 157, 158, 159, 160, 161, 162, 163] (by decide +kernel) (by decide +kernel)
set_option maxRecDepth 20000 in
theorem gX1_tellAll_X1_checkOwners : GoodIn wsX1_tellAll (wsV RX1 69 RX1 yX1_checkOwners wsX1_checkOwners) := goodIn_app (goodIn_of _ (by decide +kernel)) ggX1_tellAll_X1_checkOwners
theorem dX1_tellAll_0 : decode cX1_tellAll 0 = .ok (.aload_n 0, 1) := by decide +kernel
theorem dX1_tellAll_1 : decode cX1_tellAll 1 = .ok (.getfield 21, 3) := by decide +kernel
theorem dX1_tellAll_4 : decode cX1_tellAll 4 = .ok (.invokevirtual 25, 3) := by decide +kernel
theorem dX1_tellAll_7 : decode cX1_tellAll 7 = .ok (.aload_n 0, 1) := by decide +kernel
theorem dX1_tellAll_8 : decode cX1_tellAll 8 = .ok (.iconst 0, 1) := by decide +kernel
theorem dX1_tellAll_9 : decode cX1_tellAll 9 = .ok (.putfield 28, 3) := by decide +kernel
theorem dX1_tellAll_12 : decode cX1_tellAll 12 = .ok (.aload_n 0, 1) := by decide +kernel
theorem dX1_tellAll_13 : decode cX1_tellAll 13 = .ok (.iconst 0, 1) := by decide +kernel
theorem dX1_tellAll_14 : decode cX1_tellAll 14 = .ok (.putfield 32, 3) := by decide +kernel
theorem dX1_tellAll_17 : decode cX1_tellAll 17 = .ok (.aload_n 0, 1) := by decide +kernel
theorem dX1_tellAll_18 : decode cX1_tellAll 18 = .ok (.iconst 0, 1) := by decide +kernel
theorem dX1_tellAll_19 : decode cX1_tellAll 19 = .ok (.putfield 35, 3) := by decide +kernel
theorem dX1_tellAll_22 : decode cX1_tellAll 22 = .ok (.aload_n 0, 1) := by decide +kernel
theorem dX1_tellAll_23 : decode cX1_tellAll 23 = .ok (.iconst 0, 1) := by decide +kernel
theorem dX1_tellAll_24 : decode cX1_tellAll 24 = .ok (.putfield 38, 3) := by decide +kernel
theorem dX1_tellAll_27 : decode cX1_tellAll 27 = .ok (.iconst 0, 1) := by decide +kernel
theorem dX1_tellAll_28 : decode cX1_tellAll 28 = .ok (.istore_n 1, 1) := by decide +kernel
theorem dX1_tellAll_29 : decode cX1_tellAll 29 = .ok (.aload_n 0, 1) := by decide +kernel
theorem dX1_tellAll_30 : decode cX1_tellAll 30 = .ok (.invokevirtual 42, 3) := by decide +kernel
theorem dX1_tellAll_33 : decode cX1_tellAll 33 = .ok (.aload_n 0, 1) := by decide +kernel
theorem dX1_tellAll_34 : decode cX1_tellAll 34 = .ok (.getfield 28, 3) := by decide +kernel
theorem dX1_tellAll_37 : decode cX1_tellAll 37 = .ok (.ifCond .ne 79, 3) := by decide +kernel
theorem dX1_tellAll_40 : decode cX1_tellAll 40 = .ok (.aload_n 0, 1) := by decide +kernel
theorem dX1_tellAll_41 : decode cX1_tellAll 41 = .ok (.getfield 45, 3) := by decide +kernel
theorem dX1_tellAll_44 : decode cX1_tellAll 44 = .ok (.ifCond .eq 72, 3) := by decide +kernel
theorem dX1_tellAll_47 : decode cX1_tellAll 47 = .ok (.iload_n 1, 1) := by decide +kernel
theorem dX1_tellAll_48 : decode cX1_tellAll 48 = .ok (.sipush 160, 3) := by decide +kernel
theorem dX1_tellAll_51 : decode cX1_tellAll 51 = .ok (.if_icmp .ge 65, 3) := by decide +kernel
theorem dX1_tellAll_54 : decode cX1_tellAll 54 = .ok (.aload_n 0, 1) := by decide +kernel
theorem dX1_tellAll_55 : decode cX1_tellAll 55 = .ok (.invokevirtual 48, 3) := by decide +kernel
theorem dX1_tellAll_58 : decode cX1_tellAll 58 = .ok (.istore_n 2, 1) := by decide +kernel
theorem dX1_tellAll_59 : decode cX1_tellAll 59 = .ok (.iload_n 2, 1) := by decide +kernel
theorem dX1_tellAll_60 : decode cX1_tellAll 60 = .ok (.iconst 4, 1) := by decide +kernel
theorem dX1_tellAll_61 : decode cX1_tellAll 61 = .ok (.if_icmp .ne 10, 3) := by decide +kernel
theorem dX1_tellAll_64 : decode cX1_tellAll 64 = .ok (.aload_n 0, 1) := by decide +kernel
theorem dX1_tellAll_65 : decode cX1_tellAll 65 = .ok (.invokevirtual 52, 3) := by decide +kernel
theorem dX1_tellAll_68 : decode cX1_tellAll 68 = .ok (.goto 38, 3) := by decide +kernel
theorem dX1_tellAll_71 : decode cX1_tellAll 71 = .ok (.iload_n 2, 1) := by decide +kernel
theorem dX1_tellAll_72 : decode cX1_tellAll 72 = .ok (.iconst 5, 1) := by decide +kernel
theorem dX1_tellAll_73 : decode cX1_tellAll 73 = .ok (.if_icmp .ne 10, 3) := by decide +kernel
theorem dX1_tellAll_76 : decode cX1_tellAll 76 = .ok (.aload_n 0, 1) := by decide +kernel
theorem dX1_tellAll_77 : decode cX1_tellAll 77 = .ok (.invokevirtual 55, 3) := by decide +kernel
theorem dX1_tellAll_80 : decode cX1_tellAll 80 = .ok (.goto 26, 3) := by decide +kernel
theorem dX1_tellAll_83 : decode cX1_tellAll 83 = .ok (.iload_n 2, 1) := by decide +kernel
theorem dX1_tellAll_84 : decode cX1_tellAll 84 = .ok (.bipush (-4), 2) := by decide +kernel
theorem dX1_tellAll_86 : decode cX1_tellAll 86 = .ok (.if_icmp .eq 11, 3) := by decide +kernel
theorem dX1_tellAll_89 : decode cX1_tellAll 89 = .ok (.aload_n 0, 1) := by decide +kernel
theorem dX1_tellAll_90 : decode cX1_tellAll 90 = .ok (.iload_n 2, 1) := by decide +kernel
theorem dX1_tellAll_91 : decode cX1_tellAll 91 = .ok (.invokevirtual 58, 3) := by decide +kernel
theorem dX1_tellAll_94 : decode cX1_tellAll 94 = .ok (.goto 12, 3) := by decide +kernel
theorem dX1_tellAll_97 : decode cX1_tellAll 97 = .ok (.aload_n 0, 1) := by decide +kernel
theorem dX1_tellAll_98 : decode cX1_tellAll 98 = .ok (.iconst 2, 1) := by decide +kernel
theorem dX1_tellAll_99 : decode cX1_tellAll 99 = .ok (.aload_n 0, 1) := by decide +kernel
theorem dX1_tellAll_100 : decode cX1_tellAll 100 = .ok (.getfield 62, 3) := by decide +kernel
theorem dX1_tellAll_103 : decode cX1_tellAll 103 = .ok (.invokevirtual 65, 3) := by decide +kernel
theorem dX1_tellAll_106 : decode cX1_tellAll 106 = .ok (.iinc 1 1, 3) := by decide +kernel
theorem dX1_tellAll_109 : decode cX1_tellAll 109 = .ok (.aload_n 0, 1) := by decide +kernel
theorem dX1_tellAll_110 : decode cX1_tellAll 110 = .ok (.invokevirtual 42, 3) := by decide +kernel
theorem dX1_tellAll_113 : decode cX1_tellAll 113 = .ok (.goto (-80), 3) := by decide +kernel
theorem dX1_tellAll_116 : decode cX1_tellAll 116 = .ok (.aload_n 0, 1) := by decide +kernel
theorem dX1_tellAll_117 : decode cX1_tellAll 117 = .ok (.invokevirtual 69, 3) := by decide +kernel
theorem dX1_tellAll_120 : decode cX1_tellAll 120 = .ok (.iload_n 1, 1) := by decide +kernel
theorem dX1_tellAll_121 : decode cX1_tellAll 121 = .ok (.ireturn, 1) := by decide +kernel
set_option maxRecDepth 20000 in
theorem ggX1_beginning_X1_isName : GoodIn wsX1_beginning wsX1_isName := goodIn_r _ [5, 6, 7, 8, 9, 10, 11, 12, 13, 14, 15, 16, 17, 18, 19, 20, 21, 22, 23, 24, 25, 26, 27, 28, 29, 30, 31, 32, 33, 34, 35, 36, 37, 38, 39, 40, 41, 42, 43, 44, 45, 46, 47, 48, 49, 50, 51, 52, 53, 54, 55, 56, 57, 58, 59, 60, 61, 62, 63, 64, 65, 66, 67, 68, 69, 70, 71, 72, 73, 74, 75, 76] (by decide +kernel) (by decide +kernel)
set_option maxRecDepth 20000 in
theorem gX1_beginning_X1_isName : GoodIn wsX1_beginning (wsV RX1 74 RX1 yX1_isName wsX1_isName) := goodIn_app (goodIn_of _ (by decide +kernel)) ggX1_beginning_X1_isName
theorem dX1_beginning_0 : decode cX1_beginning 0 = .ok (.aload_n 0, 1) := by decide +kernel
theorem dX1_beginning_1 : decode cX1_beginning 1 = .ok (.ldc 72, 2) := by decide +kernel
theorem dX1_beginning_3 : decode cX1_beginning 3 = .ok (.invokevirtual 74, 3) := by decide +kernel
theorem dX1_beginning_6 : decode cX1_beginning 6 = .ok (.ifCond .eq 7, 3) := by decide +kernel
theorem dX1_beginning_9 : decode cX1_beginning 9 = .ok (.iconst 0, 1) := by decide +kernel
theorem dX1_beginning_10 : decode cX1_beginning 10 = .ok (.goto 70, 3) := by decide +kernel
theorem dX1_beginning_13 : decode cX1_beginning 13 = .ok (.aload_n 0, 1) := by decide +kernel
theorem dX1_beginning_14 : decode cX1_beginning 14 = .ok (.ldc 78, 2) := by decide +kernel
theorem dX1_beginning_16 : decode cX1_beginning 16 = .ok (.invokevirtual 74, 3) := by decide +kernel
theorem dX1_beginning_19 : decode cX1_beginning 19 = .ok (.ifCond .eq 7, 3) := by decide +kernel
theorem dX1_beginning_22 : decode cX1_beginning 22 = .ok (.iconst 1, 1) := by decide +kernel
theorem dX1_beginning_23 : decode cX1_beginning 23 = .ok (.goto 57, 3) := by decide +kernel
theorem dX1_beginning_26 : decode cX1_beginning 26 = .ok (.aload_n 0, 1) := by decide +kernel
theorem dX1_beginning_27 : decode cX1_beginning 27 = .ok (.ldc 80, 2) := by decide +kernel
theorem dX1_beginning_29 : decode cX1_beginning 29 = .ok (.invokevirtual 74, 3) := by decide +kernel
theorem dX1_beginning_32 : decode cX1_beginning 32 = .ok (.ifCond .eq 7, 3) := by decide +kernel
theorem dX1_beginning_35 : decode cX1_beginning 35 = .ok (.iconst 2, 1) := by decide +kernel
theorem dX1_beginning_36 : decode cX1_beginning 36 = .ok (.goto 44, 3) := by decide +kernel
theorem dX1_beginning_39 : decode cX1_beginning 39 = .ok (.aload_n 0, 1) := by decide +kernel
theorem dX1_beginning_40 : decode cX1_beginning 40 = .ok (.ldc 82, 2) := by decide +kernel
theorem dX1_beginning_42 : decode cX1_beginning 42 = .ok (.invokevirtual 74, 3) := by decide +kernel
theorem dX1_beginning_45 : decode cX1_beginning 45 = .ok (.ifCond .eq 7, 3) := by decide +kernel
theorem dX1_beginning_48 : decode cX1_beginning 48 = .ok (.iconst 3, 1) := by decide +kernel
theorem dX1_beginning_49 : decode cX1_beginning 49 = .ok (.goto 31, 3) := by decide +kernel
theorem dX1_beginning_52 : decode cX1_beginning 52 = .ok (.aload_n 0, 1) := by decide +kernel
theorem dX1_beginning_53 : decode cX1_beginning 53 = .ok (.ldc 84, 2) := by decide +kernel
theorem dX1_beginning_55 : decode cX1_beginning 55 = .ok (.invokevirtual 74, 3) := by decide +kernel
theorem dX1_beginning_58 : decode cX1_beginning 58 = .ok (.ifCond .eq 7, 3) := by decide +kernel
theorem dX1_beginning_61 : decode cX1_beginning 61 = .ok (.iconst 4, 1) := by decide +kernel
theorem dX1_beginning_62 : decode cX1_beginning 62 = .ok (.goto 18, 3) := by decide +kernel
theorem dX1_beginning_65 : decode cX1_beginning 65 = .ok (.aload_n 0, 1) := by decide +kernel
theorem dX1_beginning_66 : decode cX1_beginning 66 = .ok (.ldc 86, 2) := by decide +kernel
theorem dX1_beginning_68 : decode cX1_beginning 68 = .ok (.invokevirtual 74, 3) := by decide +kernel
theorem dX1_beginning_71 : decode cX1_beginning 71 = .ok (.ifCond .eq 7, 3) := by decide +kernel
theorem dX1_beginning_74 : decode cX1_beginning 74 = .ok (.iconst 5, 1) := by decide +kernel
theorem dX1_beginning_75 : decode cX1_beginning 75 = .ok (.goto 5, 3) := by decide +kernel
theorem dX1_beginning_78 : decode cX1_beginning 78 = .ok (.bipush (-4), 2) := by decide +kernel
theorem dX1_beginning_80 : decode cX1_beginning 80 = .ok (.ireturn, 1) := by decide +kernel
set_option maxRecDepth 20000 in
theorem ggX1_tellLord_X1_refuse : GoodIn wsX1_tellLord wsX1_refuse := goodIn_r _ [7, 8, 9, 57, 58, 59, 60, 61, 62, 63, 64, 65] (by decide +kernel) (by decide +kernel)
set_option maxRecDepth 20000 in
theorem gX1_tellLord_X1_refuse : GoodIn wsX1_tellLord (wsV RX1 65 RX1 yX1_refuse wsX1_refuse) := goodIn_app (goodIn_of _ (by decide +kernel)) ggX1_tellLord_X1_refuse
set_option maxRecDepth 20000 in
theorem ggX1_tellLord_X1_advance : GoodIn wsX1_tellLord wsX1_advance := goodIn_r _ [13, 8, 14, 2, 15, 16, 17, 18, 19, 20, 21, 22, 23, 24, 25, 6, 26, 27, 28, 29, 30, 31, 32, 33, 34, 35, 36, 37, 38, 3, 4, 5, 7, 9, 57, 58, 59, 60, 61, 62, 63, 64, 65, 74, 75] (by decide +kernel) (by decide +kernel)
set_option maxRecDepth 20000 in
theorem gX1_tellLord_X1_advance : GoodIn wsX1_tellLord (wsV RX1 42 RX1 yX1_advance wsX1_advance) := goodIn_app (goodIn_of _ (by decide +kernel)) ggX1_tellLord_X1_advance
set_option maxRecDepth 20000 in
theorem ggX1_tellLord_X1_number : GoodIn wsX1_tellLord wsX1_number := goodIn_r _ [42, 16, 2, 38, 3, 4, 5, 6, 7, 8, 9, 43, 44, 45, 10, 11, 12, 13, 14, 15, 17, 18, 19, 20, 21, 22, 23, 24, 25, 26, 27, 28, 29, 30, 31, 32, 33, 34, 35, 36, 37, 57, 58, 59, 60, 61, 62, 63, 64, 65, 74, 75] (by decide +kernel) (by decide +kernel)
set_option maxRecDepth 20000 in
theorem gX1_tellLord_X1_number : GoodIn wsX1_tellLord (wsV RX1 91 RX1 yX1_number wsX1_number) := goodIn_app (goodIn_of _ (by decide +kernel)) ggX1_tellLord_X1_number
set_option maxRecDepth 20000 in
theorem ggX1_tellLord_X1_stop : GoodIn wsX1_tellLord wsX1_stop := goodIn_r _ [49, 16, 2, 3, 4, 5, 6, 7, 8, 9, 57, 58, 59, 60, 61, 62, 63, 64, 65] (by decide +kernel) (by decide +kernel)
set_option maxRecDepth 20000 in
theorem gX1_tellLord_X1_stop : GoodIn wsX1_tellLord (wsV RX1 95 RX1 yX1_stop wsX1_stop) := goodIn_app (goodIn_of _ (by decide +kernel)) ggX1_tellLord_X1_stop
set_option maxRecDepth 20000 in
theorem ggX1_tellLord_X2_addLord : GoodIn wsX1_tellLord wsX2_addLord := goodIn_r _ [54, 55, 56, 66, 67, 68, 69, 70, 71, 72, 73] (by decide +kernel) (by decide +kernel)
set_option maxRecDepth 20000 in
theorem gX1_tellLord_X2_addLord : GoodIn wsX1_tellLord (wsV RX1 98 RX2 yX2_addLord wsX2_addLord) := goodIn_app (goodIn_of _ (by decide +kernel)) ggX1_tellLord_X2_addLord
theorem dX1_tellLord_0 : decode cX1_tellLord 0 = .ok (.aload_n 0, 1) := by decide +kernel
theorem dX1_tellLord_1 : decode cX1_tellLord 1 = .ok (.getfield 21, 3) := by decide +kernel
theorem dX1_tellLord_4 : decode cX1_tellLord 4 = .ok (.getfield 88, 3) := by decide +kernel
theorem dX1_tellLord_7 : decode cX1_tellLord 7 = .ok (.iconst 4, 1) := by decide +kernel
theorem dX1_tellLord_8 : decode cX1_tellLord 8 = .ok (.if_icmp .lt 12, 3) := by decide +kernel
theorem dX1_tellLord_11 : decode cX1_tellLord 11 = .ok (.aload_n 0, 1) := by decide +kernel
theorem dX1_tellLord_12 : decode cX1_tellLord 12 = .ok (.iconst 5, 1) := by decide +kernel
theorem dX1_tellLord_13 : decode cX1_tellLord 13 = .ok (.aload_n 0, 1) := by decide +kernel
theorem dX1_tellLord_14 : decode cX1_tellLord 14 = .ok (.getfield 62, 3) := by decide +kernel
theorem dX1_tellLord_17 : decode cX1_tellLord 17 = .ok (.invokevirtual 65, 3) := by decide +kernel
theorem dX1_tellLord_20 : decode cX1_tellLord 20 = .ok (.aload_n 0, 1) := by decide +kernel
theorem dX1_tellLord_21 : decode cX1_tellLord 21 = .ok (.invokevirtual 42, 3) := by decide +kernel
theorem dX1_tellLord_24 : decode cX1_tellLord 24 = .ok (.aload_n 0, 1) := by decide +kernel
theorem dX1_tellLord_25 : decode cX1_tellLord 25 = .ok (.iconst 0, 1) := by decide +kernel
theorem dX1_tellLord_26 : decode cX1_tellLord 26 = .ok (.bipush 99, 2) := by decide +kernel
theorem dX1_tellLord_28 : decode cX1_tellLord 28 = .ok (.invokevirtual 91, 3) := by decide +kernel
theorem dX1_tellLord_31 : decode cX1_tellLord 31 = .ok (.istore_n 1, 1) := by decide +kernel
theorem dX1_tellLord_32 : decode cX1_tellLord 32 = .ok (.aload_n 0, 1) := by decide +kernel
theorem dX1_tellLord_33 : decode cX1_tellLord 33 = .ok (.invokevirtual 95, 3) := by decide +kernel
theorem dX1_tellLord_36 : decode cX1_tellLord 36 = .ok (.aload_n 0, 1) := by decide +kernel
theorem dX1_tellLord_37 : decode cX1_tellLord 37 = .ok (.getfield 21, 3) := by decide +kernel
theorem dX1_tellLord_40 : decode cX1_tellLord 40 = .ok (.iload_n 1, 1) := by decide +kernel
theorem dX1_tellLord_41 : decode cX1_tellLord 41 = .ok (.invokevirtual 98, 3) := by decide +kernel
theorem dX1_tellLord_44 : decode cX1_tellLord 44 = .ok (.return_, 1) := by decide +kernel
set_option maxRecDepth 20000 in
theorem ggX1_tellPrice_X1_refuse : GoodIn wsX1_tellPrice wsX1_refuse := goodIn_r _ [8, 9, 10, 51, 52, 53, 54, 55, 56, 57, 58, 59] (by decide +kernel) (by decide +kernel)
set_option maxRecDepth 20000 in
theorem gX1_tellPrice_X1_refuse : GoodIn wsX1_tellPrice (wsV RX1 65 RX1 yX1_refuse wsX1_refuse) := goodIn_app (goodIn_of _ (by decide +kernel)) ggX1_tellPrice_X1_refuse
set_option maxRecDepth 20000 in
theorem ggX1_tellPrice_X1_advance : GoodIn wsX1_tellPrice wsX1_advance := goodIn_r _ [14, 9, 15, 2, 16, 17, 18, 19, 20, 21, 22, 23, 24, 25, 26, 7, 27, 28, 29, 30, 31, 32, 33, 34, 35, 36, 37, 38, 39, 4, 5, 6, 8, 10, 51, 52, 53, 54, 55, 56, 57, 58, 59, 68, 69] (by decide +kernel) (by decide +kernel)
set_option maxRecDepth 20000 in
theorem gX1_tellPrice_X1_advance : GoodIn wsX1_tellPrice (wsV RX1 42 RX1 yX1_advance wsX1_advance) := goodIn_app (goodIn_of _ (by decide +kernel)) ggX1_tellPrice_X1_advance
set_option maxRecDepth 20000 in
theorem ggX1_tellPrice_X1_number : GoodIn wsX1_tellPrice wsX1_number := goodIn_r _ [43, 17, 2, 39, 4, 5, 6, 7, 8, 9, 10, 44, 45, 46, 11, 12, 13, 14, 15, 16, 18, 19, 20, 21, 22, 23, 24, 25, 26, 27, 28, 29, 30, 31, 32, 33, 34, 35, 36, 37, 38, 51, 52, 53, 54, 55, 56, 57, 58, 59, 68, 69] (by decide +kernel) (by decide +kernel)
set_option maxRecDepth 20000 in
theorem gX1_tellPrice_X1_number : GoodIn wsX1_tellPrice (wsV RX1 91 RX1 yX1_number wsX1_number) := goodIn_app (goodIn_of _ (by decide +kernel)) ggX1_tellPrice_X1_number
set_option maxRecDepth 20000 in
theorem ggX1_tellPrice_X1_stop : GoodIn wsX1_tellPrice wsX1_stop := goodIn_r _ [50, 17, 2, 4, 5, 6, 7, 8, 9, 10, 51, 52, 53, 54, 55, 56, 57, 58, 59] (by decide +kernel) (by decide +kernel)
set_option maxRecDepth 20000 in
theorem gX1_tellPrice_X1_stop : GoodIn wsX1_tellPrice (wsV RX1 95 RX1 yX1_stop wsX1_stop) := goodIn_app (goodIn_of _ (by decide +kernel)) ggX1_tellPrice_X1_stop
theorem dX1_tellPrice_0 : decode cX1_tellPrice 0 = .ok (.aload_n 0, 1) := by decide +kernel
theorem dX1_tellPrice_1 : decode cX1_tellPrice 1 = .ok (.getfield 38, 3) := by decide +kernel
theorem dX1_tellPrice_4 : decode cX1_tellPrice 4 = .ok (.ifCond .eq 12, 3) := by decide +kernel
theorem dX1_tellPrice_7 : decode cX1_tellPrice 7 = .ok (.aload_n 0, 1) := by decide +kernel
theorem dX1_tellPrice_8 : decode cX1_tellPrice 8 = .ok (.iconst 4, 1) := by decide +kernel
theorem dX1_tellPrice_9 : decode cX1_tellPrice 9 = .ok (.aload_n 0, 1) := by decide +kernel
theorem dX1_tellPrice_10 : decode cX1_tellPrice 10 = .ok (.getfield 62, 3) := by decide +kernel
theorem dX1_tellPrice_13 : decode cX1_tellPrice 13 = .ok (.invokevirtual 65, 3) := by decide +kernel
theorem dX1_tellPrice_16 : decode cX1_tellPrice 16 = .ok (.aload_n 0, 1) := by decide +kernel
theorem dX1_tellPrice_17 : decode cX1_tellPrice 17 = .ok (.iconst 1, 1) := by decide +kernel
theorem dX1_tellPrice_18 : decode cX1_tellPrice 18 = .ok (.putfield 38, 3) := by decide +kernel
theorem dX1_tellPrice_21 : decode cX1_tellPrice 21 = .ok (.aload_n 0, 1) := by decide +kernel
theorem dX1_tellPrice_22 : decode cX1_tellPrice 22 = .ok (.invokevirtual 42, 3) := by decide +kernel
theorem dX1_tellPrice_25 : decode cX1_tellPrice 25 = .ok (.aload_n 0, 1) := by decide +kernel
theorem dX1_tellPrice_26 : decode cX1_tellPrice 26 = .ok (.getfield 21, 3) := by decide +kernel
theorem dX1_tellPrice_29 : decode cX1_tellPrice 29 = .ok (.aload_n 0, 1) := by decide +kernel
theorem dX1_tellPrice_30 : decode cX1_tellPrice 30 = .ok (.iconst 0, 1) := by decide +kernel
theorem dX1_tellPrice_31 : decode cX1_tellPrice 31 = .ok (.bipush 9, 2) := by decide +kernel
theorem dX1_tellPrice_33 : decode cX1_tellPrice 33 = .ok (.invokevirtual 91, 3) := by decide +kernel
theorem dX1_tellPrice_36 : decode cX1_tellPrice 36 = .ok (.putfield 101, 3) := by decide +kernel
theorem dX1_tellPrice_39 : decode cX1_tellPrice 39 = .ok (.aload_n 0, 1) := by decide +kernel
theorem dX1_tellPrice_40 : decode cX1_tellPrice 40 = .ok (.invokevirtual 95, 3) := by decide +kernel
theorem dX1_tellPrice_43 : decode cX1_tellPrice 43 = .ok (.return_, 1) := by decide +kernel
set_option maxRecDepth 20000 in
theorem ggX1_tellBorough_X1_refuse : GoodIn wsX1_tellBorough wsX1_refuse := goodIn_r _ [8, 9, 10, 60, 61, 62, 63, 64, 65, 66, 67, 68] (by decide +kernel) (by decide +kernel)
set_option maxRecDepth 20000 in
theorem gX1_tellBorough_X1_refuse : GoodIn wsX1_tellBorough (wsV RX1 65 RX1 yX1_refuse wsX1_refuse) := goodIn_app (goodIn_of _ (by decide +kernel)) ggX1_tellBorough_X1_refuse
set_option maxRecDepth 20000 in
theorem ggX1_tellBorough_X1_advance : GoodIn wsX1_tellBorough wsX1_advance := goodIn_r _ [14, 9, 15, 2, 16, 3, 17, 18, 19, 20, 21, 22, 23, 24, 25, 7, 26, 27, 28, 29, 30, 31, 32, 33, 34, 35, 36, 37, 38, 4, 5, 6, 8, 10, 60, 61, 62, 63, 64, 65, 66, 67, 68, 77, 78] (by decide +kernel) (by decide +kernel)
set_option maxRecDepth 20000 in
theorem gX1_tellBorough_X1_advance : GoodIn wsX1_tellBorough (wsV RX1 42 RX1 yX1_advance wsX1_advance) := goodIn_app (goodIn_of _ (by decide +kernel)) ggX1_tellBorough_X1_advance
set_option maxRecDepth 20000 in
theorem ggX1_tellBorough_X1_number : GoodIn wsX1_tellBorough wsX1_number := goodIn_r _ [42, 3, 2, 38, 4, 5, 6, 7, 8, 9, 10, 43, 44, 45, 11, 12, 13, 14, 15, 16, 17, 18, 19, 20, 21, 22, 23, 24, 25, 26, 27, 28, 29, 30, 31, 32, 33, 34, 35, 36, 37, 60, 61, 62, 63, 64, 65, 66, 67, 68, 77, 78] (by decide +kernel) (by decide +kernel)
set_option maxRecDepth 20000 in
theorem gX1_tellBorough_X1_number : GoodIn wsX1_tellBorough (wsV RX1 91 RX1 yX1_number wsX1_number) := goodIn_app (goodIn_of _ (by decide +kernel)) ggX1_tellBorough_X1_number
set_option maxRecDepth 20000 in
theorem ggX1_tellBorough_X1_stop : GoodIn wsX1_tellBorough wsX1_stop := goodIn_r _ [49, 3, 2, 4, 5, 6, 7, 8, 9, 10, 60, 61, 62, 63, 64, 65, 66, 67, 68] (by decide +kernel) (by decide +kernel)
set_option maxRecDepth 20000 in
theorem gX1_tellBorough_X1_stop : GoodIn wsX1_tellBorough (wsV RX1 95 RX1 yX1_stop wsX1_stop) := goodIn_app (goodIn_of _ (by decide +kernel)) ggX1_tellBorough_X1_stop
set_option maxRecDepth 20000 in
theorem ggX1_tellBorough_X2_addBorough : GoodIn wsX1_tellBorough wsX2_addBorough := goodIn_r _ [54, 55, 56, 57, 58, 59, 69, 70, 71, 72, 73, 74, 75, 76] (by decide +kernel) (by decide +kernel)
set_option maxRecDepth 20000 in
theorem gX1_tellBorough_X2_addBorough : GoodIn wsX1_tellBorough (wsV RX1 107 RX2 yX2_addBorough wsX2_addBorough) := goodIn_app (goodIn_of _ (by decide +kernel)) ggX1_tellBorough_X2_addBorough
theorem dX1_tellBorough_0 : decode cX1_tellBorough 0 = .ok (.aload_n 0, 1) := by decide +kernel
theorem dX1_tellBorough_1 : decode cX1_tellBorough 1 = .ok (.getfield 21, 3) := by decide +kernel
theorem dX1_tellBorough_4 : decode cX1_tellBorough 4 = .ok (.getfield 104, 3) := by decide +kernel
theorem dX1_tellBorough_7 : decode cX1_tellBorough 7 = .ok (.bipush 6, 2) := by decide +kernel
theorem dX1_tellBorough_9 : decode cX1_tellBorough 9 = .ok (.if_icmp .lt 12, 3) := by decide +kernel
theorem dX1_tellBorough_12 : decode cX1_tellBorough 12 = .ok (.aload_n 0, 1) := by decide +kernel
theorem dX1_tellBorough_13 : decode cX1_tellBorough 13 = .ok (.iconst 5, 1) := by decide +kernel
theorem dX1_tellBorough_14 : decode cX1_tellBorough 14 = .ok (.aload_n 0, 1) := by decide +kernel
theorem dX1_tellBorough_15 : decode cX1_tellBorough 15 = .ok (.getfield 62, 3) := by decide +kernel
theorem dX1_tellBorough_18 : decode cX1_tellBorough 18 = .ok (.invokevirtual 65, 3) := by decide +kernel
theorem dX1_tellBorough_21 : decode cX1_tellBorough 21 = .ok (.aload_n 0, 1) := by decide +kernel
theorem dX1_tellBorough_22 : decode cX1_tellBorough 22 = .ok (.invokevirtual 42, 3) := by decide +kernel
theorem dX1_tellBorough_25 : decode cX1_tellBorough 25 = .ok (.aload_n 0, 1) := by decide +kernel
theorem dX1_tellBorough_26 : decode cX1_tellBorough 26 = .ok (.iconst 1, 1) := by decide +kernel
theorem dX1_tellBorough_27 : decode cX1_tellBorough 27 = .ok (.bipush 9, 2) := by decide +kernel
theorem dX1_tellBorough_29 : decode cX1_tellBorough 29 = .ok (.invokevirtual 91, 3) := by decide +kernel
theorem dX1_tellBorough_32 : decode cX1_tellBorough 32 = .ok (.istore_n 2, 1) := by decide +kernel
theorem dX1_tellBorough_33 : decode cX1_tellBorough 33 = .ok (.aload_n 0, 1) := by decide +kernel
theorem dX1_tellBorough_34 : decode cX1_tellBorough 34 = .ok (.iconst 0, 1) := by decide +kernel
theorem dX1_tellBorough_35 : decode cX1_tellBorough 35 = .ok (.iconst 3, 1) := by decide +kernel
theorem dX1_tellBorough_36 : decode cX1_tellBorough 36 = .ok (.invokevirtual 91, 3) := by decide +kernel
theorem dX1_tellBorough_39 : decode cX1_tellBorough 39 = .ok (.istore_n 3, 1) := by decide +kernel
theorem dX1_tellBorough_40 : decode cX1_tellBorough 40 = .ok (.aload_n 0, 1) := by decide +kernel
theorem dX1_tellBorough_41 : decode cX1_tellBorough 41 = .ok (.getfield 45, 3) := by decide +kernel
theorem dX1_tellBorough_44 : decode cX1_tellBorough 44 = .ok (.iconst 2, 1) := by decide +kernel
theorem dX1_tellBorough_45 : decode cX1_tellBorough 45 = .ok (.if_icmp .ne 12, 3) := by decide +kernel
theorem dX1_tellBorough_48 : decode cX1_tellBorough 48 = .ok (.aload_n 0, 1) := by decide +kernel
theorem dX1_tellBorough_49 : decode cX1_tellBorough 49 = .ok (.iconst 0, 1) := by decide +kernel
theorem dX1_tellBorough_50 : decode cX1_tellBorough 50 = .ok (.iconst 3, 1) := by decide +kernel
theorem dX1_tellBorough_51 : decode cX1_tellBorough 51 = .ok (.invokevirtual 91, 3) := by decide +kernel
theorem dX1_tellBorough_54 : decode cX1_tellBorough 54 = .ok (.goto 5, 3) := by decide +kernel
theorem dX1_tellBorough_57 : decode cX1_tellBorough 57 = .ok (.bipush (-4), 2) := by decide +kernel
theorem dX1_tellBorough_59 : decode cX1_tellBorough 59 = .ok (.istore 4, 2) := by decide +kernel
theorem dX1_tellBorough_61 : decode cX1_tellBorough 61 = .ok (.aload_n 0, 1) := by decide +kernel
theorem dX1_tellBorough_62 : decode cX1_tellBorough 62 = .ok (.invokevirtual 95, 3) := by decide +kernel
theorem dX1_tellBorough_65 : decode cX1_tellBorough 65 = .ok (.aload_n 0, 1) := by decide +kernel
theorem dX1_tellBorough_66 : decode cX1_tellBorough 66 = .ok (.getfield 21, 3) := by decide +kernel
theorem dX1_tellBorough_69 : decode cX1_tellBorough 69 = .ok (.iload_n 1, 1) := by decide +kernel
theorem dX1_tellBorough_70 : decode cX1_tellBorough 70 = .ok (.iload_n 2, 1) := by decide +kernel
theorem dX1_tellBorough_71 : decode cX1_tellBorough 71 = .ok (.iload_n 3, 1) := by decide +kernel
theorem dX1_tellBorough_72 : decode cX1_tellBorough 72 = .ok (.iload 4, 2) := by decide +kernel
theorem dX1_tellBorough_74 : decode cX1_tellBorough 74 = .ok (.invokevirtual 107, 3) := by decide +kernel
theorem dX1_tellBorough_77 : decode cX1_tellBorough 77 = .ok (.return_, 1) := by decide +kernel
set_option maxRecDepth 20000 in
theorem ggX1_number_X1_refuse : GoodIn wsX1_number wsX1_refuse := goodIn_r _ [8, 9, 10, 41, 42, 43, 44, 45, 46, 47, 48, 49] (by decide +kernel) (by decide +kernel)
set_option maxRecDepth 20000 in
theorem gX1_number_X1_refuse : GoodIn wsX1_number (wsV RX1 65 RX1 yX1_refuse wsX1_refuse) := goodIn_app (goodIn_of _ (by decide +kernel)) ggX1_number_X1_refuse
set_option maxRecDepth 20000 in
theorem ggX1_number_X7_within : GoodIn wsX1_number wsX7_within := goodIn_r _ [13] (by decide +kernel) (by decide +kernel)
set_option maxRecDepth 20000 in
theorem gX1_number_X7_within_n114 : GoodIn wsX1_number (wsX7_within) := ggX1_number_X7_within
set_option maxRecDepth 20000 in
theorem ggX1_number_X1_advance : GoodIn wsX1_number wsX1_advance := goodIn_r _ [17, 9, 18, 2, 19, 1, 20, 21, 22, 23, 24, 25, 26, 27, 28, 7, 29, 30, 31, 32, 33, 34, 35, 36, 37, 38, 39, 40, 3, 4, 5, 6, 8, 10, 41, 42, 43, 44, 45, 46, 47, 48, 49, 50, 51] (by decide +kernel) (by decide +kernel)
set_option maxRecDepth 20000 in
theorem gX1_number_X1_advance : GoodIn wsX1_number (wsV RX1 42 RX1 yX1_advance wsX1_advance) := goodIn_app (goodIn_of _ (by decide +kernel)) ggX1_number_X1_advance
theorem dX1_number_0 : decode cX1_number 0 = .ok (.aload_n 0, 1) := by decide +kernel
theorem dX1_number_1 : decode cX1_number 1 = .ok (.getfield 45, 3) := by decide +kernel
theorem dX1_number_4 : decode cX1_number 4 = .ok (.iconst 2, 1) := by decide +kernel
theorem dX1_number_5 : decode cX1_number 5 = .ok (.if_icmp .eq 15, 3) := by decide +kernel
theorem dX1_number_8 : decode cX1_number 8 = .ok (.aload_n 0, 1) := by decide +kernel
theorem dX1_number_9 : decode cX1_number 9 = .ok (.iconst 2, 1) := by decide +kernel
theorem dX1_number_10 : decode cX1_number 10 = .ok (.aload_n 0, 1) := by decide +kernel
theorem dX1_number_11 : decode cX1_number 11 = .ok (.getfield 62, 3) := by decide +kernel
theorem dX1_number_14 : decode cX1_number 14 = .ok (.invokevirtual 65, 3) := by decide +kernel
theorem dX1_number_17 : decode cX1_number 17 = .ok (.goto 24, 3) := by decide +kernel
theorem dX1_number_20 : decode cX1_number 20 = .ok (.aload_n 0, 1) := by decide +kernel
theorem dX1_number_21 : decode cX1_number 21 = .ok (.getfield 111, 3) := by decide +kernel
theorem dX1_number_24 : decode cX1_number 24 = .ok (.iload_n 1, 1) := by decide +kernel
theorem dX1_number_25 : decode cX1_number 25 = .ok (.iload_n 2, 1) := by decide +kernel
theorem dX1_number_26 : decode cX1_number 26 = .ok (.invokestatic 114, 3) := by decide +kernel
theorem dX1_number_29 : decode cX1_number 29 = .ok (.ifCond .ne 12, 3) := by decide +kernel
theorem dX1_number_32 : decode cX1_number 32 = .ok (.aload_n 0, 1) := by decide +kernel
theorem dX1_number_33 : decode cX1_number 33 = .ok (.iconst 3, 1) := by decide +kernel
theorem dX1_number_34 : decode cX1_number 34 = .ok (.aload_n 0, 1) := by decide +kernel
theorem dX1_number_35 : decode cX1_number 35 = .ok (.getfield 62, 3) := by decide +kernel
theorem dX1_number_38 : decode cX1_number 38 = .ok (.invokevirtual 65, 3) := by decide +kernel
theorem dX1_number_41 : decode cX1_number 41 = .ok (.aload_n 0, 1) := by decide +kernel
theorem dX1_number_42 : decode cX1_number 42 = .ok (.getfield 111, 3) := by decide +kernel
theorem dX1_number_45 : decode cX1_number 45 = .ok (.istore_n 3, 1) := by decide +kernel
theorem dX1_number_46 : decode cX1_number 46 = .ok (.aload_n 0, 1) := by decide +kernel
theorem dX1_number_47 : decode cX1_number 47 = .ok (.invokevirtual 42, 3) := by decide +kernel
theorem dX1_number_50 : decode cX1_number 50 = .ok (.iload_n 3, 1) := by decide +kernel
theorem dX1_number_51 : decode cX1_number 51 = .ok (.ireturn, 1) := by decide +kernel
set_option maxRecDepth 20000 in
theorem ggX1_stop_X1_refuse : GoodIn wsX1_stop wsX1_refuse := goodIn_r _ [7, 8, 9, 10, 11, 12, 13, 14, 15, 16, 17, 18] (by decide +kernel) (by decide +kernel)
set_option maxRecDepth 20000 in
theorem gX1_stop_X1_refuse : GoodIn wsX1_stop (wsV RX1 65 RX1 yX1_refuse wsX1_refuse) := goodIn_app (goodIn_of _ (by decide +kernel)) ggX1_stop_X1_refuse
theorem dX1_stop_0 : decode cX1_stop 0 = .ok (.aload_n 0, 1) := by decide +kernel
theorem dX1_stop_1 : decode cX1_stop 1 = .ok (.getfield 45, 3) := by decide +kernel
theorem dX1_stop_4 : decode cX1_stop 4 = .ok (.iconst 3, 1) := by decide +kernel
theorem dX1_stop_5 : decode cX1_stop 5 = .ok (.if_icmp .eq 12, 3) := by decide +kernel
theorem dX1_stop_8 : decode cX1_stop 8 = .ok (.aload_n 0, 1) := by decide +kernel
theorem dX1_stop_9 : decode cX1_stop 9 = .ok (.iconst 2, 1) := by decide +kernel
theorem dX1_stop_10 : decode cX1_stop 10 = .ok (.aload_n 0, 1) := by decide +kernel
theorem dX1_stop_11 : decode cX1_stop 11 = .ok (.getfield 62, 3) := by decide +kernel
theorem dX1_stop_14 : decode cX1_stop 14 = .ok (.invokevirtual 65, 3) := by decide +kernel
theorem dX1_stop_17 : decode cX1_stop 17 = .ok (.return_, 1) := by decide +kernel
set_option maxRecDepth 20000 in
theorem ggX1_checkOwners_X1_refuse : GoodIn wsX1_checkOwners wsX1_refuse := goodIn_r _ [7, 8, 9, 10, 11, 12, 13, 14, 15, 16, 17, 18] (by decide +kernel) (by decide +kernel)
set_option maxRecDepth 20000 in
theorem gX1_checkOwners_X1_refuse : GoodIn wsX1_checkOwners (wsV RX1 65 RX1 yX1_refuse wsX1_refuse) := goodIn_app (goodIn_of _ (by decide +kernel)) ggX1_checkOwners_X1_refuse
theorem dX1_checkOwners_0 : decode cX1_checkOwners 0 = .ok (.iconst 0, 1) := by decide +kernel
theorem dX1_checkOwners_1 : decode cX1_checkOwners 1 = .ok (.istore_n 1, 1) := by decide +kernel
theorem dX1_checkOwners_2 : decode cX1_checkOwners 2 = .ok (.iload_n 1, 1) := by decide +kernel
theorem dX1_checkOwners_3 : decode cX1_checkOwners 3 = .ok (.aload_n 0, 1) := by decide +kernel
theorem dX1_checkOwners_4 : decode cX1_checkOwners 4 = .ok (.getfield 21, 3) := by decide +kernel
theorem dX1_checkOwners_7 : decode cX1_checkOwners 7 = .ok (.getfield 104, 3) := by decide +kernel
theorem dX1_checkOwners_10 : decode cX1_checkOwners 10 = .ok (.if_icmp .ge 55, 3) := by decide +kernel
theorem dX1_checkOwners_13 : decode cX1_checkOwners 13 = .ok (.aload_n 0, 1) := by decide +kernel
theorem dX1_checkOwners_14 : decode cX1_checkOwners 14 = .ok (.getfield 21, 3) := by decide +kernel
theorem dX1_checkOwners_17 : decode cX1_checkOwners 17 = .ok (.getfield 118, 3) := by decide +kernel
theorem dX1_checkOwners_20 : decode cX1_checkOwners 20 = .ok (.iload_n 1, 1) := by decide +kernel
theorem dX1_checkOwners_21 : decode cX1_checkOwners 21 = .ok (.iaload, 1) := by decide +kernel
theorem dX1_checkOwners_22 : decode cX1_checkOwners 22 = .ok (.bipush (-4), 2) := by decide +kernel
theorem dX1_checkOwners_24 : decode cX1_checkOwners 24 = .ok (.if_icmp .eq 35, 3) := by decide +kernel
theorem dX1_checkOwners_27 : decode cX1_checkOwners 27 = .ok (.aload_n 0, 1) := by decide +kernel
theorem dX1_checkOwners_28 : decode cX1_checkOwners 28 = .ok (.getfield 21, 3) := by decide +kernel
theorem dX1_checkOwners_31 : decode cX1_checkOwners 31 = .ok (.getfield 118, 3) := by decide +kernel
theorem dX1_checkOwners_34 : decode cX1_checkOwners 34 = .ok (.iload_n 1, 1) := by decide +kernel
theorem dX1_checkOwners_35 : decode cX1_checkOwners 35 = .ok (.iaload, 1) := by decide +kernel
theorem dX1_checkOwners_36 : decode cX1_checkOwners 36 = .ok (.aload_n 0, 1) := by decide +kernel
theorem dX1_checkOwners_37 : decode cX1_checkOwners 37 = .ok (.getfield 21, 3) := by decide +kernel
theorem dX1_checkOwners_40 : decode cX1_checkOwners 40 = .ok (.getfield 88, 3) := by decide +kernel
theorem dX1_checkOwners_43 : decode cX1_checkOwners 43 = .ok (.if_icmp .lt 16, 3) := by decide +kernel
theorem dX1_checkOwners_46 : decode cX1_checkOwners 46 = .ok (.aload_n 0, 1) := by decide +kernel
theorem dX1_checkOwners_47 : decode cX1_checkOwners 47 = .ok (.bipush 6, 2) := by decide +kernel
theorem dX1_checkOwners_49 : decode cX1_checkOwners 49 = .ok (.aload_n 0, 1) := by decide +kernel
theorem dX1_checkOwners_50 : decode cX1_checkOwners 50 = .ok (.getfield 12, 3) := by decide +kernel
theorem dX1_checkOwners_53 : decode cX1_checkOwners 53 = .ok (.getfield 122, 3) := by decide +kernel
theorem dX1_checkOwners_56 : decode cX1_checkOwners 56 = .ok (.invokevirtual 65, 3) := by decide +kernel
theorem dX1_checkOwners_59 : decode cX1_checkOwners 59 = .ok (.iinc 1 1, 3) := by decide +kernel
theorem dX1_checkOwners_62 : decode cX1_checkOwners 62 = .ok (.goto (-60), 3) := by decide +kernel
theorem dX1_checkOwners_65 : decode cX1_checkOwners 65 = .ok (.return_, 1) := by decide +kernel
theorem dX1_refuse_0 : decode cX1_refuse 0 = .ok (.aload_n 0, 1) := by decide +kernel
theorem dX1_refuse_1 : decode cX1_refuse 1 = .ok (.getfield 28, 3) := by decide +kernel
theorem dX1_refuse_4 : decode cX1_refuse 4 = .ok (.ifCond .ne 13, 3) := by decide +kernel
theorem dX1_refuse_7 : decode cX1_refuse 7 = .ok (.aload_n 0, 1) := by decide +kernel
theorem dX1_refuse_8 : decode cX1_refuse 8 = .ok (.iload_n 1, 1) := by decide +kernel
theorem dX1_refuse_9 : decode cX1_refuse 9 = .ok (.putfield 28, 3) := by decide +kernel
theorem dX1_refuse_12 : decode cX1_refuse 12 = .ok (.aload_n 0, 1) := by decide +kernel
theorem dX1_refuse_13 : decode cX1_refuse 13 = .ok (.iload_n 2, 1) := by decide +kernel
theorem dX1_refuse_14 : decode cX1_refuse 14 = .ok (.putfield 32, 3) := by decide +kernel
theorem dX1_refuse_17 : decode cX1_refuse 17 = .ok (.return_, 1) := by decide +kernel
set_option maxRecDepth 20000 in
theorem ggX1_advance_X5_at : GoodIn wsX1_advance wsX5_at := goodIn_r _ [10, 11, 12, 43, 44] (by decide +kernel) (by decide +kernel)
set_option maxRecDepth 20000 in
theorem gX1_advance_X5_at : GoodIn wsX1_advance (wsV RX1 125 RX5 yX5_at wsX5_at) := goodIn_app (goodIn_of _ (by decide +kernel)) ggX1_advance_X5_at
set_option maxRecDepth 20000 in
theorem ggX1_advance_X1_isLetter : GoodIn wsX1_advance wsX1_isLetter := goodIn_r _ [16] (by decide +kernel) (by decide +kernel)
set_option maxRecDepth 20000 in
theorem gX1_advance_X1_isLetter : GoodIn wsX1_advance (va_wsS RX1 129 yX1_isLetter wsX1_isLetter) := goodIn_app (goodIn_of _ (by decide +kernel)) ggX1_advance_X1_isLetter
set_option maxRecDepth 20000 in
theorem ggX1_advance_X1_endOfLetters : GoodIn wsX1_advance wsX1_endOfLetters := goodIn_r _ [20, 4, 6, 7, 8, 9, 10, 11, 12, 13, 14, 15, 16, 34, 35, 36, 37, 38, 39, 40, 41, 42, 43, 44] (by decide +kernel) (by decide +kernel)
set_option maxRecDepth 20000 in
theorem gX1_advance_X1_endOfLetters : GoodIn wsX1_advance (wsV RX1 133 RX1 yX1_endOfLetters wsX1_endOfLetters) := goodIn_app (goodIn_of _ (by decide +kernel)) ggX1_advance_X1_endOfLetters
set_option maxRecDepth 20000 in
theorem ggX1_advance_X1_isFigure : GoodIn wsX1_advance wsX1_isFigure := goodIn_r _ [23] (by decide +kernel) (by decide +kernel)
set_option maxRecDepth 20000 in
theorem gX1_advance_X1_isFigure : GoodIn wsX1_advance (va_wsS RX1 137 yX1_isFigure wsX1_isFigure) := goodIn_app (goodIn_of _ (by decide +kernel)) ggX1_advance_X1_isFigure
set_option maxRecDepth 20000 in
theorem ggX1_advance_X1_readNumber : GoodIn wsX1_advance wsX1_readNumber := goodIn_r _ [27, 5, 28, 3, 2, 4, 6, 7, 8, 9, 10, 11, 12, 21, 22, 15, 23, 29, 30, 31, 32, 1, 33, 34, 35, 36, 37, 38, 39, 40, 41, 42, 43, 44] (by decide +kernel) (by decide +kernel)
set_option maxRecDepth 20000 in
theorem gX1_advance_X1_readNumber : GoodIn wsX1_advance (wsV RX1 140 RX1 yX1_readNumber wsX1_readNumber) := goodIn_app (goodIn_of _ (by decide +kernel)) ggX1_advance_X1_readNumber
set_option maxRecDepth 20000 in
theorem ggX1_advance_X1_refuse : GoodIn wsX1_advance wsX1_refuse := goodIn_r _ [32, 1, 33, 34, 35, 36, 37, 38, 39, 40, 41, 42] (by decide +kernel) (by decide +kernel)
set_option maxRecDepth 20000 in
theorem gX1_advance_X1_refuse : GoodIn wsX1_advance (wsV RX1 65 RX1 yX1_refuse wsX1_refuse) := goodIn_app (goodIn_of _ (by decide +kernel)) ggX1_advance_X1_refuse
theorem dX1_advance_0 : decode cX1_advance 0 = .ok (.aload_n 0, 1) := by decide +kernel
theorem dX1_advance_1 : decode cX1_advance 1 = .ok (.getfield 28, 3) := by decide +kernel
theorem dX1_advance_4 : decode cX1_advance 4 = .ok (.ifCond .eq 4, 3) := by decide +kernel
theorem dX1_advance_7 : decode cX1_advance 7 = .ok (.return_, 1) := by decide +kernel
theorem dX1_advance_8 : decode cX1_advance 8 = .ok (.aload_n 0, 1) := by decide +kernel
theorem dX1_advance_9 : decode cX1_advance 9 = .ok (.aload_n 0, 1) := by decide +kernel
theorem dX1_advance_10 : decode cX1_advance 10 = .ok (.getfield 35, 3) := by decide +kernel
theorem dX1_advance_13 : decode cX1_advance 13 = .ok (.putfield 62, 3) := by decide +kernel
theorem dX1_advance_16 : decode cX1_advance 16 = .ok (.aload_n 0, 1) := by decide +kernel
theorem dX1_advance_17 : decode cX1_advance 17 = .ok (.getfield 62, 3) := by decide +kernel
theorem dX1_advance_20 : decode cX1_advance 20 = .ok (.aload_n 0, 1) := by decide +kernel
theorem dX1_advance_21 : decode cX1_advance 21 = .ok (.getfield 12, 3) := by decide +kernel
theorem dX1_advance_24 : decode cX1_advance 24 = .ok (.getfield 122, 3) := by decide +kernel
theorem dX1_advance_27 : decode cX1_advance 27 = .ok (.if_icmp .ge 32, 3) := by decide +kernel
theorem dX1_advance_30 : decode cX1_advance 30 = .ok (.aload_n 0, 1) := by decide +kernel
theorem dX1_advance_31 : decode cX1_advance 31 = .ok (.getfield 12, 3) := by decide +kernel
theorem dX1_advance_34 : decode cX1_advance 34 = .ok (.aload_n 0, 1) := by decide +kernel
theorem dX1_advance_35 : decode cX1_advance 35 = .ok (.getfield 62, 3) := by decide +kernel
theorem dX1_advance_38 : decode cX1_advance 38 = .ok (.invokevirtual 125, 3) := by decide +kernel
theorem dX1_advance_41 : decode cX1_advance 41 = .ok (.bipush 32, 2) := by decide +kernel
theorem dX1_advance_43 : decode cX1_advance 43 = .ok (.if_icmp .ne 16, 3) := by decide +kernel
theorem dX1_advance_46 : decode cX1_advance 46 = .ok (.aload_n 0, 1) := by decide +kernel
theorem dX1_advance_47 : decode cX1_advance 47 = .ok (.dup, 1) := by decide +kernel
theorem dX1_advance_48 : decode cX1_advance 48 = .ok (.getfield 62, 3) := by decide +kernel
theorem dX1_advance_51 : decode cX1_advance 51 = .ok (.iconst 1, 1) := by decide +kernel
theorem dX1_advance_52 : decode cX1_advance 52 = .ok (.iadd, 1) := by decide +kernel
theorem dX1_advance_53 : decode cX1_advance 53 = .ok (.putfield 62, 3) := by decide +kernel
theorem dX1_advance_56 : decode cX1_advance 56 = .ok (.goto (-40), 3) := by decide +kernel
theorem dX1_advance_59 : decode cX1_advance 59 = .ok (.aload_n 0, 1) := by decide +kernel
theorem dX1_advance_60 : decode cX1_advance 60 = .ok (.aload_n 0, 1) := by decide +kernel
theorem dX1_advance_61 : decode cX1_advance 61 = .ok (.getfield 62, 3) := by decide +kernel
theorem dX1_advance_64 : decode cX1_advance 64 = .ok (.iconst 1, 1) := by decide +kernel
theorem dX1_advance_65 : decode cX1_advance 65 = .ok (.iadd, 1) := by decide +kernel
theorem dX1_advance_66 : decode cX1_advance 66 = .ok (.putfield 35, 3) := by decide +kernel
theorem dX1_advance_69 : decode cX1_advance 69 = .ok (.aload_n 0, 1) := by decide +kernel
theorem dX1_advance_70 : decode cX1_advance 70 = .ok (.getfield 12, 3) := by decide +kernel
theorem dX1_advance_73 : decode cX1_advance 73 = .ok (.aload_n 0, 1) := by decide +kernel
theorem dX1_advance_74 : decode cX1_advance 74 = .ok (.getfield 62, 3) := by decide +kernel
theorem dX1_advance_77 : decode cX1_advance 77 = .ok (.invokevirtual 125, 3) := by decide +kernel
theorem dX1_advance_80 : decode cX1_advance 80 = .ok (.istore_n 1, 1) := by decide +kernel
theorem dX1_advance_81 : decode cX1_advance 81 = .ok (.aload_n 0, 1) := by decide +kernel
theorem dX1_advance_82 : decode cX1_advance 82 = .ok (.getfield 62, 3) := by decide +kernel
theorem dX1_advance_85 : decode cX1_advance 85 = .ok (.aload_n 0, 1) := by decide +kernel
theorem dX1_advance_86 : decode cX1_advance 86 = .ok (.getfield 12, 3) := by decide +kernel
theorem dX1_advance_89 : decode cX1_advance 89 = .ok (.getfield 122, 3) := by decide +kernel
theorem dX1_advance_92 : decode cX1_advance 92 = .ok (.if_icmp .lt 19, 3) := by decide +kernel
theorem dX1_advance_95 : decode cX1_advance 95 = .ok (.aload_n 0, 1) := by decide +kernel
theorem dX1_advance_96 : decode cX1_advance 96 = .ok (.iconst 0, 1) := by decide +kernel
theorem dX1_advance_97 : decode cX1_advance 97 = .ok (.putfield 45, 3) := by decide +kernel
theorem dX1_advance_100 : decode cX1_advance 100 = .ok (.aload_n 0, 1) := by decide +kernel
theorem dX1_advance_101 : decode cX1_advance 101 = .ok (.aload_n 0, 1) := by decide +kernel
theorem dX1_advance_102 : decode cX1_advance 102 = .ok (.getfield 62, 3) := by decide +kernel
theorem dX1_advance_105 : decode cX1_advance 105 = .ok (.putfield 35, 3) := by decide +kernel
theorem dX1_advance_108 : decode cX1_advance 108 = .ok (.goto 72, 3) := by decide +kernel
theorem dX1_advance_111 : decode cX1_advance 111 = .ok (.iload_n 1, 1) := by decide +kernel
theorem dX1_advance_112 : decode cX1_advance 112 = .ok (.invokestatic 129, 3) := by decide +kernel
theorem dX1_advance_115 : decode cX1_advance 115 = .ok (.ifCond .eq 23, 3) := by decide +kernel
theorem dX1_advance_118 : decode cX1_advance 118 = .ok (.aload_n 0, 1) := by decide +kernel
theorem dX1_advance_119 : decode cX1_advance 119 = .ok (.iconst 1, 1) := by decide +kernel
theorem dX1_advance_120 : decode cX1_advance 120 = .ok (.putfield 45, 3) := by decide +kernel
theorem dX1_advance_123 : decode cX1_advance 123 = .ok (.aload_n 0, 1) := by decide +kernel
theorem dX1_advance_124 : decode cX1_advance 124 = .ok (.aload_n 0, 1) := by decide +kernel
theorem dX1_advance_125 : decode cX1_advance 125 = .ok (.aload_n 0, 1) := by decide +kernel
theorem dX1_advance_126 : decode cX1_advance 126 = .ok (.getfield 62, 3) := by decide +kernel
theorem dX1_advance_129 : decode cX1_advance 129 = .ok (.invokevirtual 133, 3) := by decide +kernel
theorem dX1_advance_132 : decode cX1_advance 132 = .ok (.putfield 35, 3) := by decide +kernel
theorem dX1_advance_135 : decode cX1_advance 135 = .ok (.goto 45, 3) := by decide +kernel
theorem dX1_advance_138 : decode cX1_advance 138 = .ok (.iload_n 1, 1) := by decide +kernel
theorem dX1_advance_139 : decode cX1_advance 139 = .ok (.invokestatic 137, 3) := by decide +kernel
theorem dX1_advance_142 : decode cX1_advance 142 = .ok (.ifCond .eq 10, 3) := by decide +kernel
theorem dX1_advance_145 : decode cX1_advance 145 = .ok (.aload_n 0, 1) := by decide +kernel
theorem dX1_advance_146 : decode cX1_advance 146 = .ok (.invokevirtual 140, 3) := by decide +kernel
theorem dX1_advance_149 : decode cX1_advance 149 = .ok (.goto 31, 3) := by decide +kernel
theorem dX1_advance_152 : decode cX1_advance 152 = .ok (.iload_n 1, 1) := by decide +kernel
theorem dX1_advance_153 : decode cX1_advance 153 = .ok (.bipush 59, 2) := by decide +kernel
theorem dX1_advance_155 : decode cX1_advance 155 = .ok (.if_icmp .ne 11, 3) := by decide +kernel
theorem dX1_advance_158 : decode cX1_advance 158 = .ok (.aload_n 0, 1) := by decide +kernel
theorem dX1_advance_159 : decode cX1_advance 159 = .ok (.iconst 3, 1) := by decide +kernel
theorem dX1_advance_160 : decode cX1_advance 160 = .ok (.putfield 45, 3) := by decide +kernel
theorem dX1_advance_163 : decode cX1_advance 163 = .ok (.goto 17, 3) := by decide +kernel
theorem dX1_advance_166 : decode cX1_advance 166 = .ok (.aload_n 0, 1) := by decide +kernel
theorem dX1_advance_167 : decode cX1_advance 167 = .ok (.iconst 4, 1) := by decide +kernel
theorem dX1_advance_168 : decode cX1_advance 168 = .ok (.putfield 45, 3) := by decide +kernel
theorem dX1_advance_171 : decode cX1_advance 171 = .ok (.aload_n 0, 1) := by decide +kernel
theorem dX1_advance_172 : decode cX1_advance 172 = .ok (.iconst 1, 1) := by decide +kernel
theorem dX1_advance_173 : decode cX1_advance 173 = .ok (.aload_n 0, 1) := by decide +kernel
theorem dX1_advance_174 : decode cX1_advance 174 = .ok (.getfield 62, 3) := by decide +kernel
theorem dX1_advance_177 : decode cX1_advance 177 = .ok (.invokevirtual 65, 3) := by decide +kernel
theorem dX1_advance_180 : decode cX1_advance 180 = .ok (.return_, 1) := by decide +kernel
set_option maxRecDepth 20000 in
theorem ggX1_readNumber_X5_at : GoodIn wsX1_readNumber wsX5_at := goodIn_r _ [10, 11, 12, 32, 33] (by decide +kernel) (by decide +kernel)
set_option maxRecDepth 20000 in
theorem gX1_readNumber_X5_at : GoodIn wsX1_readNumber (wsV RX1 125 RX5 yX5_at wsX5_at) := goodIn_app (goodIn_of _ (by decide +kernel)) ggX1_readNumber_X5_at
set_option maxRecDepth 20000 in
theorem ggX1_readNumber_X1_isFigure : GoodIn wsX1_readNumber wsX1_isFigure := goodIn_r _ [16] (by decide +kernel) (by decide +kernel)
set_option maxRecDepth 20000 in
theorem gX1_readNumber_X1_isFigure : GoodIn wsX1_readNumber (va_wsS RX1 137 yX1_isFigure wsX1_isFigure) := goodIn_app (goodIn_of _ (by decide +kernel)) ggX1_readNumber_X1_isFigure
set_option maxRecDepth 20000 in
theorem ggX1_readNumber_X1_refuse : GoodIn wsX1_readNumber wsX1_refuse := goodIn_r _ [20, 21, 22, 23, 24, 25, 26, 27, 28, 29, 30, 31] (by decide +kernel) (by decide +kernel)
set_option maxRecDepth 20000 in
theorem gX1_readNumber_X1_refuse : GoodIn wsX1_readNumber (wsV RX1 65 RX1 yX1_refuse wsX1_refuse) := goodIn_app (goodIn_of _ (by decide +kernel)) ggX1_readNumber_X1_refuse
theorem dX1_readNumber_0 : decode cX1_readNumber 0 = .ok (.aload_n 0, 1) := by decide +kernel
theorem dX1_readNumber_1 : decode cX1_readNumber 1 = .ok (.iconst 2, 1) := by decide +kernel
theorem dX1_readNumber_2 : decode cX1_readNumber 2 = .ok (.putfield 45, 3) := by decide +kernel
theorem dX1_readNumber_5 : decode cX1_readNumber 5 = .ok (.aload_n 0, 1) := by decide +kernel
theorem dX1_readNumber_6 : decode cX1_readNumber 6 = .ok (.iconst 0, 1) := by decide +kernel
theorem dX1_readNumber_7 : decode cX1_readNumber 7 = .ok (.putfield 111, 3) := by decide +kernel
theorem dX1_readNumber_10 : decode cX1_readNumber 10 = .ok (.aload_n 0, 1) := by decide +kernel
theorem dX1_readNumber_11 : decode cX1_readNumber 11 = .ok (.aload_n 0, 1) := by decide +kernel
theorem dX1_readNumber_12 : decode cX1_readNumber 12 = .ok (.getfield 62, 3) := by decide +kernel
theorem dX1_readNumber_15 : decode cX1_readNumber 15 = .ok (.putfield 35, 3) := by decide +kernel
theorem dX1_readNumber_18 : decode cX1_readNumber 18 = .ok (.aload_n 0, 1) := by decide +kernel
theorem dX1_readNumber_19 : decode cX1_readNumber 19 = .ok (.getfield 35, 3) := by decide +kernel
theorem dX1_readNumber_22 : decode cX1_readNumber 22 = .ok (.aload_n 0, 1) := by decide +kernel
theorem dX1_readNumber_23 : decode cX1_readNumber 23 = .ok (.getfield 12, 3) := by decide +kernel
theorem dX1_readNumber_26 : decode cX1_readNumber 26 = .ok (.getfield 122, 3) := by decide +kernel
theorem dX1_readNumber_29 : decode cX1_readNumber 29 = .ok (.if_icmp .ge 79, 3) := by decide +kernel
theorem dX1_readNumber_32 : decode cX1_readNumber 32 = .ok (.aload_n 0, 1) := by decide +kernel
theorem dX1_readNumber_33 : decode cX1_readNumber 33 = .ok (.getfield 12, 3) := by decide +kernel
theorem dX1_readNumber_36 : decode cX1_readNumber 36 = .ok (.aload_n 0, 1) := by decide +kernel
theorem dX1_readNumber_37 : decode cX1_readNumber 37 = .ok (.getfield 35, 3) := by decide +kernel
theorem dX1_readNumber_40 : decode cX1_readNumber 40 = .ok (.invokevirtual 125, 3) := by decide +kernel
theorem dX1_readNumber_43 : decode cX1_readNumber 43 = .ok (.invokestatic 137, 3) := by decide +kernel
theorem dX1_readNumber_46 : decode cX1_readNumber 46 = .ok (.ifCond .eq 62, 3) := by decide +kernel
theorem dX1_readNumber_49 : decode cX1_readNumber 49 = .ok (.aload_n 0, 1) := by decide +kernel
theorem dX1_readNumber_50 : decode cX1_readNumber 50 = .ok (.aload_n 0, 1) := by decide +kernel
theorem dX1_readNumber_51 : decode cX1_readNumber 51 = .ok (.getfield 35, 3) := by decide +kernel
theorem dX1_readNumber_54 : decode cX1_readNumber 54 = .ok (.aload_n 0, 1) := by decide +kernel
theorem dX1_readNumber_55 : decode cX1_readNumber 55 = .ok (.getfield 62, 3) := by decide +kernel
theorem dX1_readNumber_58 : decode cX1_readNumber 58 = .ok (.isub, 1) := by decide +kernel
theorem dX1_readNumber_59 : decode cX1_readNumber 59 = .ok (.iconst 2, 1) := by decide +kernel
theorem dX1_readNumber_60 : decode cX1_readNumber 60 = .ok (.if_icmp .ge 28, 3) := by decide +kernel
theorem dX1_readNumber_63 : decode cX1_readNumber 63 = .ok (.aload_n 0, 1) := by decide +kernel
theorem dX1_readNumber_64 : decode cX1_readNumber 64 = .ok (.getfield 111, 3) := by decide +kernel
theorem dX1_readNumber_67 : decode cX1_readNumber 67 = .ok (.bipush 10, 2) := by decide +kernel
theorem dX1_readNumber_69 : decode cX1_readNumber 69 = .ok (.imul, 1) := by decide +kernel
theorem dX1_readNumber_70 : decode cX1_readNumber 70 = .ok (.aload_n 0, 1) := by decide +kernel
theorem dX1_readNumber_71 : decode cX1_readNumber 71 = .ok (.getfield 12, 3) := by decide +kernel
theorem dX1_readNumber_74 : decode cX1_readNumber 74 = .ok (.aload_n 0, 1) := by decide +kernel
theorem dX1_readNumber_75 : decode cX1_readNumber 75 = .ok (.getfield 35, 3) := by decide +kernel
theorem dX1_readNumber_78 : decode cX1_readNumber 78 = .ok (.invokevirtual 125, 3) := by decide +kernel
theorem dX1_readNumber_81 : decode cX1_readNumber 81 = .ok (.iadd, 1) := by decide +kernel
theorem dX1_readNumber_82 : decode cX1_readNumber 82 = .ok (.bipush 48, 2) := by decide +kernel
theorem dX1_readNumber_84 : decode cX1_readNumber 84 = .ok (.isub, 1) := by decide +kernel
theorem dX1_readNumber_85 : decode cX1_readNumber 85 = .ok (.goto 7, 3) := by decide +kernel
theorem dX1_readNumber_88 : decode cX1_readNumber 88 = .ok (.aload_n 0, 1) := by decide +kernel
theorem dX1_readNumber_89 : decode cX1_readNumber 89 = .ok (.getfield 111, 3) := by decide +kernel
theorem dX1_readNumber_92 : decode cX1_readNumber 92 = .ok (.putfield 111, 3) := by decide +kernel
theorem dX1_readNumber_95 : decode cX1_readNumber 95 = .ok (.aload_n 0, 1) := by decide +kernel
theorem dX1_readNumber_96 : decode cX1_readNumber 96 = .ok (.dup, 1) := by decide +kernel
theorem dX1_readNumber_97 : decode cX1_readNumber 97 = .ok (.getfield 35, 3) := by decide +kernel
theorem dX1_readNumber_100 : decode cX1_readNumber 100 = .ok (.iconst 1, 1) := by decide +kernel
theorem dX1_readNumber_101 : decode cX1_readNumber 101 = .ok (.iadd, 1) := by decide +kernel
theorem dX1_readNumber_102 : decode cX1_readNumber 102 = .ok (.putfield 35, 3) := by decide +kernel
theorem dX1_readNumber_105 : decode cX1_readNumber 105 = .ok (.goto (-87), 3) := by decide +kernel
theorem dX1_readNumber_108 : decode cX1_readNumber 108 = .ok (.aload_n 0, 1) := by decide +kernel
theorem dX1_readNumber_109 : decode cX1_readNumber 109 = .ok (.getfield 35, 3) := by decide +kernel
theorem dX1_readNumber_112 : decode cX1_readNumber 112 = .ok (.aload_n 0, 1) := by decide +kernel
theorem dX1_readNumber_113 : decode cX1_readNumber 113 = .ok (.getfield 62, 3) := by decide +kernel
theorem dX1_readNumber_116 : decode cX1_readNumber 116 = .ok (.isub, 1) := by decide +kernel
theorem dX1_readNumber_117 : decode cX1_readNumber 117 = .ok (.iconst 2, 1) := by decide +kernel
theorem dX1_readNumber_118 : decode cX1_readNumber 118 = .ok (.if_icmp .le 17, 3) := by decide +kernel
theorem dX1_readNumber_121 : decode cX1_readNumber 121 = .ok (.aload_n 0, 1) := by decide +kernel
theorem dX1_readNumber_122 : decode cX1_readNumber 122 = .ok (.iconst 4, 1) := by decide +kernel
theorem dX1_readNumber_123 : decode cX1_readNumber 123 = .ok (.putfield 45, 3) := by decide +kernel
theorem dX1_readNumber_126 : decode cX1_readNumber 126 = .ok (.aload_n 0, 1) := by decide +kernel
theorem dX1_readNumber_127 : decode cX1_readNumber 127 = .ok (.iconst 1, 1) := by decide +kernel
theorem dX1_readNumber_128 : decode cX1_readNumber 128 = .ok (.aload_n 0, 1) := by decide +kernel
theorem dX1_readNumber_129 : decode cX1_readNumber 129 = .ok (.getfield 62, 3) := by decide +kernel
theorem dX1_readNumber_132 : decode cX1_readNumber 132 = .ok (.invokevirtual 65, 3) := by decide +kernel
theorem dX1_readNumber_135 : decode cX1_readNumber 135 = .ok (.return_, 1) := by decide +kernel
set_option maxRecDepth 20000 in
theorem ggX1_endOfLetters_X5_at : GoodIn wsX1_endOfLetters wsX5_at := goodIn_r _ [6, 7, 8, 22, 23] (by decide +kernel) (by decide +kernel)
set_option maxRecDepth 20000 in
theorem gX1_endOfLetters_X5_at : GoodIn wsX1_endOfLetters (wsV RX1 125 RX5 yX5_at wsX5_at) := goodIn_app (goodIn_of _ (by decide +kernel)) ggX1_endOfLetters_X5_at
set_option maxRecDepth 20000 in
theorem ggX1_endOfLetters_X1_isLetter : GoodIn wsX1_endOfLetters wsX1_isLetter := goodIn_r _ [12] (by decide +kernel) (by decide +kernel)
set_option maxRecDepth 20000 in
theorem gX1_endOfLetters_X1_isLetter : GoodIn wsX1_endOfLetters (va_wsS RX1 129 yX1_isLetter wsX1_isLetter) := goodIn_app (goodIn_of _ (by decide +kernel)) ggX1_endOfLetters_X1_isLetter
theorem dX1_endOfLetters_0 : decode cX1_endOfLetters 0 = .ok (.iload_n 1, 1) := by decide +kernel
theorem dX1_endOfLetters_1 : decode cX1_endOfLetters 1 = .ok (.istore_n 2, 1) := by decide +kernel
theorem dX1_endOfLetters_2 : decode cX1_endOfLetters 2 = .ok (.iload_n 2, 1) := by decide +kernel
theorem dX1_endOfLetters_3 : decode cX1_endOfLetters 3 = .ok (.aload_n 0, 1) := by decide +kernel
theorem dX1_endOfLetters_4 : decode cX1_endOfLetters 4 = .ok (.getfield 12, 3) := by decide +kernel
theorem dX1_endOfLetters_7 : decode cX1_endOfLetters 7 = .ok (.getfield 122, 3) := by decide +kernel
theorem dX1_endOfLetters_10 : decode cX1_endOfLetters 10 = .ok (.if_icmp .ge 23, 3) := by decide +kernel
theorem dX1_endOfLetters_13 : decode cX1_endOfLetters 13 = .ok (.aload_n 0, 1) := by decide +kernel
theorem dX1_endOfLetters_14 : decode cX1_endOfLetters 14 = .ok (.getfield 12, 3) := by decide +kernel
theorem dX1_endOfLetters_17 : decode cX1_endOfLetters 17 = .ok (.iload_n 2, 1) := by decide +kernel
theorem dX1_endOfLetters_18 : decode cX1_endOfLetters 18 = .ok (.invokevirtual 125, 3) := by decide +kernel
theorem dX1_endOfLetters_21 : decode cX1_endOfLetters 21 = .ok (.invokestatic 129, 3) := by decide +kernel
theorem dX1_endOfLetters_24 : decode cX1_endOfLetters 24 = .ok (.ifCond .eq 9, 3) := by decide +kernel
theorem dX1_endOfLetters_27 : decode cX1_endOfLetters 27 = .ok (.iinc 2 1, 3) := by decide +kernel
theorem dX1_endOfLetters_30 : decode cX1_endOfLetters 30 = .ok (.goto (-28), 3) := by decide +kernel
theorem dX1_endOfLetters_33 : decode cX1_endOfLetters 33 = .ok (.iload_n 2, 1) := by decide +kernel
theorem dX1_endOfLetters_34 : decode cX1_endOfLetters 34 = .ok (.ireturn, 1) := by decide +kernel
set_option maxRecDepth 20000 in
theorem ggX1_isName_J0_length_8abf5 : GoodIn wsX1_isName wsJ0_length_8abf5 := goodIn_r _ [9, 10, 11, 12, 13, 8, 14, 15, 16] (by decide +kernel) (by decide +kernel)
set_option maxRecDepth 20000 in
theorem gX1_isName_J0_length_8abf5 : GoodIn wsX1_isName (wsV RX1 143 RJ0 yJ0_length_8abf5 wsJ0_length_8abf5) := goodIn_app (goodIn_of _ (by decide +kernel)) ggX1_isName_J0_length_8abf5
set_option maxRecDepth 20000 in
theorem ggX1_isName_X5_at : GoodIn wsX1_isName wsX5_at := goodIn_r _ [21, 22, 23, 70, 71] (by decide +kernel) (by decide +kernel)
set_option maxRecDepth 20000 in
theorem gX1_isName_X5_at : GoodIn wsX1_isName (wsV RX1 125 RX5 yX5_at wsX5_at) := goodIn_app (goodIn_of _ (by decide +kernel)) ggX1_isName_X5_at
set_option maxRecDepth 20000 in
theorem ggX1_isName_J0_charAt_5068e : GoodIn wsX1_isName wsJ0_charAt_5068e := goodIn_r _ [27, 10, 28, 29, 30, 8, 31, 15, 16, 32, 33, 34, 35, 36, 37, 38, 39, 40, 41, 42, 43, 44, 45, 46, 47, 48, 49, 50, 51, 52, 53, 54, 55, 56, 57, 58, 59, 60] (by decide +kernel) (by decide +kernel)
set_option maxRecDepth 20000 in
theorem gX1_isName_J0_charAt_5068e : GoodIn wsX1_isName (wsV RX1 147 RJ0 yJ0_charAt_5068e wsJ0_charAt_5068e) := goodIn_app (goodIn_of _ (by decide +kernel)) ggX1_isName_J0_charAt_5068e
theorem dX1_isName_0 : decode cX1_isName 0 = .ok (.aload_n 0, 1) := by decide +kernel
theorem dX1_isName_1 : decode cX1_isName 1 = .ok (.getfield 45, 3) := by decide +kernel
theorem dX1_isName_4 : decode cX1_isName 4 = .ok (.iconst 1, 1) := by decide +kernel
theorem dX1_isName_5 : decode cX1_isName 5 = .ok (.if_icmp .ne 19, 3) := by decide +kernel
theorem dX1_isName_8 : decode cX1_isName 8 = .ok (.aload_n 0, 1) := by decide +kernel
theorem dX1_isName_9 : decode cX1_isName 9 = .ok (.getfield 35, 3) := by decide +kernel
theorem dX1_isName_12 : decode cX1_isName 12 = .ok (.aload_n 0, 1) := by decide +kernel
theorem dX1_isName_13 : decode cX1_isName 13 = .ok (.getfield 62, 3) := by decide +kernel
theorem dX1_isName_16 : decode cX1_isName 16 = .ok (.isub, 1) := by decide +kernel
theorem dX1_isName_17 : decode cX1_isName 17 = .ok (.aload_n 1, 1) := by decide +kernel
theorem dX1_isName_18 : decode cX1_isName 18 = .ok (.invokevirtual 143, 3) := by decide +kernel
theorem dX1_isName_21 : decode cX1_isName 21 = .ok (.if_icmp .eq 5, 3) := by decide +kernel
theorem dX1_isName_24 : decode cX1_isName 24 = .ok (.iconst 0, 1) := by decide +kernel
theorem dX1_isName_25 : decode cX1_isName 25 = .ok (.ireturn, 1) := by decide +kernel
theorem dX1_isName_26 : decode cX1_isName 26 = .ok (.iconst 0, 1) := by decide +kernel
theorem dX1_isName_27 : decode cX1_isName 27 = .ok (.istore_n 2, 1) := by decide +kernel
theorem dX1_isName_28 : decode cX1_isName 28 = .ok (.iload_n 2, 1) := by decide +kernel
theorem dX1_isName_29 : decode cX1_isName 29 = .ok (.aload_n 1, 1) := by decide +kernel
theorem dX1_isName_30 : decode cX1_isName 30 = .ok (.invokevirtual 143, 3) := by decide +kernel
theorem dX1_isName_33 : decode cX1_isName 33 = .ok (.if_icmp .ge 32, 3) := by decide +kernel
theorem dX1_isName_36 : decode cX1_isName 36 = .ok (.aload_n 0, 1) := by decide +kernel
theorem dX1_isName_37 : decode cX1_isName 37 = .ok (.getfield 12, 3) := by decide +kernel
theorem dX1_isName_40 : decode cX1_isName 40 = .ok (.aload_n 0, 1) := by decide +kernel
theorem dX1_isName_41 : decode cX1_isName 41 = .ok (.getfield 62, 3) := by decide +kernel
theorem dX1_isName_44 : decode cX1_isName 44 = .ok (.iload_n 2, 1) := by decide +kernel
theorem dX1_isName_45 : decode cX1_isName 45 = .ok (.iadd, 1) := by decide +kernel
theorem dX1_isName_46 : decode cX1_isName 46 = .ok (.invokevirtual 125, 3) := by decide +kernel
theorem dX1_isName_49 : decode cX1_isName 49 = .ok (.aload_n 1, 1) := by decide +kernel
theorem dX1_isName_50 : decode cX1_isName 50 = .ok (.iload_n 2, 1) := by decide +kernel
theorem dX1_isName_51 : decode cX1_isName 51 = .ok (.invokevirtual 147, 3) := by decide +kernel
theorem dX1_isName_54 : decode cX1_isName 54 = .ok (.if_icmp .eq 5, 3) := by decide +kernel
theorem dX1_isName_57 : decode cX1_isName 57 = .ok (.iconst 0, 1) := by decide +kernel
theorem dX1_isName_58 : decode cX1_isName 58 = .ok (.ireturn, 1) := by decide +kernel
theorem dX1_isName_59 : decode cX1_isName 59 = .ok (.iinc 2 1, 3) := by decide +kernel
theorem dX1_isName_62 : decode cX1_isName 62 = .ok (.goto (-34), 3) := by decide +kernel
theorem dX1_isName_65 : decode cX1_isName 65 = .ok (.iconst 1, 1) := by decide +kernel
theorem dX1_isName_66 : decode cX1_isName 66 = .ok (.ireturn, 1) := by decide +kernel
theorem dX1_isLetter_0 : decode cX1_isLetter 0 = .ok (.iload_n 0, 1) := by decide +kernel
theorem dX1_isLetter_1 : decode cX1_isLetter 1 = .ok (.bipush 97, 2) := by decide +kernel
theorem dX1_isLetter_3 : decode cX1_isLetter 3 = .ok (.if_icmp .lt 13, 3) := by decide +kernel
theorem dX1_isLetter_6 : decode cX1_isLetter 6 = .ok (.iload_n 0, 1) := by decide +kernel
theorem dX1_isLetter_7 : decode cX1_isLetter 7 = .ok (.bipush 122, 2) := by decide +kernel
theorem dX1_isLetter_9 : decode cX1_isLetter 9 = .ok (.if_icmp .gt 7, 3) := by decide +kernel
theorem dX1_isLetter_12 : decode cX1_isLetter 12 = .ok (.iconst 1, 1) := by decide +kernel
theorem dX1_isLetter_13 : decode cX1_isLetter 13 = .ok (.goto 4, 3) := by decide +kernel
theorem dX1_isLetter_16 : decode cX1_isLetter 16 = .ok (.iconst 0, 1) := by decide +kernel
theorem dX1_isLetter_17 : decode cX1_isLetter 17 = .ok (.ireturn, 1) := by decide +kernel
theorem dX1_isFigure_0 : decode cX1_isFigure 0 = .ok (.iload_n 0, 1) := by decide +kernel
theorem dX1_isFigure_1 : decode cX1_isFigure 1 = .ok (.bipush 48, 2) := by decide +kernel
theorem dX1_isFigure_3 : decode cX1_isFigure 3 = .ok (.if_icmp .lt 13, 3) := by decide +kernel
theorem dX1_isFigure_6 : decode cX1_isFigure 6 = .ok (.iload_n 0, 1) := by decide +kernel
theorem dX1_isFigure_7 : decode cX1_isFigure 7 = .ok (.bipush 57, 2) := by decide +kernel
theorem dX1_isFigure_9 : decode cX1_isFigure 9 = .ok (.if_icmp .gt 7, 3) := by decide +kernel
theorem dX1_isFigure_12 : decode cX1_isFigure 12 = .ok (.iconst 1, 1) := by decide +kernel
theorem dX1_isFigure_13 : decode cX1_isFigure 13 = .ok (.goto 4, 3) := by decide +kernel
theorem dX1_isFigure_16 : decode cX1_isFigure 16 = .ok (.iconst 0, 1) := by decide +kernel
theorem dX1_isFigure_17 : decode cX1_isFigure 17 = .ok (.ireturn, 1) := by decide +kernel
theorem dX2_init_0 : decode cX2_init 0 = .ok (.aload_n 0, 1) := by decide +kernel
theorem dX2_init_1 : decode cX2_init 1 = .ok (.invokespecial 3, 3) := by decide +kernel
theorem dX2_init_4 : decode cX2_init 4 = .ok (.aload_n 0, 1) := by decide +kernel
theorem dX2_init_5 : decode cX2_init 5 = .ok (.iconst 3, 1) := by decide +kernel
theorem dX2_init_6 : decode cX2_init 6 = .ok (.putfield 9, 3) := by decide +kernel
theorem dX2_init_9 : decode cX2_init 9 = .ok (.aload_n 0, 1) := by decide +kernel
theorem dX2_init_10 : decode cX2_init 10 = .ok (.iconst 4, 1) := by decide +kernel
theorem dX2_init_11 : decode cX2_init 11 = .ok (.newarray .int, 2) := by decide +kernel
theorem dX2_init_13 : decode cX2_init 13 = .ok (.putfield 15, 3) := by decide +kernel
theorem dX2_init_16 : decode cX2_init 16 = .ok (.aload_n 0, 1) := by decide +kernel
theorem dX2_init_17 : decode cX2_init 17 = .ok (.bipush 6, 2) := by decide +kernel
theorem dX2_init_19 : decode cX2_init 19 = .ok (.newarray .int, 2) := by decide +kernel
theorem dX2_init_21 : decode cX2_init 21 = .ok (.putfield 19, 3) := by decide +kernel
theorem dX2_init_24 : decode cX2_init 24 = .ok (.aload_n 0, 1) := by decide +kernel
theorem dX2_init_25 : decode cX2_init 25 = .ok (.bipush 6, 2) := by decide +kernel
theorem dX2_init_27 : decode cX2_init 27 = .ok (.newarray .int, 2) := by decide +kernel
theorem dX2_init_29 : decode cX2_init 29 = .ok (.putfield 22, 3) := by decide +kernel
theorem dX2_init_32 : decode cX2_init 32 = .ok (.aload_n 0, 1) := by decide +kernel
theorem dX2_init_33 : decode cX2_init 33 = .ok (.bipush 6, 2) := by decide +kernel
theorem dX2_init_35 : decode cX2_init 35 = .ok (.newarray .int, 2) := by decide +kernel
theorem dX2_init_37 : decode cX2_init 37 = .ok (.putfield 25, 3) := by decide +kernel
theorem dX2_init_40 : decode cX2_init 40 = .ok (.aload_n 0, 1) := by decide +kernel
theorem dX2_init_41 : decode cX2_init 41 = .ok (.bipush 6, 2) := by decide +kernel
theorem dX2_init_43 : decode cX2_init 43 = .ok (.newarray .int, 2) := by decide +kernel
theorem dX2_init_45 : decode cX2_init 45 = .ok (.putfield 28, 3) := by decide +kernel
theorem dX2_init_48 : decode cX2_init 48 = .ok (.return_, 1) := by decide +kernel
theorem dX2_empty_0 : decode cX2_empty 0 = .ok (.aload_n 0, 1) := by decide +kernel
theorem dX2_empty_1 : decode cX2_empty 1 = .ok (.iconst 0, 1) := by decide +kernel
theorem dX2_empty_2 : decode cX2_empty 2 = .ok (.putfield 31, 3) := by decide +kernel
theorem dX2_empty_5 : decode cX2_empty 5 = .ok (.aload_n 0, 1) := by decide +kernel
theorem dX2_empty_6 : decode cX2_empty 6 = .ok (.iconst 0, 1) := by decide +kernel
theorem dX2_empty_7 : decode cX2_empty 7 = .ok (.putfield 34, 3) := by decide +kernel
theorem dX2_empty_10 : decode cX2_empty 10 = .ok (.aload_n 0, 1) := by decide +kernel
theorem dX2_empty_11 : decode cX2_empty 11 = .ok (.iconst 3, 1) := by decide +kernel
theorem dX2_empty_12 : decode cX2_empty 12 = .ok (.putfield 9, 3) := by decide +kernel
theorem dX2_empty_15 : decode cX2_empty 15 = .ok (.return_, 1) := by decide +kernel
theorem dX2_copyFrom_0 : decode cX2_copyFrom 0 = .ok (.aload_n 0, 1) := by decide +kernel
theorem dX2_copyFrom_1 : decode cX2_copyFrom 1 = .ok (.aload_n 1, 1) := by decide +kernel
theorem dX2_copyFrom_2 : decode cX2_copyFrom 2 = .ok (.getfield 31, 3) := by decide +kernel
theorem dX2_copyFrom_5 : decode cX2_copyFrom 5 = .ok (.putfield 31, 3) := by decide +kernel
theorem dX2_copyFrom_8 : decode cX2_copyFrom 8 = .ok (.aload_n 0, 1) := by decide +kernel
theorem dX2_copyFrom_9 : decode cX2_copyFrom 9 = .ok (.aload_n 1, 1) := by decide +kernel
theorem dX2_copyFrom_10 : decode cX2_copyFrom 10 = .ok (.getfield 34, 3) := by decide +kernel
theorem dX2_copyFrom_13 : decode cX2_copyFrom 13 = .ok (.putfield 34, 3) := by decide +kernel
theorem dX2_copyFrom_16 : decode cX2_copyFrom 16 = .ok (.aload_n 0, 1) := by decide +kernel
theorem dX2_copyFrom_17 : decode cX2_copyFrom 17 = .ok (.aload_n 1, 1) := by decide +kernel
theorem dX2_copyFrom_18 : decode cX2_copyFrom 18 = .ok (.getfield 9, 3) := by decide +kernel
theorem dX2_copyFrom_21 : decode cX2_copyFrom 21 = .ok (.putfield 9, 3) := by decide +kernel
theorem dX2_copyFrom_24 : decode cX2_copyFrom 24 = .ok (.iconst 0, 1) := by decide +kernel
theorem dX2_copyFrom_25 : decode cX2_copyFrom 25 = .ok (.istore_n 2, 1) := by decide +kernel
theorem dX2_copyFrom_26 : decode cX2_copyFrom 26 = .ok (.iload_n 2, 1) := by decide +kernel
theorem dX2_copyFrom_27 : decode cX2_copyFrom 27 = .ok (.iconst 4, 1) := by decide +kernel
theorem dX2_copyFrom_28 : decode cX2_copyFrom 28 = .ok (.if_icmp .ge 21, 3) := by decide +kernel
theorem dX2_copyFrom_31 : decode cX2_copyFrom 31 = .ok (.aload_n 0, 1) := by decide +kernel
theorem dX2_copyFrom_32 : decode cX2_copyFrom 32 = .ok (.getfield 15, 3) := by decide +kernel
theorem dX2_copyFrom_35 : decode cX2_copyFrom 35 = .ok (.iload_n 2, 1) := by decide +kernel
theorem dX2_copyFrom_36 : decode cX2_copyFrom 36 = .ok (.aload_n 1, 1) := by decide +kernel
theorem dX2_copyFrom_37 : decode cX2_copyFrom 37 = .ok (.getfield 15, 3) := by decide +kernel
theorem dX2_copyFrom_40 : decode cX2_copyFrom 40 = .ok (.iload_n 2, 1) := by decide +kernel
theorem dX2_copyFrom_41 : decode cX2_copyFrom 41 = .ok (.iaload, 1) := by decide +kernel
theorem dX2_copyFrom_42 : decode cX2_copyFrom 42 = .ok (.iastore, 1) := by decide +kernel
theorem dX2_copyFrom_43 : decode cX2_copyFrom 43 = .ok (.iinc 2 1, 3) := by decide +kernel
theorem dX2_copyFrom_46 : decode cX2_copyFrom 46 = .ok (.goto (-20), 3) := by decide +kernel
theorem dX2_copyFrom_49 : decode cX2_copyFrom 49 = .ok (.iconst 0, 1) := by decide +kernel
theorem dX2_copyFrom_50 : decode cX2_copyFrom 50 = .ok (.istore_n 2, 1) := by decide +kernel
theorem dX2_copyFrom_51 : decode cX2_copyFrom 51 = .ok (.iload_n 2, 1) := by decide +kernel
theorem dX2_copyFrom_52 : decode cX2_copyFrom 52 = .ok (.bipush 6, 2) := by decide +kernel
theorem dX2_copyFrom_54 : decode cX2_copyFrom 54 = .ok (.if_icmp .ge 57, 3) := by decide +kernel
theorem dX2_copyFrom_57 : decode cX2_copyFrom 57 = .ok (.aload_n 0, 1) := by decide +kernel
theorem dX2_copyFrom_58 : decode cX2_copyFrom 58 = .ok (.getfield 19, 3) := by decide +kernel
theorem dX2_copyFrom_61 : decode cX2_copyFrom 61 = .ok (.iload_n 2, 1) := by decide +kernel
theorem dX2_copyFrom_62 : decode cX2_copyFrom 62 = .ok (.aload_n 1, 1) := by decide +kernel
theorem dX2_copyFrom_63 : decode cX2_copyFrom 63 = .ok (.getfield 19, 3) := by decide +kernel
theorem dX2_copyFrom_66 : decode cX2_copyFrom 66 = .ok (.iload_n 2, 1) := by decide +kernel
theorem dX2_copyFrom_67 : decode cX2_copyFrom 67 = .ok (.iaload, 1) := by decide +kernel
theorem dX2_copyFrom_68 : decode cX2_copyFrom 68 = .ok (.iastore, 1) := by decide +kernel
theorem dX2_copyFrom_69 : decode cX2_copyFrom 69 = .ok (.aload_n 0, 1) := by decide +kernel
theorem dX2_copyFrom_70 : decode cX2_copyFrom 70 = .ok (.getfield 22, 3) := by decide +kernel
theorem dX2_copyFrom_73 : decode cX2_copyFrom 73 = .ok (.iload_n 2, 1) := by decide +kernel
theorem dX2_copyFrom_74 : decode cX2_copyFrom 74 = .ok (.aload_n 1, 1) := by decide +kernel
theorem dX2_copyFrom_75 : decode cX2_copyFrom 75 = .ok (.getfield 22, 3) := by decide +kernel
theorem dX2_copyFrom_78 : decode cX2_copyFrom 78 = .ok (.iload_n 2, 1) := by decide +kernel
theorem dX2_copyFrom_79 : decode cX2_copyFrom 79 = .ok (.iaload, 1) := by decide +kernel
theorem dX2_copyFrom_80 : decode cX2_copyFrom 80 = .ok (.iastore, 1) := by decide +kernel
theorem dX2_copyFrom_81 : decode cX2_copyFrom 81 = .ok (.aload_n 0, 1) := by decide +kernel
theorem dX2_copyFrom_82 : decode cX2_copyFrom 82 = .ok (.getfield 25, 3) := by decide +kernel
theorem dX2_copyFrom_85 : decode cX2_copyFrom 85 = .ok (.iload_n 2, 1) := by decide +kernel
theorem dX2_copyFrom_86 : decode cX2_copyFrom 86 = .ok (.aload_n 1, 1) := by decide +kernel
theorem dX2_copyFrom_87 : decode cX2_copyFrom 87 = .ok (.getfield 25, 3) := by decide +kernel
theorem dX2_copyFrom_90 : decode cX2_copyFrom 90 = .ok (.iload_n 2, 1) := by decide +kernel
theorem dX2_copyFrom_91 : decode cX2_copyFrom 91 = .ok (.iaload, 1) := by decide +kernel
theorem dX2_copyFrom_92 : decode cX2_copyFrom 92 = .ok (.iastore, 1) := by decide +kernel
theorem dX2_copyFrom_93 : decode cX2_copyFrom 93 = .ok (.aload_n 0, 1) := by decide +kernel
theorem dX2_copyFrom_94 : decode cX2_copyFrom 94 = .ok (.getfield 28, 3) := by decide +kernel
theorem dX2_copyFrom_97 : decode cX2_copyFrom 97 = .ok (.iload_n 2, 1) := by decide +kernel
theorem dX2_copyFrom_98 : decode cX2_copyFrom 98 = .ok (.aload_n 1, 1) := by decide +kernel
theorem dX2_copyFrom_99 : decode cX2_copyFrom 99 = .ok (.getfield 28, 3) := by decide +kernel
theorem dX2_copyFrom_102 : decode cX2_copyFrom 102 = .ok (.iload_n 2, 1) := by decide +kernel
theorem dX2_copyFrom_103 : decode cX2_copyFrom 103 = .ok (.iaload, 1) := by decide +kernel
theorem dX2_copyFrom_104 : decode cX2_copyFrom 104 = .ok (.iastore, 1) := by decide +kernel
theorem dX2_copyFrom_105 : decode cX2_copyFrom 105 = .ok (.iinc 2 1, 3) := by decide +kernel
theorem dX2_copyFrom_108 : decode cX2_copyFrom 108 = .ok (.goto (-57), 3) := by decide +kernel
theorem dX2_copyFrom_111 : decode cX2_copyFrom 111 = .ok (.return_, 1) := by decide +kernel
theorem dX2_addLord_0 : decode cX2_addLord 0 = .ok (.aload_n 0, 1) := by decide +kernel
theorem dX2_addLord_1 : decode cX2_addLord 1 = .ok (.getfield 31, 3) := by decide +kernel
theorem dX2_addLord_4 : decode cX2_addLord 4 = .ok (.iconst 4, 1) := by decide +kernel
theorem dX2_addLord_5 : decode cX2_addLord 5 = .ok (.if_icmp .ge 23, 3) := by decide +kernel
theorem dX2_addLord_8 : decode cX2_addLord 8 = .ok (.aload_n 0, 1) := by decide +kernel
theorem dX2_addLord_9 : decode cX2_addLord 9 = .ok (.getfield 15, 3) := by decide +kernel
theorem dX2_addLord_12 : decode cX2_addLord 12 = .ok (.aload_n 0, 1) := by decide +kernel
theorem dX2_addLord_13 : decode cX2_addLord 13 = .ok (.getfield 31, 3) := by decide +kernel
theorem dX2_addLord_16 : decode cX2_addLord 16 = .ok (.iload_n 1, 1) := by decide +kernel
theorem dX2_addLord_17 : decode cX2_addLord 17 = .ok (.iastore, 1) := by decide +kernel
theorem dX2_addLord_18 : decode cX2_addLord 18 = .ok (.aload_n 0, 1) := by decide +kernel
theorem dX2_addLord_19 : decode cX2_addLord 19 = .ok (.dup, 1) := by decide +kernel
theorem dX2_addLord_20 : decode cX2_addLord 20 = .ok (.getfield 31, 3) := by decide +kernel
theorem dX2_addLord_23 : decode cX2_addLord 23 = .ok (.iconst 1, 1) := by decide +kernel
theorem dX2_addLord_24 : decode cX2_addLord 24 = .ok (.iadd, 1) := by decide +kernel
theorem dX2_addLord_25 : decode cX2_addLord 25 = .ok (.putfield 31, 3) := by decide +kernel
theorem dX2_addLord_28 : decode cX2_addLord 28 = .ok (.return_, 1) := by decide +kernel
theorem dX2_addBorough_0 : decode cX2_addBorough 0 = .ok (.aload_n 0, 1) := by decide +kernel
theorem dX2_addBorough_1 : decode cX2_addBorough 1 = .ok (.getfield 34, 3) := by decide +kernel
theorem dX2_addBorough_4 : decode cX2_addBorough 4 = .ok (.bipush 6, 2) := by decide +kernel
theorem dX2_addBorough_6 : decode cX2_addBorough 6 = .ok (.if_icmp .ge 54, 3) := by decide +kernel
theorem dX2_addBorough_9 : decode cX2_addBorough 9 = .ok (.aload_n 0, 1) := by decide +kernel
theorem dX2_addBorough_10 : decode cX2_addBorough 10 = .ok (.getfield 19, 3) := by decide +kernel
theorem dX2_addBorough_13 : decode cX2_addBorough 13 = .ok (.aload_n 0, 1) := by decide +kernel
theorem dX2_addBorough_14 : decode cX2_addBorough 14 = .ok (.getfield 34, 3) := by decide +kernel
theorem dX2_addBorough_17 : decode cX2_addBorough 17 = .ok (.iload_n 1, 1) := by decide +kernel
theorem dX2_addBorough_18 : decode cX2_addBorough 18 = .ok (.iastore, 1) := by decide +kernel
theorem dX2_addBorough_19 : decode cX2_addBorough 19 = .ok (.aload_n 0, 1) := by decide +kernel
theorem dX2_addBorough_20 : decode cX2_addBorough 20 = .ok (.getfield 22, 3) := by decide +kernel
theorem dX2_addBorough_23 : decode cX2_addBorough 23 = .ok (.aload_n 0, 1) := by decide +kernel
theorem dX2_addBorough_24 : decode cX2_addBorough 24 = .ok (.getfield 34, 3) := by decide +kernel
theorem dX2_addBorough_27 : decode cX2_addBorough 27 = .ok (.iload_n 2, 1) := by decide +kernel
theorem dX2_addBorough_28 : decode cX2_addBorough 28 = .ok (.iastore, 1) := by decide +kernel
theorem dX2_addBorough_29 : decode cX2_addBorough 29 = .ok (.aload_n 0, 1) := by decide +kernel
theorem dX2_addBorough_30 : decode cX2_addBorough 30 = .ok (.getfield 25, 3) := by decide +kernel
theorem dX2_addBorough_33 : decode cX2_addBorough 33 = .ok (.aload_n 0, 1) := by decide +kernel
theorem dX2_addBorough_34 : decode cX2_addBorough 34 = .ok (.getfield 34, 3) := by decide +kernel
theorem dX2_addBorough_37 : decode cX2_addBorough 37 = .ok (.iload_n 3, 1) := by decide +kernel
theorem dX2_addBorough_38 : decode cX2_addBorough 38 = .ok (.iastore, 1) := by decide +kernel
theorem dX2_addBorough_39 : decode cX2_addBorough 39 = .ok (.aload_n 0, 1) := by decide +kernel
theorem dX2_addBorough_40 : decode cX2_addBorough 40 = .ok (.getfield 28, 3) := by decide +kernel
theorem dX2_addBorough_43 : decode cX2_addBorough 43 = .ok (.aload_n 0, 1) := by decide +kernel
theorem dX2_addBorough_44 : decode cX2_addBorough 44 = .ok (.getfield 34, 3) := by decide +kernel
theorem dX2_addBorough_47 : decode cX2_addBorough 47 = .ok (.iload 4, 2) := by decide +kernel
theorem dX2_addBorough_49 : decode cX2_addBorough 49 = .ok (.iastore, 1) := by decide +kernel
theorem dX2_addBorough_50 : decode cX2_addBorough 50 = .ok (.aload_n 0, 1) := by decide +kernel
theorem dX2_addBorough_51 : decode cX2_addBorough 51 = .ok (.dup, 1) := by decide +kernel
theorem dX2_addBorough_52 : decode cX2_addBorough 52 = .ok (.getfield 34, 3) := by decide +kernel
theorem dX2_addBorough_55 : decode cX2_addBorough 55 = .ok (.iconst 1, 1) := by decide +kernel
theorem dX2_addBorough_56 : decode cX2_addBorough 56 = .ok (.iadd, 1) := by decide +kernel
theorem dX2_addBorough_57 : decode cX2_addBorough 57 = .ok (.putfield 34, 3) := by decide +kernel
theorem dX2_addBorough_60 : decode cX2_addBorough 60 = .ok (.return_, 1) := by decide +kernel
theorem dX2_hasLord_0 : decode cX2_hasLord 0 = .ok (.iload_n 1, 1) := by decide +kernel
theorem dX2_hasLord_1 : decode cX2_hasLord 1 = .ok (.ifCond .lt 15, 3) := by decide +kernel
theorem dX2_hasLord_4 : decode cX2_hasLord 4 = .ok (.iload_n 1, 1) := by decide +kernel
theorem dX2_hasLord_5 : decode cX2_hasLord 5 = .ok (.aload_n 0, 1) := by decide +kernel
theorem dX2_hasLord_6 : decode cX2_hasLord 6 = .ok (.getfield 31, 3) := by decide +kernel
theorem dX2_hasLord_9 : decode cX2_hasLord 9 = .ok (.if_icmp .ge 7, 3) := by decide +kernel
theorem dX2_hasLord_12 : decode cX2_hasLord 12 = .ok (.iconst 1, 1) := by decide +kernel
theorem dX2_hasLord_13 : decode cX2_hasLord 13 = .ok (.goto 4, 3) := by decide +kernel
theorem dX2_hasLord_16 : decode cX2_hasLord 16 = .ok (.iconst 0, 1) := by decide +kernel
theorem dX2_hasLord_17 : decode cX2_hasLord 17 = .ok (.ireturn, 1) := by decide +kernel
theorem dX2_hasBorough_0 : decode cX2_hasBorough 0 = .ok (.iload_n 1, 1) := by decide +kernel
theorem dX2_hasBorough_1 : decode cX2_hasBorough 1 = .ok (.ifCond .lt 15, 3) := by decide +kernel
theorem dX2_hasBorough_4 : decode cX2_hasBorough 4 = .ok (.iload_n 1, 1) := by decide +kernel
theorem dX2_hasBorough_5 : decode cX2_hasBorough 5 = .ok (.aload_n 0, 1) := by decide +kernel
theorem dX2_hasBorough_6 : decode cX2_hasBorough 6 = .ok (.getfield 34, 3) := by decide +kernel
theorem dX2_hasBorough_9 : decode cX2_hasBorough 9 = .ok (.if_icmp .ge 7, 3) := by decide +kernel
theorem dX2_hasBorough_12 : decode cX2_hasBorough 12 = .ok (.iconst 1, 1) := by decide +kernel
theorem dX2_hasBorough_13 : decode cX2_hasBorough 13 = .ok (.goto 4, 3) := by decide +kernel
theorem dX2_hasBorough_16 : decode cX2_hasBorough 16 = .ok (.iconst 0, 1) := by decide +kernel
theorem dX2_hasBorough_17 : decode cX2_hasBorough 17 = .ok (.ireturn, 1) := by decide +kernel
set_option maxRecDepth 20000 in
theorem ggX2_hasLords_X2_everyLord : GoodIn wsX2_hasLords wsX2_everyLord := goodIn_r _ [5, 6, 7, 8, 9, 10, 11, 12, 13, 14] (by decide +kernel) (by decide +kernel)
set_option maxRecDepth 20000 in
theorem gX2_hasLords_X2_everyLord : GoodIn wsX2_hasLords (wsV RX2 37 RX2 yX2_everyLord wsX2_everyLord) := goodIn_app (goodIn_of _ (by decide +kernel)) ggX2_hasLords_X2_everyLord
theorem dX2_hasLords_0 : decode cX2_hasLords 0 = .ok (.iload_n 1, 1) := by decide +kernel
theorem dX2_hasLords_1 : decode cX2_hasLords 1 = .ok (.ifCond .lt 15, 3) := by decide +kernel
theorem dX2_hasLords_4 : decode cX2_hasLords 4 = .ok (.iload_n 1, 1) := by decide +kernel
theorem dX2_hasLords_5 : decode cX2_hasLords 5 = .ok (.aload_n 0, 1) := by decide +kernel
theorem dX2_hasLords_6 : decode cX2_hasLords 6 = .ok (.invokevirtual 37, 3) := by decide +kernel
theorem dX2_hasLords_9 : decode cX2_hasLords 9 = .ok (.if_icmp .gt 7, 3) := by decide +kernel
theorem dX2_hasLords_12 : decode cX2_hasLords 12 = .ok (.iconst 1, 1) := by decide +kernel
theorem dX2_hasLords_13 : decode cX2_hasLords 13 = .ok (.goto 4, 3) := by decide +kernel
theorem dX2_hasLords_16 : decode cX2_hasLords 16 = .ok (.iconst 0, 1) := by decide +kernel
theorem dX2_hasLords_17 : decode cX2_hasLords 17 = .ok (.ireturn, 1) := by decide +kernel
theorem dX2_everyLord_0 : decode cX2_everyLord 0 = .ok (.iconst 1, 1) := by decide +kernel
theorem dX2_everyLord_1 : decode cX2_everyLord 1 = .ok (.aload_n 0, 1) := by decide +kernel
theorem dX2_everyLord_2 : decode cX2_everyLord 2 = .ok (.getfield 31, 3) := by decide +kernel
theorem dX2_everyLord_5 : decode cX2_everyLord 5 = .ok (.ishl, 1) := by decide +kernel
theorem dX2_everyLord_6 : decode cX2_everyLord 6 = .ok (.iconst 1, 1) := by decide +kernel
theorem dX2_everyLord_7 : decode cX2_everyLord 7 = .ok (.isub, 1) := by decide +kernel
theorem dX2_everyLord_8 : decode cX2_everyLord 8 = .ok (.ireturn, 1) := by decide +kernel
theorem dX2_everyBorough_0 : decode cX2_everyBorough 0 = .ok (.iconst 1, 1) := by decide +kernel
theorem dX2_everyBorough_1 : decode cX2_everyBorough 1 = .ok (.aload_n 0, 1) := by decide +kernel
theorem dX2_everyBorough_2 : decode cX2_everyBorough 2 = .ok (.getfield 34, 3) := by decide +kernel
theorem dX2_everyBorough_5 : decode cX2_everyBorough 5 = .ok (.ishl, 1) := by decide +kernel
theorem dX2_everyBorough_6 : decode cX2_everyBorough 6 = .ok (.iconst 1, 1) := by decide +kernel
theorem dX2_everyBorough_7 : decode cX2_everyBorough 7 = .ok (.isub, 1) := by decide +kernel
theorem dX2_everyBorough_8 : decode cX2_everyBorough 8 = .ok (.ireturn, 1) := by decide +kernel
theorem dX2_allGuineas_0 : decode cX2_allGuineas 0 = .ok (.iconst 0, 1) := by decide +kernel
theorem dX2_allGuineas_1 : decode cX2_allGuineas 1 = .ok (.istore_n 1, 1) := by decide +kernel
theorem dX2_allGuineas_2 : decode cX2_allGuineas 2 = .ok (.iconst 0, 1) := by decide +kernel
theorem dX2_allGuineas_3 : decode cX2_allGuineas 3 = .ok (.istore_n 2, 1) := by decide +kernel
theorem dX2_allGuineas_4 : decode cX2_allGuineas 4 = .ok (.iload_n 2, 1) := by decide +kernel
theorem dX2_allGuineas_5 : decode cX2_allGuineas 5 = .ok (.aload_n 0, 1) := by decide +kernel
theorem dX2_allGuineas_6 : decode cX2_allGuineas 6 = .ok (.getfield 31, 3) := by decide +kernel
theorem dX2_allGuineas_9 : decode cX2_allGuineas 9 = .ok (.if_icmp .ge 18, 3) := by decide +kernel
theorem dX2_allGuineas_12 : decode cX2_allGuineas 12 = .ok (.iload_n 1, 1) := by decide +kernel
theorem dX2_allGuineas_13 : decode cX2_allGuineas 13 = .ok (.aload_n 0, 1) := by decide +kernel
theorem dX2_allGuineas_14 : decode cX2_allGuineas 14 = .ok (.getfield 15, 3) := by decide +kernel
theorem dX2_allGuineas_17 : decode cX2_allGuineas 17 = .ok (.iload_n 2, 1) := by decide +kernel
theorem dX2_allGuineas_18 : decode cX2_allGuineas 18 = .ok (.iaload, 1) := by decide +kernel
theorem dX2_allGuineas_19 : decode cX2_allGuineas 19 = .ok (.iadd, 1) := by decide +kernel
theorem dX2_allGuineas_20 : decode cX2_allGuineas 20 = .ok (.istore_n 1, 1) := by decide +kernel
theorem dX2_allGuineas_21 : decode cX2_allGuineas 21 = .ok (.iinc 2 1, 3) := by decide +kernel
theorem dX2_allGuineas_24 : decode cX2_allGuineas 24 = .ok (.goto (-20), 3) := by decide +kernel
theorem dX2_allGuineas_27 : decode cX2_allGuineas 27 = .ok (.iload_n 1, 1) := by decide +kernel
theorem dX2_allGuineas_28 : decode cX2_allGuineas 28 = .ok (.ireturn, 1) := by decide +kernel
set_option maxRecDepth 20000 in
theorem ggX2_allVotes_X2_votesOf : GoodIn wsX2_allVotes wsX2_votesOf := goodIn_r _ [6, 7, 8, 9, 10, 11, 5, 12, 1, 13, 14, 15, 16, 17, 18, 19, 20] (by decide +kernel) (by decide +kernel)
set_option maxRecDepth 20000 in
theorem gX2_allVotes_X2_votesOf : GoodIn wsX2_allVotes (wsV RX2 41 RX2 yX2_votesOf wsX2_votesOf) := goodIn_app (goodIn_of _ (by decide +kernel)) ggX2_allVotes_X2_votesOf
theorem dX2_allVotes_0 : decode cX2_allVotes 0 = .ok (.iconst 0, 1) := by decide +kernel
theorem dX2_allVotes_1 : decode cX2_allVotes 1 = .ok (.istore_n 1, 1) := by decide +kernel
theorem dX2_allVotes_2 : decode cX2_allVotes 2 = .ok (.iconst 0, 1) := by decide +kernel
theorem dX2_allVotes_3 : decode cX2_allVotes 3 = .ok (.istore_n 2, 1) := by decide +kernel
theorem dX2_allVotes_4 : decode cX2_allVotes 4 = .ok (.iload_n 2, 1) := by decide +kernel
theorem dX2_allVotes_5 : decode cX2_allVotes 5 = .ok (.aload_n 0, 1) := by decide +kernel
theorem dX2_allVotes_6 : decode cX2_allVotes 6 = .ok (.getfield 34, 3) := by decide +kernel
theorem dX2_allVotes_9 : decode cX2_allVotes 9 = .ok (.if_icmp .ge 17, 3) := by decide +kernel
theorem dX2_allVotes_12 : decode cX2_allVotes 12 = .ok (.iload_n 1, 1) := by decide +kernel
theorem dX2_allVotes_13 : decode cX2_allVotes 13 = .ok (.aload_n 0, 1) := by decide +kernel
theorem dX2_allVotes_14 : decode cX2_allVotes 14 = .ok (.iload_n 2, 1) := by decide +kernel
theorem dX2_allVotes_15 : decode cX2_allVotes 15 = .ok (.invokevirtual 41, 3) := by decide +kernel
theorem dX2_allVotes_18 : decode cX2_allVotes 18 = .ok (.iadd, 1) := by decide +kernel
theorem dX2_allVotes_19 : decode cX2_allVotes 19 = .ok (.istore_n 1, 1) := by decide +kernel
theorem dX2_allVotes_20 : decode cX2_allVotes 20 = .ok (.iinc 2 1, 3) := by decide +kernel
theorem dX2_allVotes_23 : decode cX2_allVotes 23 = .ok (.goto (-19), 3) := by decide +kernel
theorem dX2_allVotes_26 : decode cX2_allVotes 26 = .ok (.iload_n 1, 1) := by decide +kernel
theorem dX2_allVotes_27 : decode cX2_allVotes 27 = .ok (.ireturn, 1) := by decide +kernel
theorem dX2_ownerless_0 : decode cX2_ownerless 0 = .ok (.iconst 0, 1) := by decide +kernel
theorem dX2_ownerless_1 : decode cX2_ownerless 1 = .ok (.istore_n 1, 1) := by decide +kernel
theorem dX2_ownerless_2 : decode cX2_ownerless 2 = .ok (.iconst 0, 1) := by decide +kernel
theorem dX2_ownerless_3 : decode cX2_ownerless 3 = .ok (.istore_n 2, 1) := by decide +kernel
theorem dX2_ownerless_4 : decode cX2_ownerless 4 = .ok (.iload_n 2, 1) := by decide +kernel
theorem dX2_ownerless_5 : decode cX2_ownerless 5 = .ok (.aload_n 0, 1) := by decide +kernel
theorem dX2_ownerless_6 : decode cX2_ownerless 6 = .ok (.getfield 34, 3) := by decide +kernel
theorem dX2_ownerless_9 : decode cX2_ownerless 9 = .ok (.if_icmp .ge 26, 3) := by decide +kernel
theorem dX2_ownerless_12 : decode cX2_ownerless 12 = .ok (.aload_n 0, 1) := by decide +kernel
theorem dX2_ownerless_13 : decode cX2_ownerless 13 = .ok (.getfield 28, 3) := by decide +kernel
theorem dX2_ownerless_16 : decode cX2_ownerless 16 = .ok (.iload_n 2, 1) := by decide +kernel
theorem dX2_ownerless_17 : decode cX2_ownerless 17 = .ok (.iaload, 1) := by decide +kernel
theorem dX2_ownerless_18 : decode cX2_ownerless 18 = .ok (.bipush (-4), 2) := by decide +kernel
theorem dX2_ownerless_20 : decode cX2_ownerless 20 = .ok (.if_icmp .ne 9, 3) := by decide +kernel
theorem dX2_ownerless_23 : decode cX2_ownerless 23 = .ok (.iload_n 1, 1) := by decide +kernel
theorem dX2_ownerless_24 : decode cX2_ownerless 24 = .ok (.iconst 1, 1) := by decide +kernel
theorem dX2_ownerless_25 : decode cX2_ownerless 25 = .ok (.iload_n 2, 1) := by decide +kernel
theorem dX2_ownerless_26 : decode cX2_ownerless 26 = .ok (.ishl, 1) := by decide +kernel
theorem dX2_ownerless_27 : decode cX2_ownerless 27 = .ok (.ior, 1) := by decide +kernel
theorem dX2_ownerless_28 : decode cX2_ownerless 28 = .ok (.istore_n 1, 1) := by decide +kernel
theorem dX2_ownerless_29 : decode cX2_ownerless 29 = .ok (.iinc 2 1, 3) := by decide +kernel
theorem dX2_ownerless_32 : decode cX2_ownerless 32 = .ok (.goto (-28), 3) := by decide +kernel
theorem dX2_ownerless_35 : decode cX2_ownerless 35 = .ok (.iload_n 1, 1) := by decide +kernel
theorem dX2_ownerless_36 : decode cX2_ownerless 36 = .ok (.ireturn, 1) := by decide +kernel
theorem dX2_seatless_0 : decode cX2_seatless 0 = .ok (.iconst 0, 1) := by decide +kernel
theorem dX2_seatless_1 : decode cX2_seatless 1 = .ok (.istore_n 1, 1) := by decide +kernel
theorem dX2_seatless_2 : decode cX2_seatless 2 = .ok (.iconst 0, 1) := by decide +kernel
theorem dX2_seatless_3 : decode cX2_seatless 3 = .ok (.istore_n 2, 1) := by decide +kernel
theorem dX2_seatless_4 : decode cX2_seatless 4 = .ok (.iload_n 2, 1) := by decide +kernel
theorem dX2_seatless_5 : decode cX2_seatless 5 = .ok (.aload_n 0, 1) := by decide +kernel
theorem dX2_seatless_6 : decode cX2_seatless 6 = .ok (.getfield 34, 3) := by decide +kernel
theorem dX2_seatless_9 : decode cX2_seatless 9 = .ok (.if_icmp .ge 24, 3) := by decide +kernel
theorem dX2_seatless_12 : decode cX2_seatless 12 = .ok (.aload_n 0, 1) := by decide +kernel
theorem dX2_seatless_13 : decode cX2_seatless 13 = .ok (.getfield 25, 3) := by decide +kernel
theorem dX2_seatless_16 : decode cX2_seatless 16 = .ok (.iload_n 2, 1) := by decide +kernel
theorem dX2_seatless_17 : decode cX2_seatless 17 = .ok (.iaload, 1) := by decide +kernel
theorem dX2_seatless_18 : decode cX2_seatless 18 = .ok (.ifCond .ne 9, 3) := by decide +kernel
theorem dX2_seatless_21 : decode cX2_seatless 21 = .ok (.iload_n 1, 1) := by decide +kernel
theorem dX2_seatless_22 : decode cX2_seatless 22 = .ok (.iconst 1, 1) := by decide +kernel
theorem dX2_seatless_23 : decode cX2_seatless 23 = .ok (.iload_n 2, 1) := by decide +kernel
theorem dX2_seatless_24 : decode cX2_seatless 24 = .ok (.ishl, 1) := by decide +kernel
theorem dX2_seatless_25 : decode cX2_seatless 25 = .ok (.ior, 1) := by decide +kernel
theorem dX2_seatless_26 : decode cX2_seatless 26 = .ok (.istore_n 1, 1) := by decide +kernel
theorem dX2_seatless_27 : decode cX2_seatless 27 = .ok (.iinc 2 1, 3) := by decide +kernel
theorem dX2_seatless_30 : decode cX2_seatless 30 = .ok (.goto (-26), 3) := by decide +kernel
theorem dX2_seatless_33 : decode cX2_seatless 33 = .ok (.iload_n 1, 1) := by decide +kernel
theorem dX2_seatless_34 : decode cX2_seatless 34 = .ok (.ireturn, 1) := by decide +kernel
set_option maxRecDepth 20000 in
theorem ggX2_heldBy_X7_holds : GoodIn wsX2_heldBy wsX7_holds := goodIn_r _ [5] (by decide +kernel) (by decide +kernel)
set_option maxRecDepth 20000 in
theorem gX2_heldBy_X7_holds_n45 : GoodIn wsX2_heldBy (wsX7_holds) := ggX2_heldBy_X7_holds
theorem dX2_heldBy_0 : decode cX2_heldBy 0 = .ok (.iconst 0, 1) := by decide +kernel
theorem dX2_heldBy_1 : decode cX2_heldBy 1 = .ok (.istore_n 2, 1) := by decide +kernel
theorem dX2_heldBy_2 : decode cX2_heldBy 2 = .ok (.iconst 0, 1) := by decide +kernel
theorem dX2_heldBy_3 : decode cX2_heldBy 3 = .ok (.istore_n 3, 1) := by decide +kernel
theorem dX2_heldBy_4 : decode cX2_heldBy 4 = .ok (.iload_n 3, 1) := by decide +kernel
theorem dX2_heldBy_5 : decode cX2_heldBy 5 = .ok (.aload_n 0, 1) := by decide +kernel
theorem dX2_heldBy_6 : decode cX2_heldBy 6 = .ok (.getfield 34, 3) := by decide +kernel
theorem dX2_heldBy_9 : decode cX2_heldBy 9 = .ok (.if_icmp .ge 39, 3) := by decide +kernel
theorem dX2_heldBy_12 : decode cX2_heldBy 12 = .ok (.aload_n 0, 1) := by decide +kernel
theorem dX2_heldBy_13 : decode cX2_heldBy 13 = .ok (.getfield 28, 3) := by decide +kernel
theorem dX2_heldBy_16 : decode cX2_heldBy 16 = .ok (.iload_n 3, 1) := by decide +kernel
theorem dX2_heldBy_17 : decode cX2_heldBy 17 = .ok (.iaload, 1) := by decide +kernel
theorem dX2_heldBy_18 : decode cX2_heldBy 18 = .ok (.bipush (-4), 2) := by decide +kernel
theorem dX2_heldBy_20 : decode cX2_heldBy 20 = .ok (.if_icmp .eq 22, 3) := by decide +kernel
theorem dX2_heldBy_23 : decode cX2_heldBy 23 = .ok (.iload_n 1, 1) := by decide +kernel
theorem dX2_heldBy_24 : decode cX2_heldBy 24 = .ok (.aload_n 0, 1) := by decide +kernel
theorem dX2_heldBy_25 : decode cX2_heldBy 25 = .ok (.getfield 28, 3) := by decide +kernel
theorem dX2_heldBy_28 : decode cX2_heldBy 28 = .ok (.iload_n 3, 1) := by decide +kernel
theorem dX2_heldBy_29 : decode cX2_heldBy 29 = .ok (.iaload, 1) := by decide +kernel
theorem dX2_heldBy_30 : decode cX2_heldBy 30 = .ok (.invokestatic 45, 3) := by decide +kernel
theorem dX2_heldBy_33 : decode cX2_heldBy 33 = .ok (.ifCond .eq 9, 3) := by decide +kernel
theorem dX2_heldBy_36 : decode cX2_heldBy 36 = .ok (.iload_n 2, 1) := by decide +kernel
theorem dX2_heldBy_37 : decode cX2_heldBy 37 = .ok (.iconst 1, 1) := by decide +kernel
theorem dX2_heldBy_38 : decode cX2_heldBy 38 = .ok (.iload_n 3, 1) := by decide +kernel
theorem dX2_heldBy_39 : decode cX2_heldBy 39 = .ok (.ishl, 1) := by decide +kernel
theorem dX2_heldBy_40 : decode cX2_heldBy 40 = .ok (.ior, 1) := by decide +kernel
theorem dX2_heldBy_41 : decode cX2_heldBy 41 = .ok (.istore_n 2, 1) := by decide +kernel
theorem dX2_heldBy_42 : decode cX2_heldBy 42 = .ok (.iinc 3 1, 3) := by decide +kernel
theorem dX2_heldBy_45 : decode cX2_heldBy 45 = .ok (.goto (-41), 3) := by decide +kernel
theorem dX2_heldBy_48 : decode cX2_heldBy 48 = .ok (.iload_n 2, 1) := by decide +kernel
theorem dX2_heldBy_49 : decode cX2_heldBy 49 = .ok (.ireturn, 1) := by decide +kernel
set_option maxRecDepth 20000 in
theorem ggX2_seatsIn_X7_holds : GoodIn wsX2_seatsIn wsX7_holds := goodIn_r _ [5] (by decide +kernel) (by decide +kernel)
set_option maxRecDepth 20000 in
theorem gX2_seatsIn_X7_holds_n45 : GoodIn wsX2_seatsIn (wsX7_holds) := ggX2_seatsIn_X7_holds
theorem dX2_seatsIn_0 : decode cX2_seatsIn 0 = .ok (.iconst 0, 1) := by decide +kernel
theorem dX2_seatsIn_1 : decode cX2_seatsIn 1 = .ok (.istore_n 2, 1) := by decide +kernel
theorem dX2_seatsIn_2 : decode cX2_seatsIn 2 = .ok (.iconst 0, 1) := by decide +kernel
theorem dX2_seatsIn_3 : decode cX2_seatsIn 3 = .ok (.istore_n 3, 1) := by decide +kernel
theorem dX2_seatsIn_4 : decode cX2_seatsIn 4 = .ok (.iload_n 3, 1) := by decide +kernel
theorem dX2_seatsIn_5 : decode cX2_seatsIn 5 = .ok (.aload_n 0, 1) := by decide +kernel
theorem dX2_seatsIn_6 : decode cX2_seatsIn 6 = .ok (.getfield 34, 3) := by decide +kernel
theorem dX2_seatsIn_9 : decode cX2_seatsIn 9 = .ok (.if_icmp .ge 26, 3) := by decide +kernel
theorem dX2_seatsIn_12 : decode cX2_seatsIn 12 = .ok (.iload_n 1, 1) := by decide +kernel
theorem dX2_seatsIn_13 : decode cX2_seatsIn 13 = .ok (.iload_n 3, 1) := by decide +kernel
theorem dX2_seatsIn_14 : decode cX2_seatsIn 14 = .ok (.invokestatic 45, 3) := by decide +kernel
theorem dX2_seatsIn_17 : decode cX2_seatsIn 17 = .ok (.ifCond .eq 12, 3) := by decide +kernel
theorem dX2_seatsIn_20 : decode cX2_seatsIn 20 = .ok (.iload_n 2, 1) := by decide +kernel
theorem dX2_seatsIn_21 : decode cX2_seatsIn 21 = .ok (.aload_n 0, 1) := by decide +kernel
theorem dX2_seatsIn_22 : decode cX2_seatsIn 22 = .ok (.getfield 25, 3) := by decide +kernel
theorem dX2_seatsIn_25 : decode cX2_seatsIn 25 = .ok (.iload_n 3, 1) := by decide +kernel
theorem dX2_seatsIn_26 : decode cX2_seatsIn 26 = .ok (.iaload, 1) := by decide +kernel
theorem dX2_seatsIn_27 : decode cX2_seatsIn 27 = .ok (.iadd, 1) := by decide +kernel
theorem dX2_seatsIn_28 : decode cX2_seatsIn 28 = .ok (.istore_n 2, 1) := by decide +kernel
theorem dX2_seatsIn_29 : decode cX2_seatsIn 29 = .ok (.iinc 3 1, 3) := by decide +kernel
theorem dX2_seatsIn_32 : decode cX2_seatsIn 32 = .ok (.goto (-28), 3) := by decide +kernel
theorem dX2_seatsIn_35 : decode cX2_seatsIn 35 = .ok (.iload_n 2, 1) := by decide +kernel
theorem dX2_seatsIn_36 : decode cX2_seatsIn 36 = .ok (.ireturn, 1) := by decide +kernel
set_option maxRecDepth 20000 in
theorem ggX2_votesOf_X2_hasBorough : GoodIn wsX2_votesOf wsX2_hasBorough := goodIn_r _ [7, 8, 9, 10, 11, 12, 13, 14, 15, 16] (by decide +kernel) (by decide +kernel)
set_option maxRecDepth 20000 in
theorem gX2_votesOf_X2_hasBorough : GoodIn wsX2_votesOf (wsV RX2 49 RX2 yX2_hasBorough wsX2_hasBorough) := goodIn_app (goodIn_of _ (by decide +kernel)) ggX2_votesOf_X2_hasBorough
theorem dX2_votesOf_0 : decode cX2_votesOf 0 = .ok (.aload_n 0, 1) := by decide +kernel
theorem dX2_votesOf_1 : decode cX2_votesOf 1 = .ok (.iload_n 1, 1) := by decide +kernel
theorem dX2_votesOf_2 : decode cX2_votesOf 2 = .ok (.invokevirtual 49, 3) := by decide +kernel
theorem dX2_votesOf_5 : decode cX2_votesOf 5 = .ok (.ifCond .ne 5, 3) := by decide +kernel
theorem dX2_votesOf_8 : decode cX2_votesOf 8 = .ok (.iconst 0, 1) := by decide +kernel
theorem dX2_votesOf_9 : decode cX2_votesOf 9 = .ok (.ireturn, 1) := by decide +kernel
theorem dX2_votesOf_10 : decode cX2_votesOf 10 = .ok (.aload_n 0, 1) := by decide +kernel
theorem dX2_votesOf_11 : decode cX2_votesOf 11 = .ok (.getfield 22, 3) := by decide +kernel
theorem dX2_votesOf_14 : decode cX2_votesOf 14 = .ok (.iload_n 1, 1) := by decide +kernel
theorem dX2_votesOf_15 : decode cX2_votesOf 15 = .ok (.iaload, 1) := by decide +kernel
theorem dX2_votesOf_16 : decode cX2_votesOf 16 = .ok (.iconst 1, 1) := by decide +kernel
theorem dX2_votesOf_17 : decode cX2_votesOf 17 = .ok (.iadd, 1) := by decide +kernel
theorem dX2_votesOf_18 : decode cX2_votesOf 18 = .ok (.iconst 2, 1) := by decide +kernel
theorem dX2_votesOf_19 : decode cX2_votesOf 19 = .ok (.idiv, 1) := by decide +kernel
theorem dX2_votesOf_20 : decode cX2_votesOf 20 = .ok (.istore_n 2, 1) := by decide +kernel
theorem dX2_votesOf_21 : decode cX2_votesOf 21 = .ok (.aload_n 0, 1) := by decide +kernel
theorem dX2_votesOf_22 : decode cX2_votesOf 22 = .ok (.getfield 19, 3) := by decide +kernel
theorem dX2_votesOf_25 : decode cX2_votesOf 25 = .ok (.iload_n 1, 1) := by decide +kernel
theorem dX2_votesOf_26 : decode cX2_votesOf 26 = .ok (.iaload, 1) := by decide +kernel
theorem dX2_votesOf_27 : decode cX2_votesOf 27 = .ok (.tableswitch 38 0 2 #[25, 32, 34], 25) := by decide +kernel
theorem dX2_votesOf_52 : decode cX2_votesOf 52 = .ok (.aload_n 0, 1) := by decide +kernel
theorem dX2_votesOf_53 : decode cX2_votesOf 53 = .ok (.getfield 22, 3) := by decide +kernel
theorem dX2_votesOf_56 : decode cX2_votesOf 56 = .ok (.iload_n 1, 1) := by decide +kernel
theorem dX2_votesOf_57 : decode cX2_votesOf 57 = .ok (.iaload, 1) := by decide +kernel
theorem dX2_votesOf_58 : decode cX2_votesOf 58 = .ok (.ireturn, 1) := by decide +kernel
theorem dX2_votesOf_59 : decode cX2_votesOf 59 = .ok (.iload_n 2, 1) := by decide +kernel
theorem dX2_votesOf_60 : decode cX2_votesOf 60 = .ok (.ireturn, 1) := by decide +kernel
theorem dX2_votesOf_61 : decode cX2_votesOf 61 = .ok (.iload_n 2, 1) := by decide +kernel
theorem dX2_votesOf_62 : decode cX2_votesOf 62 = .ok (.iconst 1, 1) := by decide +kernel
theorem dX2_votesOf_63 : decode cX2_votesOf 63 = .ok (.iadd, 1) := by decide +kernel
theorem dX2_votesOf_64 : decode cX2_votesOf 64 = .ok (.ireturn, 1) := by decide +kernel
theorem dX2_votesOf_65 : decode cX2_votesOf 65 = .ok (.aload_n 0, 1) := by decide +kernel
theorem dX2_votesOf_66 : decode cX2_votesOf 66 = .ok (.getfield 22, 3) := by decide +kernel
theorem dX2_votesOf_69 : decode cX2_votesOf 69 = .ok (.iload_n 1, 1) := by decide +kernel
theorem dX2_votesOf_70 : decode cX2_votesOf 70 = .ok (.iaload, 1) := by decide +kernel
theorem dX2_votesOf_71 : decode cX2_votesOf 71 = .ok (.iload_n 2, 1) := by decide +kernel
theorem dX2_votesOf_72 : decode cX2_votesOf 72 = .ok (.iadd, 1) := by decide +kernel
theorem dX2_votesOf_73 : decode cX2_votesOf 73 = .ok (.ireturn, 1) := by decide +kernel
set_option maxRecDepth 20000 in
theorem ggX2_costOf_X2_votesOf : GoodIn wsX2_costOf wsX2_votesOf := goodIn_r _ [6, 7, 8, 9, 10, 11, 5, 12, 13, 14, 15, 16, 17, 18, 19, 20, 21] (by decide +kernel) (by decide +kernel)
set_option maxRecDepth 20000 in
theorem gX2_costOf_X2_votesOf : GoodIn wsX2_costOf (wsV RX2 41 RX2 yX2_votesOf wsX2_votesOf) := goodIn_app (goodIn_of _ (by decide +kernel)) ggX2_costOf_X2_votesOf
theorem dX2_costOf_0 : decode cX2_costOf 0 = .ok (.aload_n 0, 1) := by decide +kernel
theorem dX2_costOf_1 : decode cX2_costOf 1 = .ok (.getfield 9, 3) := by decide +kernel
theorem dX2_costOf_4 : decode cX2_costOf 4 = .ok (.aload_n 0, 1) := by decide +kernel
theorem dX2_costOf_5 : decode cX2_costOf 5 = .ok (.iload_n 1, 1) := by decide +kernel
theorem dX2_costOf_6 : decode cX2_costOf 6 = .ok (.invokevirtual 41, 3) := by decide +kernel
theorem dX2_costOf_9 : decode cX2_costOf 9 = .ok (.imul, 1) := by decide +kernel
theorem dX2_costOf_10 : decode cX2_costOf 10 = .ok (.ireturn, 1) := by decide +kernel
set_option maxRecDepth 20000 in
theorem ggX2_costOfAll_X7_holds : GoodIn wsX2_costOfAll wsX7_holds := goodIn_r _ [4] (by decide +kernel) (by decide +kernel)
set_option maxRecDepth 20000 in
theorem gX2_costOfAll_X7_holds_n45 : GoodIn wsX2_costOfAll (wsX7_holds) := ggX2_costOfAll_X7_holds
set_option maxRecDepth 20000 in
theorem ggX2_costOfAll_X2_costOf : GoodIn wsX2_costOfAll wsX2_costOf := goodIn_r _ [9, 10, 11, 12, 13, 8, 14, 15, 16, 17, 18, 19, 20, 1, 21, 22, 23, 24, 25, 26, 27, 28] (by decide +kernel) (by decide +kernel)
set_option maxRecDepth 20000 in
theorem gX2_costOfAll_X2_costOf : GoodIn wsX2_costOfAll (wsV RX2 53 RX2 yX2_costOf wsX2_costOf) := goodIn_app (goodIn_of _ (by decide +kernel)) ggX2_costOfAll_X2_costOf
theorem dX2_costOfAll_0 : decode cX2_costOfAll 0 = .ok (.iconst 0, 1) := by decide +kernel
theorem dX2_costOfAll_1 : decode cX2_costOfAll 1 = .ok (.istore_n 2, 1) := by decide +kernel
theorem dX2_costOfAll_2 : decode cX2_costOfAll 2 = .ok (.iconst 0, 1) := by decide +kernel
theorem dX2_costOfAll_3 : decode cX2_costOfAll 3 = .ok (.istore_n 3, 1) := by decide +kernel
theorem dX2_costOfAll_4 : decode cX2_costOfAll 4 = .ok (.iload_n 3, 1) := by decide +kernel
theorem dX2_costOfAll_5 : decode cX2_costOfAll 5 = .ok (.aload_n 0, 1) := by decide +kernel
theorem dX2_costOfAll_6 : decode cX2_costOfAll 6 = .ok (.getfield 34, 3) := by decide +kernel
theorem dX2_costOfAll_9 : decode cX2_costOfAll 9 = .ok (.if_icmp .ge 25, 3) := by decide +kernel
theorem dX2_costOfAll_12 : decode cX2_costOfAll 12 = .ok (.iload_n 1, 1) := by decide +kernel
theorem dX2_costOfAll_13 : decode cX2_costOfAll 13 = .ok (.iload_n 3, 1) := by decide +kernel
theorem dX2_costOfAll_14 : decode cX2_costOfAll 14 = .ok (.invokestatic 45, 3) := by decide +kernel
theorem dX2_costOfAll_17 : decode cX2_costOfAll 17 = .ok (.ifCond .eq 11, 3) := by decide +kernel
theorem dX2_costOfAll_20 : decode cX2_costOfAll 20 = .ok (.iload_n 2, 1) := by decide +kernel
theorem dX2_costOfAll_21 : decode cX2_costOfAll 21 = .ok (.aload_n 0, 1) := by decide +kernel
theorem dX2_costOfAll_22 : decode cX2_costOfAll 22 = .ok (.iload_n 3, 1) := by decide +kernel
theorem dX2_costOfAll_23 : decode cX2_costOfAll 23 = .ok (.invokevirtual 53, 3) := by decide +kernel
theorem dX2_costOfAll_26 : decode cX2_costOfAll 26 = .ok (.iadd, 1) := by decide +kernel
theorem dX2_costOfAll_27 : decode cX2_costOfAll 27 = .ok (.istore_n 2, 1) := by decide +kernel
theorem dX2_costOfAll_28 : decode cX2_costOfAll 28 = .ok (.iinc 3 1, 3) := by decide +kernel
theorem dX2_costOfAll_31 : decode cX2_costOfAll 31 = .ok (.goto (-27), 3) := by decide +kernel
theorem dX2_costOfAll_34 : decode cX2_costOfAll 34 = .ok (.iload_n 2, 1) := by decide +kernel
theorem dX2_costOfAll_35 : decode cX2_costOfAll 35 = .ok (.ireturn, 1) := by decide +kernel
set_option maxRecDepth 20000 in
theorem ggX2_carries_X2_heldBy : GoodIn wsX2_carries wsX2_heldBy := goodIn_r _ [5, 6, 7, 8, 9, 10, 20, 21, 22, 23, 24, 25, 26, 27] (by decide +kernel) (by decide +kernel)
set_option maxRecDepth 20000 in
theorem gX2_carries_X2_heldBy : GoodIn wsX2_carries (wsV RX2 56 RX2 yX2_heldBy wsX2_heldBy) := goodIn_app (goodIn_of _ (by decide +kernel)) ggX2_carries_X2_heldBy
set_option maxRecDepth 20000 in
theorem ggX2_carries_X2_seatsIn : GoodIn wsX2_carries wsX2_seatsIn := goodIn_r _ [14, 6, 15, 8, 9, 10, 20, 21, 22, 23, 24, 25, 26, 27] (by decide +kernel) (by decide +kernel)
set_option maxRecDepth 20000 in
theorem gX2_carries_X2_seatsIn : GoodIn wsX2_carries (wsV RX2 59 RX2 yX2_seatsIn wsX2_seatsIn) := goodIn_app (goodIn_of _ (by decide +kernel)) ggX2_carries_X2_seatsIn
set_option maxRecDepth 20000 in
theorem ggX2_carries_X2_everyBorough : GoodIn wsX2_carries wsX2_everyBorough := goodIn_r _ [19, 6, 20, 21, 22, 23, 24, 25, 26, 27] (by decide +kernel) (by decide +kernel)
set_option maxRecDepth 20000 in
theorem gX2_carries_X2_everyBorough : GoodIn wsX2_carries (wsV RX2 62 RX2 yX2_everyBorough wsX2_everyBorough) := goodIn_app (goodIn_of _ (by decide +kernel)) ggX2_carries_X2_everyBorough
theorem dX2_carries_0 : decode cX2_carries 0 = .ok (.iconst 2, 1) := by decide +kernel
theorem dX2_carries_1 : decode cX2_carries 1 = .ok (.aload_n 0, 1) := by decide +kernel
theorem dX2_carries_2 : decode cX2_carries 2 = .ok (.aload_n 0, 1) := by decide +kernel
theorem dX2_carries_3 : decode cX2_carries 3 = .ok (.iload_n 1, 1) := by decide +kernel
theorem dX2_carries_4 : decode cX2_carries 4 = .ok (.invokevirtual 56, 3) := by decide +kernel
theorem dX2_carries_7 : decode cX2_carries 7 = .ok (.invokevirtual 59, 3) := by decide +kernel
theorem dX2_carries_10 : decode cX2_carries 10 = .ok (.imul, 1) := by decide +kernel
theorem dX2_carries_11 : decode cX2_carries 11 = .ok (.aload_n 0, 1) := by decide +kernel
theorem dX2_carries_12 : decode cX2_carries 12 = .ok (.aload_n 0, 1) := by decide +kernel
theorem dX2_carries_13 : decode cX2_carries 13 = .ok (.invokevirtual 62, 3) := by decide +kernel
theorem dX2_carries_16 : decode cX2_carries 16 = .ok (.invokevirtual 59, 3) := by decide +kernel
theorem dX2_carries_19 : decode cX2_carries 19 = .ok (.if_icmp .le 7, 3) := by decide +kernel
theorem dX2_carries_22 : decode cX2_carries 22 = .ok (.iconst 1, 1) := by decide +kernel
theorem dX2_carries_23 : decode cX2_carries 23 = .ok (.goto 4, 3) := by decide +kernel
theorem dX2_carries_26 : decode cX2_carries 26 = .ok (.iconst 0, 1) := by decide +kernel
theorem dX2_carries_27 : decode cX2_carries 27 = .ok (.ireturn, 1) := by decide +kernel
set_option maxRecDepth 20000 in
theorem ggX2_canBuy_X2_hasLord : GoodIn wsX2_canBuy wsX2_hasLord := goodIn_r _ [7, 8, 25, 26, 27, 28, 29, 30, 31, 32] (by decide +kernel) (by decide +kernel)
set_option maxRecDepth 20000 in
theorem gX2_canBuy_X2_hasLord : GoodIn wsX2_canBuy (wsV RX2 65 RX2 yX2_hasLord wsX2_hasLord) := goodIn_app (goodIn_of _ (by decide +kernel)) ggX2_canBuy_X2_hasLord
set_option maxRecDepth 20000 in
theorem ggX2_canBuy_X2_hasBorough : GoodIn wsX2_canBuy wsX2_hasBorough := goodIn_r _ [12, 13, 25, 26, 27, 28, 29, 30, 31, 32] (by decide +kernel) (by decide +kernel)
set_option maxRecDepth 20000 in
theorem gX2_canBuy_X2_hasBorough : GoodIn wsX2_canBuy (wsV RX2 49 RX2 yX2_hasBorough wsX2_hasBorough) := goodIn_app (goodIn_of _ (by decide +kernel)) ggX2_canBuy_X2_hasBorough
set_option maxRecDepth 20000 in
theorem ggX2_canBuy_X2_costOf : GoodIn wsX2_canBuy wsX2_costOf := goodIn_r _ [17, 18, 19, 20, 21, 6, 22, 23, 24, 9, 10, 11, 12, 13, 25, 26, 27, 28, 29, 30, 31, 32] (by decide +kernel) (by decide +kernel)
set_option maxRecDepth 20000 in
theorem gX2_canBuy_X2_costOf : GoodIn wsX2_canBuy (wsV RX2 53 RX2 yX2_costOf wsX2_costOf) := goodIn_app (goodIn_of _ (by decide +kernel)) ggX2_canBuy_X2_costOf
theorem dX2_canBuy_0 : decode cX2_canBuy 0 = .ok (.aload_n 0, 1) := by decide +kernel
theorem dX2_canBuy_1 : decode cX2_canBuy 1 = .ok (.iload_n 1, 1) := by decide +kernel
theorem dX2_canBuy_2 : decode cX2_canBuy 2 = .ok (.invokevirtual 65, 3) := by decide +kernel
theorem dX2_canBuy_5 : decode cX2_canBuy 5 = .ok (.ifCond .eq 39, 3) := by decide +kernel
theorem dX2_canBuy_8 : decode cX2_canBuy 8 = .ok (.aload_n 0, 1) := by decide +kernel
theorem dX2_canBuy_9 : decode cX2_canBuy 9 = .ok (.iload_n 2, 1) := by decide +kernel
theorem dX2_canBuy_10 : decode cX2_canBuy 10 = .ok (.invokevirtual 49, 3) := by decide +kernel
theorem dX2_canBuy_13 : decode cX2_canBuy 13 = .ok (.ifCond .eq 31, 3) := by decide +kernel
theorem dX2_canBuy_16 : decode cX2_canBuy 16 = .ok (.aload_n 0, 1) := by decide +kernel
theorem dX2_canBuy_17 : decode cX2_canBuy 17 = .ok (.getfield 28, 3) := by decide +kernel
theorem dX2_canBuy_20 : decode cX2_canBuy 20 = .ok (.iload_n 2, 1) := by decide +kernel
theorem dX2_canBuy_21 : decode cX2_canBuy 21 = .ok (.iaload, 1) := by decide +kernel
theorem dX2_canBuy_22 : decode cX2_canBuy 22 = .ok (.iload_n 1, 1) := by decide +kernel
theorem dX2_canBuy_23 : decode cX2_canBuy 23 = .ok (.if_icmp .eq 21, 3) := by decide +kernel
theorem dX2_canBuy_26 : decode cX2_canBuy 26 = .ok (.aload_n 0, 1) := by decide +kernel
theorem dX2_canBuy_27 : decode cX2_canBuy 27 = .ok (.getfield 15, 3) := by decide +kernel
theorem dX2_canBuy_30 : decode cX2_canBuy 30 = .ok (.iload_n 1, 1) := by decide +kernel
theorem dX2_canBuy_31 : decode cX2_canBuy 31 = .ok (.iaload, 1) := by decide +kernel
theorem dX2_canBuy_32 : decode cX2_canBuy 32 = .ok (.aload_n 0, 1) := by decide +kernel
theorem dX2_canBuy_33 : decode cX2_canBuy 33 = .ok (.iload_n 2, 1) := by decide +kernel
theorem dX2_canBuy_34 : decode cX2_canBuy 34 = .ok (.invokevirtual 53, 3) := by decide +kernel
theorem dX2_canBuy_37 : decode cX2_canBuy 37 = .ok (.if_icmp .lt 7, 3) := by decide +kernel
theorem dX2_canBuy_40 : decode cX2_canBuy 40 = .ok (.iconst 1, 1) := by decide +kernel
theorem dX2_canBuy_41 : decode cX2_canBuy 41 = .ok (.goto 4, 3) := by decide +kernel
theorem dX2_canBuy_44 : decode cX2_canBuy 44 = .ok (.iconst 0, 1) := by decide +kernel
theorem dX2_canBuy_45 : decode cX2_canBuy 45 = .ok (.ireturn, 1) := by decide +kernel
set_option maxRecDepth 20000 in
theorem ggX2_sell_X2_canBuy : GoodIn wsX2_sell wsX2_canBuy := goodIn_r _ [11, 1, 2, 12, 13, 14, 10, 15, 16, 17, 18, 19, 20, 21, 22, 23, 24, 25, 26, 27, 28, 29, 30, 31, 32, 33, 34, 35, 36, 37, 38, 39, 40] (by decide +kernel) (by decide +kernel)
set_option maxRecDepth 20000 in
theorem gX2_sell_X2_canBuy : GoodIn wsX2_sell (wsV RX2 68 RX2 yX2_canBuy wsX2_canBuy) := goodIn_app (goodIn_of _ (by decide +kernel)) ggX2_sell_X2_canBuy
set_option maxRecDepth 20000 in
theorem ggX2_sell_X2_costOf : GoodIn wsX2_sell wsX2_costOf := goodIn_r _ [25, 26, 27, 28, 29, 10, 30, 31, 32, 17, 18, 19, 20, 21, 33, 34, 35, 36, 37, 38, 39, 40] (by decide +kernel) (by decide +kernel)
set_option maxRecDepth 20000 in
theorem gX2_sell_X2_costOf : GoodIn wsX2_sell (wsV RX2 53 RX2 yX2_costOf wsX2_costOf) := goodIn_app (goodIn_of _ (by decide +kernel)) ggX2_sell_X2_costOf
set_option maxRecDepth 20000 in
theorem ggX2_sell_X2_hasLord : GoodIn wsX2_sell wsX2_hasLord := goodIn_r _ [15, 16, 33, 34, 35, 36, 37, 38, 39, 40] (by decide +kernel) (by decide +kernel)
set_option maxRecDepth 20000 in
theorem gX2_sell_X2_hasLord : GoodIn wsX2_sell (wsV RX2 65 RX2 yX2_hasLord wsX2_hasLord) := goodIn_app (goodIn_of _ (by decide +kernel)) ggX2_sell_X2_hasLord
theorem dX2_sell_0 : decode cX2_sell 0 = .ok (.aload_n 0, 1) := by decide +kernel
theorem dX2_sell_1 : decode cX2_sell 1 = .ok (.iload_n 1, 1) := by decide +kernel
theorem dX2_sell_2 : decode cX2_sell 2 = .ok (.iload_n 2, 1) := by decide +kernel
theorem dX2_sell_3 : decode cX2_sell 3 = .ok (.invokevirtual 68, 3) := by decide +kernel
theorem dX2_sell_6 : decode cX2_sell 6 = .ok (.ifCond .ne 5, 3) := by decide +kernel
theorem dX2_sell_9 : decode cX2_sell 9 = .ok (.iconst 0, 1) := by decide +kernel
theorem dX2_sell_10 : decode cX2_sell 10 = .ok (.ireturn, 1) := by decide +kernel
theorem dX2_sell_11 : decode cX2_sell 11 = .ok (.aload_n 0, 1) := by decide +kernel
theorem dX2_sell_12 : decode cX2_sell 12 = .ok (.iload_n 2, 1) := by decide +kernel
theorem dX2_sell_13 : decode cX2_sell 13 = .ok (.invokevirtual 53, 3) := by decide +kernel
theorem dX2_sell_16 : decode cX2_sell 16 = .ok (.istore_n 3, 1) := by decide +kernel
theorem dX2_sell_17 : decode cX2_sell 17 = .ok (.aload_n 0, 1) := by decide +kernel
theorem dX2_sell_18 : decode cX2_sell 18 = .ok (.getfield 28, 3) := by decide +kernel
theorem dX2_sell_21 : decode cX2_sell 21 = .ok (.iload_n 2, 1) := by decide +kernel
theorem dX2_sell_22 : decode cX2_sell 22 = .ok (.iaload, 1) := by decide +kernel
theorem dX2_sell_23 : decode cX2_sell 23 = .ok (.istore 4, 2) := by decide +kernel
theorem dX2_sell_25 : decode cX2_sell 25 = .ok (.aload_n 0, 1) := by decide +kernel
theorem dX2_sell_26 : decode cX2_sell 26 = .ok (.getfield 15, 3) := by decide +kernel
theorem dX2_sell_29 : decode cX2_sell 29 = .ok (.iload_n 1, 1) := by decide +kernel
theorem dX2_sell_30 : decode cX2_sell 30 = .ok (.dup2, 1) := by decide +kernel
theorem dX2_sell_31 : decode cX2_sell 31 = .ok (.iaload, 1) := by decide +kernel
theorem dX2_sell_32 : decode cX2_sell 32 = .ok (.iload_n 3, 1) := by decide +kernel
theorem dX2_sell_33 : decode cX2_sell 33 = .ok (.isub, 1) := by decide +kernel
theorem dX2_sell_34 : decode cX2_sell 34 = .ok (.iastore, 1) := by decide +kernel
theorem dX2_sell_35 : decode cX2_sell 35 = .ok (.aload_n 0, 1) := by decide +kernel
theorem dX2_sell_36 : decode cX2_sell 36 = .ok (.iload 4, 2) := by decide +kernel
theorem dX2_sell_38 : decode cX2_sell 38 = .ok (.invokevirtual 65, 3) := by decide +kernel
theorem dX2_sell_41 : decode cX2_sell 41 = .ok (.ifCond .eq 24, 3) := by decide +kernel
theorem dX2_sell_44 : decode cX2_sell 44 = .ok (.aload_n 0, 1) := by decide +kernel
theorem dX2_sell_45 : decode cX2_sell 45 = .ok (.getfield 15, 3) := by decide +kernel
theorem dX2_sell_48 : decode cX2_sell 48 = .ok (.iload 4, 2) := by decide +kernel
theorem dX2_sell_50 : decode cX2_sell 50 = .ok (.aload_n 0, 1) := by decide +kernel
theorem dX2_sell_51 : decode cX2_sell 51 = .ok (.getfield 15, 3) := by decide +kernel
theorem dX2_sell_54 : decode cX2_sell 54 = .ok (.iload 4, 2) := by decide +kernel
theorem dX2_sell_56 : decode cX2_sell 56 = .ok (.iaload, 1) := by decide +kernel
theorem dX2_sell_57 : decode cX2_sell 57 = .ok (.iload_n 3, 1) := by decide +kernel
theorem dX2_sell_58 : decode cX2_sell 58 = .ok (.iadd, 1) := by decide +kernel
theorem dX2_sell_59 : decode cX2_sell 59 = .ok (.bipush 99, 2) := by decide +kernel
theorem dX2_sell_61 : decode cX2_sell 61 = .ok (.invokestatic 71, 3) := by decide +kernel
theorem dX2_sell_64 : decode cX2_sell 64 = .ok (.iastore, 1) := by decide +kernel
theorem dX2_sell_65 : decode cX2_sell 65 = .ok (.aload_n 0, 1) := by decide +kernel
theorem dX2_sell_66 : decode cX2_sell 66 = .ok (.getfield 28, 3) := by decide +kernel
theorem dX2_sell_69 : decode cX2_sell 69 = .ok (.iload_n 2, 1) := by decide +kernel
theorem dX2_sell_70 : decode cX2_sell 70 = .ok (.iload_n 1, 1) := by decide +kernel
theorem dX2_sell_71 : decode cX2_sell 71 = .ok (.iastore, 1) := by decide +kernel
theorem dX2_sell_72 : decode cX2_sell 72 = .ok (.iconst 1, 1) := by decide +kernel
theorem dX2_sell_73 : decode cX2_sell 73 = .ok (.ireturn, 1) := by decide +kernel
set_option maxRecDepth 20000 in
theorem ggX2_cheapestMajority_X2_everyBorough : GoodIn wsX2_cheapestMajority wsX2_everyBorough := goodIn_r _ [5, 6, 34, 35, 36, 37, 38, 39, 40, 41] (by decide +kernel) (by decide +kernel)
set_option maxRecDepth 20000 in
theorem gX2_cheapestMajority_X2_everyBorough : GoodIn wsX2_cheapestMajority (wsV RX2 62 RX2 yX2_everyBorough wsX2_everyBorough) := goodIn_app (goodIn_of _ (by decide +kernel)) ggX2_cheapestMajority_X2_everyBorough
set_option maxRecDepth 20000 in
theorem ggX2_cheapestMajority_X2_seatsIn : GoodIn wsX2_cheapestMajority wsX2_seatsIn := goodIn_r _ [10, 6, 11, 12, 13, 14, 34, 35, 36, 37, 38, 39, 40, 41] (by decide +kernel) (by decide +kernel)
set_option maxRecDepth 20000 in
theorem gX2_cheapestMajority_X2_seatsIn : GoodIn wsX2_cheapestMajority (wsV RX2 59 RX2 yX2_seatsIn wsX2_seatsIn) := goodIn_app (goodIn_of _ (by decide +kernel)) ggX2_cheapestMajority_X2_seatsIn
set_option maxRecDepth 20000 in
theorem ggX2_cheapestMajority_X2_costOfAll : GoodIn wsX2_cheapestMajority wsX2_costOfAll := goodIn_r _ [18, 6, 12, 13, 14, 19, 20, 21, 4, 22, 23, 24, 25, 26, 27, 28, 29, 30, 31, 32, 33, 34, 35, 36, 37, 38, 39, 40, 41] (by decide +kernel) (by decide +kernel)
set_option maxRecDepth 20000 in
theorem gX2_cheapestMajority_X2_costOfAll : GoodIn wsX2_cheapestMajority (wsV RX2 77 RX2 yX2_costOfAll wsX2_costOfAll) := goodIn_app (goodIn_of _ (by decide +kernel)) ggX2_cheapestMajority_X2_costOfAll
theorem dX2_cheapestMajority_0 : decode cX2_cheapestMajority 0 = .ok (.aload_n 0, 1) := by decide +kernel
theorem dX2_cheapestMajority_1 : decode cX2_cheapestMajority 1 = .ok (.aload_n 0, 1) := by decide +kernel
theorem dX2_cheapestMajority_2 : decode cX2_cheapestMajority 2 = .ok (.invokevirtual 62, 3) := by decide +kernel
theorem dX2_cheapestMajority_5 : decode cX2_cheapestMajority 5 = .ok (.invokevirtual 59, 3) := by decide +kernel
theorem dX2_cheapestMajority_8 : decode cX2_cheapestMajority 8 = .ok (.istore_n 3, 1) := by decide +kernel
theorem dX2_cheapestMajority_9 : decode cX2_cheapestMajority 9 = .ok (.bipush (-4), 2) := by decide +kernel
theorem dX2_cheapestMajority_11 : decode cX2_cheapestMajority 11 = .ok (.istore 4, 2) := by decide +kernel
theorem dX2_cheapestMajority_13 : decode cX2_cheapestMajority 13 = .ok (.iconst 0, 1) := by decide +kernel
theorem dX2_cheapestMajority_14 : decode cX2_cheapestMajority 14 = .ok (.istore 5, 2) := by decide +kernel
theorem dX2_cheapestMajority_16 : decode cX2_cheapestMajority 16 = .ok (.iconst 0, 1) := by decide +kernel
theorem dX2_cheapestMajority_17 : decode cX2_cheapestMajority 17 = .ok (.istore 6, 2) := by decide +kernel
theorem dX2_cheapestMajority_19 : decode cX2_cheapestMajority 19 = .ok (.iload 6, 2) := by decide +kernel
theorem dX2_cheapestMajority_21 : decode cX2_cheapestMajority 21 = .ok (.aload_n 0, 1) := by decide +kernel
theorem dX2_cheapestMajority_22 : decode cX2_cheapestMajority 22 = .ok (.invokevirtual 62, 3) := by decide +kernel
theorem dX2_cheapestMajority_25 : decode cX2_cheapestMajority 25 = .ok (.if_icmp .gt 62, 3) := by decide +kernel
theorem dX2_cheapestMajority_28 : decode cX2_cheapestMajority 28 = .ok (.iload 6, 2) := by decide +kernel
theorem dX2_cheapestMajority_30 : decode cX2_cheapestMajority 30 = .ok (.iload_n 1, 1) := by decide +kernel
theorem dX2_cheapestMajority_31 : decode cX2_cheapestMajority 31 = .ok (.iconst (-1), 1) := by decide +kernel
theorem dX2_cheapestMajority_32 : decode cX2_cheapestMajority 32 = .ok (.ixor, 1) := by decide +kernel
theorem dX2_cheapestMajority_33 : decode cX2_cheapestMajority 33 = .ok (.iand, 1) := by decide +kernel
theorem dX2_cheapestMajority_34 : decode cX2_cheapestMajority 34 = .ok (.ifCond .ne 47, 3) := by decide +kernel
theorem dX2_cheapestMajority_37 : decode cX2_cheapestMajority 37 = .ok (.iconst 2, 1) := by decide +kernel
theorem dX2_cheapestMajority_38 : decode cX2_cheapestMajority 38 = .ok (.iload_n 2, 1) := by decide +kernel
theorem dX2_cheapestMajority_39 : decode cX2_cheapestMajority 39 = .ok (.aload_n 0, 1) := by decide +kernel
theorem dX2_cheapestMajority_40 : decode cX2_cheapestMajority 40 = .ok (.iload 6, 2) := by decide +kernel
theorem dX2_cheapestMajority_42 : decode cX2_cheapestMajority 42 = .ok (.invokevirtual 59, 3) := by decide +kernel
theorem dX2_cheapestMajority_45 : decode cX2_cheapestMajority 45 = .ok (.iadd, 1) := by decide +kernel
theorem dX2_cheapestMajority_46 : decode cX2_cheapestMajority 46 = .ok (.imul, 1) := by decide +kernel
theorem dX2_cheapestMajority_47 : decode cX2_cheapestMajority 47 = .ok (.iload_n 3, 1) := by decide +kernel
theorem dX2_cheapestMajority_48 : decode cX2_cheapestMajority 48 = .ok (.if_icmp .le 33, 3) := by decide +kernel
theorem dX2_cheapestMajority_51 : decode cX2_cheapestMajority 51 = .ok (.aload_n 0, 1) := by decide +kernel
theorem dX2_cheapestMajority_52 : decode cX2_cheapestMajority 52 = .ok (.iload 6, 2) := by decide +kernel
theorem dX2_cheapestMajority_54 : decode cX2_cheapestMajority 54 = .ok (.invokevirtual 77, 3) := by decide +kernel
theorem dX2_cheapestMajority_57 : decode cX2_cheapestMajority 57 = .ok (.istore 7, 2) := by decide +kernel
theorem dX2_cheapestMajority_59 : decode cX2_cheapestMajority 59 = .ok (.iload 4, 2) := by decide +kernel
theorem dX2_cheapestMajority_61 : decode cX2_cheapestMajority 61 = .ok (.bipush (-4), 2) := by decide +kernel
theorem dX2_cheapestMajority_63 : decode cX2_cheapestMajority 63 = .ok (.if_icmp .eq 10, 3) := by decide +kernel
theorem dX2_cheapestMajority_66 : decode cX2_cheapestMajority 66 = .ok (.iload 7, 2) := by decide +kernel
theorem dX2_cheapestMajority_68 : decode cX2_cheapestMajority 68 = .ok (.iload 5, 2) := by decide +kernel
theorem dX2_cheapestMajority_70 : decode cX2_cheapestMajority 70 = .ok (.if_icmp .ge 11, 3) := by decide +kernel
theorem dX2_cheapestMajority_73 : decode cX2_cheapestMajority 73 = .ok (.iload 6, 2) := by decide +kernel
theorem dX2_cheapestMajority_75 : decode cX2_cheapestMajority 75 = .ok (.istore 4, 2) := by decide +kernel
theorem dX2_cheapestMajority_77 : decode cX2_cheapestMajority 77 = .ok (.iload 7, 2) := by decide +kernel
theorem dX2_cheapestMajority_79 : decode cX2_cheapestMajority 79 = .ok (.istore 5, 2) := by decide +kernel
theorem dX2_cheapestMajority_81 : decode cX2_cheapestMajority 81 = .ok (.iinc 6 1, 3) := by decide +kernel
theorem dX2_cheapestMajority_84 : decode cX2_cheapestMajority 84 = .ok (.goto (-65), 3) := by decide +kernel
theorem dX2_cheapestMajority_87 : decode cX2_cheapestMajority 87 = .ok (.iload 4, 2) := by decide +kernel
theorem dX2_cheapestMajority_89 : decode cX2_cheapestMajority 89 = .ok (.ireturn, 1) := by decide +kernel
theorem dX3_init_0 : decode cX3_init 0 = .ok (.aload_n 0, 1) := by decide +kernel
theorem dX3_init_1 : decode cX3_init 1 = .ok (.invokespecial 3, 3) := by decide +kernel
theorem dX3_init_4 : decode cX3_init 4 = .ok (.aload_n 0, 1) := by decide +kernel
theorem dX3_init_5 : decode cX3_init 5 = .ok (.bipush 40, 2) := by decide +kernel
theorem dX3_init_7 : decode cX3_init 7 = .ok (.newarray .int, 2) := by decide +kernel
theorem dX3_init_9 : decode cX3_init 9 = .ok (.putfield 9, 3) := by decide +kernel
theorem dX3_init_12 : decode cX3_init 12 = .ok (.aload_n 0, 1) := by decide +kernel
theorem dX3_init_13 : decode cX3_init 13 = .ok (.bipush (-4), 2) := by decide +kernel
theorem dX3_init_15 : decode cX3_init 15 = .ok (.putfield 15, 3) := by decide +kernel
theorem dX3_init_18 : decode cX3_init 18 = .ok (.return_, 1) := by decide +kernel
theorem dX3_renew_0 : decode cX3_renew 0 = .ok (.aload_n 0, 1) := by decide +kernel
theorem dX3_renew_1 : decode cX3_renew 1 = .ok (.iload_n 1, 1) := by decide +kernel
theorem dX3_renew_2 : decode cX3_renew 2 = .ok (.putfield 19, 3) := by decide +kernel
theorem dX3_renew_5 : decode cX3_renew 5 = .ok (.aload_n 0, 1) := by decide +kernel
theorem dX3_renew_6 : decode cX3_renew 6 = .ok (.iload_n 2, 1) := by decide +kernel
theorem dX3_renew_7 : decode cX3_renew 7 = .ok (.putfield 15, 3) := by decide +kernel
theorem dX3_renew_10 : decode cX3_renew 10 = .ok (.iconst 0, 1) := by decide +kernel
theorem dX3_renew_11 : decode cX3_renew 11 = .ok (.istore_n 3, 1) := by decide +kernel
theorem dX3_renew_12 : decode cX3_renew 12 = .ok (.iload_n 3, 1) := by decide +kernel
theorem dX3_renew_13 : decode cX3_renew 13 = .ok (.bipush 40, 2) := by decide +kernel
theorem dX3_renew_15 : decode cX3_renew 15 = .ok (.if_icmp .ge 16, 3) := by decide +kernel
theorem dX3_renew_18 : decode cX3_renew 18 = .ok (.aload_n 0, 1) := by decide +kernel
theorem dX3_renew_19 : decode cX3_renew 19 = .ok (.getfield 9, 3) := by decide +kernel
theorem dX3_renew_22 : decode cX3_renew 22 = .ok (.iload_n 3, 1) := by decide +kernel
theorem dX3_renew_23 : decode cX3_renew 23 = .ok (.iconst 0, 1) := by decide +kernel
theorem dX3_renew_24 : decode cX3_renew 24 = .ok (.iastore, 1) := by decide +kernel
theorem dX3_renew_25 : decode cX3_renew 25 = .ok (.iinc 3 1, 3) := by decide +kernel
theorem dX3_renew_28 : decode cX3_renew 28 = .ok (.goto (-16), 3) := by decide +kernel
theorem dX3_renew_31 : decode cX3_renew 31 = .ok (.return_, 1) := by decide +kernel
set_option maxRecDepth 20000 in
theorem ggX3_faultAt_X7_within : GoodIn wsX3_faultAt wsX7_within := goodIn_r _ [4] (by decide +kernel) (by decide +kernel)
set_option maxRecDepth 20000 in
theorem gX3_faultAt_X7_within_n22 : GoodIn wsX3_faultAt (wsX7_within) := ggX3_faultAt_X7_within
theorem dX3_faultAt_0 : decode cX3_faultAt 0 = .ok (.aload_n 0, 1) := by decide +kernel
theorem dX3_faultAt_1 : decode cX3_faultAt 1 = .ok (.getfield 15, 3) := by decide +kernel
theorem dX3_faultAt_4 : decode cX3_faultAt 4 = .ok (.bipush (-4), 2) := by decide +kernel
theorem dX3_faultAt_6 : decode cX3_faultAt 6 = .ok (.if_icmp .ne 5, 3) := by decide +kernel
theorem dX3_faultAt_9 : decode cX3_faultAt 9 = .ok (.iconst 1, 1) := by decide +kernel
theorem dX3_faultAt_10 : decode cX3_faultAt 10 = .ok (.ireturn, 1) := by decide +kernel
theorem dX3_faultAt_11 : decode cX3_faultAt 11 = .ok (.iload_n 1, 1) := by decide +kernel
theorem dX3_faultAt_12 : decode cX3_faultAt 12 = .ok (.iconst 0, 1) := by decide +kernel
theorem dX3_faultAt_13 : decode cX3_faultAt 13 = .ok (.aload_n 0, 1) := by decide +kernel
theorem dX3_faultAt_14 : decode cX3_faultAt 14 = .ok (.getfield 15, 3) := by decide +kernel
theorem dX3_faultAt_17 : decode cX3_faultAt 17 = .ok (.iconst 1, 1) := by decide +kernel
theorem dX3_faultAt_18 : decode cX3_faultAt 18 = .ok (.isub, 1) := by decide +kernel
theorem dX3_faultAt_19 : decode cX3_faultAt 19 = .ok (.invokestatic 22, 3) := by decide +kernel
theorem dX3_faultAt_22 : decode cX3_faultAt 22 = .ok (.ifCond .eq 7, 3) := by decide +kernel
theorem dX3_faultAt_25 : decode cX3_faultAt 25 = .ok (.iconst 0, 1) := by decide +kernel
theorem dX3_faultAt_26 : decode cX3_faultAt 26 = .ok (.goto 4, 3) := by decide +kernel
theorem dX3_faultAt_29 : decode cX3_faultAt 29 = .ok (.iconst 2, 1) := by decide +kernel
theorem dX3_faultAt_30 : decode cX3_faultAt 30 = .ok (.ireturn, 1) := by decide +kernel
set_option maxRecDepth 20000 in
theorem ggX3_faultOfPair_X3_faultAt : GoodIn wsX3_faultOfPair wsX3_faultAt := goodIn_r _ [7, 1, 8, 9, 10, 11, 12, 13] (by decide +kernel) (by decide +kernel)
set_option maxRecDepth 20000 in
theorem gX3_faultOfPair_X3_faultAt : GoodIn wsX3_faultOfPair (wsV RX3 26 RX3 yX3_faultAt wsX3_faultAt) := goodIn_app (goodIn_of _ (by decide +kernel)) ggX3_faultOfPair_X3_faultAt
theorem dX3_faultOfPair_0 : decode cX3_faultOfPair 0 = .ok (.aload_n 0, 1) := by decide +kernel
theorem dX3_faultOfPair_1 : decode cX3_faultOfPair 1 = .ok (.getfield 15, 3) := by decide +kernel
theorem dX3_faultOfPair_4 : decode cX3_faultOfPair 4 = .ok (.bipush (-4), 2) := by decide +kernel
theorem dX3_faultOfPair_6 : decode cX3_faultOfPair 6 = .ok (.if_icmp .eq 13, 3) := by decide +kernel
theorem dX3_faultOfPair_9 : decode cX3_faultOfPair 9 = .ok (.aload_n 0, 1) := by decide +kernel
theorem dX3_faultOfPair_10 : decode cX3_faultOfPair 10 = .ok (.getfield 19, 3) := by decide +kernel
theorem dX3_faultOfPair_13 : decode cX3_faultOfPair 13 = .ok (.iload_n 1, 1) := by decide +kernel
theorem dX3_faultOfPair_14 : decode cX3_faultOfPair 14 = .ok (.if_icmp .eq 5, 3) := by decide +kernel
theorem dX3_faultOfPair_17 : decode cX3_faultOfPair 17 = .ok (.iconst 3, 1) := by decide +kernel
theorem dX3_faultOfPair_18 : decode cX3_faultOfPair 18 = .ok (.ireturn, 1) := by decide +kernel
theorem dX3_faultOfPair_19 : decode cX3_faultOfPair 19 = .ok (.aload_n 0, 1) := by decide +kernel
theorem dX3_faultOfPair_20 : decode cX3_faultOfPair 20 = .ok (.iload_n 2, 1) := by decide +kernel
theorem dX3_faultOfPair_21 : decode cX3_faultOfPair 21 = .ok (.invokevirtual 26, 3) := by decide +kernel
theorem dX3_faultOfPair_24 : decode cX3_faultOfPair 24 = .ok (.istore_n 3, 1) := by decide +kernel
theorem dX3_faultOfPair_25 : decode cX3_faultOfPair 25 = .ok (.iload_n 3, 1) := by decide +kernel
theorem dX3_faultOfPair_26 : decode cX3_faultOfPair 26 = .ok (.ifCond .eq 7, 3) := by decide +kernel
theorem dX3_faultOfPair_29 : decode cX3_faultOfPair 29 = .ok (.iload_n 3, 1) := by decide +kernel
theorem dX3_faultOfPair_30 : decode cX3_faultOfPair 30 = .ok (.goto 10, 3) := by decide +kernel
theorem dX3_faultOfPair_33 : decode cX3_faultOfPair 33 = .ok (.aload_n 0, 1) := by decide +kernel
theorem dX3_faultOfPair_34 : decode cX3_faultOfPair 34 = .ok (.iload_n 2, 1) := by decide +kernel
theorem dX3_faultOfPair_35 : decode cX3_faultOfPair 35 = .ok (.iconst 1, 1) := by decide +kernel
theorem dX3_faultOfPair_36 : decode cX3_faultOfPair 36 = .ok (.iadd, 1) := by decide +kernel
theorem dX3_faultOfPair_37 : decode cX3_faultOfPair 37 = .ok (.invokevirtual 26, 3) := by decide +kernel
theorem dX3_faultOfPair_40 : decode cX3_faultOfPair 40 = .ok (.ireturn, 1) := by decide +kernel
set_option maxRecDepth 20000 in
theorem ggX3_put_X3_faultAt : GoodIn wsX3_put wsX3_faultAt := goodIn_r _ [7, 8, 9, 10, 11, 12, 13, 14] (by decide +kernel) (by decide +kernel)
set_option maxRecDepth 20000 in
theorem gX3_put_X3_faultAt : GoodIn wsX3_put (wsV RX3 26 RX3 yX3_faultAt wsX3_faultAt) := goodIn_app (goodIn_of _ (by decide +kernel)) ggX3_put_X3_faultAt
theorem dX3_put_0 : decode cX3_put 0 = .ok (.aload_n 0, 1) := by decide +kernel
theorem dX3_put_1 : decode cX3_put 1 = .ok (.iload_n 1, 1) := by decide +kernel
theorem dX3_put_2 : decode cX3_put 2 = .ok (.invokevirtual 26, 3) := by decide +kernel
theorem dX3_put_5 : decode cX3_put 5 = .ok (.ifCond .ne 35, 3) := by decide +kernel
theorem dX3_put_8 : decode cX3_put 8 = .ok (.aload_n 0, 1) := by decide +kernel
theorem dX3_put_9 : decode cX3_put 9 = .ok (.getfield 9, 3) := by decide +kernel
theorem dX3_put_12 : decode cX3_put 12 = .ok (.iload_n 1, 1) := by decide +kernel
theorem dX3_put_13 : decode cX3_put 13 = .ok (.aload_n 0, 1) := by decide +kernel
theorem dX3_put_14 : decode cX3_put 14 = .ok (.getfield 19, 3) := by decide +kernel
theorem dX3_put_17 : decode cX3_put 17 = .ok (.ifCond .ne 8, 3) := by decide +kernel
theorem dX3_put_20 : decode cX3_put 20 = .ok (.iload_n 2, 1) := by decide +kernel
theorem dX3_put_21 : decode cX3_put 21 = .ok (.i2b, 1) := by decide +kernel
theorem dX3_put_22 : decode cX3_put 22 = .ok (.goto 17, 3) := by decide +kernel
theorem dX3_put_25 : decode cX3_put 25 = .ok (.aload_n 0, 1) := by decide +kernel
theorem dX3_put_26 : decode cX3_put 26 = .ok (.getfield 19, 3) := by decide +kernel
theorem dX3_put_29 : decode cX3_put 29 = .ok (.iconst 1, 1) := by decide +kernel
theorem dX3_put_30 : decode cX3_put 30 = .ok (.if_icmp .ne 8, 3) := by decide +kernel
theorem dX3_put_33 : decode cX3_put 33 = .ok (.iload_n 2, 1) := by decide +kernel
theorem dX3_put_34 : decode cX3_put 34 = .ok (.i2s, 1) := by decide +kernel
theorem dX3_put_35 : decode cX3_put 35 = .ok (.goto 4, 3) := by decide +kernel
theorem dX3_put_38 : decode cX3_put 38 = .ok (.iload_n 2, 1) := by decide +kernel
theorem dX3_put_39 : decode cX3_put 39 = .ok (.iastore, 1) := by decide +kernel
theorem dX3_put_40 : decode cX3_put 40 = .ok (.return_, 1) := by decide +kernel
set_option maxRecDepth 20000 in
theorem ggX3_cellAt_X3_faultAt : GoodIn wsX3_cellAt wsX3_faultAt := goodIn_r _ [6, 7, 8, 9, 10, 11, 12, 13] (by decide +kernel) (by decide +kernel)
set_option maxRecDepth 20000 in
theorem gX3_cellAt_X3_faultAt : GoodIn wsX3_cellAt (wsV RX3 26 RX3 yX3_faultAt wsX3_faultAt) := goodIn_app (goodIn_of _ (by decide +kernel)) ggX3_cellAt_X3_faultAt
theorem dX3_cellAt_0 : decode cX3_cellAt 0 = .ok (.aload_n 0, 1) := by decide +kernel
theorem dX3_cellAt_1 : decode cX3_cellAt 1 = .ok (.iload_n 1, 1) := by decide +kernel
theorem dX3_cellAt_2 : decode cX3_cellAt 2 = .ok (.invokevirtual 26, 3) := by decide +kernel
theorem dX3_cellAt_5 : decode cX3_cellAt 5 = .ok (.ifCond .ne 12, 3) := by decide +kernel
theorem dX3_cellAt_8 : decode cX3_cellAt 8 = .ok (.aload_n 0, 1) := by decide +kernel
theorem dX3_cellAt_9 : decode cX3_cellAt 9 = .ok (.getfield 9, 3) := by decide +kernel
theorem dX3_cellAt_12 : decode cX3_cellAt 12 = .ok (.iload_n 1, 1) := by decide +kernel
theorem dX3_cellAt_13 : decode cX3_cellAt 13 = .ok (.iaload, 1) := by decide +kernel
theorem dX3_cellAt_14 : decode cX3_cellAt 14 = .ok (.goto 4, 3) := by decide +kernel
theorem dX3_cellAt_17 : decode cX3_cellAt 17 = .ok (.iconst 0, 1) := by decide +kernel
theorem dX3_cellAt_18 : decode cX3_cellAt 18 = .ok (.ireturn, 1) := by decide +kernel
theorem dX4_init_0 : decode cX4_init 0 = .ok (.aload_n 0, 1) := by decide +kernel
theorem dX4_init_1 : decode cX4_init 1 = .ok (.invokespecial 3, 3) := by decide +kernel
theorem dX4_init_4 : decode cX4_init 4 = .ok (.aload_n 0, 1) := by decide +kernel
theorem dX4_init_5 : decode cX4_init 5 = .ok (.bipush 6, 2) := by decide +kernel
theorem dX4_init_7 : decode cX4_init 7 = .ok (.newarray .int, 2) := by decide +kernel
theorem dX4_init_9 : decode cX4_init 9 = .ok (.putfield 9, 3) := by decide +kernel
theorem dX4_init_12 : decode cX4_init 12 = .ok (.return_, 1) := by decide +kernel
set_option maxRecDepth 20000 in
theorem ggX4_rank_X4_insert : GoodIn wsX4_rank wsX4_insert := goodIn_r _ [6, 1, 7, 8, 9, 10, 11, 12, 13, 14, 15, 16, 17, 18, 19, 20, 21, 22, 23, 24, 25, 26, 27, 28, 29] (by decide +kernel) (by decide +kernel)
set_option maxRecDepth 20000 in
theorem gX4_rank_X4_insert : GoodIn wsX4_rank (wsV RX4 27 RX4 yX4_insert wsX4_insert) := goodIn_app (goodIn_of _ (by decide +kernel)) ggX4_rank_X4_insert
theorem dX4_rank_0 : decode cX4_rank 0 = .ok (.aload_n 0, 1) := by decide +kernel
theorem dX4_rank_1 : decode cX4_rank 1 = .ok (.iconst 0, 1) := by decide +kernel
theorem dX4_rank_2 : decode cX4_rank 2 = .ok (.putfield 15, 3) := by decide +kernel
theorem dX4_rank_5 : decode cX4_rank 5 = .ok (.iconst 0, 1) := by decide +kernel
theorem dX4_rank_6 : decode cX4_rank 6 = .ok (.istore_n 2, 1) := by decide +kernel
theorem dX4_rank_7 : decode cX4_rank 7 = .ok (.iload_n 2, 1) := by decide +kernel
theorem dX4_rank_8 : decode cX4_rank 8 = .ok (.aload_n 1, 1) := by decide +kernel
theorem dX4_rank_9 : decode cX4_rank 9 = .ok (.getfield 19, 3) := by decide +kernel
theorem dX4_rank_12 : decode cX4_rank 12 = .ok (.if_icmp .ge 24, 3) := by decide +kernel
theorem dX4_rank_15 : decode cX4_rank 15 = .ok (.aload_n 1, 1) := by decide +kernel
theorem dX4_rank_16 : decode cX4_rank 16 = .ok (.getfield 24, 3) := by decide +kernel
theorem dX4_rank_19 : decode cX4_rank 19 = .ok (.iload_n 2, 1) := by decide +kernel
theorem dX4_rank_20 : decode cX4_rank 20 = .ok (.iaload, 1) := by decide +kernel
theorem dX4_rank_21 : decode cX4_rank 21 = .ok (.ifCond .le 9, 3) := by decide +kernel
theorem dX4_rank_24 : decode cX4_rank 24 = .ok (.aload_n 0, 1) := by decide +kernel
theorem dX4_rank_25 : decode cX4_rank 25 = .ok (.aload_n 1, 1) := by decide +kernel
theorem dX4_rank_26 : decode cX4_rank 26 = .ok (.iload_n 2, 1) := by decide +kernel
theorem dX4_rank_27 : decode cX4_rank 27 = .ok (.invokevirtual 27, 3) := by decide +kernel
theorem dX4_rank_30 : decode cX4_rank 30 = .ok (.iinc 2 1, 3) := by decide +kernel
theorem dX4_rank_33 : decode cX4_rank 33 = .ok (.goto (-26), 3) := by decide +kernel
theorem dX4_rank_36 : decode cX4_rank 36 = .ok (.return_, 1) := by decide +kernel
set_option maxRecDepth 20000 in
theorem ggX4_insert_X2_votesOf : GoodIn wsX4_insert wsX2_votesOf := goodIn_r _ [7, 8, 9, 10, 11, 12, 6, 13, 14, 17, 18, 19, 20, 21, 22, 23, 24] (by decide +kernel) (by decide +kernel)
set_option maxRecDepth 20000 in
theorem gX4_insert_X2_votesOf : GoodIn wsX4_insert (wsV RX4 31 RX2 yX2_votesOf wsX2_votesOf) := goodIn_app (goodIn_of _ (by decide +kernel)) ggX4_insert_X2_votesOf
theorem dX4_insert_0 : decode cX4_insert 0 = .ok (.aload_n 0, 1) := by decide +kernel
theorem dX4_insert_1 : decode cX4_insert 1 = .ok (.getfield 15, 3) := by decide +kernel
theorem dX4_insert_4 : decode cX4_insert 4 = .ok (.bipush 6, 2) := by decide +kernel
theorem dX4_insert_6 : decode cX4_insert 6 = .ok (.if_icmp .lt 4, 3) := by decide +kernel
theorem dX4_insert_9 : decode cX4_insert 9 = .ok (.return_, 1) := by decide +kernel
theorem dX4_insert_10 : decode cX4_insert 10 = .ok (.aload_n 0, 1) := by decide +kernel
theorem dX4_insert_11 : decode cX4_insert 11 = .ok (.getfield 15, 3) := by decide +kernel
theorem dX4_insert_14 : decode cX4_insert 14 = .ok (.istore_n 3, 1) := by decide +kernel
theorem dX4_insert_15 : decode cX4_insert 15 = .ok (.iload_n 3, 1) := by decide +kernel
theorem dX4_insert_16 : decode cX4_insert 16 = .ok (.ifCond .le 43, 3) := by decide +kernel
theorem dX4_insert_19 : decode cX4_insert 19 = .ok (.aload_n 1, 1) := by decide +kernel
theorem dX4_insert_20 : decode cX4_insert 20 = .ok (.aload_n 0, 1) := by decide +kernel
theorem dX4_insert_21 : decode cX4_insert 21 = .ok (.getfield 9, 3) := by decide +kernel
theorem dX4_insert_24 : decode cX4_insert 24 = .ok (.iload_n 3, 1) := by decide +kernel
theorem dX4_insert_25 : decode cX4_insert 25 = .ok (.iconst 1, 1) := by decide +kernel
theorem dX4_insert_26 : decode cX4_insert 26 = .ok (.isub, 1) := by decide +kernel
theorem dX4_insert_27 : decode cX4_insert 27 = .ok (.iaload, 1) := by decide +kernel
theorem dX4_insert_28 : decode cX4_insert 28 = .ok (.invokevirtual 31, 3) := by decide +kernel
theorem dX4_insert_31 : decode cX4_insert 31 = .ok (.aload_n 1, 1) := by decide +kernel
theorem dX4_insert_32 : decode cX4_insert 32 = .ok (.iload_n 2, 1) := by decide +kernel
theorem dX4_insert_33 : decode cX4_insert 33 = .ok (.invokevirtual 31, 3) := by decide +kernel
theorem dX4_insert_36 : decode cX4_insert 36 = .ok (.if_icmp .le 23, 3) := by decide +kernel
theorem dX4_insert_39 : decode cX4_insert 39 = .ok (.aload_n 0, 1) := by decide +kernel
theorem dX4_insert_40 : decode cX4_insert 40 = .ok (.getfield 9, 3) := by decide +kernel
theorem dX4_insert_43 : decode cX4_insert 43 = .ok (.iload_n 3, 1) := by decide +kernel
theorem dX4_insert_44 : decode cX4_insert 44 = .ok (.aload_n 0, 1) := by decide +kernel
theorem dX4_insert_45 : decode cX4_insert 45 = .ok (.getfield 9, 3) := by decide +kernel
theorem dX4_insert_48 : decode cX4_insert 48 = .ok (.iload_n 3, 1) := by decide +kernel
theorem dX4_insert_49 : decode cX4_insert 49 = .ok (.iconst 1, 1) := by decide +kernel
theorem dX4_insert_50 : decode cX4_insert 50 = .ok (.isub, 1) := by decide +kernel
theorem dX4_insert_51 : decode cX4_insert 51 = .ok (.iaload, 1) := by decide +kernel
theorem dX4_insert_52 : decode cX4_insert 52 = .ok (.iastore, 1) := by decide +kernel
theorem dX4_insert_53 : decode cX4_insert 53 = .ok (.iinc 3 (-1), 3) := by decide +kernel
theorem dX4_insert_56 : decode cX4_insert 56 = .ok (.goto (-41), 3) := by decide +kernel
theorem dX4_insert_59 : decode cX4_insert 59 = .ok (.aload_n 0, 1) := by decide +kernel
theorem dX4_insert_60 : decode cX4_insert 60 = .ok (.getfield 9, 3) := by decide +kernel
theorem dX4_insert_63 : decode cX4_insert 63 = .ok (.iload_n 3, 1) := by decide +kernel
theorem dX4_insert_64 : decode cX4_insert 64 = .ok (.iload_n 2, 1) := by decide +kernel
theorem dX4_insert_65 : decode cX4_insert 65 = .ok (.iastore, 1) := by decide +kernel
theorem dX4_insert_66 : decode cX4_insert 66 = .ok (.aload_n 0, 1) := by decide +kernel
theorem dX4_insert_67 : decode cX4_insert 67 = .ok (.dup, 1) := by decide +kernel
theorem dX4_insert_68 : decode cX4_insert 68 = .ok (.getfield 15, 3) := by decide +kernel
theorem dX4_insert_71 : decode cX4_insert 71 = .ok (.iconst 1, 1) := by decide +kernel
theorem dX4_insert_72 : decode cX4_insert 72 = .ok (.iadd, 1) := by decide +kernel
theorem dX4_insert_73 : decode cX4_insert 73 = .ok (.putfield 15, 3) := by decide +kernel
theorem dX4_insert_76 : decode cX4_insert 76 = .ok (.return_, 1) := by decide +kernel
theorem dX4_first_0 : decode cX4_first 0 = .ok (.iconst 0, 1) := by decide +kernel
theorem dX4_first_1 : decode cX4_first 1 = .ok (.istore_n 2, 1) := by decide +kernel
theorem dX4_first_2 : decode cX4_first 2 = .ok (.iconst 0, 1) := by decide +kernel
theorem dX4_first_3 : decode cX4_first 3 = .ok (.istore_n 3, 1) := by decide +kernel
theorem dX4_first_4 : decode cX4_first 4 = .ok (.iload_n 3, 1) := by decide +kernel
theorem dX4_first_5 : decode cX4_first 5 = .ok (.iload_n 1, 1) := by decide +kernel
theorem dX4_first_6 : decode cX4_first 6 = .ok (.if_icmp .ge 28, 3) := by decide +kernel
theorem dX4_first_9 : decode cX4_first 9 = .ok (.iload_n 3, 1) := by decide +kernel
theorem dX4_first_10 : decode cX4_first 10 = .ok (.aload_n 0, 1) := by decide +kernel
theorem dX4_first_11 : decode cX4_first 11 = .ok (.getfield 15, 3) := by decide +kernel
theorem dX4_first_14 : decode cX4_first 14 = .ok (.if_icmp .ge 20, 3) := by decide +kernel
theorem dX4_first_17 : decode cX4_first 17 = .ok (.iload_n 2, 1) := by decide +kernel
theorem dX4_first_18 : decode cX4_first 18 = .ok (.iconst 1, 1) := by decide +kernel
theorem dX4_first_19 : decode cX4_first 19 = .ok (.aload_n 0, 1) := by decide +kernel
theorem dX4_first_20 : decode cX4_first 20 = .ok (.getfield 9, 3) := by decide +kernel
theorem dX4_first_23 : decode cX4_first 23 = .ok (.iload_n 3, 1) := by decide +kernel
theorem dX4_first_24 : decode cX4_first 24 = .ok (.iaload, 1) := by decide +kernel
theorem dX4_first_25 : decode cX4_first 25 = .ok (.ishl, 1) := by decide +kernel
theorem dX4_first_26 : decode cX4_first 26 = .ok (.ior, 1) := by decide +kernel
theorem dX4_first_27 : decode cX4_first 27 = .ok (.istore_n 2, 1) := by decide +kernel
theorem dX4_first_28 : decode cX4_first 28 = .ok (.iinc 3 1, 3) := by decide +kernel
theorem dX4_first_31 : decode cX4_first 31 = .ok (.goto (-27), 3) := by decide +kernel
theorem dX4_first_34 : decode cX4_first 34 = .ok (.iload_n 2, 1) := by decide +kernel
theorem dX4_first_35 : decode cX4_first 35 = .ok (.ireturn, 1) := by decide +kernel
theorem dX5_init_0 : decode cX5_init 0 = .ok (.aload_n 0, 1) := by decide +kernel
theorem dX5_init_1 : decode cX5_init 1 = .ok (.invokespecial 1, 3) := by decide +kernel
theorem dX5_init_4 : decode cX5_init 4 = .ok (.aload_n 0, 1) := by decide +kernel
theorem dX5_init_5 : decode cX5_init 5 = .ok (.sipush 160, 3) := by decide +kernel
theorem dX5_init_8 : decode cX5_init 8 = .ok (.newarray .char, 2) := by decide +kernel
theorem dX5_init_10 : decode cX5_init 10 = .ok (.putfield 9, 3) := by decide +kernel
theorem dX5_init_13 : decode cX5_init 13 = .ok (.return_, 1) := by decide +kernel
theorem dX5_add_0 : decode cX5_add 0 = .ok (.aload_n 0, 1) := by decide +kernel
theorem dX5_add_1 : decode cX5_add 1 = .ok (.getfield 13, 3) := by decide +kernel
theorem dX5_add_4 : decode cX5_add 4 = .ok (.sipush 160, 3) := by decide +kernel
theorem dX5_add_7 : decode cX5_add 7 = .ok (.if_icmp .lt 5, 3) := by decide +kernel
theorem dX5_add_10 : decode cX5_add 10 = .ok (.iconst 0, 1) := by decide +kernel
theorem dX5_add_11 : decode cX5_add 11 = .ok (.ireturn, 1) := by decide +kernel
theorem dX5_add_12 : decode cX5_add 12 = .ok (.aload_n 0, 1) := by decide +kernel
theorem dX5_add_13 : decode cX5_add 13 = .ok (.getfield 9, 3) := by decide +kernel
theorem dX5_add_16 : decode cX5_add 16 = .ok (.aload_n 0, 1) := by decide +kernel
theorem dX5_add_17 : decode cX5_add 17 = .ok (.getfield 13, 3) := by decide +kernel
theorem dX5_add_20 : decode cX5_add 20 = .ok (.iload_n 1, 1) := by decide +kernel
theorem dX5_add_21 : decode cX5_add 21 = .ok (.i2c, 1) := by decide +kernel
theorem dX5_add_22 : decode cX5_add 22 = .ok (.castore, 1) := by decide +kernel
theorem dX5_add_23 : decode cX5_add 23 = .ok (.aload_n 0, 1) := by decide +kernel
theorem dX5_add_24 : decode cX5_add 24 = .ok (.dup, 1) := by decide +kernel
theorem dX5_add_25 : decode cX5_add 25 = .ok (.getfield 13, 3) := by decide +kernel
theorem dX5_add_28 : decode cX5_add 28 = .ok (.iconst 1, 1) := by decide +kernel
theorem dX5_add_29 : decode cX5_add 29 = .ok (.iadd, 1) := by decide +kernel
theorem dX5_add_30 : decode cX5_add 30 = .ok (.putfield 13, 3) := by decide +kernel
theorem dX5_add_33 : decode cX5_add 33 = .ok (.iconst 1, 1) := by decide +kernel
theorem dX5_add_34 : decode cX5_add 34 = .ok (.ireturn, 1) := by decide +kernel
theorem dX5_at_0 : decode cX5_at 0 = .ok (.iload_n 1, 1) := by decide +kernel
theorem dX5_at_1 : decode cX5_at 1 = .ok (.ifCond .lt 20, 3) := by decide +kernel
theorem dX5_at_4 : decode cX5_at 4 = .ok (.iload_n 1, 1) := by decide +kernel
theorem dX5_at_5 : decode cX5_at 5 = .ok (.aload_n 0, 1) := by decide +kernel
theorem dX5_at_6 : decode cX5_at 6 = .ok (.getfield 13, 3) := by decide +kernel
theorem dX5_at_9 : decode cX5_at 9 = .ok (.if_icmp .ge 12, 3) := by decide +kernel
theorem dX5_at_12 : decode cX5_at 12 = .ok (.aload_n 0, 1) := by decide +kernel
theorem dX5_at_13 : decode cX5_at 13 = .ok (.getfield 9, 3) := by decide +kernel
theorem dX5_at_16 : decode cX5_at 16 = .ok (.iload_n 1, 1) := by decide +kernel
theorem dX5_at_17 : decode cX5_at 17 = .ok (.caload, 1) := by decide +kernel
theorem dX5_at_18 : decode cX5_at 18 = .ok (.goto 5, 3) := by decide +kernel
theorem dX5_at_21 : decode cX5_at 21 = .ok (.bipush 32, 2) := by decide +kernel
theorem dX5_at_23 : decode cX5_at 23 = .ok (.ireturn, 1) := by decide +kernel
theorem dX6_init_0 : decode cX6_init 0 = .ok (.aload_n 0, 1) := by decide +kernel
theorem dX6_init_1 : decode cX6_init 1 = .ok (.invokespecial 3, 3) := by decide +kernel
theorem dX6_init_4 : decode cX6_init 4 = .ok (.aload_n 0, 1) := by decide +kernel
theorem dX6_init_5 : decode cX6_init 5 = .ok (.bipush 6, 2) := by decide +kernel
theorem dX6_init_7 : decode cX6_init 7 = .ok (.newarray .int, 2) := by decide +kernel
theorem dX6_init_9 : decode cX6_init 9 = .ok (.putfield 9, 3) := by decide +kernel
theorem dX6_init_12 : decode cX6_init 12 = .ok (.aload_n 0, 1) := by decide +kernel
theorem dX6_init_13 : decode cX6_init 13 = .ok (.bipush 6, 2) := by decide +kernel
theorem dX6_init_15 : decode cX6_init 15 = .ok (.newarray .boolean, 2) := by decide +kernel
theorem dX6_init_17 : decode cX6_init 17 = .ok (.putfield 15, 3) := by decide +kernel
theorem dX6_init_20 : decode cX6_init 20 = .ok (.return_, 1) := by decide +kernel
theorem dX6_add_0 : decode cX6_add 0 = .ok (.aload_n 0, 1) := by decide +kernel
theorem dX6_add_1 : decode cX6_add 1 = .ok (.getfield 19, 3) := by decide +kernel
theorem dX6_add_4 : decode cX6_add 4 = .ok (.bipush 6, 2) := by decide +kernel
theorem dX6_add_6 : decode cX6_add 6 = .ok (.if_icmp .lt 5, 3) := by decide +kernel
theorem dX6_add_9 : decode cX6_add 9 = .ok (.iconst 0, 1) := by decide +kernel
theorem dX6_add_10 : decode cX6_add 10 = .ok (.ireturn, 1) := by decide +kernel
theorem dX6_add_11 : decode cX6_add 11 = .ok (.aload_n 0, 1) := by decide +kernel
theorem dX6_add_12 : decode cX6_add 12 = .ok (.getfield 9, 3) := by decide +kernel
theorem dX6_add_15 : decode cX6_add 15 = .ok (.aload_n 0, 1) := by decide +kernel
theorem dX6_add_16 : decode cX6_add 16 = .ok (.getfield 19, 3) := by decide +kernel
theorem dX6_add_19 : decode cX6_add 19 = .ok (.iload_n 1, 1) := by decide +kernel
theorem dX6_add_20 : decode cX6_add 20 = .ok (.iastore, 1) := by decide +kernel
theorem dX6_add_21 : decode cX6_add 21 = .ok (.aload_n 0, 1) := by decide +kernel
theorem dX6_add_22 : decode cX6_add 22 = .ok (.getfield 15, 3) := by decide +kernel
theorem dX6_add_25 : decode cX6_add 25 = .ok (.aload_n 0, 1) := by decide +kernel
theorem dX6_add_26 : decode cX6_add 26 = .ok (.getfield 19, 3) := by decide +kernel
theorem dX6_add_29 : decode cX6_add 29 = .ok (.iload_n 2, 1) := by decide +kernel
theorem dX6_add_30 : decode cX6_add 30 = .ok (.bastore, 1) := by decide +kernel
theorem dX6_add_31 : decode cX6_add 31 = .ok (.aload_n 0, 1) := by decide +kernel
theorem dX6_add_32 : decode cX6_add 32 = .ok (.dup, 1) := by decide +kernel
theorem dX6_add_33 : decode cX6_add 33 = .ok (.getfield 19, 3) := by decide +kernel
theorem dX6_add_36 : decode cX6_add 36 = .ok (.iconst 1, 1) := by decide +kernel
theorem dX6_add_37 : decode cX6_add 37 = .ok (.iadd, 1) := by decide +kernel
theorem dX6_add_38 : decode cX6_add 38 = .ok (.putfield 19, 3) := by decide +kernel
theorem dX6_add_41 : decode cX6_add 41 = .ok (.iconst 1, 1) := by decide +kernel
theorem dX6_add_42 : decode cX6_add 42 = .ok (.ireturn, 1) := by decide +kernel
set_option maxRecDepth 20000 in
theorem ggX6_fits_X2_carries : GoodIn wsX6_fits wsX2_carries := goodIn_r _ [8, 9, 10, 11, 7, 12, 13, 14, 15, 16, 17, 18, 19, 20, 21, 22, 23, 24, 25, 26, 30, 31, 32, 33, 34, 35, 36, 37] (by decide +kernel) (by decide +kernel)
set_option maxRecDepth 20000 in
theorem gX6_fits_X2_carries : GoodIn wsX6_fits (wsV RX6 23 RX2 yX2_carries wsX2_carries) := goodIn_app (goodIn_of _ (by decide +kernel)) ggX6_fits_X2_carries
theorem dX6_fits_0 : decode cX6_fits 0 = .ok (.iconst 0, 1) := by decide +kernel
theorem dX6_fits_1 : decode cX6_fits 1 = .ok (.istore_n 2, 1) := by decide +kernel
theorem dX6_fits_2 : decode cX6_fits 2 = .ok (.iload_n 2, 1) := by decide +kernel
theorem dX6_fits_3 : decode cX6_fits 3 = .ok (.aload_n 0, 1) := by decide +kernel
theorem dX6_fits_4 : decode cX6_fits 4 = .ok (.getfield 19, 3) := by decide +kernel
theorem dX6_fits_7 : decode cX6_fits 7 = .ok (.if_icmp .ge 30, 3) := by decide +kernel
theorem dX6_fits_10 : decode cX6_fits 10 = .ok (.aload_n 1, 1) := by decide +kernel
theorem dX6_fits_11 : decode cX6_fits 11 = .ok (.aload_n 0, 1) := by decide +kernel
theorem dX6_fits_12 : decode cX6_fits 12 = .ok (.getfield 9, 3) := by decide +kernel
theorem dX6_fits_15 : decode cX6_fits 15 = .ok (.iload_n 2, 1) := by decide +kernel
theorem dX6_fits_16 : decode cX6_fits 16 = .ok (.iaload, 1) := by decide +kernel
theorem dX6_fits_17 : decode cX6_fits 17 = .ok (.invokevirtual 23, 3) := by decide +kernel
theorem dX6_fits_20 : decode cX6_fits 20 = .ok (.aload_n 0, 1) := by decide +kernel
theorem dX6_fits_21 : decode cX6_fits 21 = .ok (.getfield 15, 3) := by decide +kernel
theorem dX6_fits_24 : decode cX6_fits 24 = .ok (.iload_n 2, 1) := by decide +kernel
theorem dX6_fits_25 : decode cX6_fits 25 = .ok (.baload, 1) := by decide +kernel
theorem dX6_fits_26 : decode cX6_fits 26 = .ok (.if_icmp .eq 5, 3) := by decide +kernel
theorem dX6_fits_29 : decode cX6_fits 29 = .ok (.iconst 0, 1) := by decide +kernel
theorem dX6_fits_30 : decode cX6_fits 30 = .ok (.ireturn, 1) := by decide +kernel
theorem dX6_fits_31 : decode cX6_fits 31 = .ok (.iinc 2 1, 3) := by decide +kernel
theorem dX6_fits_34 : decode cX6_fits 34 = .ok (.goto (-32), 3) := by decide +kernel
theorem dX6_fits_37 : decode cX6_fits 37 = .ok (.iconst 1, 1) := by decide +kernel
theorem dX6_fits_38 : decode cX6_fits 38 = .ok (.ireturn, 1) := by decide +kernel
