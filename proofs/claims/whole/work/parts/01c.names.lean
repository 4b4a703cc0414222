set_option maxRecDepth 20000 in
theorem gX4_doneOn_X2_tearOut : GoodIn wsX4_doneOn (wsV RX4 91 RX2 yX2_tearOut wsX2_tearOut) := goodIn_app (goodIn_of _ (by decide +kernel)) ggX4_doneOn_X2_tearOut
set_option maxRecDepth 20000 in
theorem ggX4_doneOn_X2_reverse : GoodIn wsX4_doneOn wsX2_reverse := goodIn_r _ [85, 21, 86, 87, 88, 89, 7, 90, 78, 79, 80, 81, 47, 52, 53, 54, 55, 101, 102, 103, 104, 105, 106, 107, 108] (by decide +kernel) (by decide +kernel)
set_option maxRecDepth 20000 in
theorem gX4_doneOn_X2_reverse : GoodIn wsX4_doneOn (wsV RX4 94 RX2 yX2_reverse wsX2_reverse) := goodIn_app (goodIn_of _ (by decide +kernel)) ggX4_doneOn_X2_reverse
theorem dX4_doneOn_0 : decode cX4_doneOn 0 = .ok (.aload_n 0, 1) := by decide +kernel
theorem dX4_doneOn_1 : decode cX4_doneOn 1 = .ok (.getfield 48, 3) := by decide +kernel
theorem dX4_doneOn_4 : decode cX4_doneOn 4 = .ok (.lookupswitch 88 #[(99, 44), (107, 66), (110, 53), (120, 79)], 44) := by decide +kernel
theorem dX4_doneOn_48 : decode cX4_doneOn 48 = .ok (.aload_n 1, 1) := by decide +kernel
theorem dX4_doneOn_49 : decode cX4_doneOn 49 = .ok (.aload_n 0, 1) := by decide +kernel
theorem dX4_doneOn_50 : decode cX4_doneOn 50 = .ok (.getfield 65, 3) := by decide +kernel
theorem dX4_doneOn_53 : decode cX4_doneOn 53 = .ok (.invokevirtual 78, 3) := by decide +kernel
theorem dX4_doneOn_56 : decode cX4_doneOn 56 = .ok (.ireturn, 1) := by decide +kernel
theorem dX4_doneOn_57 : decode cX4_doneOn 57 = .ok (.aload_n 1, 1) := by decide +kernel
theorem dX4_doneOn_58 : decode cX4_doneOn 58 = .ok (.aload_n 0, 1) := by decide +kernel
theorem dX4_doneOn_59 : decode cX4_doneOn 59 = .ok (.getfield 65, 3) := by decide +kernel
theorem dX4_doneOn_62 : decode cX4_doneOn 62 = .ok (.aload_n 0, 1) := by decide +kernel
theorem dX4_doneOn_63 : decode cX4_doneOn 63 = .ok (.getfield 72, 3) := by decide +kernel
theorem dX4_doneOn_66 : decode cX4_doneOn 66 = .ok (.invokevirtual 84, 3) := by decide +kernel
theorem dX4_doneOn_69 : decode cX4_doneOn 69 = .ok (.ireturn, 1) := by decide +kernel
theorem dX4_doneOn_70 : decode cX4_doneOn 70 = .ok (.aload_n 1, 1) := by decide +kernel
theorem dX4_doneOn_71 : decode cX4_doneOn 71 = .ok (.aload_n 0, 1) := by decide +kernel
theorem dX4_doneOn_72 : decode cX4_doneOn 72 = .ok (.getfield 65, 3) := by decide +kernel
theorem dX4_doneOn_75 : decode cX4_doneOn 75 = .ok (.aload_n 0, 1) := by decide +kernel
theorem dX4_doneOn_76 : decode cX4_doneOn 76 = .ok (.getfield 72, 3) := by decide +kernel
theorem dX4_doneOn_79 : decode cX4_doneOn 79 = .ok (.invokevirtual 88, 3) := by decide +kernel
theorem dX4_doneOn_82 : decode cX4_doneOn 82 = .ok (.ireturn, 1) := by decide +kernel
theorem dX4_doneOn_83 : decode cX4_doneOn 83 = .ok (.aload_n 1, 1) := by decide +kernel
theorem dX4_doneOn_84 : decode cX4_doneOn 84 = .ok (.aload_n 0, 1) := by decide +kernel
theorem dX4_doneOn_85 : decode cX4_doneOn 85 = .ok (.getfield 65, 3) := by decide +kernel
theorem dX4_doneOn_88 : decode cX4_doneOn 88 = .ok (.invokevirtual 91, 3) := by decide +kernel
theorem dX4_doneOn_91 : decode cX4_doneOn 91 = .ok (.ireturn, 1) := by decide +kernel
theorem dX4_doneOn_92 : decode cX4_doneOn 92 = .ok (.aload_n 1, 1) := by decide +kernel
theorem dX4_doneOn_93 : decode cX4_doneOn 93 = .ok (.invokevirtual 94, 3) := by decide +kernel
theorem dX4_doneOn_96 : decode cX4_doneOn 96 = .ok (.ireturn, 1) := by decide +kernel
theorem dX5_init_0 : decode cX5_init 0 = .ok (.aload_n 0, 1) := by decide +kernel
theorem dX5_init_1 : decode cX5_init 1 = .ok (.invokespecial 3, 3) := by decide +kernel
theorem dX5_init_4 : decode cX5_init 4 = .ok (.aload_n 0, 1) := by decide +kernel
theorem dX5_init_5 : decode cX5_init 5 = .ok (.aload_n 1, 1) := by decide +kernel
theorem dX5_init_6 : decode cX5_init 6 = .ok (.putfield 9, 3) := by decide +kernel
theorem dX5_init_9 : decode cX5_init 9 = .ok (.return_, 1) := by decide +kernel
set_option maxRecDepth 20000 in
theorem ggX5_beginsAt_X2_soundsAt : GoodIn wsX5_beginsAt wsX2_soundsAt := goodIn_r _ [6, 7, 8, 9, 5, 10, 11, 12, 13, 14, 15, 17, 18, 19, 20, 21, 22, 23, 24] (by decide +kernel) (by decide +kernel)
set_option maxRecDepth 20000 in
theorem gX5_beginsAt_X2_soundsAt : GoodIn wsX5_beginsAt (wsV RX5 15 RX2 yX2_soundsAt wsX2_soundsAt) := goodIn_app (goodIn_of _ (by decide +kernel)) ggX5_beginsAt_X2_soundsAt
theorem dX5_beginsAt_0 : decode cX5_beginsAt 0 = .ok (.aload_n 0, 1) := by decide +kernel
theorem dX5_beginsAt_1 : decode cX5_beginsAt 1 = .ok (.getfield 9, 3) := by decide +kernel
theorem dX5_beginsAt_4 : decode cX5_beginsAt 4 = .ok (.iload_n 1, 1) := by decide +kernel
theorem dX5_beginsAt_5 : decode cX5_beginsAt 5 = .ok (.iload_n 2, 1) := by decide +kernel
theorem dX5_beginsAt_6 : decode cX5_beginsAt 6 = .ok (.invokevirtual 15, 3) := by decide +kernel
theorem dX5_beginsAt_9 : decode cX5_beginsAt 9 = .ok (.ifCond .eq 21, 3) := by decide +kernel
theorem dX5_beginsAt_12 : decode cX5_beginsAt 12 = .ok (.aload_n 0, 1) := by decide +kernel
theorem dX5_beginsAt_13 : decode cX5_beginsAt 13 = .ok (.getfield 9, 3) := by decide +kernel
theorem dX5_beginsAt_16 : decode cX5_beginsAt 16 = .ok (.iload_n 1, 1) := by decide +kernel
theorem dX5_beginsAt_17 : decode cX5_beginsAt 17 = .ok (.iconst 1, 1) := by decide +kernel
theorem dX5_beginsAt_18 : decode cX5_beginsAt 18 = .ok (.isub, 1) := by decide +kernel
theorem dX5_beginsAt_19 : decode cX5_beginsAt 19 = .ok (.iload_n 2, 1) := by decide +kernel
theorem dX5_beginsAt_20 : decode cX5_beginsAt 20 = .ok (.invokevirtual 15, 3) := by decide +kernel
theorem dX5_beginsAt_23 : decode cX5_beginsAt 23 = .ok (.ifCond .ne 7, 3) := by decide +kernel
theorem dX5_beginsAt_26 : decode cX5_beginsAt 26 = .ok (.iconst 1, 1) := by decide +kernel
theorem dX5_beginsAt_27 : decode cX5_beginsAt 27 = .ok (.goto 4, 3) := by decide +kernel
theorem dX5_beginsAt_30 : decode cX5_beginsAt 30 = .ok (.iconst 0, 1) := by decide +kernel
theorem dX5_beginsAt_31 : decode cX5_beginsAt 31 = .ok (.ireturn, 1) := by decide +kernel
set_option maxRecDepth 20000 in
theorem ggX5_beginningAt_X2_holesAt : GoodIn wsX5_beginningAt wsX2_holesAt := goodIn_r _ [6, 7, 8, 17, 18, 19, 20, 21, 22, 23, 24] (by decide +kernel) (by decide +kernel)
set_option maxRecDepth 20000 in
theorem gX5_beginningAt_X2_holesAt : GoodIn wsX5_beginningAt (wsV RX5 21 RX2 yX2_holesAt wsX2_holesAt) := goodIn_app (goodIn_of _ (by decide +kernel)) ggX5_beginningAt_X2_holesAt
set_option maxRecDepth 20000 in
theorem ggX5_beginningAt_J6_bitCount_0f7a4 : GoodIn wsX5_beginningAt wsJ6_bitCount_0f7a4 := goodIn_r _ [12, 13, 14, 15] (by decide +kernel) (by decide +kernel)
set_option maxRecDepth 20000 in
theorem gX5_beginningAt_J6_bitCount_0f7a4 : GoodIn wsX5_beginningAt (va_wsS RX5 25 yJ6_bitCount_0f7a4 wsJ6_bitCount_0f7a4) := goodIn_app (goodIn_of _ (by decide +kernel)) ggX5_beginningAt_J6_bitCount_0f7a4
theorem dX5_beginningAt_0 : decode cX5_beginningAt 0 = .ok (.aload_n 0, 1) := by decide +kernel
theorem dX5_beginningAt_1 : decode cX5_beginningAt 1 = .ok (.getfield 9, 3) := by decide +kernel
theorem dX5_beginningAt_4 : decode cX5_beginningAt 4 = .ok (.iload_n 1, 1) := by decide +kernel
theorem dX5_beginningAt_5 : decode cX5_beginningAt 5 = .ok (.invokevirtual 21, 3) := by decide +kernel
theorem dX5_beginningAt_8 : decode cX5_beginningAt 8 = .ok (.aload_n 0, 1) := by decide +kernel
theorem dX5_beginningAt_9 : decode cX5_beginningAt 9 = .ok (.getfield 9, 3) := by decide +kernel
theorem dX5_beginningAt_12 : decode cX5_beginningAt 12 = .ok (.iload_n 1, 1) := by decide +kernel
theorem dX5_beginningAt_13 : decode cX5_beginningAt 13 = .ok (.iconst 1, 1) := by decide +kernel
theorem dX5_beginningAt_14 : decode cX5_beginningAt 14 = .ok (.isub, 1) := by decide +kernel
theorem dX5_beginningAt_15 : decode cX5_beginningAt 15 = .ok (.invokevirtual 21, 3) := by decide +kernel
theorem dX5_beginningAt_18 : decode cX5_beginningAt 18 = .ok (.iconst (-1), 1) := by decide +kernel
theorem dX5_beginningAt_19 : decode cX5_beginningAt 19 = .ok (.ixor, 1) := by decide +kernel
theorem dX5_beginningAt_20 : decode cX5_beginningAt 20 = .ok (.iand, 1) := by decide +kernel
theorem dX5_beginningAt_21 : decode cX5_beginningAt 21 = .ok (.invokestatic 25, 3) := by decide +kernel
theorem dX5_beginningAt_24 : decode cX5_beginningAt 24 = .ok (.ireturn, 1) := by decide +kernel
set_option maxRecDepth 20000 in
theorem ggX5_ofThread_X5_beginsAt : GoodIn wsX5_ofThread wsX5_beginsAt := goodIn_r _ [7, 1, 8, 9, 10, 11, 12, 13, 14, 15, 16, 17, 18, 19, 20, 21, 22, 23, 24, 25, 26, 27, 28, 29, 30] (by decide +kernel) (by decide +kernel)
set_option maxRecDepth 20000 in
theorem gX5_ofThread_X5_beginsAt : GoodIn wsX5_ofThread (wsV RX5 34 RX5 yX5_beginsAt wsX5_beginsAt) := goodIn_app (goodIn_of _ (by decide +kernel)) ggX5_ofThread_X5_beginsAt
theorem dX5_ofThread_0 : decode cX5_ofThread 0 = .ok (.iconst 0, 1) := by decide +kernel
theorem dX5_ofThread_1 : decode cX5_ofThread 1 = .ok (.istore_n 2, 1) := by decide +kernel
theorem dX5_ofThread_2 : decode cX5_ofThread 2 = .ok (.iconst 0, 1) := by decide +kernel
theorem dX5_ofThread_3 : decode cX5_ofThread 3 = .ok (.istore_n 3, 1) := by decide +kernel
theorem dX5_ofThread_4 : decode cX5_ofThread 4 = .ok (.iload_n 3, 1) := by decide +kernel
theorem dX5_ofThread_5 : decode cX5_ofThread 5 = .ok (.aload_n 0, 1) := by decide +kernel
theorem dX5_ofThread_6 : decode cX5_ofThread 6 = .ok (.getfield 9, 3) := by decide +kernel
theorem dX5_ofThread_9 : decode cX5_ofThread 9 = .ok (.getfield 30, 3) := by decide +kernel
theorem dX5_ofThread_12 : decode cX5_ofThread 12 = .ok (.if_icmp .ge 21, 3) := by decide +kernel
theorem dX5_ofThread_15 : decode cX5_ofThread 15 = .ok (.aload_n 0, 1) := by decide +kernel
theorem dX5_ofThread_16 : decode cX5_ofThread 16 = .ok (.iload_n 3, 1) := by decide +kernel
theorem dX5_ofThread_17 : decode cX5_ofThread 17 = .ok (.iload_n 1, 1) := by decide +kernel
theorem dX5_ofThread_18 : decode cX5_ofThread 18 = .ok (.invokevirtual 34, 3) := by decide +kernel
theorem dX5_ofThread_21 : decode cX5_ofThread 21 = .ok (.ifCond .eq 6, 3) := by decide +kernel
theorem dX5_ofThread_24 : decode cX5_ofThread 24 = .ok (.iinc 2 1, 3) := by decide +kernel
theorem dX5_ofThread_27 : decode cX5_ofThread 27 = .ok (.iinc 3 1, 3) := by decide +kernel
theorem dX5_ofThread_30 : decode cX5_ofThread 30 = .ok (.goto (-26), 3) := by decide +kernel
theorem dX5_ofThread_33 : decode cX5_ofThread 33 = .ok (.iload_n 2, 1) := by decide +kernel
theorem dX5_ofThread_34 : decode cX5_ofThread 34 = .ok (.ireturn, 1) := by decide +kernel
set_option maxRecDepth 20000 in
theorem ggX5_inAll_X5_beginningAt : GoodIn wsX5_inAll wsX5_beginningAt := goodIn_r _ [7, 1, 8, 9, 10, 11, 12, 13, 14, 15, 16, 17, 18, 19, 20, 21, 22, 23, 24, 25, 26, 27, 28, 29, 30] (by decide +kernel) (by decide +kernel)
set_option maxRecDepth 20000 in
theorem gX5_inAll_X5_beginningAt : GoodIn wsX5_inAll (wsV RX5 37 RX5 yX5_beginningAt wsX5_beginningAt) := goodIn_app (goodIn_of _ (by decide +kernel)) ggX5_inAll_X5_beginningAt
theorem dX5_inAll_0 : decode cX5_inAll 0 = .ok (.iconst 0, 1) := by decide +kernel
theorem dX5_inAll_1 : decode cX5_inAll 1 = .ok (.istore_n 1, 1) := by decide +kernel
theorem dX5_inAll_2 : decode cX5_inAll 2 = .ok (.iconst 0, 1) := by decide +kernel
theorem dX5_inAll_3 : decode cX5_inAll 3 = .ok (.istore_n 2, 1) := by decide +kernel
theorem dX5_inAll_4 : decode cX5_inAll 4 = .ok (.iload_n 2, 1) := by decide +kernel
theorem dX5_inAll_5 : decode cX5_inAll 5 = .ok (.aload_n 0, 1) := by decide +kernel
theorem dX5_inAll_6 : decode cX5_inAll 6 = .ok (.getfield 9, 3) := by decide +kernel
theorem dX5_inAll_9 : decode cX5_inAll 9 = .ok (.getfield 30, 3) := by decide +kernel
theorem dX5_inAll_12 : decode cX5_inAll 12 = .ok (.if_icmp .ge 17, 3) := by decide +kernel
theorem dX5_inAll_15 : decode cX5_inAll 15 = .ok (.iload_n 1, 1) := by decide +kernel
theorem dX5_inAll_16 : decode cX5_inAll 16 = .ok (.aload_n 0, 1) := by decide +kernel
theorem dX5_inAll_17 : decode cX5_inAll 17 = .ok (.iload_n 2, 1) := by decide +kernel
theorem dX5_inAll_18 : decode cX5_inAll 18 = .ok (.invokevirtual 37, 3) := by decide +kernel
theorem dX5_inAll_21 : decode cX5_inAll 21 = .ok (.iadd, 1) := by decide +kernel
theorem dX5_inAll_22 : decode cX5_inAll 22 = .ok (.istore_n 1, 1) := by decide +kernel
theorem dX5_inAll_23 : decode cX5_inAll 23 = .ok (.iinc 2 1, 3) := by decide +kernel
theorem dX5_inAll_26 : decode cX5_inAll 26 = .ok (.goto (-22), 3) := by decide +kernel
theorem dX5_inAll_29 : decode cX5_inAll 29 = .ok (.iload_n 1, 1) := by decide +kernel
theorem dX5_inAll_30 : decode cX5_inAll 30 = .ok (.ireturn, 1) := by decide +kernel
set_option maxRecDepth 20000 in
theorem ggX5_placeOf_X5_beginsAt : GoodIn wsX5_placeOf wsX5_beginsAt := goodIn_r _ [8, 1, 9, 10, 11, 12, 13, 14, 15, 16, 17, 18, 19, 20, 21, 22, 23, 24, 25, 26, 27, 28, 29, 30, 31] (by decide +kernel) (by decide +kernel)
set_option maxRecDepth 20000 in
theorem gX5_placeOf_X5_beginsAt : GoodIn wsX5_placeOf (wsV RX5 34 RX5 yX5_beginsAt wsX5_beginsAt) := goodIn_app (goodIn_of _ (by decide +kernel)) ggX5_placeOf_X5_beginsAt
theorem dX5_placeOf_0 : decode cX5_placeOf 0 = .ok (.iconst 0, 1) := by decide +kernel
theorem dX5_placeOf_1 : decode cX5_placeOf 1 = .ok (.istore_n 2, 1) := by decide +kernel
theorem dX5_placeOf_2 : decode cX5_placeOf 2 = .ok (.iconst 0, 1) := by decide +kernel
theorem dX5_placeOf_3 : decode cX5_placeOf 3 = .ok (.istore_n 3, 1) := by decide +kernel
theorem dX5_placeOf_4 : decode cX5_placeOf 4 = .ok (.iload_n 3, 1) := by decide +kernel
theorem dX5_placeOf_5 : decode cX5_placeOf 5 = .ok (.aload_n 0, 1) := by decide +kernel
theorem dX5_placeOf_6 : decode cX5_placeOf 6 = .ok (.getfield 9, 3) := by decide +kernel
theorem dX5_placeOf_9 : decode cX5_placeOf 9 = .ok (.getfield 30, 3) := by decide +kernel
theorem dX5_placeOf_12 : decode cX5_placeOf 12 = .ok (.bipush 8, 2) := by decide +kernel
theorem dX5_placeOf_14 : decode cX5_placeOf 14 = .ok (.imul, 1) := by decide +kernel
theorem dX5_placeOf_15 : decode cX5_placeOf 15 = .ok (.if_icmp .ge 34, 3) := by decide +kernel
theorem dX5_placeOf_18 : decode cX5_placeOf 18 = .ok (.aload_n 0, 1) := by decide +kernel
theorem dX5_placeOf_19 : decode cX5_placeOf 19 = .ok (.iload_n 3, 1) := by decide +kernel
theorem dX5_placeOf_20 : decode cX5_placeOf 20 = .ok (.bipush 8, 2) := by decide +kernel
theorem dX5_placeOf_22 : decode cX5_placeOf 22 = .ok (.idiv, 1) := by decide +kernel
theorem dX5_placeOf_23 : decode cX5_placeOf 23 = .ok (.iload_n 3, 1) := by decide +kernel
theorem dX5_placeOf_24 : decode cX5_placeOf 24 = .ok (.bipush 8, 2) := by decide +kernel
theorem dX5_placeOf_26 : decode cX5_placeOf 26 = .ok (.irem, 1) := by decide +kernel
theorem dX5_placeOf_27 : decode cX5_placeOf 27 = .ok (.invokevirtual 34, 3) := by decide +kernel
theorem dX5_placeOf_30 : decode cX5_placeOf 30 = .ok (.ifCond .eq 13, 3) := by decide +kernel
theorem dX5_placeOf_33 : decode cX5_placeOf 33 = .ok (.iload_n 2, 1) := by decide +kernel
theorem dX5_placeOf_34 : decode cX5_placeOf 34 = .ok (.iload_n 1, 1) := by decide +kernel
theorem dX5_placeOf_35 : decode cX5_placeOf 35 = .ok (.if_icmp .ne 5, 3) := by decide +kernel
theorem dX5_placeOf_38 : decode cX5_placeOf 38 = .ok (.iload_n 3, 1) := by decide +kernel
theorem dX5_placeOf_39 : decode cX5_placeOf 39 = .ok (.ireturn, 1) := by decide +kernel
theorem dX5_placeOf_40 : decode cX5_placeOf 40 = .ok (.iinc 2 1, 3) := by decide +kernel
theorem dX5_placeOf_43 : decode cX5_placeOf 43 = .ok (.iinc 3 1, 3) := by decide +kernel
theorem dX5_placeOf_46 : decode cX5_placeOf 46 = .ok (.goto (-42), 3) := by decide +kernel
theorem dX5_placeOf_49 : decode cX5_placeOf 49 = .ok (.ldc 40, 2) := by decide +kernel
theorem dX5_placeOf_51 : decode cX5_placeOf 51 = .ok (.ireturn, 1) := by decide +kernel
set_option maxRecDepth 20000 in
theorem ggX5_lengthFrom_X2_soundsAt : GoodIn wsX5_lengthFrom wsX2_soundsAt := goodIn_r _ [7, 8, 9, 10, 6, 11, 12, 13, 14, 15, 16, 18, 19, 20, 21, 22, 23, 24, 25] (by decide +kernel) (by decide +kernel)
set_option maxRecDepth 20000 in
theorem gX5_lengthFrom_X2_soundsAt : GoodIn wsX5_lengthFrom (wsV RX5 15 RX2 yX2_soundsAt wsX2_soundsAt) := goodIn_app (goodIn_of _ (by decide +kernel)) ggX5_lengthFrom_X2_soundsAt
theorem dX5_lengthFrom_0 : decode cX5_lengthFrom 0 = .ok (.iconst 0, 1) := by decide +kernel
theorem dX5_lengthFrom_1 : decode cX5_lengthFrom 1 = .ok (.istore_n 3, 1) := by decide +kernel
theorem dX5_lengthFrom_2 : decode cX5_lengthFrom 2 = .ok (.iload_n 1, 1) := by decide +kernel
theorem dX5_lengthFrom_3 : decode cX5_lengthFrom 3 = .ok (.istore 4, 2) := by decide +kernel
theorem dX5_lengthFrom_5 : decode cX5_lengthFrom 5 = .ok (.iload 4, 2) := by decide +kernel
theorem dX5_lengthFrom_7 : decode cX5_lengthFrom 7 = .ok (.aload_n 0, 1) := by decide +kernel
theorem dX5_lengthFrom_8 : decode cX5_lengthFrom 8 = .ok (.getfield 9, 3) := by decide +kernel
theorem dX5_lengthFrom_11 : decode cX5_lengthFrom 11 = .ok (.getfield 30, 3) := by decide +kernel
theorem dX5_lengthFrom_14 : decode cX5_lengthFrom 14 = .ok (.if_icmp .ge 25, 3) := by decide +kernel
theorem dX5_lengthFrom_17 : decode cX5_lengthFrom 17 = .ok (.aload_n 0, 1) := by decide +kernel
theorem dX5_lengthFrom_18 : decode cX5_lengthFrom 18 = .ok (.getfield 9, 3) := by decide +kernel
theorem dX5_lengthFrom_21 : decode cX5_lengthFrom 21 = .ok (.iload 4, 2) := by decide +kernel
theorem dX5_lengthFrom_23 : decode cX5_lengthFrom 23 = .ok (.iload_n 2, 1) := by decide +kernel
theorem dX5_lengthFrom_24 : decode cX5_lengthFrom 24 = .ok (.invokevirtual 15, 3) := by decide +kernel
theorem dX5_lengthFrom_27 : decode cX5_lengthFrom 27 = .ok (.ifCond .eq 12, 3) := by decide +kernel
theorem dX5_lengthFrom_30 : decode cX5_lengthFrom 30 = .ok (.iinc 3 1, 3) := by decide +kernel
theorem dX5_lengthFrom_33 : decode cX5_lengthFrom 33 = .ok (.iinc 4 1, 3) := by decide +kernel
theorem dX5_lengthFrom_36 : decode cX5_lengthFrom 36 = .ok (.goto (-31), 3) := by decide +kernel
theorem dX5_lengthFrom_39 : decode cX5_lengthFrom 39 = .ok (.iload_n 3, 1) := by decide +kernel
theorem dX5_lengthFrom_40 : decode cX5_lengthFrom 40 = .ok (.ireturn, 1) := by decide +kernel
set_option maxRecDepth 20000 in
theorem ggX5_inKey_X2_noteAt : GoodIn wsX5_inKey wsX2_noteAt := goodIn_r _ [6, 7, 32, 33, 34, 35, 36, 37, 38, 39] (by decide +kernel) (by decide +kernel)
set_option maxRecDepth 20000 in
theorem gX5_inKey_X2_noteAt : GoodIn wsX5_inKey (wsV RX5 41 RX2 yX2_noteAt wsX2_noteAt) := goodIn_app (goodIn_of _ (by decide +kernel)) ggX5_inKey_X2_noteAt
set_option maxRecDepth 20000 in
theorem ggX5_inKey_X6_isIn : GoodIn wsX5_inKey wsX6_isIn := goodIn_r _ [10] (by decide +kernel) (by decide +kernel)
set_option maxRecDepth 20000 in
theorem gX5_inKey_X6_isIn_n44 : GoodIn wsX5_inKey (wsX6_isIn) := ggX5_inKey_X6_isIn
set_option maxRecDepth 20000 in
theorem ggX5_inKey_X5_ofThread : GoodIn wsX5_inKey wsX5_ofThread := goodIn_r _ [15, 1, 16, 17, 18, 19, 14, 20, 21, 22, 23, 5, 24, 25, 26, 27, 28, 29, 30, 8, 9, 10, 31, 32, 33, 34, 35, 36, 37, 38, 39] (by decide +kernel) (by decide +kernel)
set_option maxRecDepth 20000 in
theorem gX5_inKey_X5_ofThread : GoodIn wsX5_inKey (wsV RX5 47 RX5 yX5_ofThread wsX5_ofThread) := goodIn_app (goodIn_of _ (by decide +kernel)) ggX5_inKey_X5_ofThread
theorem dX5_inKey_0 : decode cX5_inKey 0 = .ok (.iconst 0, 1) := by decide +kernel
theorem dX5_inKey_1 : decode cX5_inKey 1 = .ok (.istore_n 2, 1) := by decide +kernel
theorem dX5_inKey_2 : decode cX5_inKey 2 = .ok (.iconst 0, 1) := by decide +kernel
theorem dX5_inKey_3 : decode cX5_inKey 3 = .ok (.istore_n 3, 1) := by decide +kernel
theorem dX5_inKey_4 : decode cX5_inKey 4 = .ok (.iload_n 3, 1) := by decide +kernel
theorem dX5_inKey_5 : decode cX5_inKey 5 = .ok (.bipush 8, 2) := by decide +kernel
theorem dX5_inKey_7 : decode cX5_inKey 7 = .ok (.if_icmp .ge 46, 3) := by decide +kernel
theorem dX5_inKey_10 : decode cX5_inKey 10 = .ok (.aload_n 0, 1) := by decide +kernel
theorem dX5_inKey_11 : decode cX5_inKey 11 = .ok (.getfield 9, 3) := by decide +kernel
theorem dX5_inKey_14 : decode cX5_inKey 14 = .ok (.iload_n 3, 1) := by decide +kernel
theorem dX5_inKey_15 : decode cX5_inKey 15 = .ok (.invokevirtual 41, 3) := by decide +kernel
theorem dX5_inKey_18 : decode cX5_inKey 18 = .ok (.bipush 12, 2) := by decide +kernel
theorem dX5_inKey_20 : decode cX5_inKey 20 = .ok (.iadd, 1) := by decide +kernel
theorem dX5_inKey_21 : decode cX5_inKey 21 = .ok (.iload_n 1, 1) := by decide +kernel
theorem dX5_inKey_22 : decode cX5_inKey 22 = .ok (.isub, 1) := by decide +kernel
theorem dX5_inKey_23 : decode cX5_inKey 23 = .ok (.bipush 12, 2) := by decide +kernel
theorem dX5_inKey_25 : decode cX5_inKey 25 = .ok (.irem, 1) := by decide +kernel
theorem dX5_inKey_26 : decode cX5_inKey 26 = .ok (.istore 4, 2) := by decide +kernel
theorem dX5_inKey_28 : decode cX5_inKey 28 = .ok (.sipush 2741, 3) := by decide +kernel
theorem dX5_inKey_31 : decode cX5_inKey 31 = .ok (.iload 4, 2) := by decide +kernel
theorem dX5_inKey_33 : decode cX5_inKey 33 = .ok (.invokestatic 44, 3) := by decide +kernel
theorem dX5_inKey_36 : decode cX5_inKey 36 = .ok (.ifCond .eq 11, 3) := by decide +kernel
theorem dX5_inKey_39 : decode cX5_inKey 39 = .ok (.iload_n 2, 1) := by decide +kernel
theorem dX5_inKey_40 : decode cX5_inKey 40 = .ok (.aload_n 0, 1) := by decide +kernel
theorem dX5_inKey_41 : decode cX5_inKey 41 = .ok (.iload_n 3, 1) := by decide +kernel
theorem dX5_inKey_42 : decode cX5_inKey 42 = .ok (.invokevirtual 47, 3) := by decide +kernel
theorem dX5_inKey_45 : decode cX5_inKey 45 = .ok (.iadd, 1) := by decide +kernel
theorem dX5_inKey_46 : decode cX5_inKey 46 = .ok (.istore_n 2, 1) := by decide +kernel
theorem dX5_inKey_47 : decode cX5_inKey 47 = .ok (.iinc 3 1, 3) := by decide +kernel
theorem dX5_inKey_50 : decode cX5_inKey 50 = .ok (.goto (-46), 3) := by decide +kernel
theorem dX5_inKey_53 : decode cX5_inKey 53 = .ok (.iload_n 2, 1) := by decide +kernel
theorem dX5_inKey_54 : decode cX5_inKey 54 = .ok (.ireturn, 1) := by decide +kernel
set_option maxRecDepth 20000 in
theorem ggX6_init_X2_init : GoodIn wsX6_init wsX2_init := goodIn_r _ [31, 32, 2, 3, 33, 34, 35, 36, 37, 38, 39, 40, 41, 72, 73, 74, 75, 76, 77, 78, 79] (by decide +kernel) (by decide +kernel)
set_option maxRecDepth 20000 in
theorem gX6_init_X2_init : GoodIn wsX6_init (wsX2_init) := ggX6_init_X2_init
set_option maxRecDepth 20000 in
theorem ggX6_init_X1_init : GoodIn wsX6_init wsX1_init := goodIn_r _ [44, 45, 2, 3, 46, 47, 5, 6, 48, 49, 30, 31, 32, 33, 34, 35, 36, 37, 38, 39, 40, 41, 87, 88, 72, 73, 74, 75, 76, 77, 78, 79] (by decide +kernel) (by decide +kernel)
set_option maxRecDepth 20000 in
theorem gX6_init_X1_init : GoodIn wsX6_init (wsX1_init) := ggX6_init_X1_init
set_option maxRecDepth 20000 in
theorem ggX6_init_X3_init : GoodIn wsX6_init wsX3_init := goodIn_r _ [52, 53, 2, 3, 54, 89] (by decide +kernel) (by decide +kernel)
set_option maxRecDepth 20000 in
theorem gX6_init_X3_init : GoodIn wsX6_init (wsX3_init) := ggX6_init_X3_init
set_option maxRecDepth 20000 in
theorem ggX6_init_X5_init : GoodIn wsX6_init wsX5_init := goodIn_r _ [57, 58, 2, 3, 59, 90] (by decide +kernel) (by decide +kernel)
set_option maxRecDepth 20000 in
theorem gX6_init_X5_init : GoodIn wsX6_init (wsX5_init) := ggX6_init_X5_init
set_option maxRecDepth 20000 in
theorem ggX6_init_X0_init : GoodIn wsX6_init wsX0_init := goodIn_r _ [62, 63, 2, 3, 64, 91] (by decide +kernel) (by decide +kernel)
set_option maxRecDepth 20000 in
theorem gX6_init_X0_init : GoodIn wsX6_init (wsX0_init) := ggX6_init_X0_init
set_option maxRecDepth 20000 in
theorem ggX6_init_X4_init : GoodIn wsX6_init wsX4_init := goodIn_r _ [67, 68, 2, 3, 69, 70, 71, 92, 93, 94, 95, 96, 97, 98, 99, 100, 101] (by decide +kernel) (by decide +kernel)
set_option maxRecDepth 20000 in
theorem gX6_init_X4_init : GoodIn wsX6_init (wsX4_init) := ggX6_init_X4_init
theorem dX6_init_0 : decode cX6_init 0 = .ok (.aload_n 0, 1) := by decide +kernel
theorem dX6_init_1 : decode cX6_init 1 = .ok (.invokespecial 1, 3) := by decide +kernel
theorem dX6_init_4 : decode cX6_init 4 = .ok (.aload_n 0, 1) := by decide +kernel
theorem dX6_init_5 : decode cX6_init 5 = .ok (.new 7, 3) := by decide +kernel
theorem dX6_init_8 : decode cX6_init 8 = .ok (.dup, 1) := by decide +kernel
theorem dX6_init_9 : decode cX6_init 9 = .ok (.invokespecial 9, 3) := by decide +kernel
theorem dX6_init_12 : decode cX6_init 12 = .ok (.putfield 10, 3) := by decide +kernel
theorem dX6_init_15 : decode cX6_init 15 = .ok (.aload_n 0, 1) := by decide +kernel
theorem dX6_init_16 : decode cX6_init 16 = .ok (.new 7, 3) := by decide +kernel
theorem dX6_init_19 : decode cX6_init 19 = .ok (.dup, 1) := by decide +kernel
theorem dX6_init_20 : decode cX6_init 20 = .ok (.invokespecial 9, 3) := by decide +kernel
theorem dX6_init_23 : decode cX6_init 23 = .ok (.putfield 16, 3) := by decide +kernel
theorem dX6_init_26 : decode cX6_init 26 = .ok (.aload_n 0, 1) := by decide +kernel
theorem dX6_init_27 : decode cX6_init 27 = .ok (.new 19, 3) := by decide +kernel
theorem dX6_init_30 : decode cX6_init 30 = .ok (.dup, 1) := by decide +kernel
theorem dX6_init_31 : decode cX6_init 31 = .ok (.invokespecial 21, 3) := by decide +kernel
theorem dX6_init_34 : decode cX6_init 34 = .ok (.putfield 22, 3) := by decide +kernel
theorem dX6_init_37 : decode cX6_init 37 = .ok (.aload_n 0, 1) := by decide +kernel
theorem dX6_init_38 : decode cX6_init 38 = .ok (.new 26, 3) := by decide +kernel
theorem dX6_init_41 : decode cX6_init 41 = .ok (.dup, 1) := by decide +kernel
theorem dX6_init_42 : decode cX6_init 42 = .ok (.aload_n 0, 1) := by decide +kernel
theorem dX6_init_43 : decode cX6_init 43 = .ok (.getfield 10, 3) := by decide +kernel
theorem dX6_init_46 : decode cX6_init 46 = .ok (.invokespecial 28, 3) := by decide +kernel
theorem dX6_init_49 : decode cX6_init 49 = .ok (.putfield 31, 3) := by decide +kernel
theorem dX6_init_52 : decode cX6_init 52 = .ok (.aload_n 0, 1) := by decide +kernel
theorem dX6_init_53 : decode cX6_init 53 = .ok (.new 35, 3) := by decide +kernel
theorem dX6_init_56 : decode cX6_init 56 = .ok (.dup, 1) := by decide +kernel
theorem dX6_init_57 : decode cX6_init 57 = .ok (.aload_n 0, 1) := by decide +kernel
theorem dX6_init_58 : decode cX6_init 58 = .ok (.getfield 10, 3) := by decide +kernel
theorem dX6_init_61 : decode cX6_init 61 = .ok (.invokespecial 37, 3) := by decide +kernel
theorem dX6_init_64 : decode cX6_init 64 = .ok (.putfield 38, 3) := by decide +kernel
theorem dX6_init_67 : decode cX6_init 67 = .ok (.aload_n 0, 1) := by decide +kernel
theorem dX6_init_68 : decode cX6_init 68 = .ok (.new 42, 3) := by decide +kernel
theorem dX6_init_71 : decode cX6_init 71 = .ok (.dup, 1) := by decide +kernel
theorem dX6_init_72 : decode cX6_init 72 = .ok (.aload_n 0, 1) := by decide +kernel
theorem dX6_init_73 : decode cX6_init 73 = .ok (.getfield 10, 3) := by decide +kernel
theorem dX6_init_76 : decode cX6_init 76 = .ok (.invokespecial 44, 3) := by decide +kernel
theorem dX6_init_79 : decode cX6_init 79 = .ok (.putfield 45, 3) := by decide +kernel
theorem dX6_init_82 : decode cX6_init 82 = .ok (.aload_n 0, 1) := by decide +kernel
theorem dX6_init_83 : decode cX6_init 83 = .ok (.new 49, 3) := by decide +kernel
theorem dX6_init_86 : decode cX6_init 86 = .ok (.dup, 1) := by decide +kernel
theorem dX6_init_87 : decode cX6_init 87 = .ok (.invokespecial 51, 3) := by decide +kernel
theorem dX6_init_90 : decode cX6_init 90 = .ok (.putfield 52, 3) := by decide +kernel
theorem dX6_init_93 : decode cX6_init 93 = .ok (.return_, 1) := by decide +kernel
set_option maxRecDepth 20000 in
theorem ggX6_note_X2_copyFrom : GoodIn wsX6_note wsX2_copyFrom := goodIn_r _ [7, 8, 9, 10, 11, 12, 13, 14, 15, 16, 17, 6, 18, 53, 54, 55, 56, 57, 58, 59, 60] (by decide +kernel) (by decide +kernel)
set_option maxRecDepth 20000 in
theorem gX6_note_X2_copyFrom : GoodIn wsX6_note (wsV RX6 56 RX2 yX2_copyFrom wsX2_copyFrom) := goodIn_app (goodIn_of _ (by decide +kernel)) ggX6_note_X2_copyFrom
set_option maxRecDepth 20000 in
theorem ggX6_note_X2_tune : GoodIn wsX6_note wsX2_tune := goodIn_r _ [22, 8, 23, 53, 54, 55, 56, 57, 58, 59, 60] (by decide +kernel) (by decide +kernel)
set_option maxRecDepth 20000 in
theorem gX6_note_X2_tune : GoodIn wsX6_note (wsV RX6 59 RX2 yX2_tune wsX2_tune) := goodIn_app (goodIn_of _ (by decide +kernel)) ggX6_note_X2_tune
set_option maxRecDepth 20000 in
theorem ggX6_note_X6_settle : GoodIn wsX6_note wsX6_settle := goodIn_r _ [28, 29, 2, 1, 30, 31, 32, 33, 34, 35, 36, 37, 38, 39, 40, 41, 42, 43, 44, 45, 4, 5, 6, 7, 8, 9, 10, 11, 12, 13, 14, 15, 16, 17, 18, 3, 46, 47, 48, 49, 50, 51, 52, 61, 62, 53, 54, 55, 56, 57, 58, 59, 60] (by decide +kernel) (by decide +kernel)
set_option maxRecDepth 20000 in
theorem gX6_note_X6_settle : GoodIn wsX6_note (wsV RX6 63 RX6 yX6_settle wsX6_settle) := goodIn_app (goodIn_of _ (by decide +kernel)) ggX6_note_X6_settle
theorem dX6_note_0 : decode cX6_note 0 = .ok (.aload_n 0, 1) := by decide +kernel
theorem dX6_note_1 : decode cX6_note 1 = .ok (.getfield 16, 3) := by decide +kernel
theorem dX6_note_4 : decode cX6_note 4 = .ok (.aload_n 0, 1) := by decide +kernel
theorem dX6_note_5 : decode cX6_note 5 = .ok (.getfield 10, 3) := by decide +kernel
theorem dX6_note_8 : decode cX6_note 8 = .ok (.invokevirtual 56, 3) := by decide +kernel
theorem dX6_note_11 : decode cX6_note 11 = .ok (.aload_n 0, 1) := by decide +kernel
theorem dX6_note_12 : decode cX6_note 12 = .ok (.aload_n 0, 1) := by decide +kernel
theorem dX6_note_13 : decode cX6_note 13 = .ok (.getfield 16, 3) := by decide +kernel
theorem dX6_note_16 : decode cX6_note 16 = .ok (.iload_n 1, 1) := by decide +kernel
theorem dX6_note_17 : decode cX6_note 17 = .ok (.iload_n 2, 1) := by decide +kernel
theorem dX6_note_18 : decode cX6_note 18 = .ok (.invokevirtual 59, 3) := by decide +kernel
theorem dX6_note_21 : decode cX6_note 21 = .ok (.invokevirtual 63, 3) := by decide +kernel
theorem dX6_note_24 : decode cX6_note 24 = .ok (.ireturn, 1) := by decide +kernel
set_option maxRecDepth 20000 in
theorem ggX6_colour_X2_copyFrom : GoodIn wsX6_colour wsX2_copyFrom := goodIn_r _ [7, 8, 9, 10, 11, 12, 13, 14, 15, 16, 17, 6, 18, 53, 54, 55, 56, 57, 58, 59, 60] (by decide +kernel) (by decide +kernel)
set_option maxRecDepth 20000 in
theorem gX6_colour_X2_copyFrom : GoodIn wsX6_colour (wsV RX6 56 RX2 yX2_copyFrom wsX2_copyFrom) := goodIn_app (goodIn_of _ (by decide +kernel)) ggX6_colour_X2_copyFrom
set_option maxRecDepth 20000 in
theorem ggX6_colour_X2_dye : GoodIn wsX6_colour wsX2_dye := goodIn_r _ [22, 9, 23, 53, 54, 55, 56, 57, 58, 59, 60] (by decide +kernel) (by decide +kernel)
set_option maxRecDepth 20000 in
theorem gX6_colour_X2_dye : GoodIn wsX6_colour (wsV RX6 67 RX2 yX2_dye wsX2_dye) := goodIn_app (goodIn_of _ (by decide +kernel)) ggX6_colour_X2_dye
set_option maxRecDepth 20000 in
theorem ggX6_colour_X6_settle : GoodIn wsX6_colour wsX6_settle := goodIn_r _ [28, 29, 2, 1, 30, 31, 32, 33, 34, 35, 36, 37, 38, 39, 40, 41, 42, 43, 44, 45, 4, 5, 6, 7, 8, 9, 10, 11, 12, 13, 14, 15, 16, 17, 18, 3, 46, 47, 48, 49, 50, 51, 52, 61, 62, 53, 54, 55, 56, 57, 58, 59, 60] (by decide +kernel) (by decide +kernel)
set_option maxRecDepth 20000 in
theorem gX6_colour_X6_settle : GoodIn wsX6_colour (wsV RX6 63 RX6 yX6_settle wsX6_settle) := goodIn_app (goodIn_of _ (by decide +kernel)) ggX6_colour_X6_settle
theorem dX6_colour_0 : decode cX6_colour 0 = .ok (.aload_n 0, 1) := by decide +kernel
theorem dX6_colour_1 : decode cX6_colour 1 = .ok (.getfield 16, 3) := by decide +kernel
theorem dX6_colour_4 : decode cX6_colour 4 = .ok (.aload_n 0, 1) := by decide +kernel
theorem dX6_colour_5 : decode cX6_colour 5 = .ok (.getfield 10, 3) := by decide +kernel
theorem dX6_colour_8 : decode cX6_colour 8 = .ok (.invokevirtual 56, 3) := by decide +kernel
theorem dX6_colour_11 : decode cX6_colour 11 = .ok (.aload_n 0, 1) := by decide +kernel
theorem dX6_colour_12 : decode cX6_colour 12 = .ok (.aload_n 0, 1) := by decide +kernel
theorem dX6_colour_13 : decode cX6_colour 13 = .ok (.getfield 16, 3) := by decide +kernel
theorem dX6_colour_16 : decode cX6_colour 16 = .ok (.iload_n 1, 1) := by decide +kernel
theorem dX6_colour_17 : decode cX6_colour 17 = .ok (.iload_n 2, 1) := by decide +kernel
theorem dX6_colour_18 : decode cX6_colour 18 = .ok (.invokevirtual 67, 3) := by decide +kernel
theorem dX6_colour_21 : decode cX6_colour 21 = .ok (.invokevirtual 63, 3) := by decide +kernel
theorem dX6_colour_24 : decode cX6_colour 24 = .ok (.ireturn, 1) := by decide +kernel
set_option maxRecDepth 20000 in
theorem ggX6_bring_X2_copyFrom : GoodIn wsX6_bring wsX2_copyFrom := goodIn_r _ [7, 8, 9, 10, 11, 12, 13, 14, 15, 16, 17, 6, 18, 97, 98, 99, 100, 101, 102, 103, 104] (by decide +kernel) (by decide +kernel)
set_option maxRecDepth 20000 in
theorem gX6_bring_X2_copyFrom : GoodIn wsX6_bring (wsV RX6 56 RX2 yX2_copyFrom wsX2_copyFrom) := goodIn_app (goodIn_of _ (by decide +kernel)) ggX6_bring_X2_copyFrom
set_option maxRecDepth 20000 in
theorem ggX6_bring_X2_offer : GoodIn wsX6_bring wsX2_offer := goodIn_r _ [22, 23, 24, 25, 6, 26, 27, 28, 14, 15, 29, 30, 31, 32, 12, 33, 34, 35, 36, 37, 38, 39, 40, 41, 42, 43, 44, 45, 46, 47, 11, 48, 49, 50, 51, 8, 52, 53, 54, 55, 10, 56, 57, 58, 59, 60, 61, 62, 63, 64, 65, 66, 67, 13, 97, 98, 99, 100, 101, 102, 103, 104] (by decide +kernel) (by decide +kernel)
set_option maxRecDepth 20000 in
theorem gX6_bring_X2_offer : GoodIn wsX6_bring (wsV RX6 70 RX2 yX2_offer wsX2_offer) := goodIn_app (goodIn_of _ (by decide +kernel)) ggX6_bring_X2_offer
set_option maxRecDepth 20000 in
theorem ggX6_bring_X6_settle : GoodIn wsX6_bring wsX6_settle := goodIn_r _ [72, 73, 2, 1, 74, 75, 76, 77, 78, 79, 80, 81, 82, 83, 84, 85, 86, 87, 88, 89, 4, 5, 6, 7, 8, 9, 10, 11, 12, 13, 14, 15, 16, 17, 18, 3, 90, 91, 92, 93, 94, 95, 96, 105, 106, 97, 98, 99, 100, 101, 102, 103, 104] (by decide +kernel) (by decide +kernel)
set_option maxRecDepth 20000 in
theorem gX6_bring_X6_settle : GoodIn wsX6_bring (wsV RX6 63 RX6 yX6_settle wsX6_settle) := goodIn_app (goodIn_of _ (by decide +kernel)) ggX6_bring_X6_settle
theorem dX6_bring_0 : decode cX6_bring 0 = .ok (.aload_n 0, 1) := by decide +kernel
theorem dX6_bring_1 : decode cX6_bring 1 = .ok (.getfield 16, 3) := by decide +kernel
theorem dX6_bring_4 : decode cX6_bring 4 = .ok (.aload_n 0, 1) := by decide +kernel
theorem dX6_bring_5 : decode cX6_bring 5 = .ok (.getfield 10, 3) := by decide +kernel
theorem dX6_bring_8 : decode cX6_bring 8 = .ok (.invokevirtual 56, 3) := by decide +kernel
theorem dX6_bring_11 : decode cX6_bring 11 = .ok (.aload_n 0, 1) := by decide +kernel
theorem dX6_bring_12 : decode cX6_bring 12 = .ok (.aload_n 0, 1) := by decide +kernel
theorem dX6_bring_13 : decode cX6_bring 13 = .ok (.getfield 16, 3) := by decide +kernel
theorem dX6_bring_16 : decode cX6_bring 16 = .ok (.iload_n 1, 1) := by decide +kernel
theorem dX6_bring_17 : decode cX6_bring 17 = .ok (.invokevirtual 70, 3) := by decide +kernel
theorem dX6_bring_20 : decode cX6_bring 20 = .ok (.invokevirtual 63, 3) := by decide +kernel
theorem dX6_bring_23 : decode cX6_bring 23 = .ok (.ireturn, 1) := by decide +kernel
set_option maxRecDepth 20000 in
theorem ggX6_tear_X2_copyFrom : GoodIn wsX6_tear wsX2_copyFrom := goodIn_r _ [7, 8, 9, 10, 11, 12, 13, 14, 15, 16, 17, 6, 18, 69, 70, 71, 72, 73, 74, 75, 76] (by decide +kernel) (by decide +kernel)
set_option maxRecDepth 20000 in
theorem gX6_tear_X2_copyFrom : GoodIn wsX6_tear (wsV RX6 56 RX2 yX2_copyFrom wsX2_copyFrom) := goodIn_app (goodIn_of _ (by decide +kernel)) ggX6_tear_X2_copyFrom
set_option maxRecDepth 20000 in
theorem ggX6_tear_X2_tearOut : GoodIn wsX6_tear wsX2_tearOut := goodIn_r _ [22, 23, 12, 24, 25, 26, 6, 27, 28, 29, 30, 31, 10, 32, 33, 34, 35, 36, 37, 38, 39, 69, 70, 71, 72, 73, 74, 75, 76] (by decide +kernel) (by decide +kernel)
set_option maxRecDepth 20000 in
theorem gX6_tear_X2_tearOut : GoodIn wsX6_tear (wsV RX6 73 RX2 yX2_tearOut wsX2_tearOut) := goodIn_app (goodIn_of _ (by decide +kernel)) ggX6_tear_X2_tearOut
set_option maxRecDepth 20000 in
theorem ggX6_tear_X6_settle : GoodIn wsX6_tear wsX6_settle := goodIn_r _ [44, 45, 2, 1, 46, 47, 48, 49, 50, 51, 52, 53, 54, 55, 56, 57, 58, 59, 60, 61, 4, 5, 6, 7, 8, 9, 10, 11, 12, 13, 14, 15, 16, 17, 18, 3, 62, 63, 64, 65, 66, 67, 68, 77, 78, 69, 70, 71, 72, 73, 74, 75, 76] (by decide +kernel) (by decide +kernel)
set_option maxRecDepth 20000 in
theorem gX6_tear_X6_settle : GoodIn wsX6_tear (wsV RX6 63 RX6 yX6_settle wsX6_settle) := goodIn_app (goodIn_of _ (by decide +kernel)) ggX6_tear_X6_settle
theorem dX6_tear_0 : decode cX6_tear 0 = .ok (.aload_n 0, 1) := by decide +kernel
theorem dX6_tear_1 : decode cX6_tear 1 = .ok (.getfield 16, 3) := by decide +kernel
theorem dX6_tear_4 : decode cX6_tear 4 = .ok (.aload_n 0, 1) := by decide +kernel
theorem dX6_tear_5 : decode cX6_tear 5 = .ok (.getfield 10, 3) := by decide +kernel
theorem dX6_tear_8 : decode cX6_tear 8 = .ok (.invokevirtual 56, 3) := by decide +kernel
theorem dX6_tear_11 : decode cX6_tear 11 = .ok (.aload_n 0, 1) := by decide +kernel
theorem dX6_tear_12 : decode cX6_tear 12 = .ok (.aload_n 0, 1) := by decide +kernel
theorem dX6_tear_13 : decode cX6_tear 13 = .ok (.getfield 16, 3) := by decide +kernel
theorem dX6_tear_16 : decode cX6_tear 16 = .ok (.iload_n 1, 1) := by decide +kernel
theorem dX6_tear_17 : decode cX6_tear 17 = .ok (.invokevirtual 73, 3) := by decide +kernel
theorem dX6_tear_20 : decode cX6_tear 20 = .ok (.invokevirtual 63, 3) := by decide +kernel
theorem dX6_tear_23 : decode cX6_tear 23 = .ok (.ireturn, 1) := by decide +kernel
set_option maxRecDepth 20000 in
theorem ggX6_swap_X2_copyFrom : GoodIn wsX6_swap wsX2_copyFrom := goodIn_r _ [7, 8, 9, 10, 11, 12, 13, 14, 15, 16, 17, 6, 18, 73, 74, 75, 76, 77, 78, 79, 80] (by decide +kernel) (by decide +kernel)
set_option maxRecDepth 20000 in
theorem gX6_swap_X2_copyFrom : GoodIn wsX6_swap (wsV RX6 56 RX2 yX2_copyFrom wsX2_copyFrom) := goodIn_app (goodIn_of _ (by decide +kernel)) ggX6_swap_X2_copyFrom
set_option maxRecDepth 20000 in
theorem ggX6_swap_X2_exchange : GoodIn wsX6_swap wsX2_exchange := goodIn_r _ [22, 23, 24, 25, 26, 6, 27, 12, 28, 29, 30, 31, 32, 33, 34, 35, 10, 36, 37, 38, 39, 40, 41, 42, 43, 73, 74, 75, 76, 77, 78, 79, 80] (by decide +kernel) (by decide +kernel)
set_option maxRecDepth 20000 in
theorem gX6_swap_X2_exchange : GoodIn wsX6_swap (wsV RX6 76 RX2 yX2_exchange wsX2_exchange) := goodIn_app (goodIn_of _ (by decide +kernel)) ggX6_swap_X2_exchange
set_option maxRecDepth 20000 in
theorem ggX6_swap_X6_settle : GoodIn wsX6_swap wsX6_settle := goodIn_r _ [48, 49, 2, 1, 50, 51, 52, 53, 54, 55, 56, 57, 58, 59, 60, 61, 62, 63, 64, 65, 4, 5, 6, 7, 8, 9, 10, 11, 12, 13, 14, 15, 16, 17, 18, 3, 66, 67, 68, 69, 70, 71, 72, 81, 82, 73, 74, 75, 76, 77, 78, 79, 80] (by decide +kernel) (by decide +kernel)
set_option maxRecDepth 20000 in
theorem gX6_swap_X6_settle : GoodIn wsX6_swap (wsV RX6 63 RX6 yX6_settle wsX6_settle) := goodIn_app (goodIn_of _ (by decide +kernel)) ggX6_swap_X6_settle
theorem dX6_swap_0 : decode cX6_swap 0 = .ok (.aload_n 0, 1) := by decide +kernel
theorem dX6_swap_1 : decode cX6_swap 1 = .ok (.getfield 16, 3) := by decide +kernel
theorem dX6_swap_4 : decode cX6_swap 4 = .ok (.aload_n 0, 1) := by decide +kernel
theorem dX6_swap_5 : decode cX6_swap 5 = .ok (.getfield 10, 3) := by decide +kernel
theorem dX6_swap_8 : decode cX6_swap 8 = .ok (.invokevirtual 56, 3) := by decide +kernel
theorem dX6_swap_11 : decode cX6_swap 11 = .ok (.aload_n 0, 1) := by decide +kernel
theorem dX6_swap_12 : decode cX6_swap 12 = .ok (.aload_n 0, 1) := by decide +kernel
theorem dX6_swap_13 : decode cX6_swap 13 = .ok (.getfield 16, 3) := by decide +kernel
theorem dX6_swap_16 : decode cX6_swap 16 = .ok (.iload_n 1, 1) := by decide +kernel
theorem dX6_swap_17 : decode cX6_swap 17 = .ok (.iload_n 2, 1) := by decide +kernel
theorem dX6_swap_18 : decode cX6_swap 18 = .ok (.invokevirtual 76, 3) := by decide +kernel
theorem dX6_swap_21 : decode cX6_swap 21 = .ok (.invokevirtual 63, 3) := by decide +kernel
theorem dX6_swap_24 : decode cX6_swap 24 = .ok (.ireturn, 1) := by decide +kernel
set_option maxRecDepth 20000 in
theorem ggX6_turn_X2_copyFrom : GoodIn wsX6_turn wsX2_copyFrom := goodIn_r _ [7, 8, 9, 10, 11, 12, 13, 14, 15, 16, 17, 6, 18, 65, 66, 67, 68, 69, 70, 71, 72] (by decide +kernel) (by decide +kernel)
set_option maxRecDepth 20000 in
theorem gX6_turn_X2_copyFrom : GoodIn wsX6_turn (wsV RX6 56 RX2 yX2_copyFrom wsX2_copyFrom) := goodIn_app (goodIn_of _ (by decide +kernel)) ggX6_turn_X2_copyFrom
set_option maxRecDepth 20000 in
theorem ggX6_turn_X2_reverse : GoodIn wsX6_turn wsX2_reverse := goodIn_r _ [22, 12, 23, 24, 25, 26, 6, 27, 28, 29, 30, 31, 10, 32, 33, 34, 35, 65, 66, 67, 68, 69, 70, 71, 72] (by decide +kernel) (by decide +kernel)
set_option maxRecDepth 20000 in
theorem gX6_turn_X2_reverse : GoodIn wsX6_turn (wsV RX6 79 RX2 yX2_reverse wsX2_reverse) := goodIn_app (goodIn_of _ (by decide +kernel)) ggX6_turn_X2_reverse
set_option maxRecDepth 20000 in
theorem ggX6_turn_X6_settle : GoodIn wsX6_turn wsX6_settle := goodIn_r _ [40, 41, 2, 1, 42, 43, 44, 45, 46, 47, 48, 49, 50, 51, 52, 53, 54, 55, 56, 57, 4, 5, 6, 7, 8, 9, 10, 11, 12, 13, 14, 15, 16, 17, 18, 3, 58, 59, 60, 61, 62, 63, 64, 73, 74, 65, 66, 67, 68, 69, 70, 71, 72] (by decide +kernel) (by decide +kernel)
set_option maxRecDepth 20000 in
theorem gX6_turn_X6_settle : GoodIn wsX6_turn (wsV RX6 63 RX6 yX6_settle wsX6_settle) := goodIn_app (goodIn_of _ (by decide +kernel)) ggX6_turn_X6_settle
theorem dX6_turn_0 : decode cX6_turn 0 = .ok (.aload_n 0, 1) := by decide +kernel
theorem dX6_turn_1 : decode cX6_turn 1 = .ok (.getfield 16, 3) := by decide +kernel
theorem dX6_turn_4 : decode cX6_turn 4 = .ok (.aload_n 0, 1) := by decide +kernel
theorem dX6_turn_5 : decode cX6_turn 5 = .ok (.getfield 10, 3) := by decide +kernel
theorem dX6_turn_8 : decode cX6_turn 8 = .ok (.invokevirtual 56, 3) := by decide +kernel
theorem dX6_turn_11 : decode cX6_turn 11 = .ok (.aload_n 0, 1) := by decide +kernel
theorem dX6_turn_12 : decode cX6_turn 12 = .ok (.aload_n 0, 1) := by decide +kernel
theorem dX6_turn_13 : decode cX6_turn 13 = .ok (.getfield 16, 3) := by decide +kernel
theorem dX6_turn_16 : decode cX6_turn 16 = .ok (.invokevirtual 79, 3) := by decide +kernel
theorem dX6_turn_19 : decode cX6_turn 19 = .ok (.invokevirtual 63, 3) := by decide +kernel
theorem dX6_turn_22 : decode cX6_turn 22 = .ok (.ireturn, 1) := by decide +kernel
set_option maxRecDepth 20000 in
theorem ggX6_mirror_X2_copyFrom : GoodIn wsX6_mirror wsX2_copyFrom := goodIn_r _ [7, 8, 9, 10, 11, 12, 13, 14, 15, 16, 17, 6, 18, 70, 71, 72, 73, 74, 75, 76, 77] (by decide +kernel) (by decide +kernel)
set_option maxRecDepth 20000 in
theorem gX6_mirror_X2_copyFrom : GoodIn wsX6_mirror (wsV RX6 56 RX2 yX2_copyFrom wsX2_copyFrom) := goodIn_app (goodIn_of _ (by decide +kernel)) ggX6_mirror_X2_copyFrom
set_option maxRecDepth 20000 in
theorem ggX6_mirror_X2_flip : GoodIn wsX6_mirror wsX2_flip := goodIn_r _ [22, 12, 23, 24, 25, 26, 6, 27, 10, 28, 29, 30, 31, 32, 33, 34, 35, 36, 37, 38, 39, 40, 41, 70, 71, 72, 73, 74, 75, 76, 77] (by decide +kernel) (by decide +kernel)
set_option maxRecDepth 20000 in
theorem gX6_mirror_X2_flip : GoodIn wsX6_mirror (wsV RX6 83 RX2 yX2_flip wsX2_flip) := goodIn_app (goodIn_of _ (by decide +kernel)) ggX6_mirror_X2_flip
set_option maxRecDepth 20000 in
theorem ggX6_mirror_X6_settle : GoodIn wsX6_mirror wsX6_settle := goodIn_r _ [45, 46, 2, 1, 47, 48, 49, 50, 51, 52, 53, 54, 55, 56, 57, 58, 59, 60, 61, 62, 4, 5, 6, 7, 8, 9, 10, 11, 12, 13, 14, 15, 16, 17, 18, 3, 63, 64, 65, 66, 67, 68, 69, 78, 79, 70, 71, 72, 73, 74, 75, 76, 77] (by decide +kernel) (by decide +kernel)
set_option maxRecDepth 20000 in
theorem gX6_mirror_X6_settle : GoodIn wsX6_mirror (wsV RX6 63 RX6 yX6_settle wsX6_settle) := goodIn_app (goodIn_of _ (by decide +kernel)) ggX6_mirror_X6_settle
theorem dX6_mirror_0 : decode cX6_mirror 0 = .ok (.aload_n 0, 1) := by decide +kernel
theorem dX6_mirror_1 : decode cX6_mirror 1 = .ok (.getfield 16, 3) := by decide +kernel
theorem dX6_mirror_4 : decode cX6_mirror 4 = .ok (.aload_n 0, 1) := by decide +kernel
theorem dX6_mirror_5 : decode cX6_mirror 5 = .ok (.getfield 10, 3) := by decide +kernel
theorem dX6_mirror_8 : decode cX6_mirror 8 = .ok (.invokevirtual 56, 3) := by decide +kernel
theorem dX6_mirror_11 : decode cX6_mirror 11 = .ok (.aload_n 0, 1) := by decide +kernel
theorem dX6_mirror_12 : decode cX6_mirror 12 = .ok (.aload_n 0, 1) := by decide +kernel
theorem dX6_mirror_13 : decode cX6_mirror 13 = .ok (.getfield 16, 3) := by decide +kernel
theorem dX6_mirror_16 : decode cX6_mirror 16 = .ok (.invokevirtual 83, 3) := by decide +kernel
theorem dX6_mirror_19 : decode cX6_mirror 19 = .ok (.invokevirtual 63, 3) := by decide +kernel
theorem dX6_mirror_22 : decode cX6_mirror 22 = .ok (.ireturn, 1) := by decide +kernel
set_option maxRecDepth 20000 in
theorem ggX6_set_X2_copyFrom : GoodIn wsX6_set wsX2_copyFrom := goodIn_r _ [7, 8, 9, 10, 11, 12, 13, 14, 15, 16, 17, 6, 18, 53, 54, 55, 56, 57, 58, 59, 60] (by decide +kernel) (by decide +kernel)
set_option maxRecDepth 20000 in
theorem gX6_set_X2_copyFrom : GoodIn wsX6_set (wsV RX6 56 RX2 yX2_copyFrom wsX2_copyFrom) := goodIn_app (goodIn_of _ (by decide +kernel)) ggX6_set_X2_copyFrom
set_option maxRecDepth 20000 in
theorem ggX6_set_X2_adjust : GoodIn wsX6_set wsX2_adjust := goodIn_r _ [22, 11, 23, 53, 54, 55, 56, 57, 58, 59, 60] (by decide +kernel) (by decide +kernel)
set_option maxRecDepth 20000 in
theorem gX6_set_X2_adjust : GoodIn wsX6_set (wsV RX6 86 RX2 yX2_adjust wsX2_adjust) := goodIn_app (goodIn_of _ (by decide +kernel)) ggX6_set_X2_adjust
set_option maxRecDepth 20000 in
theorem ggX6_set_X6_settle : GoodIn wsX6_set wsX6_settle := goodIn_r _ [28, 29, 2, 1, 30, 31, 32, 33, 34, 35, 36, 37, 38, 39, 40, 41, 42, 43, 44, 45, 4, 5, 6, 7, 8, 9, 10, 11, 12, 13, 14, 15, 16, 17, 18, 3, 46, 47, 48, 49, 50, 51, 52, 61, 62, 53, 54, 55, 56, 57, 58, 59, 60] (by decide +kernel) (by decide +kernel)
set_option maxRecDepth 20000 in
theorem gX6_set_X6_settle : GoodIn wsX6_set (wsV RX6 63 RX6 yX6_settle wsX6_settle) := goodIn_app (goodIn_of _ (by decide +kernel)) ggX6_set_X6_settle
theorem dX6_set_0 : decode cX6_set 0 = .ok (.aload_n 0, 1) := by decide +kernel
theorem dX6_set_1 : decode cX6_set 1 = .ok (.getfield 16, 3) := by decide +kernel
theorem dX6_set_4 : decode cX6_set 4 = .ok (.aload_n 0, 1) := by decide +kernel
theorem dX6_set_5 : decode cX6_set 5 = .ok (.getfield 10, 3) := by decide +kernel
theorem dX6_set_8 : decode cX6_set 8 = .ok (.invokevirtual 56, 3) := by decide +kernel
theorem dX6_set_11 : decode cX6_set 11 = .ok (.aload_n 0, 1) := by decide +kernel
theorem dX6_set_12 : decode cX6_set 12 = .ok (.aload_n 0, 1) := by decide +kernel
theorem dX6_set_13 : decode cX6_set 13 = .ok (.getfield 16, 3) := by decide +kernel
theorem dX6_set_16 : decode cX6_set 16 = .ok (.iload_n 1, 1) := by decide +kernel
theorem dX6_set_17 : decode cX6_set 17 = .ok (.iload_n 2, 1) := by decide +kernel
theorem dX6_set_18 : decode cX6_set 18 = .ok (.invokevirtual 86, 3) := by decide +kernel
theorem dX6_set_21 : decode cX6_set 21 = .ok (.invokevirtual 63, 3) := by decide +kernel
theorem dX6_set_24 : decode cX6_set 24 = .ok (.ireturn, 1) := by decide +kernel
set_option maxRecDepth 20000 in
theorem ggX6_cardOf_X2_hasCard : GoodIn wsX6_cardOf wsX2_hasCard := goodIn_r _ [9, 10, 107, 108, 109, 110, 111, 112, 113, 114] (by decide +kernel) (by decide +kernel)
set_option maxRecDepth 20000 in
theorem gX6_cardOf_X2_hasCard : GoodIn wsX6_cardOf (wsV RX6 89 RX2 yX2_hasCard wsX2_hasCard) := goodIn_app (goodIn_of _ (by decide +kernel)) ggX6_cardOf_X2_hasCard
set_option maxRecDepth 20000 in
theorem ggX6_cardOf_X2_holesAt : GoodIn wsX6_cardOf wsX2_holesAt := goodIn_r _ [14, 10, 15, 107, 108, 109, 110, 111, 112, 113, 114] (by decide +kernel) (by decide +kernel)
set_option maxRecDepth 20000 in
theorem gX6_cardOf_X2_holesAt : GoodIn wsX6_cardOf (wsV RX6 94 RX2 yX2_holesAt wsX2_holesAt) := goodIn_app (goodIn_of _ (by decide +kernel)) ggX6_cardOf_X2_holesAt
set_option maxRecDepth 20000 in
theorem ggX6_cardOf_J6_bitCount_0f7a4 : GoodIn wsX6_cardOf wsJ6_bitCount_0f7a4 := goodIn_r _ [19, 20, 21, 22] (by decide +kernel) (by decide +kernel)
set_option maxRecDepth 20000 in
theorem gX6_cardOf_J6_bitCount_0f7a4 : GoodIn wsX6_cardOf (va_wsS RX6 97 yJ6_bitCount_0f7a4 wsJ6_bitCount_0f7a4) := goodIn_app (goodIn_of _ (by decide +kernel)) ggX6_cardOf_J6_bitCount_0f7a4
set_option maxRecDepth 20000 in
theorem ggX6_cardOf_X2_stampsAt : GoodIn wsX6_cardOf wsX2_stampsAt := goodIn_r _ [26, 27, 28, 29, 8, 30, 10, 15, 107, 108, 109, 110, 111, 112, 113, 114] (by decide +kernel) (by decide +kernel)
set_option maxRecDepth 20000 in
theorem gX6_cardOf_X2_stampsAt : GoodIn wsX6_cardOf (wsV RX6 102 RX2 yX2_stampsAt wsX2_stampsAt) := goodIn_app (goodIn_of _ (by decide +kernel)) ggX6_cardOf_X2_stampsAt
set_option maxRecDepth 20000 in
theorem ggX6_cardOf_X2_clashesOf : GoodIn wsX6_cardOf wsX2_clashesOf := goodIn_r _ [34, 35, 107, 108, 109, 110, 111, 112, 113, 114] (by decide +kernel) (by decide +kernel)
set_option maxRecDepth 20000 in
theorem gX6_cardOf_X2_clashesOf : GoodIn wsX6_cardOf (wsV RX6 105 RX2 yX2_clashesOf wsX2_clashesOf) := goodIn_app (goodIn_of _ (by decide +kernel)) ggX6_cardOf_X2_clashesOf
set_option maxRecDepth 20000 in
theorem ggX6_cardOf_X3_noteSet : GoodIn wsX6_cardOf wsX3_noteSet := goodIn_r _ [40, 41, 42, 43, 44, 8, 45, 46, 12, 13, 14, 10, 15, 47, 48, 49, 50, 51, 52, 53, 35, 115, 107, 108, 109, 110, 111, 112, 113, 114] (by decide +kernel) (by decide +kernel)
set_option maxRecDepth 20000 in
theorem gX6_cardOf_X3_noteSet : GoodIn wsX6_cardOf (wsV RX6 108 RX3 yX3_noteSet wsX3_noteSet) := goodIn_app (goodIn_of _ (by decide +kernel)) ggX6_cardOf_X3_noteSet
set_option maxRecDepth 20000 in
theorem ggX6_cardOf_X3_highest : GoodIn wsX6_cardOf wsX3_highest := goodIn_r _ [57, 58, 41, 59, 60, 61, 62, 42, 43, 44, 8, 45, 46, 12, 13, 14, 10, 15, 47, 48, 49, 50, 51, 52, 53, 35, 115, 107, 108, 109, 110, 111, 112, 113, 114] (by decide +kernel) (by decide +kernel)
set_option maxRecDepth 20000 in
theorem gX6_cardOf_X3_highest : GoodIn wsX6_cardOf (wsV RX6 111 RX3 yX3_highest wsX3_highest) := goodIn_app (goodIn_of _ (by decide +kernel)) ggX6_cardOf_X3_highest
set_option maxRecDepth 20000 in
theorem ggX6_cardOf_X3_lowest : GoodIn wsX6_cardOf wsX3_lowest := goodIn_r _ [66, 41, 67, 68, 61, 69, 58, 42, 43, 44, 8, 45, 46, 12, 13, 14, 10, 15, 47, 48, 49, 50, 51, 52, 53, 35, 115, 107, 108, 109, 110, 111, 112, 113, 114] (by decide +kernel) (by decide +kernel)
set_option maxRecDepth 20000 in
theorem gX6_cardOf_X3_lowest : GoodIn wsX6_cardOf (wsV RX6 114 RX3 yX3_lowest wsX3_lowest) := goodIn_app (goodIn_of _ (by decide +kernel)) ggX6_cardOf_X3_lowest
set_option maxRecDepth 20000 in
theorem ggX6_cardOf_X5_beginningAt : GoodIn wsX6_cardOf wsX5_beginningAt := goodIn_r _ [74, 75, 76, 12, 13, 8, 14, 10, 15, 77, 17, 18, 19, 20, 21, 22, 116, 107, 108, 109, 110, 111, 112, 113, 114] (by decide +kernel) (by decide +kernel)
set_option maxRecDepth 20000 in
theorem gX6_cardOf_X5_beginningAt : GoodIn wsX6_cardOf (wsV RX6 117 RX5 yX5_beginningAt wsX5_beginningAt) := goodIn_app (goodIn_of _ (by decide +kernel)) ggX6_cardOf_X5_beginningAt
set_option maxRecDepth 20000 in
theorem ggX6_cardOf_X3_barAt : GoodIn wsX6_cardOf wsX3_barAt := goodIn_r _ [81, 41, 82, 83, 84, 8, 85, 86, 115, 107, 108, 109, 110, 111, 112, 113, 114] (by decide +kernel) (by decide +kernel)
set_option maxRecDepth 20000 in
theorem gX6_cardOf_X3_barAt : GoodIn wsX6_cardOf (wsV RX6 120 RX3 yX3_barAt wsX3_barAt) := goodIn_app (goodIn_of _ (by decide +kernel)) ggX6_cardOf_X3_barAt
set_option maxRecDepth 20000 in
theorem ggX6_cardOf_X3_aboveByColours : GoodIn wsX6_cardOf wsX3_aboveByColours := goodIn_r _ [90, 91, 92, 93, 39, 94, 41, 42, 43, 44, 8, 45, 46, 12, 13, 14, 10, 15, 47, 48, 49, 95, 96, 97, 98, 99, 115, 107, 108, 109, 110, 111, 112, 113, 114] (by decide +kernel) (by decide +kernel)
set_option maxRecDepth 20000 in
theorem gX6_cardOf_X3_aboveByColours : GoodIn wsX6_cardOf (wsV RX6 123 RX3 yX3_aboveByColours wsX3_aboveByColours) := goodIn_app (goodIn_of _ (by decide +kernel)) ggX6_cardOf_X3_aboveByColours
theorem dX6_cardOf_0 : decode cX6_cardOf 0 = .ok (.aload_n 0, 1) := by decide +kernel
theorem dX6_cardOf_1 : decode cX6_cardOf 1 = .ok (.getfield 10, 3) := by decide +kernel
theorem dX6_cardOf_4 : decode cX6_cardOf 4 = .ok (.iload_n 1, 1) := by decide +kernel
theorem dX6_cardOf_5 : decode cX6_cardOf 5 = .ok (.invokevirtual 89, 3) := by decide +kernel
theorem dX6_cardOf_8 : decode cX6_cardOf 8 = .ok (.ifCond .ne 6, 3) := by decide +kernel
theorem dX6_cardOf_11 : decode cX6_cardOf 11 = .ok (.ldc 93, 2) := by decide +kernel
theorem dX6_cardOf_13 : decode cX6_cardOf 13 = .ok (.ireturn, 1) := by decide +kernel
theorem dX6_cardOf_14 : decode cX6_cardOf 14 = .ok (.aload_n 0, 1) := by decide +kernel
theorem dX6_cardOf_15 : decode cX6_cardOf 15 = .ok (.getfield 10, 3) := by decide +kernel
theorem dX6_cardOf_18 : decode cX6_cardOf 18 = .ok (.iload_n 1, 1) := by decide +kernel
theorem dX6_cardOf_19 : decode cX6_cardOf 19 = .ok (.invokevirtual 94, 3) := by decide +kernel
theorem dX6_cardOf_22 : decode cX6_cardOf 22 = .ok (.istore_n 3, 1) := by decide +kernel
theorem dX6_cardOf_23 : decode cX6_cardOf 23 = .ok (.iload_n 2, 1) := by decide +kernel
theorem dX6_cardOf_24 : decode cX6_cardOf 24 = .ok (.tableswitch 135 0 9 #[56, 58, 63, 72, 81, 90, 99, 108, 117, 126], 56) := by decide +kernel
theorem dX6_cardOf_80 : decode cX6_cardOf 80 = .ok (.iload_n 3, 1) := by decide +kernel
theorem dX6_cardOf_81 : decode cX6_cardOf 81 = .ok (.ireturn, 1) := by decide +kernel
theorem dX6_cardOf_82 : decode cX6_cardOf 82 = .ok (.iload_n 3, 1) := by decide +kernel
theorem dX6_cardOf_83 : decode cX6_cardOf 83 = .ok (.invokestatic 97, 3) := by decide +kernel
theorem dX6_cardOf_86 : decode cX6_cardOf 86 = .ok (.ireturn, 1) := by decide +kernel
theorem dX6_cardOf_87 : decode cX6_cardOf 87 = .ok (.aload_n 0, 1) := by decide +kernel
theorem dX6_cardOf_88 : decode cX6_cardOf 88 = .ok (.getfield 10, 3) := by decide +kernel
theorem dX6_cardOf_91 : decode cX6_cardOf 91 = .ok (.iload_n 1, 1) := by decide +kernel
theorem dX6_cardOf_92 : decode cX6_cardOf 92 = .ok (.invokevirtual 102, 3) := by decide +kernel
theorem dX6_cardOf_95 : decode cX6_cardOf 95 = .ok (.ireturn, 1) := by decide +kernel
theorem dX6_cardOf_96 : decode cX6_cardOf 96 = .ok (.aload_n 0, 1) := by decide +kernel
theorem dX6_cardOf_97 : decode cX6_cardOf 97 = .ok (.getfield 10, 3) := by decide +kernel
theorem dX6_cardOf_100 : decode cX6_cardOf 100 = .ok (.iload_n 3, 1) := by decide +kernel
theorem dX6_cardOf_101 : decode cX6_cardOf 101 = .ok (.invokevirtual 105, 3) := by decide +kernel
theorem dX6_cardOf_104 : decode cX6_cardOf 104 = .ok (.ireturn, 1) := by decide +kernel
theorem dX6_cardOf_105 : decode cX6_cardOf 105 = .ok (.aload_n 0, 1) := by decide +kernel
theorem dX6_cardOf_106 : decode cX6_cardOf 106 = .ok (.getfield 31, 3) := by decide +kernel
theorem dX6_cardOf_109 : decode cX6_cardOf 109 = .ok (.iload_n 1, 1) := by decide +kernel
theorem dX6_cardOf_110 : decode cX6_cardOf 110 = .ok (.invokevirtual 108, 3) := by decide +kernel
theorem dX6_cardOf_113 : decode cX6_cardOf 113 = .ok (.ireturn, 1) := by decide +kernel
theorem dX6_cardOf_114 : decode cX6_cardOf 114 = .ok (.aload_n 0, 1) := by decide +kernel
theorem dX6_cardOf_115 : decode cX6_cardOf 115 = .ok (.getfield 31, 3) := by decide +kernel
theorem dX6_cardOf_118 : decode cX6_cardOf 118 = .ok (.iload_n 1, 1) := by decide +kernel
theorem dX6_cardOf_119 : decode cX6_cardOf 119 = .ok (.invokevirtual 111, 3) := by decide +kernel
theorem dX6_cardOf_122 : decode cX6_cardOf 122 = .ok (.ireturn, 1) := by decide +kernel
theorem dX6_cardOf_123 : decode cX6_cardOf 123 = .ok (.aload_n 0, 1) := by decide +kernel
theorem dX6_cardOf_124 : decode cX6_cardOf 124 = .ok (.getfield 31, 3) := by decide +kernel
theorem dX6_cardOf_127 : decode cX6_cardOf 127 = .ok (.iload_n 1, 1) := by decide +kernel
theorem dX6_cardOf_128 : decode cX6_cardOf 128 = .ok (.invokevirtual 114, 3) := by decide +kernel
theorem dX6_cardOf_131 : decode cX6_cardOf 131 = .ok (.ireturn, 1) := by decide +kernel
theorem dX6_cardOf_132 : decode cX6_cardOf 132 = .ok (.aload_n 0, 1) := by decide +kernel
theorem dX6_cardOf_133 : decode cX6_cardOf 133 = .ok (.getfield 38, 3) := by decide +kernel
theorem dX6_cardOf_136 : decode cX6_cardOf 136 = .ok (.iload_n 1, 1) := by decide +kernel
theorem dX6_cardOf_137 : decode cX6_cardOf 137 = .ok (.invokevirtual 117, 3) := by decide +kernel
theorem dX6_cardOf_140 : decode cX6_cardOf 140 = .ok (.ireturn, 1) := by decide +kernel
theorem dX6_cardOf_141 : decode cX6_cardOf 141 = .ok (.aload_n 0, 1) := by decide +kernel
theorem dX6_cardOf_142 : decode cX6_cardOf 142 = .ok (.getfield 31, 3) := by decide +kernel
theorem dX6_cardOf_145 : decode cX6_cardOf 145 = .ok (.iload_n 1, 1) := by decide +kernel
theorem dX6_cardOf_146 : decode cX6_cardOf 146 = .ok (.invokevirtual 120, 3) := by decide +kernel
theorem dX6_cardOf_149 : decode cX6_cardOf 149 = .ok (.ireturn, 1) := by decide +kernel
theorem dX6_cardOf_150 : decode cX6_cardOf 150 = .ok (.aload_n 0, 1) := by decide +kernel
theorem dX6_cardOf_151 : decode cX6_cardOf 151 = .ok (.getfield 31, 3) := by decide +kernel
theorem dX6_cardOf_154 : decode cX6_cardOf 154 = .ok (.iload_n 1, 1) := by decide +kernel
theorem dX6_cardOf_155 : decode cX6_cardOf 155 = .ok (.invokevirtual 123, 3) := by decide +kernel
theorem dX6_cardOf_158 : decode cX6_cardOf 158 = .ok (.ireturn, 1) := by decide +kernel
theorem dX6_cardOf_159 : decode cX6_cardOf 159 = .ok (.ldc 93, 2) := by decide +kernel
theorem dX6_cardOf_161 : decode cX6_cardOf 161 = .ok (.ireturn, 1) := by decide +kernel
set_option maxRecDepth 20000 in
theorem ggX6_threadOf_X2_noteAt : GoodIn wsX6_threadOf wsX2_noteAt := goodIn_r _ [10, 11, 81, 82, 83, 84, 85, 86, 87, 88] (by decide +kernel) (by decide +kernel)
set_option maxRecDepth 20000 in
theorem gX6_threadOf_X2_noteAt : GoodIn wsX6_threadOf (wsV RX6 126 RX2 yX2_noteAt wsX2_noteAt) := goodIn_app (goodIn_of _ (by decide +kernel)) ggX6_threadOf_X2_noteAt
set_option maxRecDepth 20000 in
theorem ggX6_threadOf_X2_colourAt : GoodIn wsX6_threadOf wsX2_colourAt := goodIn_r _ [15, 16, 81, 82, 83, 84, 85, 86, 87, 88] (by decide +kernel) (by decide +kernel)
set_option maxRecDepth 20000 in
theorem gX6_threadOf_X2_colourAt : GoodIn wsX6_threadOf (wsV RX6 129 RX2 yX2_colourAt wsX2_colourAt) := goodIn_app (goodIn_of _ (by decide +kernel)) ggX6_threadOf_X2_colourAt
set_option maxRecDepth 20000 in
theorem ggX6_threadOf_X5_ofThread : GoodIn wsX6_threadOf wsX5_ofThread := goodIn_r _ [21, 22, 23, 24, 25, 26, 20, 27, 28, 29, 30, 9, 31, 32, 33, 34, 35, 36, 37, 38, 39, 40, 89, 81, 82, 83, 84, 85, 86, 87, 88] (by decide +kernel) (by decide +kernel)
set_option maxRecDepth 20000 in
theorem gX6_threadOf_X5_ofThread : GoodIn wsX6_threadOf (wsV RX6 132 RX5 yX5_ofThread wsX5_ofThread) := goodIn_app (goodIn_of _ (by decide +kernel)) ggX6_threadOf_X5_ofThread
set_option maxRecDepth 20000 in
theorem ggX6_threadOf_X3_soundingRows : GoodIn wsX6_threadOf wsX3_soundingRows := goodIn_r _ [45, 46, 47, 48, 29, 30, 9, 31, 32, 33, 34, 35, 36, 37, 38, 39, 40, 90, 81, 82, 83, 84, 85, 86, 87, 88] (by decide +kernel) (by decide +kernel)
set_option maxRecDepth 20000 in
theorem gX6_threadOf_X3_soundingRows : GoodIn wsX6_threadOf (wsV RX6 135 RX3 yX3_soundingRows wsX3_soundingRows) := goodIn_app (goodIn_of _ (by decide +kernel)) ggX6_threadOf_X3_soundingRows
set_option maxRecDepth 20000 in
theorem ggX6_threadOf_X0_longestFloat : GoodIn wsX6_threadOf wsX0_longestFloat := goodIn_r _ [53, 54, 55, 56, 57, 58, 59, 60, 61, 62, 52, 63, 64, 29, 30, 9, 31, 32, 33, 34, 35, 36, 37, 38, 39, 40, 91, 81, 82, 83, 84, 85, 86, 87, 88] (by decide +kernel) (by decide +kernel)
set_option maxRecDepth 20000 in
theorem gX6_threadOf_X0_longestFloat : GoodIn wsX6_threadOf (wsV RX6 138 RX0 yX0_longestFloat wsX0_longestFloat) := goodIn_app (goodIn_of _ (by decide +kernel)) ggX6_threadOf_X0_longestFloat
set_option maxRecDepth 20000 in
theorem ggX6_threadOf_X0_longFloats : GoodIn wsX6_threadOf wsX0_longFloats := goodIn_r _ [68, 54, 55, 60, 61, 62, 52, 63, 64, 29, 30, 9, 31, 32, 33, 34, 35, 36, 37, 38, 39, 40, 69, 70, 71, 72, 73, 91, 81, 82, 83, 84, 85, 86, 87, 88] (by decide +kernel) (by decide +kernel)
set_option maxRecDepth 20000 in
theorem gX6_threadOf_X0_longFloats : GoodIn wsX6_threadOf (wsV RX6 141 RX0 yX0_longFloats wsX0_longFloats) := goodIn_app (goodIn_of _ (by decide +kernel)) ggX6_threadOf_X0_longFloats
theorem dX6_threadOf_0 : decode cX6_threadOf 0 = .ok (.iload_n 1, 1) := by decide +kernel
theorem dX6_threadOf_1 : decode cX6_threadOf 1 = .ok (.ifCond .lt 9, 3) := by decide +kernel
theorem dX6_threadOf_4 : decode cX6_threadOf 4 = .ok (.iload_n 1, 1) := by decide +kernel
theorem dX6_threadOf_5 : decode cX6_threadOf 5 = .ok (.bipush 8, 2) := by decide +kernel
theorem dX6_threadOf_7 : decode cX6_threadOf 7 = .ok (.if_icmp .lt 6, 3) := by decide +kernel
theorem dX6_threadOf_10 : decode cX6_threadOf 10 = .ok (.ldc 93, 2) := by decide +kernel
theorem dX6_threadOf_12 : decode cX6_threadOf 12 = .ok (.ireturn, 1) := by decide +kernel
theorem dX6_threadOf_13 : decode cX6_threadOf 13 = .ok (.iload_n 2, 1) := by decide +kernel
theorem dX6_threadOf_14 : decode cX6_threadOf 14 = .ok (.tableswitch 92 0 5 #[38, 47, 56, 65, 74, 83], 38) := by decide +kernel
theorem dX6_threadOf_52 : decode cX6_threadOf 52 = .ok (.aload_n 0, 1) := by decide +kernel
theorem dX6_threadOf_53 : decode cX6_threadOf 53 = .ok (.getfield 10, 3) := by decide +kernel
theorem dX6_threadOf_56 : decode cX6_threadOf 56 = .ok (.iload_n 1, 1) := by decide +kernel
theorem dX6_threadOf_57 : decode cX6_threadOf 57 = .ok (.invokevirtual 126, 3) := by decide +kernel
theorem dX6_threadOf_60 : decode cX6_threadOf 60 = .ok (.ireturn, 1) := by decide +kernel
theorem dX6_threadOf_61 : decode cX6_threadOf 61 = .ok (.aload_n 0, 1) := by decide +kernel
theorem dX6_threadOf_62 : decode cX6_threadOf 62 = .ok (.getfield 10, 3) := by decide +kernel
theorem dX6_threadOf_65 : decode cX6_threadOf 65 = .ok (.iload_n 1, 1) := by decide +kernel
theorem dX6_threadOf_66 : decode cX6_threadOf 66 = .ok (.invokevirtual 129, 3) := by decide +kernel
theorem dX6_threadOf_69 : decode cX6_threadOf 69 = .ok (.ireturn, 1) := by decide +kernel
theorem dX6_threadOf_70 : decode cX6_threadOf 70 = .ok (.aload_n 0, 1) := by decide +kernel
theorem dX6_threadOf_71 : decode cX6_threadOf 71 = .ok (.getfield 38, 3) := by decide +kernel
theorem dX6_threadOf_74 : decode cX6_threadOf 74 = .ok (.iload_n 1, 1) := by decide +kernel
theorem dX6_threadOf_75 : decode cX6_threadOf 75 = .ok (.invokevirtual 132, 3) := by decide +kernel
theorem dX6_threadOf_78 : decode cX6_threadOf 78 = .ok (.ireturn, 1) := by decide +kernel
theorem dX6_threadOf_79 : decode cX6_threadOf 79 = .ok (.aload_n 0, 1) := by decide +kernel
theorem dX6_threadOf_80 : decode cX6_threadOf 80 = .ok (.getfield 31, 3) := by decide +kernel
theorem dX6_threadOf_83 : decode cX6_threadOf 83 = .ok (.iload_n 1, 1) := by decide +kernel
theorem dX6_threadOf_84 : decode cX6_threadOf 84 = .ok (.invokevirtual 135, 3) := by decide +kernel
theorem dX6_threadOf_87 : decode cX6_threadOf 87 = .ok (.ireturn, 1) := by decide +kernel
theorem dX6_threadOf_88 : decode cX6_threadOf 88 = .ok (.aload_n 0, 1) := by decide +kernel
theorem dX6_threadOf_89 : decode cX6_threadOf 89 = .ok (.getfield 45, 3) := by decide +kernel
theorem dX6_threadOf_92 : decode cX6_threadOf 92 = .ok (.iload_n 1, 1) := by decide +kernel
theorem dX6_threadOf_93 : decode cX6_threadOf 93 = .ok (.invokevirtual 138, 3) := by decide +kernel
theorem dX6_threadOf_96 : decode cX6_threadOf 96 = .ok (.ireturn, 1) := by decide +kernel
theorem dX6_threadOf_97 : decode cX6_threadOf 97 = .ok (.aload_n 0, 1) := by decide +kernel
theorem dX6_threadOf_98 : decode cX6_threadOf 98 = .ok (.getfield 45, 3) := by decide +kernel
theorem dX6_threadOf_101 : decode cX6_threadOf 101 = .ok (.iload_n 1, 1) := by decide +kernel
theorem dX6_threadOf_102 : decode cX6_threadOf 102 = .ok (.invokevirtual 141, 3) := by decide +kernel
theorem dX6_threadOf_105 : decode cX6_threadOf 105 = .ok (.ireturn, 1) := by decide +kernel
theorem dX6_threadOf_106 : decode cX6_threadOf 106 = .ok (.ldc 93, 2) := by decide +kernel
theorem dX6_threadOf_108 : decode cX6_threadOf 108 = .ok (.ireturn, 1) := by decide +kernel
set_option maxRecDepth 20000 in
theorem ggX6_toneOf_X5_placeOf : GoodIn wsX6_toneOf wsX5_placeOf := goodIn_r _ [10, 11, 12, 13, 14, 15, 16, 9, 17, 18, 19, 20, 21, 22, 23, 24, 25, 26, 27, 28, 29, 30, 31, 59, 60, 61, 62, 63, 64, 65, 66, 67] (by decide +kernel) (by decide +kernel)
set_option maxRecDepth 20000 in
theorem gX6_toneOf_X5_placeOf : GoodIn wsX6_toneOf (wsV RX6 144 RX5 yX5_placeOf wsX5_placeOf) := goodIn_app (goodIn_of _ (by decide +kernel)) ggX6_toneOf_X5_placeOf
set_option maxRecDepth 20000 in
theorem ggX6_toneOf_X5_lengthFrom : GoodIn wsX6_toneOf wsX5_lengthFrom := goodIn_r _ [35, 11, 12, 18, 19, 20, 21, 22, 23, 24, 25, 26, 27, 28, 29, 30, 31, 59, 60, 61, 62, 63, 64, 65, 66, 67] (by decide +kernel) (by decide +kernel)
set_option maxRecDepth 20000 in
theorem gX6_toneOf_X5_lengthFrom : GoodIn wsX6_toneOf (wsV RX6 148 RX5 yX5_lengthFrom wsX5_lengthFrom) := goodIn_app (goodIn_of _ (by decide +kernel)) ggX6_toneOf_X5_lengthFrom
set_option maxRecDepth 20000 in
theorem ggX6_toneOf_X2_noteAt : GoodIn wsX6_toneOf wsX2_noteAt := goodIn_r _ [39, 40, 60, 61, 62, 63, 64, 65, 66, 67] (by decide +kernel) (by decide +kernel)
set_option maxRecDepth 20000 in
theorem gX6_toneOf_X2_noteAt : GoodIn wsX6_toneOf (wsV RX6 126 RX2 yX2_noteAt wsX2_noteAt) := goodIn_app (goodIn_of _ (by decide +kernel)) ggX6_toneOf_X2_noteAt
set_option maxRecDepth 20000 in
theorem ggX6_toneOf_X3_barAt : GoodIn wsX6_toneOf wsX3_barAt := goodIn_r _ [45, 46, 47, 48, 49, 21, 50, 51, 68, 60, 61, 62, 63, 64, 65, 66, 67] (by decide +kernel) (by decide +kernel)
set_option maxRecDepth 20000 in
theorem gX6_toneOf_X3_barAt : GoodIn wsX6_toneOf (wsV RX6 120 RX3 yX3_barAt wsX3_barAt) := goodIn_app (goodIn_of _ (by decide +kernel)) ggX6_toneOf_X3_barAt
theorem dX6_toneOf_0 : decode cX6_toneOf 0 = .ok (.iload_n 1, 1) := by decide +kernel
theorem dX6_toneOf_1 : decode cX6_toneOf 1 = .ok (.ifCond .lt 12, 3) := by decide +kernel
theorem dX6_toneOf_4 : decode cX6_toneOf 4 = .ok (.iload_n 2, 1) := by decide +kernel
theorem dX6_toneOf_5 : decode cX6_toneOf 5 = .ok (.ifCond .lt 8, 3) := by decide +kernel
theorem dX6_toneOf_8 : decode cX6_toneOf 8 = .ok (.iload_n 2, 1) := by decide +kernel
theorem dX6_toneOf_9 : decode cX6_toneOf 9 = .ok (.iconst 4, 1) := by decide +kernel
theorem dX6_toneOf_10 : decode cX6_toneOf 10 = .ok (.if_icmp .le 6, 3) := by decide +kernel
theorem dX6_toneOf_13 : decode cX6_toneOf 13 = .ok (.ldc 93, 2) := by decide +kernel
theorem dX6_toneOf_15 : decode cX6_toneOf 15 = .ok (.ireturn, 1) := by decide +kernel
theorem dX6_toneOf_16 : decode cX6_toneOf 16 = .ok (.aload_n 0, 1) := by decide +kernel
theorem dX6_toneOf_17 : decode cX6_toneOf 17 = .ok (.getfield 38, 3) := by decide +kernel
theorem dX6_toneOf_20 : decode cX6_toneOf 20 = .ok (.iload_n 1, 1) := by decide +kernel
theorem dX6_toneOf_21 : decode cX6_toneOf 21 = .ok (.invokevirtual 144, 3) := by decide +kernel
theorem dX6_toneOf_24 : decode cX6_toneOf 24 = .ok (.istore_n 3, 1) := by decide +kernel
theorem dX6_toneOf_25 : decode cX6_toneOf 25 = .ok (.iload_n 3, 1) := by decide +kernel
theorem dX6_toneOf_26 : decode cX6_toneOf 26 = .ok (.ifCond .ge 6, 3) := by decide +kernel
theorem dX6_toneOf_29 : decode cX6_toneOf 29 = .ok (.ldc 147, 2) := by decide +kernel
theorem dX6_toneOf_31 : decode cX6_toneOf 31 = .ok (.ireturn, 1) := by decide +kernel
theorem dX6_toneOf_32 : decode cX6_toneOf 32 = .ok (.iload_n 3, 1) := by decide +kernel
theorem dX6_toneOf_33 : decode cX6_toneOf 33 = .ok (.bipush 8, 2) := by decide +kernel
theorem dX6_toneOf_35 : decode cX6_toneOf 35 = .ok (.idiv, 1) := by decide +kernel
theorem dX6_toneOf_36 : decode cX6_toneOf 36 = .ok (.istore 4, 2) := by decide +kernel
theorem dX6_toneOf_38 : decode cX6_toneOf 38 = .ok (.iload_n 3, 1) := by decide +kernel
theorem dX6_toneOf_39 : decode cX6_toneOf 39 = .ok (.bipush 8, 2) := by decide +kernel
theorem dX6_toneOf_41 : decode cX6_toneOf 41 = .ok (.irem, 1) := by decide +kernel
theorem dX6_toneOf_42 : decode cX6_toneOf 42 = .ok (.istore 5, 2) := by decide +kernel
theorem dX6_toneOf_44 : decode cX6_toneOf 44 = .ok (.iload_n 2, 1) := by decide +kernel
theorem dX6_toneOf_45 : decode cX6_toneOf 45 = .ok (.tableswitch 59 0 3 #[31, 34, 37, 49], 31) := by decide +kernel
theorem dX6_toneOf_76 : decode cX6_toneOf 76 = .ok (.iload 5, 2) := by decide +kernel
theorem dX6_toneOf_78 : decode cX6_toneOf 78 = .ok (.ireturn, 1) := by decide +kernel
theorem dX6_toneOf_79 : decode cX6_toneOf 79 = .ok (.iload 4, 2) := by decide +kernel
theorem dX6_toneOf_81 : decode cX6_toneOf 81 = .ok (.ireturn, 1) := by decide +kernel
theorem dX6_toneOf_82 : decode cX6_toneOf 82 = .ok (.aload_n 0, 1) := by decide +kernel
theorem dX6_toneOf_83 : decode cX6_toneOf 83 = .ok (.getfield 38, 3) := by decide +kernel
theorem dX6_toneOf_86 : decode cX6_toneOf 86 = .ok (.iload 4, 2) := by decide +kernel
theorem dX6_toneOf_88 : decode cX6_toneOf 88 = .ok (.iload 5, 2) := by decide +kernel
theorem dX6_toneOf_90 : decode cX6_toneOf 90 = .ok (.invokevirtual 148, 3) := by decide +kernel
theorem dX6_toneOf_93 : decode cX6_toneOf 93 = .ok (.ireturn, 1) := by decide +kernel
theorem dX6_toneOf_94 : decode cX6_toneOf 94 = .ok (.aload_n 0, 1) := by decide +kernel
theorem dX6_toneOf_95 : decode cX6_toneOf 95 = .ok (.getfield 10, 3) := by decide +kernel
theorem dX6_toneOf_98 : decode cX6_toneOf 98 = .ok (.iload 5, 2) := by decide +kernel
theorem dX6_toneOf_100 : decode cX6_toneOf 100 = .ok (.invokevirtual 126, 3) := by decide +kernel
theorem dX6_toneOf_103 : decode cX6_toneOf 103 = .ok (.ireturn, 1) := by decide +kernel
theorem dX6_toneOf_104 : decode cX6_toneOf 104 = .ok (.aload_n 0, 1) := by decide +kernel
theorem dX6_toneOf_105 : decode cX6_toneOf 105 = .ok (.getfield 31, 3) := by decide +kernel
theorem dX6_toneOf_108 : decode cX6_toneOf 108 = .ok (.iload 4, 2) := by decide +kernel
theorem dX6_toneOf_110 : decode cX6_toneOf 110 = .ok (.invokevirtual 120, 3) := by decide +kernel
theorem dX6_toneOf_113 : decode cX6_toneOf 113 = .ok (.ireturn, 1) := by decide +kernel
set_option maxRecDepth 20000 in
theorem ggX6_barOf_X3_barAt : GoodIn wsX6_barOf wsX3_barAt := goodIn_r _ [9, 10, 11, 12, 13, 14, 15, 16, 78, 70, 71, 72, 73, 74, 75, 76, 77] (by decide +kernel) (by decide +kernel)
set_option maxRecDepth 20000 in
theorem gX6_barOf_X3_barAt : GoodIn wsX6_barOf (wsV RX6 120 RX3 yX3_barAt wsX3_barAt) := goodIn_app (goodIn_of _ (by decide +kernel)) ggX6_barOf_X3_barAt
set_option maxRecDepth 20000 in
theorem ggX6_barOf_X6_partOfBar : GoodIn wsX6_barOf wsX6_partOfBar := goodIn_r _ [21, 22, 2, 23, 24, 25, 26, 27, 28, 29, 30, 31, 14, 32, 33, 34, 35, 36, 37, 38, 39, 40, 41, 42, 43, 44, 45, 46, 47, 63, 64, 65, 66, 67, 68, 69, 79, 70, 71, 72, 73, 74, 75, 76, 77] (by decide +kernel) (by decide +kernel)
set_option maxRecDepth 20000 in
theorem gX6_barOf_X6_partOfBar : GoodIn wsX6_barOf (wsV RX6 155 RX6 yX6_partOfBar wsX6_partOfBar) := goodIn_app (goodIn_of _ (by decide +kernel)) ggX6_barOf_X6_partOfBar
set_option maxRecDepth 20000 in
theorem ggX6_barOf_X3_noteSet : GoodIn wsX6_barOf wsX3_noteSet := goodIn_r _ [51, 10, 52, 53, 54, 14, 55, 56, 30, 31, 32, 33, 34, 57, 20, 58, 59, 60, 61, 62, 47, 78, 70, 71, 72, 73, 74, 75, 76, 77] (by decide +kernel) (by decide +kernel)
set_option maxRecDepth 20000 in
theorem gX6_barOf_X3_noteSet : GoodIn wsX6_barOf (wsV RX6 108 RX3 yX3_noteSet wsX3_noteSet) := goodIn_app (goodIn_of _ (by decide +kernel)) ggX6_barOf_X3_noteSet
theorem dX6_barOf_0 : decode cX6_barOf 0 = .ok (.iload_n 1, 1) := by decide +kernel
theorem dX6_barOf_1 : decode cX6_barOf 1 = .ok (.ifCond .lt 18, 3) := by decide +kernel
theorem dX6_barOf_4 : decode cX6_barOf 4 = .ok (.iload_n 1, 1) := by decide +kernel
theorem dX6_barOf_5 : decode cX6_barOf 5 = .ok (.bipush 12, 2) := by decide +kernel
theorem dX6_barOf_7 : decode cX6_barOf 7 = .ok (.if_icmp .ge 12, 3) := by decide +kernel
theorem dX6_barOf_10 : decode cX6_barOf 10 = .ok (.iload_n 2, 1) := by decide +kernel
theorem dX6_barOf_11 : decode cX6_barOf 11 = .ok (.ifCond .lt 8, 3) := by decide +kernel
theorem dX6_barOf_14 : decode cX6_barOf 14 = .ok (.iload_n 2, 1) := by decide +kernel
theorem dX6_barOf_15 : decode cX6_barOf 15 = .ok (.iconst 3, 1) := by decide +kernel
theorem dX6_barOf_16 : decode cX6_barOf 16 = .ok (.if_icmp .le 6, 3) := by decide +kernel
theorem dX6_barOf_19 : decode cX6_barOf 19 = .ok (.ldc 93, 2) := by decide +kernel
theorem dX6_barOf_21 : decode cX6_barOf 21 = .ok (.ireturn, 1) := by decide +kernel
theorem dX6_barOf_22 : decode cX6_barOf 22 = .ok (.iconst 0, 1) := by decide +kernel
theorem dX6_barOf_23 : decode cX6_barOf 23 = .ok (.istore_n 3, 1) := by decide +kernel
theorem dX6_barOf_24 : decode cX6_barOf 24 = .ok (.iconst 0, 1) := by decide +kernel
theorem dX6_barOf_25 : decode cX6_barOf 25 = .ok (.istore 4, 2) := by decide +kernel
theorem dX6_barOf_27 : decode cX6_barOf 27 = .ok (.iconst 0, 1) := by decide +kernel
theorem dX6_barOf_28 : decode cX6_barOf 28 = .ok (.istore 5, 2) := by decide +kernel
theorem dX6_barOf_30 : decode cX6_barOf 30 = .ok (.iload 5, 2) := by decide +kernel
theorem dX6_barOf_32 : decode cX6_barOf 32 = .ok (.aload_n 0, 1) := by decide +kernel
theorem dX6_barOf_33 : decode cX6_barOf 33 = .ok (.getfield 10, 3) := by decide +kernel
theorem dX6_barOf_36 : decode cX6_barOf 36 = .ok (.getfield 151, 3) := by decide +kernel
theorem dX6_barOf_39 : decode cX6_barOf 39 = .ok (.if_icmp .ge 46, 3) := by decide +kernel
theorem dX6_barOf_42 : decode cX6_barOf 42 = .ok (.aload_n 0, 1) := by decide +kernel
theorem dX6_barOf_43 : decode cX6_barOf 43 = .ok (.getfield 31, 3) := by decide +kernel
theorem dX6_barOf_46 : decode cX6_barOf 46 = .ok (.iload 5, 2) := by decide +kernel
theorem dX6_barOf_48 : decode cX6_barOf 48 = .ok (.invokevirtual 120, 3) := by decide +kernel
theorem dX6_barOf_51 : decode cX6_barOf 51 = .ok (.iload_n 1, 1) := by decide +kernel
theorem dX6_barOf_52 : decode cX6_barOf 52 = .ok (.if_icmp .ne 27, 3) := by decide +kernel
theorem dX6_barOf_55 : decode cX6_barOf 55 = .ok (.iload_n 3, 1) := by decide +kernel
theorem dX6_barOf_56 : decode cX6_barOf 56 = .ok (.aload_n 0, 1) := by decide +kernel
theorem dX6_barOf_57 : decode cX6_barOf 57 = .ok (.iload 5, 2) := by decide +kernel
theorem dX6_barOf_59 : decode cX6_barOf 59 = .ok (.iload_n 2, 1) := by decide +kernel
theorem dX6_barOf_60 : decode cX6_barOf 60 = .ok (.invokevirtual 155, 3) := by decide +kernel
theorem dX6_barOf_63 : decode cX6_barOf 63 = .ok (.iadd, 1) := by decide +kernel
theorem dX6_barOf_64 : decode cX6_barOf 64 = .ok (.istore_n 3, 1) := by decide +kernel
theorem dX6_barOf_65 : decode cX6_barOf 65 = .ok (.iload 4, 2) := by decide +kernel
theorem dX6_barOf_67 : decode cX6_barOf 67 = .ok (.aload_n 0, 1) := by decide +kernel
theorem dX6_barOf_68 : decode cX6_barOf 68 = .ok (.getfield 31, 3) := by decide +kernel
theorem dX6_barOf_71 : decode cX6_barOf 71 = .ok (.iload 5, 2) := by decide +kernel
theorem dX6_barOf_73 : decode cX6_barOf 73 = .ok (.invokevirtual 108, 3) := by decide +kernel
theorem dX6_barOf_76 : decode cX6_barOf 76 = .ok (.ior, 1) := by decide +kernel
theorem dX6_barOf_77 : decode cX6_barOf 77 = .ok (.istore 4, 2) := by decide +kernel
theorem dX6_barOf_79 : decode cX6_barOf 79 = .ok (.iinc 5 1, 3) := by decide +kernel
theorem dX6_barOf_82 : decode cX6_barOf 82 = .ok (.goto (-52), 3) := by decide +kernel
theorem dX6_barOf_85 : decode cX6_barOf 85 = .ok (.iload_n 2, 1) := by decide +kernel
theorem dX6_barOf_86 : decode cX6_barOf 86 = .ok (.iconst 3, 1) := by decide +kernel
theorem dX6_barOf_87 : decode cX6_barOf 87 = .ok (.if_icmp .ne 8, 3) := by decide +kernel
theorem dX6_barOf_90 : decode cX6_barOf 90 = .ok (.iload 4, 2) := by decide +kernel
theorem dX6_barOf_92 : decode cX6_barOf 92 = .ok (.goto 4, 3) := by decide +kernel
theorem dX6_barOf_95 : decode cX6_barOf 95 = .ok (.iload_n 3, 1) := by decide +kernel
theorem dX6_barOf_96 : decode cX6_barOf 96 = .ok (.ireturn, 1) := by decide +kernel
set_option maxRecDepth 20000 in
theorem ggX6_partOfBar_X5_beginningAt : GoodIn wsX6_partOfBar wsX5_beginningAt := goodIn_r _ [7, 8, 9, 10, 11, 12, 13, 14, 15, 16, 17, 18, 19, 20, 21, 22, 36, 37, 38, 39, 40, 41, 42, 43, 44] (by decide +kernel) (by decide +kernel)
set_option maxRecDepth 20000 in
theorem gX6_partOfBar_X5_beginningAt : GoodIn wsX6_partOfBar (wsV RX6 117 RX5 yX5_beginningAt wsX5_beginningAt) := goodIn_app (goodIn_of _ (by decide +kernel)) ggX6_partOfBar_X5_beginningAt
set_option maxRecDepth 20000 in
theorem ggX6_partOfBar_X2_holesAt : GoodIn wsX6_partOfBar wsX2_holesAt := goodIn_r _ [13, 14, 15, 37, 38, 39, 40, 41, 42, 43, 44] (by decide +kernel) (by decide +kernel)
set_option maxRecDepth 20000 in
theorem gX6_partOfBar_X2_holesAt : GoodIn wsX6_partOfBar (wsV RX6 94 RX2 yX2_holesAt wsX2_holesAt) := goodIn_app (goodIn_of _ (by decide +kernel)) ggX6_partOfBar_X2_holesAt
set_option maxRecDepth 20000 in
theorem ggX6_partOfBar_X2_clashesOf : GoodIn wsX6_partOfBar wsX2_clashesOf := goodIn_r _ [27, 28, 37, 38, 39, 40, 41, 42, 43, 44] (by decide +kernel) (by decide +kernel)
set_option maxRecDepth 20000 in
theorem gX6_partOfBar_X2_clashesOf : GoodIn wsX6_partOfBar (wsV RX6 105 RX2 yX2_clashesOf wsX2_clashesOf) := goodIn_app (goodIn_of _ (by decide +kernel)) ggX6_partOfBar_X2_clashesOf
theorem dX6_partOfBar_0 : decode cX6_partOfBar 0 = .ok (.iload_n 2, 1) := by decide +kernel
theorem dX6_partOfBar_1 : decode cX6_partOfBar 1 = .ok (.lookupswitch 38 #[(0, 27), (1, 29)], 27) := by decide +kernel
theorem dX6_partOfBar_28 : decode cX6_partOfBar 28 = .ok (.iconst 1, 1) := by decide +kernel
theorem dX6_partOfBar_29 : decode cX6_partOfBar 29 = .ok (.ireturn, 1) := by decide +kernel
theorem dX6_partOfBar_30 : decode cX6_partOfBar 30 = .ok (.aload_n 0, 1) := by decide +kernel
theorem dX6_partOfBar_31 : decode cX6_partOfBar 31 = .ok (.getfield 38, 3) := by decide +kernel
theorem dX6_partOfBar_34 : decode cX6_partOfBar 34 = .ok (.iload_n 1, 1) := by decide +kernel
theorem dX6_partOfBar_35 : decode cX6_partOfBar 35 = .ok (.invokevirtual 117, 3) := by decide +kernel
theorem dX6_partOfBar_38 : decode cX6_partOfBar 38 = .ok (.ireturn, 1) := by decide +kernel
theorem dX6_partOfBar_39 : decode cX6_partOfBar 39 = .ok (.aload_n 0, 1) := by decide +kernel
theorem dX6_partOfBar_40 : decode cX6_partOfBar 40 = .ok (.getfield 10, 3) := by decide +kernel
theorem dX6_partOfBar_43 : decode cX6_partOfBar 43 = .ok (.aload_n 0, 1) := by decide +kernel
theorem dX6_partOfBar_44 : decode cX6_partOfBar 44 = .ok (.getfield 10, 3) := by decide +kernel
theorem dX6_partOfBar_47 : decode cX6_partOfBar 47 = .ok (.iload_n 1, 1) := by decide +kernel
theorem dX6_partOfBar_48 : decode cX6_partOfBar 48 = .ok (.invokevirtual 94, 3) := by decide +kernel
theorem dX6_partOfBar_51 : decode cX6_partOfBar 51 = .ok (.invokevirtual 105, 3) := by decide +kernel
theorem dX6_partOfBar_54 : decode cX6_partOfBar 54 = .ok (.ireturn, 1) := by decide +kernel
set_option maxRecDepth 20000 in
theorem ggX6_alike_X2_hasCard : GoodIn wsX6_alike wsX2_hasCard := goodIn_r _ [9, 10, 53, 54, 55, 56, 57, 58, 59, 60] (by decide +kernel) (by decide +kernel)
set_option maxRecDepth 20000 in
theorem gX6_alike_X2_hasCard : GoodIn wsX6_alike (wsV RX6 89 RX2 yX2_hasCard wsX2_hasCard) := goodIn_app (goodIn_of _ (by decide +kernel)) ggX6_alike_X2_hasCard
set_option maxRecDepth 20000 in
theorem ggX6_alike_X3_soundTheSame : GoodIn wsX6_alike wsX3_soundTheSame := goodIn_r _ [15, 16, 17, 18, 19, 8, 20, 10, 21, 22, 23, 24, 25, 26, 27, 28, 29, 30, 31, 32, 33, 34, 35, 36, 37, 38, 39, 40, 41, 42, 43, 44, 14, 45, 61, 53, 54, 55, 56, 57, 58, 59, 60] (by decide +kernel) (by decide +kernel)
set_option maxRecDepth 20000 in
theorem gX6_alike_X3_soundTheSame : GoodIn wsX6_alike (wsV RX6 158 RX3 yX3_soundTheSame wsX3_soundTheSame) := goodIn_app (goodIn_of _ (by decide +kernel)) ggX6_alike_X3_soundTheSame
theorem dX6_alike_0 : decode cX6_alike 0 = .ok (.aload_n 0, 1) := by decide +kernel
theorem dX6_alike_1 : decode cX6_alike 1 = .ok (.getfield 10, 3) := by decide +kernel
theorem dX6_alike_4 : decode cX6_alike 4 = .ok (.iload_n 1, 1) := by decide +kernel
theorem dX6_alike_5 : decode cX6_alike 5 = .ok (.invokevirtual 89, 3) := by decide +kernel
theorem dX6_alike_8 : decode cX6_alike 8 = .ok (.ifCond .ne 6, 3) := by decide +kernel
theorem dX6_alike_11 : decode cX6_alike 11 = .ok (.ldc 93, 2) := by decide +kernel
theorem dX6_alike_13 : decode cX6_alike 13 = .ok (.ireturn, 1) := by decide +kernel
theorem dX6_alike_14 : decode cX6_alike 14 = .ok (.iload_n 1, 1) := by decide +kernel
theorem dX6_alike_15 : decode cX6_alike 15 = .ok (.iconst 1, 1) := by decide +kernel
theorem dX6_alike_16 : decode cX6_alike 16 = .ok (.isub, 1) := by decide +kernel
theorem dX6_alike_17 : decode cX6_alike 17 = .ok (.istore_n 2, 1) := by decide +kernel
theorem dX6_alike_18 : decode cX6_alike 18 = .ok (.iload_n 2, 1) := by decide +kernel
theorem dX6_alike_19 : decode cX6_alike 19 = .ok (.ifCond .lt 23, 3) := by decide +kernel
theorem dX6_alike_22 : decode cX6_alike 22 = .ok (.aload_n 0, 1) := by decide +kernel
theorem dX6_alike_23 : decode cX6_alike 23 = .ok (.getfield 31, 3) := by decide +kernel
theorem dX6_alike_26 : decode cX6_alike 26 = .ok (.iload_n 2, 1) := by decide +kernel
theorem dX6_alike_27 : decode cX6_alike 27 = .ok (.iload_n 1, 1) := by decide +kernel
theorem dX6_alike_28 : decode cX6_alike 28 = .ok (.invokevirtual 158, 3) := by decide +kernel
theorem dX6_alike_31 : decode cX6_alike 31 = .ok (.ifCond .eq 5, 3) := by decide +kernel
theorem dX6_alike_34 : decode cX6_alike 34 = .ok (.iload_n 2, 1) := by decide +kernel
theorem dX6_alike_35 : decode cX6_alike 35 = .ok (.ireturn, 1) := by decide +kernel
theorem dX6_alike_36 : decode cX6_alike 36 = .ok (.iinc 2 (-1), 3) := by decide +kernel
theorem dX6_alike_39 : decode cX6_alike 39 = .ok (.goto (-21), 3) := by decide +kernel
theorem dX6_alike_42 : decode cX6_alike 42 = .ok (.ldc 147, 2) := by decide +kernel
theorem dX6_alike_44 : decode cX6_alike 44 = .ok (.ireturn, 1) := by decide +kernel
set_option maxRecDepth 20000 in
theorem ggX6_would_X2_answerTo : GoodIn wsX6_would wsX2_answerTo := goodIn_r _ [6, 7, 8, 9, 10, 11, 12, 13, 5, 14, 15, 16, 17, 18, 19, 20, 21, 22, 23, 24, 25, 26, 27, 28, 29, 30, 31, 32, 33, 34, 35, 36, 37, 38, 39, 40, 41, 49, 50, 51, 52, 53, 54, 55, 56] (by decide +kernel) (by decide +kernel)
set_option maxRecDepth 20000 in
theorem gX6_would_X2_answerTo : GoodIn wsX6_would (wsV RX6 162 RX2 yX2_answerTo wsX2_answerTo) := goodIn_app (goodIn_of _ (by decide +kernel)) ggX6_would_X2_answerTo
theorem dX6_would_0 : decode cX6_would 0 = .ok (.aload_n 0, 1) := by decide +kernel
theorem dX6_would_1 : decode cX6_would 1 = .ok (.getfield 10, 3) := by decide +kernel
theorem dX6_would_4 : decode cX6_would 4 = .ok (.iload_n 1, 1) := by decide +kernel
theorem dX6_would_5 : decode cX6_would 5 = .ok (.invokevirtual 162, 3) := by decide +kernel
theorem dX6_would_8 : decode cX6_would 8 = .ok (.ireturn, 1) := by decide +kernel
set_option maxRecDepth 20000 in
theorem ggX6_best_X2_isFull : GoodIn wsX6_best wsX2_isFull := goodIn_r _ [9, 10, 58, 59, 60, 61, 62, 63, 64, 65] (by decide +kernel) (by decide +kernel)
set_option maxRecDepth 20000 in
theorem gX6_best_X2_isFull : GoodIn wsX6_best (wsV RX6 165 RX2 yX2_isFull wsX2_isFull) := goodIn_app (goodIn_of _ (by decide +kernel)) ggX6_best_X2_isFull
set_option maxRecDepth 20000 in
theorem ggX6_best_X2_bestCard : GoodIn wsX6_best wsX2_bestCard := goodIn_r _ [14, 15, 16, 17, 8, 18, 10, 19, 20, 21, 22, 23, 24, 25, 26, 27, 28, 29, 30, 31, 32, 33, 34, 35, 36, 37, 38, 39, 40, 41, 42, 43, 44, 45, 46, 47, 48, 58, 59, 60, 61, 62, 63, 64, 65] (by decide +kernel) (by decide +kernel)
set_option maxRecDepth 20000 in
theorem gX6_best_X2_bestCard : GoodIn wsX6_best (wsV RX6 170 RX2 yX2_bestCard wsX2_bestCard) := goodIn_app (goodIn_of _ (by decide +kernel)) ggX6_best_X2_bestCard
set_option maxRecDepth 20000 in
theorem ggX6_best_X2_clashesOf : GoodIn wsX6_best wsX2_clashesOf := goodIn_r _ [34, 35, 58, 59, 60, 61, 62, 63, 64, 65] (by decide +kernel) (by decide +kernel)
set_option maxRecDepth 20000 in
theorem gX6_best_X2_clashesOf : GoodIn wsX6_best (wsV RX6 105 RX2 yX2_clashesOf wsX2_clashesOf) := goodIn_app (goodIn_of _ (by decide +kernel)) ggX6_best_X2_clashesOf
set_option maxRecDepth 20000 in
theorem ggX6_best_X2_inCommonWithLast : GoodIn wsX6_best wsX2_inCommonWithLast := goodIn_r _ [48, 10, 36, 37, 38, 8, 39, 40, 19, 20, 21, 22, 23, 24, 25, 58, 59, 60, 61, 62, 63, 64, 65] (by decide +kernel) (by decide +kernel)
set_option maxRecDepth 20000 in
theorem gX6_best_X2_inCommonWithLast : GoodIn wsX6_best (wsV RX6 173 RX2 yX2_inCommonWithLast wsX2_inCommonWithLast) := goodIn_app (goodIn_of _ (by decide +kernel)) ggX6_best_X2_inCommonWithLast
theorem dX6_best_0 : decode cX6_best 0 = .ok (.iload_n 1, 1) := by decide +kernel
theorem dX6_best_1 : decode cX6_best 1 = .ok (.ifCond .lt 8, 3) := by decide +kernel
theorem dX6_best_4 : decode cX6_best 4 = .ok (.iload_n 1, 1) := by decide +kernel
theorem dX6_best_5 : decode cX6_best 5 = .ok (.iconst 2, 1) := by decide +kernel
theorem dX6_best_6 : decode cX6_best 6 = .ok (.if_icmp .le 6, 3) := by decide +kernel
theorem dX6_best_9 : decode cX6_best 9 = .ok (.ldc 93, 2) := by decide +kernel
theorem dX6_best_11 : decode cX6_best 11 = .ok (.ireturn, 1) := by decide +kernel
theorem dX6_best_12 : decode cX6_best 12 = .ok (.aload_n 0, 1) := by decide +kernel
theorem dX6_best_13 : decode cX6_best 13 = .ok (.getfield 10, 3) := by decide +kernel
theorem dX6_best_16 : decode cX6_best 16 = .ok (.invokevirtual 165, 3) := by decide +kernel
theorem dX6_best_19 : decode cX6_best 19 = .ok (.ifCond .eq 6, 3) := by decide +kernel
theorem dX6_best_22 : decode cX6_best 22 = .ok (.ldc 169, 2) := by decide +kernel
theorem dX6_best_24 : decode cX6_best 24 = .ok (.ireturn, 1) := by decide +kernel
theorem dX6_best_25 : decode cX6_best 25 = .ok (.aload_n 0, 1) := by decide +kernel
theorem dX6_best_26 : decode cX6_best 26 = .ok (.getfield 10, 3) := by decide +kernel
theorem dX6_best_29 : decode cX6_best 29 = .ok (.invokevirtual 170, 3) := by decide +kernel
theorem dX6_best_32 : decode cX6_best 32 = .ok (.istore_n 2, 1) := by decide +kernel
theorem dX6_best_33 : decode cX6_best 33 = .ok (.iload_n 2, 1) := by decide +kernel
theorem dX6_best_34 : decode cX6_best 34 = .ok (.iconst (-1), 1) := by decide +kernel
theorem dX6_best_35 : decode cX6_best 35 = .ok (.if_icmp .ne 6, 3) := by decide +kernel
theorem dX6_best_38 : decode cX6_best 38 = .ok (.ldc 147, 2) := by decide +kernel
theorem dX6_best_40 : decode cX6_best 40 = .ok (.ireturn, 1) := by decide +kernel
theorem dX6_best_41 : decode cX6_best 41 = .ok (.iload_n 1, 1) := by decide +kernel
theorem dX6_best_42 : decode cX6_best 42 = .ok (.ifCond .ne 7, 3) := by decide +kernel
theorem dX6_best_45 : decode cX6_best 45 = .ok (.iload_n 2, 1) := by decide +kernel
theorem dX6_best_46 : decode cX6_best 46 = .ok (.goto 27, 3) := by decide +kernel
theorem dX6_best_49 : decode cX6_best 49 = .ok (.iload_n 1, 1) := by decide +kernel
theorem dX6_best_50 : decode cX6_best 50 = .ok (.iconst 1, 1) := by decide +kernel
theorem dX6_best_51 : decode cX6_best 51 = .ok (.if_icmp .ne 14, 3) := by decide +kernel
theorem dX6_best_54 : decode cX6_best 54 = .ok (.aload_n 0, 1) := by decide +kernel
theorem dX6_best_55 : decode cX6_best 55 = .ok (.getfield 10, 3) := by decide +kernel
theorem dX6_best_58 : decode cX6_best 58 = .ok (.iload_n 2, 1) := by decide +kernel
theorem dX6_best_59 : decode cX6_best 59 = .ok (.invokevirtual 105, 3) := by decide +kernel
theorem dX6_best_62 : decode cX6_best 62 = .ok (.goto 11, 3) := by decide +kernel
theorem dX6_best_65 : decode cX6_best 65 = .ok (.aload_n 0, 1) := by decide +kernel
theorem dX6_best_66 : decode cX6_best 66 = .ok (.getfield 10, 3) := by decide +kernel
theorem dX6_best_69 : decode cX6_best 69 = .ok (.iload_n 2, 1) := by decide +kernel
theorem dX6_best_70 : decode cX6_best 70 = .ok (.invokevirtual 173, 3) := by decide +kernel
theorem dX6_best_73 : decode cX6_best 73 = .ok (.ireturn, 1) := by decide +kernel
set_option maxRecDepth 20000 in
theorem ggX6_key_X5_inAll : GoodIn wsX6_key wsX5_inAll := goodIn_r _ [8, 9, 10, 11, 12, 13, 7, 14, 15, 16, 17, 18, 19, 20, 21, 22, 23, 24, 25, 26, 27, 28, 61, 62, 63, 64, 65, 66, 67, 68, 69] (by decide +kernel) (by decide +kernel)
set_option maxRecDepth 20000 in
theorem gX6_key_X5_inAll : GoodIn wsX6_key (wsV RX6 176 RX5 yX5_inAll wsX5_inAll) := goodIn_app (goodIn_of _ (by decide +kernel)) ggX6_key_X5_inAll
set_option maxRecDepth 20000 in
theorem ggX6_key_X5_inKey : GoodIn wsX6_key wsX5_inKey := goodIn_r _ [32, 9, 33, 34, 35, 18, 36, 37, 38, 39, 40, 41, 42, 43, 7, 44, 10, 45, 46, 47, 48, 49, 50, 51, 52, 53, 16, 17, 19, 20, 21, 61, 62, 63, 64, 65, 66, 67, 68, 69] (by decide +kernel) (by decide +kernel)
set_option maxRecDepth 20000 in
theorem gX6_key_X5_inKey : GoodIn wsX6_key (wsV RX6 179 RX5 yX5_inKey wsX5_inKey) := goodIn_app (goodIn_of _ (by decide +kernel)) ggX6_key_X5_inKey
theorem dX6_key_0 : decode cX6_key 0 = .ok (.iload_n 1, 1) := by decide +kernel
theorem dX6_key_1 : decode cX6_key 1 = .ok (.ifCond .lt 8, 3) := by decide +kernel
theorem dX6_key_4 : decode cX6_key 4 = .ok (.iload_n 1, 1) := by decide +kernel
theorem dX6_key_5 : decode cX6_key 5 = .ok (.iconst 1, 1) := by decide +kernel
theorem dX6_key_6 : decode cX6_key 6 = .ok (.if_icmp .le 6, 3) := by decide +kernel
theorem dX6_key_9 : decode cX6_key 9 = .ok (.ldc 93, 2) := by decide +kernel
theorem dX6_key_11 : decode cX6_key 11 = .ok (.ireturn, 1) := by decide +kernel
theorem dX6_key_12 : decode cX6_key 12 = .ok (.aload_n 0, 1) := by decide +kernel
theorem dX6_key_13 : decode cX6_key 13 = .ok (.getfield 38, 3) := by decide +kernel
theorem dX6_key_16 : decode cX6_key 16 = .ok (.invokevirtual 176, 3) := by decide +kernel
theorem dX6_key_19 : decode cX6_key 19 = .ok (.ifCond .ne 6, 3) := by decide +kernel
theorem dX6_key_22 : decode cX6_key 22 = .ok (.ldc 147, 2) := by decide +kernel
theorem dX6_key_24 : decode cX6_key 24 = .ok (.ireturn, 1) := by decide +kernel
theorem dX6_key_25 : decode cX6_key 25 = .ok (.iconst 0, 1) := by decide +kernel
theorem dX6_key_26 : decode cX6_key 26 = .ok (.istore_n 2, 1) := by decide +kernel
theorem dX6_key_27 : decode cX6_key 27 = .ok (.aload_n 0, 1) := by decide +kernel
theorem dX6_key_28 : decode cX6_key 28 = .ok (.getfield 38, 3) := by decide +kernel
theorem dX6_key_31 : decode cX6_key 31 = .ok (.iconst 0, 1) := by decide +kernel
theorem dX6_key_32 : decode cX6_key 32 = .ok (.invokevirtual 179, 3) := by decide +kernel
theorem dX6_key_35 : decode cX6_key 35 = .ok (.istore_n 3, 1) := by decide +kernel
theorem dX6_key_36 : decode cX6_key 36 = .ok (.iconst 1, 1) := by decide +kernel
theorem dX6_key_37 : decode cX6_key 37 = .ok (.istore 4, 2) := by decide +kernel
theorem dX6_key_39 : decode cX6_key 39 = .ok (.iload 4, 2) := by decide +kernel
theorem dX6_key_41 : decode cX6_key 41 = .ok (.bipush 12, 2) := by decide +kernel
theorem dX6_key_43 : decode cX6_key 43 = .ok (.if_icmp .ge 32, 3) := by decide +kernel
theorem dX6_key_46 : decode cX6_key 46 = .ok (.aload_n 0, 1) := by decide +kernel
theorem dX6_key_47 : decode cX6_key 47 = .ok (.getfield 38, 3) := by decide +kernel
theorem dX6_key_50 : decode cX6_key 50 = .ok (.iload 4, 2) := by decide +kernel
theorem dX6_key_52 : decode cX6_key 52 = .ok (.invokevirtual 179, 3) := by decide +kernel
theorem dX6_key_55 : decode cX6_key 55 = .ok (.istore 5, 2) := by decide +kernel
theorem dX6_key_57 : decode cX6_key 57 = .ok (.iload 5, 2) := by decide +kernel
theorem dX6_key_59 : decode cX6_key 59 = .ok (.iload_n 3, 1) := by decide +kernel
theorem dX6_key_60 : decode cX6_key 60 = .ok (.if_icmp .le 9, 3) := by decide +kernel
theorem dX6_key_63 : decode cX6_key 63 = .ok (.iload 4, 2) := by decide +kernel
theorem dX6_key_65 : decode cX6_key 65 = .ok (.istore_n 2, 1) := by decide +kernel
theorem dX6_key_66 : decode cX6_key 66 = .ok (.iload 5, 2) := by decide +kernel
theorem dX6_key_68 : decode cX6_key 68 = .ok (.istore_n 3, 1) := by decide +kernel
theorem dX6_key_69 : decode cX6_key 69 = .ok (.iinc 4 1, 3) := by decide +kernel
theorem dX6_key_72 : decode cX6_key 72 = .ok (.goto (-33), 3) := by decide +kernel
theorem dX6_key_75 : decode cX6_key 75 = .ok (.iload_n 1, 1) := by decide +kernel
theorem dX6_key_76 : decode cX6_key 76 = .ok (.ifCond .ne 7, 3) := by decide +kernel
theorem dX6_key_79 : decode cX6_key 79 = .ok (.iload_n 2, 1) := by decide +kernel
theorem dX6_key_80 : decode cX6_key 80 = .ok (.goto 4, 3) := by decide +kernel
theorem dX6_key_83 : decode cX6_key 83 = .ok (.iload_n 3, 1) := by decide +kernel
theorem dX6_key_84 : decode cX6_key 84 = .ok (.ireturn, 1) := by decide +kernel
set_option maxRecDepth 20000 in
theorem ggX6_like_X2_holesAt : GoodIn wsX6_like wsX2_holesAt := goodIn_r _ [8, 9, 10, 25, 26, 27, 28, 29, 30, 31, 32] (by decide +kernel) (by decide +kernel)
set_option maxRecDepth 20000 in
theorem gX6_like_X2_holesAt : GoodIn wsX6_like (wsV RX6 94 RX2 yX2_holesAt wsX2_holesAt) := goodIn_app (goodIn_of _ (by decide +kernel)) ggX6_like_X2_holesAt
set_option maxRecDepth 20000 in
theorem ggX6_like_X6_mirrored : GoodIn wsX6_like wsX6_mirrored := goodIn_r _ [14, 15, 16, 13, 17] (by decide +kernel) (by decide +kernel)
set_option maxRecDepth 20000 in
theorem gX6_like_X6_mirrored : GoodIn wsX6_like (va_wsS RX6 182 yX6_mirrored wsX6_mirrored) := goodIn_app (goodIn_of _ (by decide +kernel)) ggX6_like_X6_mirrored
theorem dX6_like_0 : decode cX6_like 0 = .ok (.iload_n 1, 1) := by decide +kernel
theorem dX6_like_1 : decode cX6_like 1 = .ok (.ifCond .lt 8, 3) := by decide +kernel
theorem dX6_like_4 : decode cX6_like 4 = .ok (.iload_n 1, 1) := by decide +kernel
theorem dX6_like_5 : decode cX6_like 5 = .ok (.iconst 2, 1) := by decide +kernel
theorem dX6_like_6 : decode cX6_like 6 = .ok (.if_icmp .le 6, 3) := by decide +kernel
theorem dX6_like_9 : decode cX6_like 9 = .ok (.ldc 93, 2) := by decide +kernel
theorem dX6_like_11 : decode cX6_like 11 = .ok (.ireturn, 1) := by decide +kernel
theorem dX6_like_12 : decode cX6_like 12 = .ok (.iconst 0, 1) := by decide +kernel
theorem dX6_like_13 : decode cX6_like 13 = .ok (.istore_n 2, 1) := by decide +kernel
theorem dX6_like_14 : decode cX6_like 14 = .ok (.iload_n 2, 1) := by decide +kernel
theorem dX6_like_15 : decode cX6_like 15 = .ok (.aload_n 0, 1) := by decide +kernel
theorem dX6_like_16 : decode cX6_like 16 = .ok (.getfield 10, 3) := by decide +kernel
theorem dX6_like_19 : decode cX6_like 19 = .ok (.getfield 151, 3) := by decide +kernel
theorem dX6_like_22 : decode cX6_like 22 = .ok (.if_icmp .ge 62, 3) := by decide +kernel
theorem dX6_like_25 : decode cX6_like 25 = .ok (.aload_n 0, 1) := by decide +kernel
theorem dX6_like_26 : decode cX6_like 26 = .ok (.getfield 10, 3) := by decide +kernel
theorem dX6_like_29 : decode cX6_like 29 = .ok (.iload_n 1, 1) := by decide +kernel
theorem dX6_like_30 : decode cX6_like 30 = .ok (.iconst 1, 1) := by decide +kernel
