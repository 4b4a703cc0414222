set_option maxRecDepth 20000 in
theorem ggX1_init_X2_init : GoodIn wsX1_init wsX2_init := goodIn_r _ [11, 12, 2, 3, 13, 14, 15, 16, 17, 18, 19, 20, 21, 24, 25, 26, 27, 28, 29, 30, 31] (by decide +kernel) (by decide +kernel)
set_option maxRecDepth 20000 in
theorem gX1_init_X2_init : GoodIn wsX1_init (wsX2_init) := ggX1_init_X2_init
theorem dX1_init_0 : decode cX1_init 0 = .ok (.aload_n 0, 1) := by decide +kernel
theorem dX1_init_1 : decode cX1_init 1 = .ok (.invokespecial 3, 3) := by decide +kernel
theorem dX1_init_4 : decode cX1_init 4 = .ok (.aload_n 0, 1) := by decide +kernel
theorem dX1_init_5 : decode cX1_init 5 = .ok (.iconst 4, 1) := by decide +kernel
theorem dX1_init_6 : decode cX1_init 6 = .ok (.anewarray 9, 3) := by decide +kernel
theorem dX1_init_9 : decode cX1_init 9 = .ok (.putfield 11, 3) := by decide +kernel
theorem dX1_init_12 : decode cX1_init 12 = .ok (.iconst 0, 1) := by decide +kernel
theorem dX1_init_13 : decode cX1_init 13 = .ok (.istore_n 1, 1) := by decide +kernel
theorem dX1_init_14 : decode cX1_init 14 = .ok (.iload_n 1, 1) := by decide +kernel
theorem dX1_init_15 : decode cX1_init 15 = .ok (.aload_n 0, 1) := by decide +kernel
theorem dX1_init_16 : decode cX1_init 16 = .ok (.getfield 11, 3) := by decide +kernel
theorem dX1_init_19 : decode cX1_init 19 = .ok (.arraylength, 1) := by decide +kernel
theorem dX1_init_20 : decode cX1_init 20 = .ok (.if_icmp .ge 22, 3) := by decide +kernel
theorem dX1_init_23 : decode cX1_init 23 = .ok (.aload_n 0, 1) := by decide +kernel
theorem dX1_init_24 : decode cX1_init 24 = .ok (.getfield 11, 3) := by decide +kernel
theorem dX1_init_27 : decode cX1_init 27 = .ok (.iload_n 1, 1) := by decide +kernel
theorem dX1_init_28 : decode cX1_init 28 = .ok (.new 9, 3) := by decide +kernel
theorem dX1_init_31 : decode cX1_init 31 = .ok (.dup, 1) := by decide +kernel
theorem dX1_init_32 : decode cX1_init 32 = .ok (.invokespecial 17, 3) := by decide +kernel
theorem dX1_init_35 : decode cX1_init 35 = .ok (.aastore, 1) := by decide +kernel
theorem dX1_init_36 : decode cX1_init 36 = .ok (.iinc 1 1, 3) := by decide +kernel
theorem dX1_init_39 : decode cX1_init 39 = .ok (.goto (-25), 3) := by decide +kernel
theorem dX1_init_42 : decode cX1_init 42 = .ok (.aload_n 0, 1) := by decide +kernel
theorem dX1_init_43 : decode cX1_init 43 = .ok (.iconst 0, 1) := by decide +kernel
theorem dX1_init_44 : decode cX1_init 44 = .ok (.putfield 18, 3) := by decide +kernel
theorem dX1_init_47 : decode cX1_init 47 = .ok (.return_, 1) := by decide +kernel
set_option maxRecDepth 20000 in
theorem ggX1_keep_X1_dropOldest : GoodIn wsX1_keep wsX1_dropOldest := goodIn_r _ [7, 2, 1, 8, 9, 10, 6, 11, 28, 29] (by decide +kernel) (by decide +kernel)
set_option maxRecDepth 20000 in
theorem gX1_keep_X1_dropOldest : GoodIn wsX1_keep (wsV RX1 22 RX1 yX1_dropOldest wsX1_dropOldest) := goodIn_app (goodIn_of _ (by decide +kernel)) ggX1_keep_X1_dropOldest
set_option maxRecDepth 20000 in
theorem ggX1_keep_X1_stateAt : GoodIn wsX1_keep wsX1_stateAt := goodIn_r _ [11, 2, 28, 29] (by decide +kernel) (by decide +kernel)
set_option maxRecDepth 20000 in
theorem gX1_keep_X1_stateAt : GoodIn wsX1_keep (wsV RX1 25 RX1 yX1_stateAt wsX1_stateAt) := goodIn_app (goodIn_of _ (by decide +kernel)) ggX1_keep_X1_stateAt
set_option maxRecDepth 20000 in
theorem ggX1_keep_X2_copyFrom : GoodIn wsX1_keep wsX2_copyFrom := goodIn_r _ [16, 17, 18, 19, 20, 21, 22, 23, 24, 25, 26, 15, 27, 30, 31, 32, 33, 34, 35, 36, 37] (by decide +kernel) (by decide +kernel)
set_option maxRecDepth 20000 in
theorem gX1_keep_X2_copyFrom : GoodIn wsX1_keep (wsV RX1 29 RX2 yX2_copyFrom wsX2_copyFrom) := goodIn_app (goodIn_of _ (by decide +kernel)) ggX1_keep_X2_copyFrom
theorem dX1_keep_0 : decode cX1_keep 0 = .ok (.aload_n 0, 1) := by decide +kernel
theorem dX1_keep_1 : decode cX1_keep 1 = .ok (.getfield 18, 3) := by decide +kernel
theorem dX1_keep_4 : decode cX1_keep 4 = .ok (.aload_n 0, 1) := by decide +kernel
theorem dX1_keep_5 : decode cX1_keep 5 = .ok (.getfield 11, 3) := by decide +kernel
theorem dX1_keep_8 : decode cX1_keep 8 = .ok (.arraylength, 1) := by decide +kernel
theorem dX1_keep_9 : decode cX1_keep 9 = .ok (.if_icmp .lt 7, 3) := by decide +kernel
theorem dX1_keep_12 : decode cX1_keep 12 = .ok (.aload_n 0, 1) := by decide +kernel
theorem dX1_keep_13 : decode cX1_keep 13 = .ok (.invokevirtual 22, 3) := by decide +kernel
theorem dX1_keep_16 : decode cX1_keep 16 = .ok (.aload_n 0, 1) := by decide +kernel
theorem dX1_keep_17 : decode cX1_keep 17 = .ok (.aload_n 0, 1) := by decide +kernel
theorem dX1_keep_18 : decode cX1_keep 18 = .ok (.getfield 18, 3) := by decide +kernel
theorem dX1_keep_21 : decode cX1_keep 21 = .ok (.invokevirtual 25, 3) := by decide +kernel
theorem dX1_keep_24 : decode cX1_keep 24 = .ok (.astore_n 2, 1) := by decide +kernel
theorem dX1_keep_25 : decode cX1_keep 25 = .ok (.aload_n 2, 1) := by decide +kernel
theorem dX1_keep_26 : decode cX1_keep 26 = .ok (.ifnull 18, 3) := by decide +kernel
theorem dX1_keep_29 : decode cX1_keep 29 = .ok (.aload_n 2, 1) := by decide +kernel
theorem dX1_keep_30 : decode cX1_keep 30 = .ok (.aload_n 1, 1) := by decide +kernel
theorem dX1_keep_31 : decode cX1_keep 31 = .ok (.invokevirtual 29, 3) := by decide +kernel
theorem dX1_keep_34 : decode cX1_keep 34 = .ok (.aload_n 0, 1) := by decide +kernel
theorem dX1_keep_35 : decode cX1_keep 35 = .ok (.dup, 1) := by decide +kernel
theorem dX1_keep_36 : decode cX1_keep 36 = .ok (.getfield 18, 3) := by decide +kernel
theorem dX1_keep_39 : decode cX1_keep 39 = .ok (.iconst 1, 1) := by decide +kernel
theorem dX1_keep_40 : decode cX1_keep 40 = .ok (.iadd, 1) := by decide +kernel
theorem dX1_keep_41 : decode cX1_keep 41 = .ok (.putfield 18, 3) := by decide +kernel
theorem dX1_keep_44 : decode cX1_keep 44 = .ok (.return_, 1) := by decide +kernel
set_option maxRecDepth 20000 in
theorem ggX1_dropOldest_X1_stateAt : GoodIn wsX1_dropOldest wsX1_stateAt := goodIn_r _ [7, 1, 8, 9] (by decide +kernel) (by decide +kernel)
set_option maxRecDepth 20000 in
theorem gX1_dropOldest_X1_stateAt : GoodIn wsX1_dropOldest (wsV RX1 25 RX1 yX1_stateAt wsX1_stateAt) := goodIn_app (goodIn_of _ (by decide +kernel)) ggX1_dropOldest_X1_stateAt
theorem dX1_dropOldest_0 : decode cX1_dropOldest 0 = .ok (.aload_n 0, 1) := by decide +kernel
theorem dX1_dropOldest_1 : decode cX1_dropOldest 1 = .ok (.iconst 0, 1) := by decide +kernel
theorem dX1_dropOldest_2 : decode cX1_dropOldest 2 = .ok (.invokevirtual 25, 3) := by decide +kernel
theorem dX1_dropOldest_5 : decode cX1_dropOldest 5 = .ok (.astore_n 1, 1) := by decide +kernel
theorem dX1_dropOldest_6 : decode cX1_dropOldest 6 = .ok (.iconst 0, 1) := by decide +kernel
theorem dX1_dropOldest_7 : decode cX1_dropOldest 7 = .ok (.istore_n 2, 1) := by decide +kernel
theorem dX1_dropOldest_8 : decode cX1_dropOldest 8 = .ok (.iload_n 2, 1) := by decide +kernel
theorem dX1_dropOldest_9 : decode cX1_dropOldest 9 = .ok (.iconst 1, 1) := by decide +kernel
theorem dX1_dropOldest_10 : decode cX1_dropOldest 10 = .ok (.iadd, 1) := by decide +kernel
theorem dX1_dropOldest_11 : decode cX1_dropOldest 11 = .ok (.aload_n 0, 1) := by decide +kernel
theorem dX1_dropOldest_12 : decode cX1_dropOldest 12 = .ok (.getfield 11, 3) := by decide +kernel
theorem dX1_dropOldest_15 : decode cX1_dropOldest 15 = .ok (.arraylength, 1) := by decide +kernel
theorem dX1_dropOldest_16 : decode cX1_dropOldest 16 = .ok (.if_icmp .ge 23, 3) := by decide +kernel
theorem dX1_dropOldest_19 : decode cX1_dropOldest 19 = .ok (.aload_n 0, 1) := by decide +kernel
theorem dX1_dropOldest_20 : decode cX1_dropOldest 20 = .ok (.getfield 11, 3) := by decide +kernel
theorem dX1_dropOldest_23 : decode cX1_dropOldest 23 = .ok (.iload_n 2, 1) := by decide +kernel
theorem dX1_dropOldest_24 : decode cX1_dropOldest 24 = .ok (.aload_n 0, 1) := by decide +kernel
theorem dX1_dropOldest_25 : decode cX1_dropOldest 25 = .ok (.getfield 11, 3) := by decide +kernel
theorem dX1_dropOldest_28 : decode cX1_dropOldest 28 = .ok (.iload_n 2, 1) := by decide +kernel
theorem dX1_dropOldest_29 : decode cX1_dropOldest 29 = .ok (.iconst 1, 1) := by decide +kernel
theorem dX1_dropOldest_30 : decode cX1_dropOldest 30 = .ok (.iadd, 1) := by decide +kernel
theorem dX1_dropOldest_31 : decode cX1_dropOldest 31 = .ok (.aaload, 1) := by decide +kernel
theorem dX1_dropOldest_32 : decode cX1_dropOldest 32 = .ok (.aastore, 1) := by decide +kernel
theorem dX1_dropOldest_33 : decode cX1_dropOldest 33 = .ok (.iinc 2 1, 3) := by decide +kernel
theorem dX1_dropOldest_36 : decode cX1_dropOldest 36 = .ok (.goto (-28), 3) := by decide +kernel
theorem dX1_dropOldest_39 : decode cX1_dropOldest 39 = .ok (.aload_n 0, 1) := by decide +kernel
theorem dX1_dropOldest_40 : decode cX1_dropOldest 40 = .ok (.getfield 11, 3) := by decide +kernel
theorem dX1_dropOldest_43 : decode cX1_dropOldest 43 = .ok (.arraylength, 1) := by decide +kernel
theorem dX1_dropOldest_44 : decode cX1_dropOldest 44 = .ok (.ifCond .le 16, 3) := by decide +kernel
theorem dX1_dropOldest_47 : decode cX1_dropOldest 47 = .ok (.aload_n 0, 1) := by decide +kernel
theorem dX1_dropOldest_48 : decode cX1_dropOldest 48 = .ok (.getfield 11, 3) := by decide +kernel
theorem dX1_dropOldest_51 : decode cX1_dropOldest 51 = .ok (.aload_n 0, 1) := by decide +kernel
theorem dX1_dropOldest_52 : decode cX1_dropOldest 52 = .ok (.getfield 11, 3) := by decide +kernel
theorem dX1_dropOldest_55 : decode cX1_dropOldest 55 = .ok (.arraylength, 1) := by decide +kernel
theorem dX1_dropOldest_56 : decode cX1_dropOldest 56 = .ok (.iconst 1, 1) := by decide +kernel
theorem dX1_dropOldest_57 : decode cX1_dropOldest 57 = .ok (.isub, 1) := by decide +kernel
theorem dX1_dropOldest_58 : decode cX1_dropOldest 58 = .ok (.aload_n 1, 1) := by decide +kernel
theorem dX1_dropOldest_59 : decode cX1_dropOldest 59 = .ok (.aastore, 1) := by decide +kernel
theorem dX1_dropOldest_60 : decode cX1_dropOldest 60 = .ok (.aload_n 0, 1) := by decide +kernel
theorem dX1_dropOldest_61 : decode cX1_dropOldest 61 = .ok (.dup, 1) := by decide +kernel
theorem dX1_dropOldest_62 : decode cX1_dropOldest 62 = .ok (.getfield 18, 3) := by decide +kernel
theorem dX1_dropOldest_65 : decode cX1_dropOldest 65 = .ok (.iconst 1, 1) := by decide +kernel
theorem dX1_dropOldest_66 : decode cX1_dropOldest 66 = .ok (.isub, 1) := by decide +kernel
theorem dX1_dropOldest_67 : decode cX1_dropOldest 67 = .ok (.putfield 18, 3) := by decide +kernel
theorem dX1_dropOldest_70 : decode cX1_dropOldest 70 = .ok (.return_, 1) := by decide +kernel
set_option maxRecDepth 20000 in
theorem ggX1_restoreTo_X1_stateAt : GoodIn wsX1_restoreTo wsX1_stateAt := goodIn_r _ [7, 8, 25, 26] (by decide +kernel) (by decide +kernel)
set_option maxRecDepth 20000 in
theorem gX1_restoreTo_X1_stateAt : GoodIn wsX1_restoreTo (wsV RX1 25 RX1 yX1_stateAt wsX1_stateAt) := goodIn_app (goodIn_of _ (by decide +kernel)) ggX1_restoreTo_X1_stateAt
set_option maxRecDepth 20000 in
theorem ggX1_restoreTo_X2_copyFrom : GoodIn wsX1_restoreTo wsX2_copyFrom := goodIn_r _ [13, 14, 15, 16, 17, 18, 19, 20, 21, 22, 23, 12, 24, 27, 28, 29, 30, 31, 32, 33, 34] (by decide +kernel) (by decide +kernel)
set_option maxRecDepth 20000 in
theorem gX1_restoreTo_X2_copyFrom : GoodIn wsX1_restoreTo (wsV RX1 29 RX2 yX2_copyFrom wsX2_copyFrom) := goodIn_app (goodIn_of _ (by decide +kernel)) ggX1_restoreTo_X2_copyFrom
theorem dX1_restoreTo_0 : decode cX1_restoreTo 0 = .ok (.aload_n 0, 1) := by decide +kernel
theorem dX1_restoreTo_1 : decode cX1_restoreTo 1 = .ok (.aload_n 0, 1) := by decide +kernel
theorem dX1_restoreTo_2 : decode cX1_restoreTo 2 = .ok (.getfield 18, 3) := by decide +kernel
theorem dX1_restoreTo_5 : decode cX1_restoreTo 5 = .ok (.iconst 1, 1) := by decide +kernel
theorem dX1_restoreTo_6 : decode cX1_restoreTo 6 = .ok (.isub, 1) := by decide +kernel
theorem dX1_restoreTo_7 : decode cX1_restoreTo 7 = .ok (.invokevirtual 25, 3) := by decide +kernel
theorem dX1_restoreTo_10 : decode cX1_restoreTo 10 = .ok (.astore_n 2, 1) := by decide +kernel
theorem dX1_restoreTo_11 : decode cX1_restoreTo 11 = .ok (.aload_n 2, 1) := by decide +kernel
theorem dX1_restoreTo_12 : decode cX1_restoreTo 12 = .ok (.ifnonnull 6, 3) := by decide +kernel
theorem dX1_restoreTo_15 : decode cX1_restoreTo 15 = .ok (.ldc 33, 2) := by decide +kernel
theorem dX1_restoreTo_17 : decode cX1_restoreTo 17 = .ok (.ireturn, 1) := by decide +kernel
theorem dX1_restoreTo_18 : decode cX1_restoreTo 18 = .ok (.aload_n 1, 1) := by decide +kernel
theorem dX1_restoreTo_19 : decode cX1_restoreTo 19 = .ok (.aload_n 2, 1) := by decide +kernel
theorem dX1_restoreTo_20 : decode cX1_restoreTo 20 = .ok (.invokevirtual 29, 3) := by decide +kernel
theorem dX1_restoreTo_23 : decode cX1_restoreTo 23 = .ok (.aload_n 0, 1) := by decide +kernel
theorem dX1_restoreTo_24 : decode cX1_restoreTo 24 = .ok (.dup, 1) := by decide +kernel
theorem dX1_restoreTo_25 : decode cX1_restoreTo 25 = .ok (.getfield 18, 3) := by decide +kernel
theorem dX1_restoreTo_28 : decode cX1_restoreTo 28 = .ok (.iconst 1, 1) := by decide +kernel
theorem dX1_restoreTo_29 : decode cX1_restoreTo 29 = .ok (.isub, 1) := by decide +kernel
theorem dX1_restoreTo_30 : decode cX1_restoreTo 30 = .ok (.putfield 18, 3) := by decide +kernel
theorem dX1_restoreTo_33 : decode cX1_restoreTo 33 = .ok (.aload_n 0, 1) := by decide +kernel
theorem dX1_restoreTo_34 : decode cX1_restoreTo 34 = .ok (.getfield 18, 3) := by decide +kernel
theorem dX1_restoreTo_37 : decode cX1_restoreTo 37 = .ok (.ireturn, 1) := by decide +kernel
theorem dX1_stateAt_0 : decode cX1_stateAt 0 = .ok (.iload_n 1, 1) := by decide +kernel
theorem dX1_stateAt_1 : decode cX1_stateAt 1 = .ok (.ifCond .lt 21, 3) := by decide +kernel
theorem dX1_stateAt_4 : decode cX1_stateAt 4 = .ok (.iload_n 1, 1) := by decide +kernel
theorem dX1_stateAt_5 : decode cX1_stateAt 5 = .ok (.aload_n 0, 1) := by decide +kernel
theorem dX1_stateAt_6 : decode cX1_stateAt 6 = .ok (.getfield 11, 3) := by decide +kernel
theorem dX1_stateAt_9 : decode cX1_stateAt 9 = .ok (.arraylength, 1) := by decide +kernel
theorem dX1_stateAt_10 : decode cX1_stateAt 10 = .ok (.if_icmp .ge 12, 3) := by decide +kernel
theorem dX1_stateAt_13 : decode cX1_stateAt 13 = .ok (.aload_n 0, 1) := by decide +kernel
theorem dX1_stateAt_14 : decode cX1_stateAt 14 = .ok (.getfield 11, 3) := by decide +kernel
theorem dX1_stateAt_17 : decode cX1_stateAt 17 = .ok (.iload_n 1, 1) := by decide +kernel
theorem dX1_stateAt_18 : decode cX1_stateAt 18 = .ok (.aaload, 1) := by decide +kernel
theorem dX1_stateAt_19 : decode cX1_stateAt 19 = .ok (.goto 4, 3) := by decide +kernel
theorem dX1_stateAt_22 : decode cX1_stateAt 22 = .ok (.aconst_null, 1) := by decide +kernel
theorem dX1_stateAt_23 : decode cX1_stateAt 23 = .ok (.areturn, 1) := by decide +kernel
set_option maxRecDepth 20000 in
theorem ggX6_init_X2_init : GoodIn wsX6_init wsX2_init := goodIn_r _ [31, 32, 2, 3, 33, 34, 35, 36, 37, 38, 39, 40, 41, 72, 73, 74, 75, 76, 77, 78, 79] (by decide +kernel) (by decide +kernel)
set_option maxRecDepth 20000 in
theorem gX6_init_X2_init : GoodIn wsX6_init (wsX2_init) := ggX6_init_X2_init
set_option maxRecDepth 20000 in
theorem ggX6_init_X1_init : GoodIn wsX6_init wsX1_init := goodIn_r _ [44, 45, 2, 3, 46, 47, 5, 6, 48, 49, 30, 31, 32, 33, 34, 35, 36, 37, 38, 39, 40, 41, 87, 88, 72, 73, 74, 75, 76, 77, 78, 79] (by decide +kernel) (by decide +kernel)
set_option maxRecDepth 20000 in
theorem gX6_init_X1_init : GoodIn wsX6_init (wsX1_init) := ggX6_init_X1_init
set_option maxRecDepth 20000 in
theorem ggX6_init_X3_init : GoodIn wsX6_init wsX3_init := goodIn_r _ [52, 53, 2, 3, 54, 89] (by decide +kernel) (by decide +kernel)
set_option maxRecDepth 20000 in
theorem gX6_init_X3_init : GoodIn wsX6_init (wsX3_init) := ggX6_init_X3_init
set_option maxRecDepth 20000 in
theorem ggX6_init_X5_init : GoodIn wsX6_init wsX5_init := goodIn_r _ [57, 58, 2, 3, 59, 90] (by decide +kernel) (by decide +kernel)
set_option maxRecDepth 20000 in
theorem gX6_init_X5_init : GoodIn wsX6_init (wsX5_init) := ggX6_init_X5_init
set_option maxRecDepth 20000 in
theorem ggX6_init_X0_init : GoodIn wsX6_init wsX0_init := goodIn_r _ [62, 63, 2, 3, 64, 91] (by decide +kernel) (by decide +kernel)
set_option maxRecDepth 20000 in
theorem gX6_init_X0_init : GoodIn wsX6_init (wsX0_init) := ggX6_init_X0_init
set_option maxRecDepth 20000 in
theorem ggX6_init_X4_init : GoodIn wsX6_init wsX4_init := goodIn_r _ [67, 68, 2, 3, 69, 70, 71, 92, 93, 94, 95, 96, 97, 98, 99, 100, 101] (by decide +kernel) (by decide +kernel)
set_option maxRecDepth 20000 in
theorem gX6_init_X4_init : GoodIn wsX6_init (wsX4_init) := ggX6_init_X4_init
theorem dX6_init_0 : decode cX6_init 0 = .ok (.aload_n 0, 1) := by decide +kernel
theorem dX6_init_1 : decode cX6_init 1 = .ok (.invokespecial 1, 3) := by decide +kernel
theorem dX6_init_4 : decode cX6_init 4 = .ok (.aload_n 0, 1) := by decide +kernel
theorem dX6_init_5 : decode cX6_init 5 = .ok (.new 7, 3) := by decide +kernel
theorem dX6_init_8 : decode cX6_init 8 = .ok (.dup, 1) := by decide +kernel
theorem dX6_init_9 : decode cX6_init 9 = .ok (.invokespecial 9, 3) := by decide +kernel
theorem dX6_init_12 : decode cX6_init 12 = .ok (.putfield 10, 3) := by decide +kernel
theorem dX6_init_15 : decode cX6_init 15 = .ok (.aload_n 0, 1) := by decide +kernel
theorem dX6_init_16 : decode cX6_init 16 = .ok (.new 7, 3) := by decide +kernel
theorem dX6_init_19 : decode cX6_init 19 = .ok (.dup, 1) := by decide +kernel
theorem dX6_init_20 : decode cX6_init 20 = .ok (.invokespecial 9, 3) := by decide +kernel
theorem dX6_init_23 : decode cX6_init 23 = .ok (.putfield 16, 3) := by decide +kernel
theorem dX6_init_26 : decode cX6_init 26 = .ok (.aload_n 0, 1) := by decide +kernel
theorem dX6_init_27 : decode cX6_init 27 = .ok (.new 19, 3) := by decide +kernel
theorem dX6_init_30 : decode cX6_init 30 = .ok (.dup, 1) := by decide +kernel
theorem dX6_init_31 : decode cX6_init 31 = .ok (.invokespecial 21, 3) := by decide +kernel
theorem dX6_init_34 : decode cX6_init 34 = .ok (.putfield 22, 3) := by decide +kernel
theorem dX6_init_37 : decode cX6_init 37 = .ok (.aload_n 0, 1) := by decide +kernel
theorem dX6_init_38 : decode cX6_init 38 = .ok (.new 26, 3) := by decide +kernel
theorem dX6_init_41 : decode cX6_init 41 = .ok (.dup, 1) := by decide +kernel
theorem dX6_init_42 : decode cX6_init 42 = .ok (.aload_n 0, 1) := by decide +kernel
theorem dX6_init_43 : decode cX6_init 43 = .ok (.getfield 10, 3) := by decide +kernel
theorem dX6_init_46 : decode cX6_init 46 = .ok (.invokespecial 28, 3) := by decide +kernel
theorem dX6_init_49 : decode cX6_init 49 = .ok (.putfield 31, 3) := by decide +kernel
theorem dX6_init_52 : decode cX6_init 52 = .ok (.aload_n 0, 1) := by decide +kernel
theorem dX6_init_53 : decode cX6_init 53 = .ok (.new 35, 3) := by decide +kernel
theorem dX6_init_56 : decode cX6_init 56 = .ok (.dup, 1) := by decide +kernel
theorem dX6_init_57 : decode cX6_init 57 = .ok (.aload_n 0, 1) := by decide +kernel
theorem dX6_init_58 : decode cX6_init 58 = .ok (.getfield 10, 3) := by decide +kernel
theorem dX6_init_61 : decode cX6_init 61 = .ok (.invokespecial 37, 3) := by decide +kernel
theorem dX6_init_64 : decode cX6_init 64 = .ok (.putfield 38, 3) := by decide +kernel
theorem dX6_init_67 : decode cX6_init 67 = .ok (.aload_n 0, 1) := by decide +kernel
theorem dX6_init_68 : decode cX6_init 68 = .ok (.new 42, 3) := by decide +kernel
theorem dX6_init_71 : decode cX6_init 71 = .ok (.dup, 1) := by decide +kernel
theorem dX6_init_72 : decode cX6_init 72 = .ok (.aload_n 0, 1) := by decide +kernel
theorem dX6_init_73 : decode cX6_init 73 = .ok (.getfield 10, 3) := by decide +kernel
theorem dX6_init_76 : decode cX6_init 76 = .ok (.invokespecial 44, 3) := by decide +kernel
theorem dX6_init_79 : decode cX6_init 79 = .ok (.putfield 45, 3) := by decide +kernel
theorem dX6_init_82 : decode cX6_init 82 = .ok (.aload_n 0, 1) := by decide +kernel
theorem dX6_init_83 : decode cX6_init 83 = .ok (.new 49, 3) := by decide +kernel
theorem dX6_init_86 : decode cX6_init 86 = .ok (.dup, 1) := by decide +kernel
theorem dX6_init_87 : decode cX6_init 87 = .ok (.invokespecial 51, 3) := by decide +kernel
theorem dX6_init_90 : decode cX6_init 90 = .ok (.putfield 52, 3) := by decide +kernel
theorem dX6_init_93 : decode cX6_init 93 = .ok (.return_, 1) := by decide +kernel
set_option maxRecDepth 20000 in
theorem ggX6_note_X2_copyFrom : GoodIn wsX6_note wsX2_copyFrom := goodIn_r _ [7, 8, 9, 10, 11, 12, 13, 14, 15, 16, 17, 6, 18, 53, 54, 55, 56, 57, 58, 59, 60] (by decide +kernel) (by decide +kernel)
set_option maxRecDepth 20000 in
theorem gX6_note_X2_copyFrom : GoodIn wsX6_note (wsV RX6 56 RX2 yX2_copyFrom wsX2_copyFrom) := goodIn_app (goodIn_of _ (by decide +kernel)) ggX6_note_X2_copyFrom
set_option maxRecDepth 20000 in
theorem ggX6_note_X2_tune : GoodIn wsX6_note wsX2_tune := goodIn_r _ [22, 8, 23, 53, 54, 55, 56, 57, 58, 59, 60] (by decide +kernel) (by decide +kernel)
set_option maxRecDepth 20000 in
theorem gX6_note_X2_tune : GoodIn wsX6_note (wsV RX6 59 RX2 yX2_tune wsX2_tune) := goodIn_app (goodIn_of _ (by decide +kernel)) ggX6_note_X2_tune
set_option maxRecDepth 20000 in
theorem ggX6_note_X6_settle : GoodIn wsX6_note wsX6_settle := goodIn_r _ [28, 29, 2, 1, 30, 31, 32, 33, 34, 35, 36, 37, 38, 39, 40, 41, 42, 43, 44, 45, 4, 5, 6, 7, 8, 9, 10, 11, 12, 13, 14, 15, 16, 17, 18, 3, 46, 47, 48, 49, 50, 51, 52, 61, 62, 53, 54, 55, 56, 57, 58, 59, 60] (by decide +kernel) (by decide +kernel)
set_option maxRecDepth 20000 in
theorem gX6_note_X6_settle : GoodIn wsX6_note (wsV RX6 63 RX6 yX6_settle wsX6_settle) := goodIn_app (goodIn_of _ (by decide +kernel)) ggX6_note_X6_settle
theorem dX6_note_0 : decode cX6_note 0 = .ok (.aload_n 0, 1) := by decide +kernel
theorem dX6_note_1 : decode cX6_note 1 = .ok (.getfield 16, 3) := by decide +kernel
theorem dX6_note_4 : decode cX6_note 4 = .ok (.aload_n 0, 1) := by decide +kernel
theorem dX6_note_5 : decode cX6_note 5 = .ok (.getfield 10, 3) := by decide +kernel
theorem dX6_note_8 : decode cX6_note 8 = .ok (.invokevirtual 56, 3) := by decide +kernel
theorem dX6_note_11 : decode cX6_note 11 = .ok (.aload_n 0, 1) := by decide +kernel
theorem dX6_note_12 : decode cX6_note 12 = .ok (.aload_n 0, 1) := by decide +kernel
theorem dX6_note_13 : decode cX6_note 13 = .ok (.getfield 16, 3) := by decide +kernel
theorem dX6_note_16 : decode cX6_note 16 = .ok (.iload_n 1, 1) := by decide +kernel
theorem dX6_note_17 : decode cX6_note 17 = .ok (.iload_n 2, 1) := by decide +kernel
theorem dX6_note_18 : decode cX6_note 18 = .ok (.invokevirtual 59, 3) := by decide +kernel
theorem dX6_note_21 : decode cX6_note 21 = .ok (.invokevirtual 63, 3) := by decide +kernel
theorem dX6_note_24 : decode cX6_note 24 = .ok (.ireturn, 1) := by decide +kernel
set_option maxRecDepth 20000 in
theorem ggX6_colour_X2_copyFrom : GoodIn wsX6_colour wsX2_copyFrom := goodIn_r _ [7, 8, 9, 10, 11, 12, 13, 14, 15, 16, 17, 6, 18, 53, 54, 55, 56, 57, 58, 59, 60] (by decide +kernel) (by decide +kernel)
set_option maxRecDepth 20000 in
theorem gX6_colour_X2_copyFrom : GoodIn wsX6_colour (wsV RX6 56 RX2 yX2_copyFrom wsX2_copyFrom) := goodIn_app (goodIn_of _ (by decide +kernel)) ggX6_colour_X2_copyFrom
set_option maxRecDepth 20000 in
theorem ggX6_colour_X2_dye : GoodIn wsX6_colour wsX2_dye := goodIn_r _ [22, 9, 23, 53, 54, 55, 56, 57, 58, 59, 60] (by decide +kernel) (by decide +kernel)
set_option maxRecDepth 20000 in
theorem gX6_colour_X2_dye : GoodIn wsX6_colour (wsV RX6 67 RX2 yX2_dye wsX2_dye) := goodIn_app (goodIn_of _ (by decide +kernel)) ggX6_colour_X2_dye
set_option maxRecDepth 20000 in
theorem ggX6_colour_X6_settle : GoodIn wsX6_colour wsX6_settle := goodIn_r _ [28, 29, 2, 1, 30, 31, 32, 33, 34, 35, 36, 37, 38, 39, 40, 41, 42, 43, 44, 45, 4, 5, 6, 7, 8, 9, 10, 11, 12, 13, 14, 15, 16, 17, 18, 3, 46, 47, 48, 49, 50, 51, 52, 61, 62, 53, 54, 55, 56, 57, 58, 59, 60] (by decide +kernel) (by decide +kernel)
set_option maxRecDepth 20000 in
theorem gX6_colour_X6_settle : GoodIn wsX6_colour (wsV RX6 63 RX6 yX6_settle wsX6_settle) := goodIn_app (goodIn_of _ (by decide +kernel)) ggX6_colour_X6_settle
theorem dX6_colour_0 : decode cX6_colour 0 = .ok (.aload_n 0, 1) := by decide +kernel
theorem dX6_colour_1 : decode cX6_colour 1 = .ok (.getfield 16, 3) := by decide +kernel
theorem dX6_colour_4 : decode cX6_colour 4 = .ok (.aload_n 0, 1) := by decide +kernel
theorem dX6_colour_5 : decode cX6_colour 5 = .ok (.getfield 10, 3) := by decide +kernel
theorem dX6_colour_8 : decode cX6_colour 8 = .ok (.invokevirtual 56, 3) := by decide +kernel
theorem dX6_colour_11 : decode cX6_colour 11 = .ok (.aload_n 0, 1) := by decide +kernel
theorem dX6_colour_12 : decode cX6_colour 12 = .ok (.aload_n 0, 1) := by decide +kernel
theorem dX6_colour_13 : decode cX6_colour 13 = .ok (.getfield 16, 3) := by decide +kernel
theorem dX6_colour_16 : decode cX6_colour 16 = .ok (.iload_n 1, 1) := by decide +kernel
theorem dX6_colour_17 : decode cX6_colour 17 = .ok (.iload_n 2, 1) := by decide +kernel
theorem dX6_colour_18 : decode cX6_colour 18 = .ok (.invokevirtual 67, 3) := by decide +kernel
theorem dX6_colour_21 : decode cX6_colour 21 = .ok (.invokevirtual 63, 3) := by decide +kernel
theorem dX6_colour_24 : decode cX6_colour 24 = .ok (.ireturn, 1) := by decide +kernel
set_option maxRecDepth 20000 in
theorem ggX6_bring_X2_copyFrom : GoodIn wsX6_bring wsX2_copyFrom := goodIn_r _ [7, 8, 9, 10, 11, 12, 13, 14, 15, 16, 17, 6, 18, 97, 98, 99, 100, 101, 102, 103, 104] (by decide +kernel) (by decide +kernel)
set_option maxRecDepth 20000 in
theorem gX6_bring_X2_copyFrom : GoodIn wsX6_bring (wsV RX6 56 RX2 yX2_copyFrom wsX2_copyFrom) := goodIn_app (goodIn_of _ (by decide +kernel)) ggX6_bring_X2_copyFrom
set_option maxRecDepth 20000 in
theorem ggX6_bring_X2_offer : GoodIn wsX6_bring wsX2_offer := goodIn_r _ [22, 23, 24, 25, 6, 26, 27, 28, 14, 15, 29, 30, 31, 32, 12, 33, 34, 35, 36, 37, 38, 39, 40, 41, 42, 43, 44, 45, 46, 47, 11, 48, 49, 50, 51, 8, 52, 53, 54, 55, 10, 56, 57, 58, 59, 60, 61, 62, 63, 64, 65, 66, 67, 13, 97, 98, 99, 100, 101, 102, 103, 104] (by decide +kernel) (by decide +kernel)
set_option maxRecDepth 20000 in
theorem gX6_bring_X2_offer : GoodIn wsX6_bring (wsV RX6 70 RX2 yX2_offer wsX2_offer) := goodIn_app (goodIn_of _ (by decide +kernel)) ggX6_bring_X2_offer
set_option maxRecDepth 20000 in
theorem ggX6_bring_X6_settle : GoodIn wsX6_bring wsX6_settle := goodIn_r _ [72, 73, 2, 1, 74, 75, 76, 77, 78, 79, 80, 81, 82, 83, 84, 85, 86, 87, 88, 89, 4, 5, 6, 7, 8, 9, 10, 11, 12, 13, 14, 15, 16, 17, 18, 3, 90, 91, 92, 93, 94, 95, 96, 105, 106, 97, 98, 99, 100, 101, 102, 103, 104] (by decide +kernel) (by decide +kernel)
set_option maxRecDepth 20000 in
theorem gX6_bring_X6_settle : GoodIn wsX6_bring (wsV RX6 63 RX6 yX6_settle wsX6_settle) := goodIn_app (goodIn_of _ (by decide +kernel)) ggX6_bring_X6_settle
theorem dX6_bring_0 : decode cX6_bring 0 = .ok (.aload_n 0, 1) := by decide +kernel
theorem dX6_bring_1 : decode cX6_bring 1 = .ok (.getfield 16, 3) := by decide +kernel
theorem dX6_bring_4 : decode cX6_bring 4 = .ok (.aload_n 0, 1) := by decide +kernel
theorem dX6_bring_5 : decode cX6_bring 5 = .ok (.getfield 10, 3) := by decide +kernel
theorem dX6_bring_8 : decode cX6_bring 8 = .ok (.invokevirtual 56, 3) := by decide +kernel
theorem dX6_bring_11 : decode cX6_bring 11 = .ok (.aload_n 0, 1) := by decide +kernel
theorem dX6_bring_12 : decode cX6_bring 12 = .ok (.aload_n 0, 1) := by decide +kernel
theorem dX6_bring_13 : decode cX6_bring 13 = .ok (.getfield 16, 3) := by decide +kernel
theorem dX6_bring_16 : decode cX6_bring 16 = .ok (.iload_n 1, 1) := by decide +kernel
theorem dX6_bring_17 : decode cX6_bring 17 = .ok (.invokevirtual 70, 3) := by decide +kernel
theorem dX6_bring_20 : decode cX6_bring 20 = .ok (.invokevirtual 63, 3) := by decide +kernel
theorem dX6_bring_23 : decode cX6_bring 23 = .ok (.ireturn, 1) := by decide +kernel
set_option maxRecDepth 20000 in
theorem ggX6_tear_X2_copyFrom : GoodIn wsX6_tear wsX2_copyFrom := goodIn_r _ [7, 8, 9, 10, 11, 12, 13, 14, 15, 16, 17, 6, 18, 69, 70, 71, 72, 73, 74, 75, 76] (by decide +kernel) (by decide +kernel)
set_option maxRecDepth 20000 in
theorem gX6_tear_X2_copyFrom : GoodIn wsX6_tear (wsV RX6 56 RX2 yX2_copyFrom wsX2_copyFrom) := goodIn_app (goodIn_of _ (by decide +kernel)) ggX6_tear_X2_copyFrom
set_option maxRecDepth 20000 in
theorem ggX6_tear_X2_tearOut : GoodIn wsX6_tear wsX2_tearOut := goodIn_r _ [22, 23, 12, 24, 25, 26, 6, 27, 28, 29, 30, 31, 10, 32, 33, 34, 35, 36, 37, 38, 39, 69, 70, 71, 72, 73, 74, 75, 76] (by decide +kernel) (by decide +kernel)
set_option maxRecDepth 20000 in
theorem gX6_tear_X2_tearOut : GoodIn wsX6_tear (wsV RX6 73 RX2 yX2_tearOut wsX2_tearOut) := goodIn_app (goodIn_of _ (by decide +kernel)) ggX6_tear_X2_tearOut
set_option maxRecDepth 20000 in
theorem ggX6_tear_X6_settle : GoodIn wsX6_tear wsX6_settle := goodIn_r _ [44, 45, 2, 1, 46, 47, 48, 49, 50, 51, 52, 53, 54, 55, 56, 57, 58, 59, 60, 61, 4, 5, 6, 7, 8, 9, 10, 11, 12, 13, 14, 15, 16, 17, 18, 3, 62, 63, 64, 65, 66, 67, 68, 77, 78, 69, 70, 71, 72, 73, 74, 75, 76] (by decide +kernel) (by decide +kernel)
set_option maxRecDepth 20000 in
theorem gX6_tear_X6_settle : GoodIn wsX6_tear (wsV RX6 63 RX6 yX6_settle wsX6_settle) := goodIn_app (goodIn_of _ (by decide +kernel)) ggX6_tear_X6_settle
theorem dX6_tear_0 : decode cX6_tear 0 = .ok (.aload_n 0, 1) := by decide +kernel
theorem dX6_tear_1 : decode cX6_tear 1 = .ok (.getfield 16, 3) := by decide +kernel
theorem dX6_tear_4 : decode cX6_tear 4 = .ok (.aload_n 0, 1) := by decide +kernel
theorem dX6_tear_5 : decode cX6_tear 5 = .ok (.getfield 10, 3) := by decide +kernel
theorem dX6_tear_8 : decode cX6_tear 8 = .ok (.invokevirtual 56, 3) := by decide +kernel
theorem dX6_tear_11 : decode cX6_tear 11 = .ok (.aload_n 0, 1) := by decide +kernel
theorem dX6_tear_12 : decode cX6_tear 12 = .ok (.aload_n 0, 1) := by decide +kernel
theorem dX6_tear_13 : decode cX6_tear 13 = .ok (.getfield 16, 3) := by decide +kernel
theorem dX6_tear_16 : decode cX6_tear 16 = .ok (.iload_n 1, 1) := by decide +kernel
theorem dX6_tear_17 : decode cX6_tear 17 = .ok (.invokevirtual 73, 3) := by decide +kernel
theorem dX6_tear_20 : decode cX6_tear 20 = .ok (.invokevirtual 63, 3) := by decide +kernel
theorem dX6_tear_23 : decode cX6_tear 23 = .ok (.ireturn, 1) := by decide +kernel
set_option maxRecDepth 20000 in
theorem ggX6_swap_X2_copyFrom : GoodIn wsX6_swap wsX2_copyFrom := goodIn_r _ [7, 8, 9, 10, 11, 12, 13, 14, 15, 16, 17, 6, 18, 73, 74, 75, 76, 77, 78, 79, 80] (by decide +kernel) (by decide +kernel)
set_option maxRecDepth 20000 in
theorem gX6_swap_X2_copyFrom : GoodIn wsX6_swap (wsV RX6 56 RX2 yX2_copyFrom wsX2_copyFrom) := goodIn_app (goodIn_of _ (by decide +kernel)) ggX6_swap_X2_copyFrom
set_option maxRecDepth 20000 in
theorem ggX6_swap_X2_exchange : GoodIn wsX6_swap wsX2_exchange := goodIn_r _ [22, 23, 24, 25, 26, 6, 27, 12, 28, 29, 30, 31, 32, 33, 34, 35, 10, 36, 37, 38, 39, 40, 41, 42, 43, 73, 74, 75, 76, 77, 78, 79, 80] (by decide +kernel) (by decide +kernel)
set_option maxRecDepth 20000 in
theorem gX6_swap_X2_exchange : GoodIn wsX6_swap (wsV RX6 76 RX2 yX2_exchange wsX2_exchange) := goodIn_app (goodIn_of _ (by decide +kernel)) ggX6_swap_X2_exchange
set_option maxRecDepth 20000 in
theorem ggX6_swap_X6_settle : GoodIn wsX6_swap wsX6_settle := goodIn_r _ [48, 49, 2, 1, 50, 51, 52, 53, 54, 55, 56, 57, 58, 59, 60, 61, 62, 63, 64, 65, 4, 5, 6, 7, 8, 9, 10, 11, 12, 13, 14, 15, 16, 17, 18, 3, 66, 67, 68, 69, 70, 71, 72, 81, 82, 73, 74, 75, 76, 77, 78, 79, 80] (by decide +kernel) (by decide +kernel)
set_option maxRecDepth 20000 in
theorem gX6_swap_X6_settle : GoodIn wsX6_swap (wsV RX6 63 RX6 yX6_settle wsX6_settle) := goodIn_app (goodIn_of _ (by decide +kernel)) ggX6_swap_X6_settle
theorem dX6_swap_0 : decode cX6_swap 0 = .ok (.aload_n 0, 1) := by decide +kernel
theorem dX6_swap_1 : decode cX6_swap 1 = .ok (.getfield 16, 3) := by decide +kernel
theorem dX6_swap_4 : decode cX6_swap 4 = .ok (.aload_n 0, 1) := by decide +kernel
theorem dX6_swap_5 : decode cX6_swap 5 = .ok (.getfield 10, 3) := by decide +kernel
theorem dX6_swap_8 : decode cX6_swap 8 = .ok (.invokevirtual 56, 3) := by decide +kernel
theorem dX6_swap_11 : decode cX6_swap 11 = .ok (.aload_n 0, 1) := by decide +kernel
theorem dX6_swap_12 : decode cX6_swap 12 = .ok (.aload_n 0, 1) := by decide +kernel
theorem dX6_swap_13 : decode cX6_swap 13 = .ok (.getfield 16, 3) := by decide +kernel
theorem dX6_swap_16 : decode cX6_swap 16 = .ok (.iload_n 1, 1) := by decide +kernel
theorem dX6_swap_17 : decode cX6_swap 17 = .ok (.iload_n 2, 1) := by decide +kernel
theorem dX6_swap_18 : decode cX6_swap 18 = .ok (.invokevirtual 76, 3) := by decide +kernel
theorem dX6_swap_21 : decode cX6_swap 21 = .ok (.invokevirtual 63, 3) := by decide +kernel
theorem dX6_swap_24 : decode cX6_swap 24 = .ok (.ireturn, 1) := by decide +kernel
set_option maxRecDepth 20000 in
theorem ggX6_turn_X2_copyFrom : GoodIn wsX6_turn wsX2_copyFrom := goodIn_r _ [7, 8, 9, 10, 11, 12, 13, 14, 15, 16, 17, 6, 18, 65, 66, 67, 68, 69, 70, 71, 72] (by decide +kernel) (by decide +kernel)
set_option maxRecDepth 20000 in
theorem gX6_turn_X2_copyFrom : GoodIn wsX6_turn (wsV RX6 56 RX2 yX2_copyFrom wsX2_copyFrom) := goodIn_app (goodIn_of _ (by decide +kernel)) ggX6_turn_X2_copyFrom
set_option maxRecDepth 20000 in
theorem ggX6_turn_X2_reverse : GoodIn wsX6_turn wsX2_reverse := goodIn_r _ [22, 12, 23, 24, 25, 26, 6, 27, 28, 29, 30, 31, 10, 32, 33, 34, 35, 65, 66, 67, 68, 69, 70, 71, 72] (by decide +kernel) (by decide +kernel)
set_option maxRecDepth 20000 in
theorem gX6_turn_X2_reverse : GoodIn wsX6_turn (wsV RX6 79 RX2 yX2_reverse wsX2_reverse) := goodIn_app (goodIn_of _ (by decide +kernel)) ggX6_turn_X2_reverse
set_option maxRecDepth 20000 in
theorem ggX6_turn_X6_settle : GoodIn wsX6_turn wsX6_settle := goodIn_r _ [40, 41, 2, 1, 42, 43, 44, 45, 46, 47, 48, 49, 50, 51, 52, 53, 54, 55, 56, 57, 4, 5, 6, 7, 8, 9, 10, 11, 12, 13, 14, 15, 16, 17, 18, 3, 58, 59, 60, 61, 62, 63, 64, 73, 74, 65, 66, 67, 68, 69, 70, 71, 72] (by decide +kernel) (by decide +kernel)
set_option maxRecDepth 20000 in
theorem gX6_turn_X6_settle : GoodIn wsX6_turn (wsV RX6 63 RX6 yX6_settle wsX6_settle) := goodIn_app (goodIn_of _ (by decide +kernel)) ggX6_turn_X6_settle
theorem dX6_turn_0 : decode cX6_turn 0 = .ok (.aload_n 0, 1) := by decide +kernel
theorem dX6_turn_1 : decode cX6_turn 1 = .ok (.getfield 16, 3) := by decide +kernel
theorem dX6_turn_4 : decode cX6_turn 4 = .ok (.aload_n 0, 1) := by decide +kernel
theorem dX6_turn_5 : decode cX6_turn 5 = .ok (.getfield 10, 3) := by decide +kernel
theorem dX6_turn_8 : decode cX6_turn 8 = .ok (.invokevirtual 56, 3) := by decide +kernel
theorem dX6_turn_11 : decode cX6_turn 11 = .ok (.aload_n 0, 1) := by decide +kernel
theorem dX6_turn_12 : decode cX6_turn 12 = .ok (.aload_n 0, 1) := by decide +kernel
theorem dX6_turn_13 : decode cX6_turn 13 = .ok (.getfield 16, 3) := by decide +kernel
theorem dX6_turn_16 : decode cX6_turn 16 = .ok (.invokevirtual 79, 3) := by decide +kernel
theorem dX6_turn_19 : decode cX6_turn 19 = .ok (.invokevirtual 63, 3) := by decide +kernel
theorem dX6_turn_22 : decode cX6_turn 22 = .ok (.ireturn, 1) := by decide +kernel
set_option maxRecDepth 20000 in
theorem ggX6_mirror_X2_copyFrom : GoodIn wsX6_mirror wsX2_copyFrom := goodIn_r _ [7, 8, 9, 10, 11, 12, 13, 14, 15, 16, 17, 6, 18, 70, 71, 72, 73, 74, 75, 76, 77] (by decide +kernel) (by decide +kernel)
set_option maxRecDepth 20000 in
theorem gX6_mirror_X2_copyFrom : GoodIn wsX6_mirror (wsV RX6 56 RX2 yX2_copyFrom wsX2_copyFrom) := goodIn_app (goodIn_of _ (by decide +kernel)) ggX6_mirror_X2_copyFrom
set_option maxRecDepth 20000 in
theorem ggX6_mirror_X2_flip : GoodIn wsX6_mirror wsX2_flip := goodIn_r _ [22, 12, 23, 24, 25, 26, 6, 27, 10, 28, 29, 30, 31, 32, 33, 34, 35, 36, 37, 38, 39, 40, 41, 70, 71, 72, 73, 74, 75, 76, 77] (by decide +kernel) (by decide +kernel)
set_option maxRecDepth 20000 in
theorem gX6_mirror_X2_flip : GoodIn wsX6_mirror (wsV RX6 83 RX2 yX2_flip wsX2_flip) := goodIn_app (goodIn_of _ (by decide +kernel)) ggX6_mirror_X2_flip
set_option maxRecDepth 20000 in
theorem ggX6_mirror_X6_settle : GoodIn wsX6_mirror wsX6_settle := goodIn_r _ [45, 46, 2, 1, 47, 48, 49, 50, 51, 52, 53, 54, 55, 56, 57, 58, 59, 60, 61, 62, 4, 5, 6, 7, 8, 9, 10, 11, 12, 13, 14, 15, 16, 17, 18, 3, 63, 64, 65, 66, 67, 68, 69, 78, 79, 70, 71, 72, 73, 74, 75, 76, 77] (by decide +kernel) (by decide +kernel)
set_option maxRecDepth 20000 in
theorem gX6_mirror_X6_settle : GoodIn wsX6_mirror (wsV RX6 63 RX6 yX6_settle wsX6_settle) := goodIn_app (goodIn_of _ (by decide +kernel)) ggX6_mirror_X6_settle
theorem dX6_mirror_0 : decode cX6_mirror 0 = .ok (.aload_n 0, 1) := by decide +kernel
theorem dX6_mirror_1 : decode cX6_mirror 1 = .ok (.getfield 16, 3) := by decide +kernel
theorem dX6_mirror_4 : decode cX6_mirror 4 = .ok (.aload_n 0, 1) := by decide +kernel
theorem dX6_mirror_5 : decode cX6_mirror 5 = .ok (.getfield 10, 3) := by decide +kernel
theorem dX6_mirror_8 : decode cX6_mirror 8 = .ok (.invokevirtual 56, 3) := by decide +kernel
theorem dX6_mirror_11 : decode cX6_mirror 11 = .ok (.aload_n 0, 1) := by decide +kernel
theorem dX6_mirror_12 : decode cX6_mirror 12 = .ok (.aload_n 0, 1) := by decide +kernel
theorem dX6_mirror_13 : decode cX6_mirror 13 = .ok (.getfield 16, 3) := by decide +kernel
theorem dX6_mirror_16 : decode cX6_mirror 16 = .ok (.invokevirtual 83, 3) := by decide +kernel
theorem dX6_mirror_19 : decode cX6_mirror 19 = .ok (.invokevirtual 63, 3) := by decide +kernel
theorem dX6_mirror_22 : decode cX6_mirror 22 = .ok (.ireturn, 1) := by decide +kernel
set_option maxRecDepth 20000 in
theorem ggX6_set_X2_copyFrom : GoodIn wsX6_set wsX2_copyFrom := goodIn_r _ [7, 8, 9, 10, 11, 12, 13, 14, 15, 16, 17, 6, 18, 53, 54, 55, 56, 57, 58, 59, 60] (by decide +kernel) (by decide +kernel)
set_option maxRecDepth 20000 in
theorem gX6_set_X2_copyFrom : GoodIn wsX6_set (wsV RX6 56 RX2 yX2_copyFrom wsX2_copyFrom) := goodIn_app (goodIn_of _ (by decide +kernel)) ggX6_set_X2_copyFrom
set_option maxRecDepth 20000 in
theorem ggX6_set_X2_adjust : GoodIn wsX6_set wsX2_adjust := goodIn_r _ [22, 11, 23, 53, 54, 55, 56, 57, 58, 59, 60] (by decide +kernel) (by decide +kernel)
set_option maxRecDepth 20000 in
theorem gX6_set_X2_adjust : GoodIn wsX6_set (wsV RX6 86 RX2 yX2_adjust wsX2_adjust) := goodIn_app (goodIn_of _ (by decide +kernel)) ggX6_set_X2_adjust
set_option maxRecDepth 20000 in
theorem ggX6_set_X6_settle : GoodIn wsX6_set wsX6_settle := goodIn_r _ [28, 29, 2, 1, 30, 31, 32, 33, 34, 35, 36, 37, 38, 39, 40, 41, 42, 43, 44, 45, 4, 5, 6, 7, 8, 9, 10, 11, 12, 13, 14, 15, 16, 17, 18, 3, 46, 47, 48, 49, 50, 51, 52, 61, 62, 53, 54, 55, 56, 57, 58, 59, 60] (by decide +kernel) (by decide +kernel)
set_option maxRecDepth 20000 in
theorem gX6_set_X6_settle : GoodIn wsX6_set (wsV RX6 63 RX6 yX6_settle wsX6_settle) := goodIn_app (goodIn_of _ (by decide +kernel)) ggX6_set_X6_settle
theorem dX6_set_0 : decode cX6_set 0 = .ok (.aload_n 0, 1) := by decide +kernel
theorem dX6_set_1 : decode cX6_set 1 = .ok (.getfield 16, 3) := by decide +kernel
theorem dX6_set_4 : decode cX6_set 4 = .ok (.aload_n 0, 1) := by decide +kernel
theorem dX6_set_5 : decode cX6_set 5 = .ok (.getfield 10, 3) := by decide +kernel
theorem dX6_set_8 : decode cX6_set 8 = .ok (.invokevirtual 56, 3) := by decide +kernel
theorem dX6_set_11 : decode cX6_set 11 = .ok (.aload_n 0, 1) := by decide +kernel
theorem dX6_set_12 : decode cX6_set 12 = .ok (.aload_n 0, 1) := by decide +kernel
theorem dX6_set_13 : decode cX6_set 13 = .ok (.getfield 16, 3) := by decide +kernel
theorem dX6_set_16 : decode cX6_set 16 = .ok (.iload_n 1, 1) := by decide +kernel
theorem dX6_set_17 : decode cX6_set 17 = .ok (.iload_n 2, 1) := by decide +kernel
theorem dX6_set_18 : decode cX6_set 18 = .ok (.invokevirtual 86, 3) := by decide +kernel
theorem dX6_set_21 : decode cX6_set 21 = .ok (.invokevirtual 63, 3) := by decide +kernel
theorem dX6_set_24 : decode cX6_set 24 = .ok (.ireturn, 1) := by decide +kernel
set_option maxRecDepth 20000 in
theorem ggX6_cardOf_X2_hasCard : GoodIn wsX6_cardOf wsX2_hasCard := goodIn_r _ [9, 10, 107, 108, 109, 110, 111, 112, 113, 114] (by decide +kernel) (by decide +kernel)
set_option maxRecDepth 20000 in
theorem gX6_cardOf_X2_hasCard : GoodIn wsX6_cardOf (wsV RX6 89 RX2 yX2_hasCard wsX2_hasCard) := goodIn_app (goodIn_of _ (by decide +kernel)) ggX6_cardOf_X2_hasCard
set_option maxRecDepth 20000 in
theorem ggX6_cardOf_X2_holesAt : GoodIn wsX6_cardOf wsX2_holesAt := goodIn_r _ [14, 10, 15, 107, 108, 109, 110, 111, 112, 113, 114] (by decide +kernel) (by decide +kernel)
set_option maxRecDepth 20000 in
theorem gX6_cardOf_X2_holesAt : GoodIn wsX6_cardOf (wsV RX6 94 RX2 yX2_holesAt wsX2_holesAt) := goodIn_app (goodIn_of _ (by decide +kernel)) ggX6_cardOf_X2_holesAt
set_option maxRecDepth 20000 in
theorem ggX6_cardOf_J6_bitCount_0f7a4 : GoodIn wsX6_cardOf wsJ6_bitCount_0f7a4 := goodIn_r _ [19, 20, 21, 22] (by decide +kernel) (by decide +kernel)
set_option maxRecDepth 20000 in
theorem gX6_cardOf_J6_bitCount_0f7a4 : GoodIn wsX6_cardOf (va_wsS RX6 97 yJ6_bitCount_0f7a4 wsJ6_bitCount_0f7a4) := goodIn_app (goodIn_of _ (by decide +kernel)) ggX6_cardOf_J6_bitCount_0f7a4
set_option maxRecDepth 20000 in
theorem ggX6_cardOf_X2_stampsAt : GoodIn wsX6_cardOf wsX2_stampsAt := goodIn_r _ [26, 27, 28, 29, 8, 30, 10, 15, 107, 108, 109, 110, 111, 112, 113, 114] (by decide +kernel) (by decide +kernel)
set_option maxRecDepth 20000 in
theorem gX6_cardOf_X2_stampsAt : GoodIn wsX6_cardOf (wsV RX6 102 RX2 yX2_stampsAt wsX2_stampsAt) := goodIn_app (goodIn_of _ (by decide +kernel)) ggX6_cardOf_X2_stampsAt
set_option maxRecDepth 20000 in
theorem ggX6_cardOf_X2_clashesOf : GoodIn wsX6_cardOf wsX2_clashesOf := goodIn_r _ [34, 35, 107, 108, 109, 110, 111, 112, 113, 114] (by decide +kernel) (by decide +kernel)
set_option maxRecDepth 20000 in
theorem gX6_cardOf_X2_clashesOf : GoodIn wsX6_cardOf (wsV RX6 105 RX2 yX2_clashesOf wsX2_clashesOf) := goodIn_app (goodIn_of _ (by decide +kernel)) ggX6_cardOf_X2_clashesOf
set_option maxRecDepth 20000 in
theorem ggX6_cardOf_X3_noteSet : GoodIn wsX6_cardOf wsX3_noteSet := goodIn_r _ [40, 41, 42, 43, 44, 8, 45, 46, 12, 13, 14, 10, 15, 47, 48, 49, 50, 51, 52, 53, 35, 115, 107, 108, 109, 110, 111, 112, 113, 114] (by decide +kernel) (by decide +kernel)
set_option maxRecDepth 20000 in
theorem gX6_cardOf_X3_noteSet : GoodIn wsX6_cardOf (wsV RX6 108 RX3 yX3_noteSet wsX3_noteSet) := goodIn_app (goodIn_of _ (by decide +kernel)) ggX6_cardOf_X3_noteSet
set_option maxRecDepth 20000 in
theorem ggX6_cardOf_X3_highest : GoodIn wsX6_cardOf wsX3_highest := goodIn_r _ [57, 58, 41, 59, 60, 61, 62, 42, 43, 44, 8, 45, 46, 12, 13, 14, 10, 15, 47, 48, 49, 50, 51, 52, 53, 35, 115, 107, 108, 109, 110, 111, 112, 113, 114] (by decide +kernel) (by decide +kernel)
set_option maxRecDepth 20000 in
theorem gX6_cardOf_X3_highest : GoodIn wsX6_cardOf (wsV RX6 111 RX3 yX3_highest wsX3_highest) := goodIn_app (goodIn_of _ (by decide +kernel)) ggX6_cardOf_X3_highest
set_option maxRecDepth 20000 in
theorem ggX6_cardOf_X3_lowest : GoodIn wsX6_cardOf wsX3_lowest := goodIn_r _ [66, 41, 67, 68, 61, 69, 58, 42, 43, 44, 8, 45, 46, 12, 13, 14, 10, 15, 47, 48, 49, 50, 51, 52, 53, 35, 115, 107, 108, 109, 110, 111, 112, 113, 114] (by decide +kernel) (by decide +kernel)
set_option maxRecDepth 20000 in
theorem gX6_cardOf_X3_lowest : GoodIn wsX6_cardOf (wsV RX6 114 RX3 yX3_lowest wsX3_lowest) := goodIn_app (goodIn_of _ (by decide +kernel)) ggX6_cardOf_X3_lowest
set_option maxRecDepth 20000 in
theorem ggX6_cardOf_X5_beginningAt : GoodIn wsX6_cardOf wsX5_beginningAt := goodIn_r _ [74, 75, 76, 12, 13, 8, 14, 10, 15, 77, 17, 18, 19, 20, 21, 22, 116, 107, 108, 109, 110, 111, 112, 113, 114] (by decide +kernel) (by decide +kernel)
set_option maxRecDepth 20000 in
theorem gX6_cardOf_X5_beginningAt : GoodIn wsX6_cardOf (wsV RX6 117 RX5 yX5_beginningAt wsX5_beginningAt) := goodIn_app (goodIn_of _ (by decide +kernel)) ggX6_cardOf_X5_beginningAt
set_option maxRecDepth 20000 in
theorem ggX6_cardOf_X3_barAt : GoodIn wsX6_cardOf wsX3_barAt := goodIn_r _ [81, 41, 82, 83, 84, 8, 85, 86, 115, 107, 108, 109, 110, 111, 112, 113, 114] (by decide +kernel) (by decide +kernel)
set_option maxRecDepth 20000 in
theorem gX6_cardOf_X3_barAt : GoodIn wsX6_cardOf (wsV RX6 120 RX3 yX3_barAt wsX3_barAt) := goodIn_app (goodIn_of _ (by decide +kernel)) ggX6_cardOf_X3_barAt
set_option maxRecDepth 20000 in
theorem ggX6_cardOf_X3_aboveByColours : GoodIn wsX6_cardOf wsX3_aboveByColours := goodIn_r _ [90, 91, 92, 93, 39, 94, 41, 42, 43, 44, 8, 45, 46, 12, 13, 14, 10, 15, 47, 48, 49, 95, 96, 97, 98, 99, 115, 107, 108, 109, 110, 111, 112, 113, 114] (by decide +kernel) (by decide +kernel)
set_option maxRecDepth 20000 in
theorem gX6_cardOf_X3_aboveByColours : GoodIn wsX6_cardOf (wsV RX6 123 RX3 yX3_aboveByColours wsX3_aboveByColours) := goodIn_app (goodIn_of _ (by decide +kernel)) ggX6_cardOf_X3_aboveByColours
theorem dX6_cardOf_0 : decode cX6_cardOf 0 = .ok (.aload_n 0, 1) := by decide +kernel
theorem dX6_cardOf_1 : decode cX6_cardOf 1 = .ok (.getfield 10, 3) := by decide +kernel
theorem dX6_cardOf_4 : decode cX6_cardOf 4 = .ok (.iload_n 1, 1) := by decide +kernel
theorem dX6_cardOf_5 : decode cX6_cardOf 5 = .ok (.invokevirtual 89, 3) := by decide +kernel
theorem dX6_cardOf_8 : decode cX6_cardOf 8 = .ok (.ifCond .ne 6, 3) := by decide +kernel
theorem dX6_cardOf_11 : decode cX6_cardOf 11 = .ok (.ldc 93, 2) := by decide +kernel
theorem dX6_cardOf_13 : decode cX6_cardOf 13 = .ok (.ireturn, 1) := by decide +kernel
theorem dX6_cardOf_14 : decode cX6_cardOf 14 = .ok (.aload_n 0, 1) := by decide +kernel
theorem dX6_cardOf_15 : decode cX6_cardOf 15 = .ok (.getfield 10, 3) := by decide +kernel
theorem dX6_cardOf_18 : decode cX6_cardOf 18 = .ok (.iload_n 1, 1) := by decide +kernel
theorem dX6_cardOf_19 : decode cX6_cardOf 19 = .ok (.invokevirtual 94, 3) := by decide +kernel
theorem dX6_cardOf_22 : decode cX6_cardOf 22 = .ok (.istore_n 3, 1) := by decide +kernel
theorem dX6_cardOf_23 : decode cX6_cardOf 23 = .ok (.iload_n 2, 1) := by decide +kernel
theorem dX6_cardOf_24 : decode cX6_cardOf 24 = .ok (.tableswitch 135 0 9 #[56, 58, 63, 72, 81, 90, 99, 108, 117, 126], 56) := by decide +kernel
theorem dX6_cardOf_80 : decode cX6_cardOf 80 = .ok (.iload_n 3, 1) := by decide +kernel
theorem dX6_cardOf_81 : decode cX6_cardOf 81 = .ok (.ireturn, 1) := by decide +kernel
theorem dX6_cardOf_82 : decode cX6_cardOf 82 = .ok (.iload_n 3, 1) := by decide +kernel
theorem dX6_cardOf_83 : decode cX6_cardOf 83 = .ok (.invokestatic 97, 3) := by decide +kernel
theorem dX6_cardOf_86 : decode cX6_cardOf 86 = .ok (.ireturn, 1) := by decide +kernel
theorem dX6_cardOf_87 : decode cX6_cardOf 87 = .ok (.aload_n 0, 1) := by decide +kernel
theorem dX6_cardOf_88 : decode cX6_cardOf 88 = .ok (.getfield 10, 3) := by decide +kernel
theorem dX6_cardOf_91 : decode cX6_cardOf 91 = .ok (.iload_n 1, 1) := by decide +kernel
theorem dX6_cardOf_92 : decode cX6_cardOf 92 = .ok (.invokevirtual 102, 3) := by decide +kernel
theorem dX6_cardOf_95 : decode cX6_cardOf 95 = .ok (.ireturn, 1) := by decide +kernel
theorem dX6_cardOf_96 : decode cX6_cardOf 96 = .ok (.aload_n 0, 1) := by decide +kernel
theorem dX6_cardOf_97 : decode cX6_cardOf 97 = .ok (.getfield 10, 3) := by decide +kernel
theorem dX6_cardOf_100 : decode cX6_cardOf 100 = .ok (.iload_n 3, 1) := by decide +kernel
theorem dX6_cardOf_101 : decode cX6_cardOf 101 = .ok (.invokevirtual 105, 3) := by decide +kernel
theorem dX6_cardOf_104 : decode cX6_cardOf 104 = .ok (.ireturn, 1) := by decide +kernel
theorem dX6_cardOf_105 : decode cX6_cardOf 105 = .ok (.aload_n 0, 1) := by decide +kernel
theorem dX6_cardOf_106 : decode cX6_cardOf 106 = .ok (.getfield 31, 3) := by decide +kernel
theorem dX6_cardOf_109 : decode cX6_cardOf 109 = .ok (.iload_n 1, 1) := by decide +kernel
theorem dX6_cardOf_110 : decode cX6_cardOf 110 = .ok (.invokevirtual 108, 3) := by decide +kernel
theorem dX6_cardOf_113 : decode cX6_cardOf 113 = .ok (.ireturn, 1) := by decide +kernel
theorem dX6_cardOf_114 : decode cX6_cardOf 114 = .ok (.aload_n 0, 1) := by decide +kernel
theorem dX6_cardOf_115 : decode cX6_cardOf 115 = .ok (.getfield 31, 3) := by decide +kernel
theorem dX6_cardOf_118 : decode cX6_cardOf 118 = .ok (.iload_n 1, 1) := by decide +kernel
theorem dX6_cardOf_119 : decode cX6_cardOf 119 = .ok (.invokevirtual 111, 3) := by decide +kernel
theorem dX6_cardOf_122 : decode cX6_cardOf 122 = .ok (.ireturn, 1) := by decide +kernel
theorem dX6_cardOf_123 : decode cX6_cardOf 123 = .ok (.aload_n 0, 1) := by decide +kernel
theorem dX6_cardOf_124 : decode cX6_cardOf 124 = .ok (.getfield 31, 3) := by decide +kernel
theorem dX6_cardOf_127 : decode cX6_cardOf 127 = .ok (.iload_n 1, 1) := by decide +kernel
theorem dX6_cardOf_128 : decode cX6_cardOf 128 = .ok (.invokevirtual 114, 3) := by decide +kernel
theorem dX6_cardOf_131 : decode cX6_cardOf 131 = .ok (.ireturn, 1) := by decide +kernel
theorem dX6_cardOf_132 : decode cX6_cardOf 132 = .ok (.aload_n 0, 1) := by decide +kernel
theorem dX6_cardOf_133 : decode cX6_cardOf 133 = .ok (.getfield 38, 3) := by decide +kernel
theorem dX6_cardOf_136 : decode cX6_cardOf 136 = .ok (.iload_n 1, 1) := by decide +kernel
theorem dX6_cardOf_137 : decode cX6_cardOf 137 = .ok (.invokevirtual 117, 3) := by decide +kernel
theorem dX6_cardOf_140 : decode cX6_cardOf 140 = .ok (.ireturn, 1) := by decide +kernel
theorem dX6_cardOf_141 : decode cX6_cardOf 141 = .ok (.aload_n 0, 1) := by decide +kernel
theorem dX6_cardOf_142 : decode cX6_cardOf 142 = .ok (.getfield 31, 3) := by decide +kernel
theorem dX6_cardOf_145 : decode cX6_cardOf 145 = .ok (.iload_n 1, 1) := by decide +kernel
theorem dX6_cardOf_146 : decode cX6_cardOf 146 = .ok (.invokevirtual 120, 3) := by decide +kernel
theorem dX6_cardOf_149 : decode cX6_cardOf 149 = .ok (.ireturn, 1) := by decide +kernel
theorem dX6_cardOf_150 : decode cX6_cardOf 150 = .ok (.aload_n 0, 1) := by decide +kernel
theorem dX6_cardOf_151 : decode cX6_cardOf 151 = .ok (.getfield 31, 3) := by decide +kernel
theorem dX6_cardOf_154 : decode cX6_cardOf 154 = .ok (.iload_n 1, 1) := by decide +kernel
theorem dX6_cardOf_155 : decode cX6_cardOf 155 = .ok (.invokevirtual 123, 3) := by decide +kernel
theorem dX6_cardOf_158 : decode cX6_cardOf 158 = .ok (.ireturn, 1) := by decide +kernel
theorem dX6_cardOf_159 : decode cX6_cardOf 159 = .ok (.ldc 93, 2) := by decide +kernel
theorem dX6_cardOf_161 : decode cX6_cardOf 161 = .ok (.ireturn, 1) := by decide +kernel
set_option maxRecDepth 20000 in
theorem ggX6_threadOf_X2_noteAt : GoodIn wsX6_threadOf wsX2_noteAt := goodIn_r _ [10, 11, 81, 82, 83, 84, 85, 86, 87, 88] (by decide +kernel) (by decide +kernel)
set_option maxRecDepth 20000 in
theorem gX6_threadOf_X2_noteAt : GoodIn wsX6_threadOf (wsV RX6 126 RX2 yX2_noteAt wsX2_noteAt) := goodIn_app (goodIn_of _ (by decide +kernel)) ggX6_threadOf_X2_noteAt
set_option maxRecDepth 20000 in
theorem ggX6_threadOf_X2_colourAt : GoodIn wsX6_threadOf wsX2_colourAt := goodIn_r _ [15, 16, 81, 82, 83, 84, 85, 86, 87, 88] (by decide +kernel) (by decide +kernel)
set_option maxRecDepth 20000 in
theorem gX6_threadOf_X2_colourAt : GoodIn wsX6_threadOf (wsV RX6 129 RX2 yX2_colourAt wsX2_colourAt) := goodIn_app (goodIn_of _ (by decide +kernel)) ggX6_threadOf_X2_colourAt
set_option maxRecDepth 20000 in
theorem ggX6_threadOf_X5_ofThread : GoodIn wsX6_threadOf wsX5_ofThread := goodIn_r _ [21, 22, 23, 24, 25, 26, 20, 27, 28, 29, 30, 9, 31, 32, 33, 34, 35, 36, 37, 38, 39, 40, 89, 81, 82, 83, 84, 85, 86, 87, 88] (by decide +kernel) (by decide +kernel)
set_option maxRecDepth 20000 in
theorem gX6_threadOf_X5_ofThread : GoodIn wsX6_threadOf (wsV RX6 132 RX5 yX5_ofThread wsX5_ofThread) := goodIn_app (goodIn_of _ (by decide +kernel)) ggX6_threadOf_X5_ofThread
set_option maxRecDepth 20000 in
theorem ggX6_threadOf_X3_soundingRows : GoodIn wsX6_threadOf wsX3_soundingRows := goodIn_r _ [45, 46, 47, 48, 29, 30, 9, 31, 32, 33, 34, 35, 36, 37, 38, 39, 40, 90, 81, 82, 83, 84, 85, 86, 87, 88] (by decide +kernel) (by decide +kernel)
set_option maxRecDepth 20000 in
theorem gX6_threadOf_X3_soundingRows : GoodIn wsX6_threadOf (wsV RX6 135 RX3 yX3_soundingRows wsX3_soundingRows) := goodIn_app (goodIn_of _ (by decide +kernel)) ggX6_threadOf_X3_soundingRows
set_option maxRecDepth 20000 in
theorem ggX6_threadOf_X0_longestFloat : GoodIn wsX6_threadOf wsX0_longestFloat := goodIn_r _ [53, 54, 55, 56, 57, 58, 59, 60, 61, 62, 52, 63, 64, 29, 30, 9, 31, 32, 33, 34, 35, 36, 37, 38, 39, 40, 91, 81, 82, 83, 84, 85, 86, 87, 88] (by decide +kernel) (by decide +kernel)
set_option maxRecDepth 20000 in
theorem gX6_threadOf_X0_longestFloat : GoodIn wsX6_threadOf (wsV RX6 138 RX0 yX0_longestFloat wsX0_longestFloat) := goodIn_app (goodIn_of _ (by decide +kernel)) ggX6_threadOf_X0_longestFloat
set_option maxRecDepth 20000 in
theorem ggX6_threadOf_X0_longFloats : GoodIn wsX6_threadOf wsX0_longFloats := goodIn_r _ [68, 54, 55, 60, 61, 62, 52, 63, 64, 29, 30, 9, 31, 32, 33, 34, 35, 36, 37, 38, 39, 40, 69, 70, 71, 72, 73, 91, 81, 82, 83, 84, 85, 86, 87, 88] (by decide +kernel) (by decide +kernel)
set_option maxRecDepth 20000 in
theorem gX6_threadOf_X0_longFloats : GoodIn wsX6_threadOf (wsV RX6 141 RX0 yX0_longFloats wsX0_longFloats) := goodIn_app (goodIn_of _ (by decide +kernel)) ggX6_threadOf_X0_longFloats
theorem dX6_threadOf_0 : decode cX6_threadOf 0 = .ok (.iload_n 1, 1) := by decide +kernel
theorem dX6_threadOf_1 : decode cX6_threadOf 1 = .ok (.ifCond .lt 9, 3) := by decide +kernel
theorem dX6_threadOf_4 : decode cX6_threadOf 4 = .ok (.iload_n 1, 1) := by decide +kernel
theorem dX6_threadOf_5 : decode cX6_threadOf 5 = .ok (.bipush 8, 2) := by decide +kernel
theorem dX6_threadOf_7 : decode cX6_threadOf 7 = .ok (.if_icmp .lt 6, 3) := by decide +kernel
theorem dX6_threadOf_10 : decode cX6_threadOf 10 = .ok (.ldc 93, 2) := by decide +kernel
theorem dX6_threadOf_12 : decode cX6_threadOf 12 = .ok (.ireturn, 1) := by decide +kernel
theorem dX6_threadOf_13 : decode cX6_threadOf 13 = .ok (.iload_n 2, 1) := by decide +kernel
theorem dX6_threadOf_14 : decode cX6_threadOf 14 = .ok (.tableswitch 92 0 5 #[38, 47, 56, 65, 74, 83], 38) := by decide +kernel
theorem dX6_threadOf_52 : decode cX6_threadOf 52 = .ok (.aload_n 0, 1) := by decide +kernel
theorem dX6_threadOf_53 : decode cX6_threadOf 53 = .ok (.getfield 10, 3) := by decide +kernel
theorem dX6_threadOf_56 : decode cX6_threadOf 56 = .ok (.iload_n 1, 1) := by decide +kernel
theorem dX6_threadOf_57 : decode cX6_threadOf 57 = .ok (.invokevirtual 126, 3) := by decide +kernel
theorem dX6_threadOf_60 : decode cX6_threadOf 60 = .ok (.ireturn, 1) := by decide +kernel
theorem dX6_threadOf_61 : decode cX6_threadOf 61 = .ok (.aload_n 0, 1) := by decide +kernel
theorem dX6_threadOf_62 : decode cX6_threadOf 62 = .ok (.getfield 10, 3) := by decide +kernel
theorem dX6_threadOf_65 : decode cX6_threadOf 65 = .ok (.iload_n 1, 1) := by decide +kernel
theorem dX6_threadOf_66 : decode cX6_threadOf 66 = .ok (.invokevirtual 129, 3) := by decide +kernel
theorem dX6_threadOf_69 : decode cX6_threadOf 69 = .ok (.ireturn, 1) := by decide +kernel
theorem dX6_threadOf_70 : decode cX6_threadOf 70 = .ok (.aload_n 0, 1) := by decide +kernel
theorem dX6_threadOf_71 : decode cX6_threadOf 71 = .ok (.getfield 38, 3) := by decide +kernel
theorem dX6_threadOf_74 : decode cX6_threadOf 74 = .ok (.iload_n 1, 1) := by decide +kernel
theorem dX6_threadOf_75 : decode cX6_threadOf 75 = .ok (.invokevirtual 132, 3) := by decide +kernel
theorem dX6_threadOf_78 : decode cX6_threadOf 78 = .ok (.ireturn, 1) := by decide +kernel
theorem dX6_threadOf_79 : decode cX6_threadOf 79 = .ok (.aload_n 0, 1) := by decide +kernel
theorem dX6_threadOf_80 : decode cX6_threadOf 80 = .ok (.getfield 31, 3) := by decide +kernel
theorem dX6_threadOf_83 : decode cX6_threadOf 83 = .ok (.iload_n 1, 1) := by decide +kernel
theorem dX6_threadOf_84 : decode cX6_threadOf 84 = .ok (.invokevirtual 135, 3) := by decide +kernel
theorem dX6_threadOf_87 : decode cX6_threadOf 87 = .ok (.ireturn, 1) := by decide +kernel
theorem dX6_threadOf_88 : decode cX6_threadOf 88 = .ok (.aload_n 0, 1) := by decide +kernel
theorem dX6_threadOf_89 : decode cX6_threadOf 89 = .ok (.getfield 45, 3) := by decide +kernel
theorem dX6_threadOf_92 : decode cX6_threadOf 92 = .ok (.iload_n 1, 1) := by decide +kernel
theorem dX6_threadOf_93 : decode cX6_threadOf 93 = .ok (.invokevirtual 138, 3) := by decide +kernel
theorem dX6_threadOf_96 : decode cX6_threadOf 96 = .ok (.ireturn, 1) := by decide +kernel
theorem dX6_threadOf_97 : decode cX6_threadOf 97 = .ok (.aload_n 0, 1) := by decide +kernel
theorem dX6_threadOf_98 : decode cX6_threadOf 98 = .ok (.getfield 45, 3) := by decide +kernel
theorem dX6_threadOf_101 : decode cX6_threadOf 101 = .ok (.iload_n 1, 1) := by decide +kernel
theorem dX6_threadOf_102 : decode cX6_threadOf 102 = .ok (.invokevirtual 141, 3) := by decide +kernel
theorem dX6_threadOf_105 : decode cX6_threadOf 105 = .ok (.ireturn, 1) := by decide +kernel
theorem dX6_threadOf_106 : decode cX6_threadOf 106 = .ok (.ldc 93, 2) := by decide +kernel
theorem dX6_threadOf_108 : decode cX6_threadOf 108 = .ok (.ireturn, 1) := by decide +kernel
set_option maxRecDepth 20000 in
theorem ggX6_toneOf_X5_placeOf : GoodIn wsX6_toneOf wsX5_placeOf := goodIn_r _ [10, 11, 12, 13, 14, 15, 16, 9, 17, 18, 19, 20, 21, 22, 23, 24, 25, 26, 27, 28, 29, 30, 31, 59, 60, 61, 62, 63, 64, 65, 66, 67] (by decide +kernel) (by decide +kernel)
set_option maxRecDepth 20000 in
theorem gX6_toneOf_X5_placeOf : GoodIn wsX6_toneOf (wsV RX6 144 RX5 yX5_placeOf wsX5_placeOf) := goodIn_app (goodIn_of _ (by decide +kernel)) ggX6_toneOf_X5_placeOf
set_option maxRecDepth 20000 in
theorem ggX6_toneOf_X5_lengthFrom : GoodIn wsX6_toneOf wsX5_lengthFrom := goodIn_r _ [35, 11, 12, 18, 19, 20, 21, 22, 23, 24, 25, 26, 27, 28, 29, 30, 31, 59, 60, 61, 62, 63, 64, 65, 66, 67] (by decide +kernel) (by decide +kernel)
set_option maxRecDepth 20000 in
theorem gX6_toneOf_X5_lengthFrom : GoodIn wsX6_toneOf (wsV RX6 148 RX5 yX5_lengthFrom wsX5_lengthFrom) := goodIn_app (goodIn_of _ (by decide +kernel)) ggX6_toneOf_X5_lengthFrom
set_option maxRecDepth 20000 in
theorem ggX6_toneOf_X2_noteAt : GoodIn wsX6_toneOf wsX2_noteAt := goodIn_r _ [39, 40, 60, 61, 62, 63, 64, 65, 66, 67] (by decide +kernel) (by decide +kernel)
set_option maxRecDepth 20000 in
theorem gX6_toneOf_X2_noteAt : GoodIn wsX6_toneOf (wsV RX6 126 RX2 yX2_noteAt wsX2_noteAt) := goodIn_app (goodIn_of _ (by decide +kernel)) ggX6_toneOf_X2_noteAt
set_option maxRecDepth 20000 in
theorem ggX6_toneOf_X3_barAt : GoodIn wsX6_toneOf wsX3_barAt := goodIn_r _ [45, 46, 47, 48, 49, 21, 50, 51, 68, 60, 61, 62, 63, 64, 65, 66, 67] (by decide +kernel) (by decide +kernel)
set_option maxRecDepth 20000 in
theorem gX6_toneOf_X3_barAt : GoodIn wsX6_toneOf (wsV RX6 120 RX3 yX3_barAt wsX3_barAt) := goodIn_app (goodIn_of _ (by decide +kernel)) ggX6_toneOf_X3_barAt
theorem dX6_toneOf_0 : decode cX6_toneOf 0 = .ok (.iload_n 1, 1) := by decide +kernel
theorem dX6_toneOf_1 : decode cX6_toneOf 1 = .ok (.ifCond .lt 12, 3) := by decide +kernel
theorem dX6_toneOf_4 : decode cX6_toneOf 4 = .ok (.iload_n 2, 1) := by decide +kernel
theorem dX6_toneOf_5 : decode cX6_toneOf 5 = .ok (.ifCond .lt 8, 3) := by decide +kernel
theorem dX6_toneOf_8 : decode cX6_toneOf 8 = .ok (.iload_n 2, 1) := by decide +kernel
theorem dX6_toneOf_9 : decode cX6_toneOf 9 = .ok (.iconst 4, 1) := by decide +kernel
theorem dX6_toneOf_10 : decode cX6_toneOf 10 = .ok (.if_icmp .le 6, 3) := by decide +kernel
theorem dX6_toneOf_13 : decode cX6_toneOf 13 = .ok (.ldc 93, 2) := by decide +kernel
theorem dX6_toneOf_15 : decode cX6_toneOf 15 = .ok (.ireturn, 1) := by decide +kernel
theorem dX6_toneOf_16 : decode cX6_toneOf 16 = .ok (.aload_n 0, 1) := by decide +kernel
theorem dX6_toneOf_17 : decode cX6_toneOf 17 = .ok (.getfield 38, 3) := by decide +kernel
theorem dX6_toneOf_20 : decode cX6_toneOf 20 = .ok (.iload_n 1, 1) := by decide +kernel
theorem dX6_toneOf_21 : decode cX6_toneOf 21 = .ok (.invokevirtual 144, 3) := by decide +kernel
theorem dX6_toneOf_24 : decode cX6_toneOf 24 = .ok (.istore_n 3, 1) := by decide +kernel
theorem dX6_toneOf_25 : decode cX6_toneOf 25 = .ok (.iload_n 3, 1) := by decide +kernel
theorem dX6_toneOf_26 : decode cX6_toneOf 26 = .ok (.ifCond .ge 6, 3) := by decide +kernel
theorem dX6_toneOf_29 : decode cX6_toneOf 29 = .ok (.ldc 147, 2) := by decide +kernel
theorem dX6_toneOf_31 : decode cX6_toneOf 31 = .ok (.ireturn, 1) := by decide +kernel
theorem dX6_toneOf_32 : decode cX6_toneOf 32 = .ok (.iload_n 3, 1) := by decide +kernel
theorem dX6_toneOf_33 : decode cX6_toneOf 33 = .ok (.bipush 8, 2) := by decide +kernel
theorem dX6_toneOf_35 : decode cX6_toneOf 35 = .ok (.idiv, 1) := by decide +kernel
theorem dX6_toneOf_36 : decode cX6_toneOf 36 = .ok (.istore 4, 2) := by decide +kernel
theorem dX6_toneOf_38 : decode cX6_toneOf 38 = .ok (.iload_n 3, 1) := by decide +kernel
theorem dX6_toneOf_39 : decode cX6_toneOf 39 = .ok (.bipush 8, 2) := by decide +kernel
theorem dX6_toneOf_41 : decode cX6_toneOf 41 = .ok (.irem, 1) := by decide +kernel
theorem dX6_toneOf_42 : decode cX6_toneOf 42 = .ok (.istore 5, 2) := by decide +kernel
theorem dX6_toneOf_44 : decode cX6_toneOf 44 = .ok (.iload_n 2, 1) := by decide +kernel
theorem dX6_toneOf_45 : decode cX6_toneOf 45 = .ok (.tableswitch 59 0 3 #[31, 34, 37, 49], 31) := by decide +kernel
theorem dX6_toneOf_76 : decode cX6_toneOf 76 = .ok (.iload 5, 2) := by decide +kernel
theorem dX6_toneOf_78 : decode cX6_toneOf 78 = .ok (.ireturn, 1) := by decide +kernel
theorem dX6_toneOf_79 : decode cX6_toneOf 79 = .ok (.iload 4, 2) := by decide +kernel
theorem dX6_toneOf_81 : decode cX6_toneOf 81 = .ok (.ireturn, 1) := by decide +kernel
theorem dX6_toneOf_82 : decode cX6_toneOf 82 = .ok (.aload_n 0, 1) := by decide +kernel
theorem dX6_toneOf_83 : decode cX6_toneOf 83 = .ok (.getfield 38, 3) := by decide +kernel
theorem dX6_toneOf_86 : decode cX6_toneOf 86 = .ok (.iload 4, 2) := by decide +kernel
theorem dX6_toneOf_88 : decode cX6_toneOf 88 = .ok (.iload 5, 2) := by decide +kernel
theorem dX6_toneOf_90 : decode cX6_toneOf 90 = .ok (.invokevirtual 148, 3) := by decide +kernel
theorem dX6_toneOf_93 : decode cX6_toneOf 93 = .ok (.ireturn, 1) := by decide +kernel
theorem dX6_toneOf_94 : decode cX6_toneOf 94 = .ok (.aload_n 0, 1) := by decide +kernel
theorem dX6_toneOf_95 : decode cX6_toneOf 95 = .ok (.getfield 10, 3) := by decide +kernel
theorem dX6_toneOf_98 : decode cX6_toneOf 98 = .ok (.iload 5, 2) := by decide +kernel
theorem dX6_toneOf_100 : decode cX6_toneOf 100 = .ok (.invokevirtual 126, 3) := by decide +kernel
theorem dX6_toneOf_103 : decode cX6_toneOf 103 = .ok (.ireturn, 1) := by decide +kernel
theorem dX6_toneOf_104 : decode cX6_toneOf 104 = .ok (.aload_n 0, 1) := by decide +kernel
theorem dX6_toneOf_105 : decode cX6_toneOf 105 = .ok (.getfield 31, 3) := by decide +kernel
theorem dX6_toneOf_108 : decode cX6_toneOf 108 = .ok (.iload 4, 2) := by decide +kernel
theorem dX6_toneOf_110 : decode cX6_toneOf 110 = .ok (.invokevirtual 120, 3) := by decide +kernel
theorem dX6_toneOf_113 : decode cX6_toneOf 113 = .ok (.ireturn, 1) := by decide +kernel
set_option maxRecDepth 20000 in
theorem ggX6_barOf_X3_barAt : GoodIn wsX6_barOf wsX3_barAt := goodIn_r _ [9, 10, 11, 12, 13, 14, 15, 16, 78, 70, 71, 72, 73, 74, 75, 76, 77] (by decide +kernel) (by decide +kernel)
set_option maxRecDepth 20000 in
theorem gX6_barOf_X3_barAt : GoodIn wsX6_barOf (wsV RX6 120 RX3 yX3_barAt wsX3_barAt) := goodIn_app (goodIn_of _ (by decide +kernel)) ggX6_barOf_X3_barAt
set_option maxRecDepth 20000 in
theorem ggX6_barOf_X6_partOfBar : GoodIn wsX6_barOf wsX6_partOfBar := goodIn_r _ [21, 22, 2, 23, 24, 25, 26, 27, 28, 29, 30, 31, 14, 32, 33, 34, 35, 36, 37, 38, 39, 40, 41, 42, 43, 44, 45, 46, 47, 63, 64, 65, 66, 67, 68, 69, 79, 70, 71, 72, 73, 74, 75, 76, 77] (by decide +kernel) (by decide +kernel)
set_option maxRecDepth 20000 in
theorem gX6_barOf_X6_partOfBar : GoodIn wsX6_barOf (wsV RX6 155 RX6 yX6_partOfBar wsX6_partOfBar) := goodIn_app (goodIn_of _ (by decide +kernel)) ggX6_barOf_X6_partOfBar
set_option maxRecDepth 20000 in
theorem ggX6_barOf_X3_noteSet : GoodIn wsX6_barOf wsX3_noteSet := goodIn_r _ [51, 10, 52, 53, 54, 14, 55, 56, 30, 31, 32, 33, 34, 57, 20, 58, 59, 60, 61, 62, 47, 78, 70, 71, 72, 73, 74, 75, 76, 77] (by decide +kernel) (by decide +kernel)
set_option maxRecDepth 20000 in
theorem gX6_barOf_X3_noteSet : GoodIn wsX6_barOf (wsV RX6 108 RX3 yX3_noteSet wsX3_noteSet) := goodIn_app (goodIn_of _ (by decide +kernel)) ggX6_barOf_X3_noteSet
theorem dX6_barOf_0 : decode cX6_barOf 0 = .ok (.iload_n 1, 1) := by decide +kernel
theorem dX6_barOf_1 : decode cX6_barOf 1 = .ok (.ifCond .lt 18, 3) := by decide +kernel
theorem dX6_barOf_4 : decode cX6_barOf 4 = .ok (.iload_n 1, 1) := by decide +kernel
theorem dX6_barOf_5 : decode cX6_barOf 5 = .ok (.bipush 12, 2) := by decide +kernel
theorem dX6_barOf_7 : decode cX6_barOf 7 = .ok (.if_icmp .ge 12, 3) := by decide +kernel
theorem dX6_barOf_10 : decode cX6_barOf 10 = .ok (.iload_n 2, 1) := by decide +kernel
theorem dX6_barOf_11 : decode cX6_barOf 11 = .ok (.ifCond .lt 8, 3) := by decide +kernel
theorem dX6_barOf_14 : decode cX6_barOf 14 = .ok (.iload_n 2, 1) := by decide +kernel
theorem dX6_barOf_15 : decode cX6_barOf 15 = .ok (.iconst 3, 1) := by decide +kernel
theorem dX6_barOf_16 : decode cX6_barOf 16 = .ok (.if_icmp .le 6, 3) := by decide +kernel
theorem dX6_barOf_19 : decode cX6_barOf 19 = .ok (.ldc 93, 2) := by decide +kernel
theorem dX6_barOf_21 : decode cX6_barOf 21 = .ok (.ireturn, 1) := by decide +kernel
theorem dX6_barOf_22 : decode cX6_barOf 22 = .ok (.iconst 0, 1) := by decide +kernel
theorem dX6_barOf_23 : decode cX6_barOf 23 = .ok (.istore_n 3, 1) := by decide +kernel
theorem dX6_barOf_24 : decode cX6_barOf 24 = .ok (.iconst 0, 1) := by decide +kernel
theorem dX6_barOf_25 : decode cX6_barOf 25 = .ok (.istore 4, 2) := by decide +kernel
theorem dX6_barOf_27 : decode cX6_barOf 27 = .ok (.iconst 0, 1) := by decide +kernel
theorem dX6_barOf_28 : decode cX6_barOf 28 = .ok (.istore 5, 2) := by decide +kernel
theorem dX6_barOf_30 : decode cX6_barOf 30 = .ok (.iload 5, 2) := by decide +kernel
theorem dX6_barOf_32 : decode cX6_barOf 32 = .ok (.aload_n 0, 1) := by decide +kernel
theorem dX6_barOf_33 : decode cX6_barOf 33 = .ok (.getfield 10, 3) := by decide +kernel
theorem dX6_barOf_36 : decode cX6_barOf 36 = .ok (.getfield 151, 3) := by decide +kernel
theorem dX6_barOf_39 : decode cX6_barOf 39 = .ok (.if_icmp .ge 46, 3) := by decide +kernel
theorem dX6_barOf_42 : decode cX6_barOf 42 = .ok (.aload_n 0, 1) := by decide +kernel
theorem dX6_barOf_43 : decode cX6_barOf 43 = .ok (.getfield 31, 3) := by decide +kernel
theorem dX6_barOf_46 : decode cX6_barOf 46 = .ok (.iload 5, 2) := by decide +kernel
theorem dX6_barOf_48 : decode cX6_barOf 48 = .ok (.invokevirtual 120, 3) := by decide +kernel
theorem dX6_barOf_51 : decode cX6_barOf 51 = .ok (.iload_n 1, 1) := by decide +kernel
theorem dX6_barOf_52 : decode cX6_barOf 52 = .ok (.if_icmp .ne 27, 3) := by decide +kernel
theorem dX6_barOf_55 : decode cX6_barOf 55 = .ok (.iload_n 3, 1) := by decide +kernel
theorem dX6_barOf_56 : decode cX6_barOf 56 = .ok (.aload_n 0, 1) := by decide +kernel
theorem dX6_barOf_57 : decode cX6_barOf 57 = .ok (.iload 5, 2) := by decide +kernel
theorem dX6_barOf_59 : decode cX6_barOf 59 = .ok (.iload_n 2, 1) := by decide +kernel
theorem dX6_barOf_60 : decode cX6_barOf 60 = .ok (.invokevirtual 155, 3) := by decide +kernel
theorem dX6_barOf_63 : decode cX6_barOf 63 = .ok (.iadd, 1) := by decide +kernel
theorem dX6_barOf_64 : decode cX6_barOf 64 = .ok (.istore_n 3, 1) := by decide +kernel
theorem dX6_barOf_65 : decode cX6_barOf 65 = .ok (.iload 4, 2) := by decide +kernel
theorem dX6_barOf_67 : decode cX6_barOf 67 = .ok (.aload_n 0, 1) := by decide +kernel
theorem dX6_barOf_68 : decode cX6_barOf 68 = .ok (.getfield 31, 3) := by decide +kernel
theorem dX6_barOf_71 : decode cX6_barOf 71 = .ok (.iload 5, 2) := by decide +kernel
theorem dX6_barOf_73 : decode cX6_barOf 73 = .ok (.invokevirtual 108, 3) := by decide +kernel
theorem dX6_barOf_76 : decode cX6_barOf 76 = .ok (.ior, 1) := by decide +kernel
theorem dX6_barOf_77 : decode cX6_barOf 77 = .ok (.istore 4, 2) := by decide +kernel
theorem dX6_barOf_79 : decode cX6_barOf 79 = .ok (.iinc 5 1, 3) := by decide +kernel
theorem dX6_barOf_82 : decode cX6_barOf 82 = .ok (.goto (-52), 3) := by decide +kernel
theorem dX6_barOf_85 : decode cX6_barOf 85 = .ok (.iload_n 2, 1) := by decide +kernel
theorem dX6_barOf_86 : decode cX6_barOf 86 = .ok (.iconst 3, 1) := by decide +kernel
theorem dX6_barOf_87 : decode cX6_barOf 87 = .ok (.if_icmp .ne 8, 3) := by decide +kernel
theorem dX6_barOf_90 : decode cX6_barOf 90 = .ok (.iload 4, 2) := by decide +kernel
theorem dX6_barOf_92 : decode cX6_barOf 92 = .ok (.goto 4, 3) := by decide +kernel
theorem dX6_barOf_95 : decode cX6_barOf 95 = .ok (.iload_n 3, 1) := by decide +kernel
theorem dX6_barOf_96 : decode cX6_barOf 96 = .ok (.ireturn, 1) := by decide +kernel
set_option maxRecDepth 20000 in
theorem ggX6_partOfBar_X5_beginningAt : GoodIn wsX6_partOfBar wsX5_beginningAt := goodIn_r _ [7, 8, 9, 10, 11, 12, 13, 14, 15, 16, 17, 18, 19, 20, 21, 22, 36, 37, 38, 39, 40, 41, 42, 43, 44] (by decide +kernel) (by decide +kernel)
set_option maxRecDepth 20000 in
theorem gX6_partOfBar_X5_beginningAt : GoodIn wsX6_partOfBar (wsV RX6 117 RX5 yX5_beginningAt wsX5_beginningAt) := goodIn_app (goodIn_of _ (by decide +kernel)) ggX6_partOfBar_X5_beginningAt
set_option maxRecDepth 20000 in
theorem ggX6_partOfBar_X2_holesAt : GoodIn wsX6_partOfBar wsX2_holesAt := goodIn_r _ [13, 14, 15, 37, 38, 39, 40, 41, 42, 43, 44] (by decide +kernel) (by decide +kernel)
set_option maxRecDepth 20000 in
theorem gX6_partOfBar_X2_holesAt : GoodIn wsX6_partOfBar (wsV RX6 94 RX2 yX2_holesAt wsX2_holesAt) := goodIn_app (goodIn_of _ (by decide +kernel)) ggX6_partOfBar_X2_holesAt
set_option maxRecDepth 20000 in
theorem ggX6_partOfBar_X2_clashesOf : GoodIn wsX6_partOfBar wsX2_clashesOf := goodIn_r _ [27, 28, 37, 38, 39, 40, 41, 42, 43, 44] (by decide +kernel) (by decide +kernel)
set_option maxRecDepth 20000 in
theorem gX6_partOfBar_X2_clashesOf : GoodIn wsX6_partOfBar (wsV RX6 105 RX2 yX2_clashesOf wsX2_clashesOf) := goodIn_app (goodIn_of _ (by decide +kernel)) ggX6_partOfBar_X2_clashesOf
theorem dX6_partOfBar_0 : decode cX6_partOfBar 0 = .ok (.iload_n 2, 1) := by decide +kernel
theorem dX6_partOfBar_1 : decode cX6_partOfBar 1 = .ok (.lookupswitch 38 #[(0, 27), (1, 29)], 27) := by decide +kernel
theorem dX6_partOfBar_28 : decode cX6_partOfBar 28 = .ok (.iconst 1, 1) := by decide +kernel
theorem dX6_partOfBar_29 : decode cX6_partOfBar 29 = .ok (.ireturn, 1) := by decide +kernel
theorem dX6_partOfBar_30 : decode cX6_partOfBar 30 = .ok (.aload_n 0, 1) := by decide +kernel
theorem dX6_partOfBar_31 : decode cX6_partOfBar 31 = .ok (.getfield 38, 3) := by decide +kernel
theorem dX6_partOfBar_34 : decode cX6_partOfBar 34 = .ok (.iload_n 1, 1) := by decide +kernel
theorem dX6_partOfBar_35 : decode cX6_partOfBar 35 = .ok (.invokevirtual 117, 3) := by decide +kernel
theorem dX6_partOfBar_38 : decode cX6_partOfBar 38 = .ok (.ireturn, 1) := by decide +kernel
theorem dX6_partOfBar_39 : decode cX6_partOfBar 39 = .ok (.aload_n 0, 1) := by decide +kernel
theorem dX6_partOfBar_40 : decode cX6_partOfBar 40 = .ok (.getfield 10, 3) := by decide +kernel
theorem dX6_partOfBar_43 : decode cX6_partOfBar 43 = .ok (.aload_n 0, 1) := by decide +kernel
theorem dX6_partOfBar_44 : decode cX6_partOfBar 44 = .ok (.getfield 10, 3) := by decide +kernel
theorem dX6_partOfBar_47 : decode cX6_partOfBar 47 = .ok (.iload_n 1, 1) := by decide +kernel
theorem dX6_partOfBar_48 : decode cX6_partOfBar 48 = .ok (.invokevirtual 94, 3) := by decide +kernel
theorem dX6_partOfBar_51 : decode cX6_partOfBar 51 = .ok (.invokevirtual 105, 3) := by decide +kernel
theorem dX6_partOfBar_54 : decode cX6_partOfBar 54 = .ok (.ireturn, 1) := by decide +kernel
set_option maxRecDepth 20000 in
theorem ggX6_alike_X2_hasCard : GoodIn wsX6_alike wsX2_hasCard := goodIn_r _ [9, 10, 53, 54, 55, 56, 57, 58, 59, 60] (by decide +kernel) (by decide +kernel)
set_option maxRecDepth 20000 in
theorem gX6_alike_X2_hasCard : GoodIn wsX6_alike (wsV RX6 89 RX2 yX2_hasCard wsX2_hasCard) := goodIn_app (goodIn_of _ (by decide +kernel)) ggX6_alike_X2_hasCard
set_option maxRecDepth 20000 in
theorem ggX6_alike_X3_soundTheSame : GoodIn wsX6_alike wsX3_soundTheSame := goodIn_r _ [15, 16, 17, 18, 19, 8, 20, 10, 21, 22, 23, 24, 25, 26, 27, 28, 29, 30, 31, 32, 33, 34, 35, 36, 37, 38, 39, 40, 41, 42, 43, 44, 14, 45, 61, 53, 54, 55, 56, 57, 58, 59, 60] (by decide +kernel) (by decide +kernel)
set_option maxRecDepth 20000 in
theorem gX6_alike_X3_soundTheSame : GoodIn wsX6_alike (wsV RX6 158 RX3 yX3_soundTheSame wsX3_soundTheSame) := goodIn_app (goodIn_of _ (by decide +kernel)) ggX6_alike_X3_soundTheSame
theorem dX6_alike_0 : decode cX6_alike 0 = .ok (.aload_n 0, 1) := by decide +kernel
theorem dX6_alike_1 : decode cX6_alike 1 = .ok (.getfield 10, 3) := by decide +kernel
theorem dX6_alike_4 : decode cX6_alike 4 = .ok (.iload_n 1, 1) := by decide +kernel
theorem dX6_alike_5 : decode cX6_alike 5 = .ok (.invokevirtual 89, 3) := by decide +kernel
theorem dX6_alike_8 : decode cX6_alike 8 = .ok (.ifCond .ne 6, 3) := by decide +kernel
theorem dX6_alike_11 : decode cX6_alike 11 = .ok (.ldc 93, 2) := by decide +kernel
theorem dX6_alike_13 : decode cX6_alike 13 = .ok (.ireturn, 1) := by decide +kernel
theorem dX6_alike_14 : decode cX6_alike 14 = .ok (.iload_n 1, 1) := by decide +kernel
theorem dX6_alike_15 : decode cX6_alike 15 = .ok (.iconst 1, 1) := by decide +kernel
theorem dX6_alike_16 : decode cX6_alike 16 = .ok (.isub, 1) := by decide +kernel
theorem dX6_alike_17 : decode cX6_alike 17 = .ok (.istore_n 2, 1) := by decide +kernel
theorem dX6_alike_18 : decode cX6_alike 18 = .ok (.iload_n 2, 1) := by decide +kernel
theorem dX6_alike_19 : decode cX6_alike 19 = .ok (.ifCond .lt 23, 3) := by decide +kernel
theorem dX6_alike_22 : decode cX6_alike 22 = .ok (.aload_n 0, 1) := by decide +kernel
theorem dX6_alike_23 : decode cX6_alike 23 = .ok (.getfield 31, 3) := by decide +kernel
theorem dX6_alike_26 : decode cX6_alike 26 = .ok (.iload_n 2, 1) := by decide +kernel
theorem dX6_alike_27 : decode cX6_alike 27 = .ok (.iload_n 1, 1) := by decide +kernel
theorem dX6_alike_28 : decode cX6_alike 28 = .ok (.invokevirtual 158, 3) := by decide +kernel
theorem dX6_alike_31 : decode cX6_alike 31 = .ok (.ifCond .eq 5, 3) := by decide +kernel
theorem dX6_alike_34 : decode cX6_alike 34 = .ok (.iload_n 2, 1) := by decide +kernel
theorem dX6_alike_35 : decode cX6_alike 35 = .ok (.ireturn, 1) := by decide +kernel
theorem dX6_alike_36 : decode cX6_alike 36 = .ok (.iinc 2 (-1), 3) := by decide +kernel
theorem dX6_alike_39 : decode cX6_alike 39 = .ok (.goto (-21), 3) := by decide +kernel
theorem dX6_alike_42 : decode cX6_alike 42 = .ok (.ldc 147, 2) := by decide +kernel
theorem dX6_alike_44 : decode cX6_alike 44 = .ok (.ireturn, 1) := by decide +kernel
set_option maxRecDepth 20000 in
theorem ggX6_would_X2_answerTo : GoodIn wsX6_would wsX2_answerTo := goodIn_r _ [6, 7, 8, 9, 10, 11, 12, 13, 5, 14, 15, 16, 17, 18, 19, 20, 21, 22, 23, 24, 25, 26, 27, 28, 29, 30, 31, 32, 33, 34, 35, 36, 37, 38, 39, 40, 41, 49, 50, 51, 52, 53, 54, 55, 56] (by decide +kernel) (by decide +kernel)
set_option maxRecDepth 20000 in
theorem gX6_would_X2_answerTo : GoodIn wsX6_would (wsV RX6 162 RX2 yX2_answerTo wsX2_answerTo) := goodIn_app (goodIn_of _ (by decide +kernel)) ggX6_would_X2_answerTo
theorem dX6_would_0 : decode cX6_would 0 = .ok (.aload_n 0, 1) := by decide +kernel
theorem dX6_would_1 : decode cX6_would 1 = .ok (.getfield 10, 3) := by decide +kernel
theorem dX6_would_4 : decode cX6_would 4 = .ok (.iload_n 1, 1) := by decide +kernel
theorem dX6_would_5 : decode cX6_would 5 = .ok (.invokevirtual 162, 3) := by decide +kernel
theorem dX6_would_8 : decode cX6_would 8 = .ok (.ireturn, 1) := by decide +kernel
set_option maxRecDepth 20000 in
theorem ggX6_best_X2_isFull : GoodIn wsX6_best wsX2_isFull := goodIn_r _ [9, 10, 58, 59, 60, 61, 62, 63, 64, 65] (by decide +kernel) (by decide +kernel)
set_option maxRecDepth 20000 in
theorem gX6_best_X2_isFull : GoodIn wsX6_best (wsV RX6 165 RX2 yX2_isFull wsX2_isFull) := goodIn_app (goodIn_of _ (by decide +kernel)) ggX6_best_X2_isFull
set_option maxRecDepth 20000 in
theorem ggX6_best_X2_bestCard : GoodIn wsX6_best wsX2_bestCard := goodIn_r _ [14, 15, 16, 17, 8, 18, 10, 19, 20, 21, 22, 23, 24, 25, 26, 27, 28, 29, 30, 31, 32, 33, 34, 35, 36, 37, 38, 39, 40, 41, 42, 43, 44, 45, 46, 47, 48, 58, 59, 60, 61, 62, 63, 64, 65] (by decide +kernel) (by decide +kernel)
set_option maxRecDepth 20000 in
theorem gX6_best_X2_bestCard : GoodIn wsX6_best (wsV RX6 170 RX2 yX2_bestCard wsX2_bestCard) := goodIn_app (goodIn_of _ (by decide +kernel)) ggX6_best_X2_bestCard
set_option maxRecDepth 20000 in
theorem ggX6_best_X2_clashesOf : GoodIn wsX6_best wsX2_clashesOf := goodIn_r _ [34, 35, 58, 59, 60, 61, 62, 63, 64, 65] (by decide +kernel) (by decide +kernel)
set_option maxRecDepth 20000 in
theorem gX6_best_X2_clashesOf : GoodIn wsX6_best (wsV RX6 105 RX2 yX2_clashesOf wsX2_clashesOf) := goodIn_app (goodIn_of _ (by decide +kernel)) ggX6_best_X2_clashesOf
set_option maxRecDepth 20000 in
theorem ggX6_best_X2_inCommonWithLast : GoodIn wsX6_best wsX2_inCommonWithLast := goodIn_r _ [48, 10, 36, 37, 38, 8, 39, 40, 19, 20, 21, 22, 23, 24, 25, 58, 59, 60, 61, 62, 63, 64, 65] (by decide +kernel) (by decide +kernel)
set_option maxRecDepth 20000 in
theorem gX6_best_X2_inCommonWithLast : GoodIn wsX6_best (wsV RX6 173 RX2 yX2_inCommonWithLast wsX2_inCommonWithLast) := goodIn_app (goodIn_of _ (by decide +kernel)) ggX6_best_X2_inCommonWithLast
theorem dX6_best_0 : decode cX6_best 0 = .ok (.iload_n 1, 1) := by decide +kernel
theorem dX6_best_1 : decode cX6_best 1 = .ok (.ifCond .lt 8, 3) := by decide +kernel
theorem dX6_best_4 : decode cX6_best 4 = .ok (.iload_n 1, 1) := by decide +kernel
theorem dX6_best_5 : decode cX6_best 5 = .ok (.iconst 2, 1) := by decide +kernel
theorem dX6_best_6 : decode cX6_best 6 = .ok (.if_icmp .le 6, 3) := by decide +kernel
theorem dX6_best_9 : decode cX6_best 9 = .ok (.ldc 93, 2) := by decide +kernel
theorem dX6_best_11 : decode cX6_best 11 = .ok (.ireturn, 1) := by decide +kernel
theorem dX6_best_12 : decode cX6_best 12 = .ok (.aload_n 0, 1) := by decide +kernel
theorem dX6_best_13 : decode cX6_best 13 = .ok (.getfield 10, 3) := by decide +kernel
theorem dX6_best_16 : decode cX6_best 16 = .ok (.invokevirtual 165, 3) := by decide +kernel
theorem dX6_best_19 : decode cX6_best 19 = .ok (.ifCond .eq 6, 3) := by decide +kernel
theorem dX6_best_22 : decode cX6_best 22 = .ok (.ldc 169, 2) := by decide +kernel
theorem dX6_best_24 : decode cX6_best 24 = .ok (.ireturn, 1) := by decide +kernel
theorem dX6_best_25 : decode cX6_best 25 = .ok (.aload_n 0, 1) := by decide +kernel
theorem dX6_best_26 : decode cX6_best 26 = .ok (.getfield 10, 3) := by decide +kernel
theorem dX6_best_29 : decode cX6_best 29 = .ok (.invokevirtual 170, 3) := by decide +kernel
theorem dX6_best_32 : decode cX6_best 32 = .ok (.istore_n 2, 1) := by decide +kernel
theorem dX6_best_33 : decode cX6_best 33 = .ok (.iload_n 2, 1) := by decide +kernel
theorem dX6_best_34 : decode cX6_best 34 = .ok (.iconst (-1), 1) := by decide +kernel
theorem dX6_best_35 : decode cX6_best 35 = .ok (.if_icmp .ne 6, 3) := by decide +kernel
theorem dX6_best_38 : decode cX6_best 38 = .ok (.ldc 147, 2) := by decide +kernel
theorem dX6_best_40 : decode cX6_best 40 = .ok (.ireturn, 1) := by decide +kernel
theorem dX6_best_41 : decode cX6_best 41 = .ok (.iload_n 1, 1) := by decide +kernel
theorem dX6_best_42 : decode cX6_best 42 = .ok (.ifCond .ne 7, 3) := by decide +kernel
theorem dX6_best_45 : decode cX6_best 45 = .ok (.iload_n 2, 1) := by decide +kernel
theorem dX6_best_46 : decode cX6_best 46 = .ok (.goto 27, 3) := by decide +kernel
theorem dX6_best_49 : decode cX6_best 49 = .ok (.iload_n 1, 1) := by decide +kernel
theorem dX6_best_50 : decode cX6_best 50 = .ok (.iconst 1, 1) := by decide +kernel
theorem dX6_best_51 : decode cX6_best 51 = .ok (.if_icmp .ne 14, 3) := by decide +kernel
theorem dX6_best_54 : decode cX6_best 54 = .ok (.aload_n 0, 1) := by decide +kernel
theorem dX6_best_55 : decode cX6_best 55 = .ok (.getfield 10, 3) := by decide +kernel
theorem dX6_best_58 : decode cX6_best 58 = .ok (.iload_n 2, 1) := by decide +kernel
theorem dX6_best_59 : decode cX6_best 59 = .ok (.invokevirtual 105, 3) := by decide +kernel
theorem dX6_best_62 : decode cX6_best 62 = .ok (.goto 11, 3) := by decide +kernel
theorem dX6_best_65 : decode cX6_best 65 = .ok (.aload_n 0, 1) := by decide +kernel
theorem dX6_best_66 : decode cX6_best 66 = .ok (.getfield 10, 3) := by decide +kernel
theorem dX6_best_69 : decode cX6_best 69 = .ok (.iload_n 2, 1) := by decide +kernel
theorem dX6_best_70 : decode cX6_best 70 = .ok (.invokevirtual 173, 3) := by decide +kernel
theorem dX6_best_73 : decode cX6_best 73 = .ok (.ireturn, 1) := by decide +kernel
set_option maxRecDepth 20000 in
theorem ggX6_key_X5_inAll : GoodIn wsX6_key wsX5_inAll := goodIn_r _ [8, 9, 10, 11, 12, 13, 7, 14, 15, 16, 17, 18, 19, 20, 21, 22, 23, 24, 25, 26, 27, 28, 61, 62, 63, 64, 65, 66, 67, 68, 69] (by decide +kernel) (by decide +kernel)
set_option maxRecDepth 20000 in
theorem gX6_key_X5_inAll : GoodIn wsX6_key (wsV RX6 176 RX5 yX5_inAll wsX5_inAll) := goodIn_app (goodIn_of _ (by decide +kernel)) ggX6_key_X5_inAll
set_option maxRecDepth 20000 in
theorem ggX6_key_X5_inKey : GoodIn wsX6_key wsX5_inKey := goodIn_r _ [32, 9, 33, 34, 35, 18, 36, 37, 38, 39, 40, 41, 42, 43, 7, 44, 10, 45, 46, 47, 48, 49, 50, 51, 52, 53, 16, 17, 19, 20, 21, 61, 62, 63, 64, 65, 66, 67, 68, 69] (by decide +kernel) (by decide +kernel)
set_option maxRecDepth 20000 in
theorem gX6_key_X5_inKey : GoodIn wsX6_key (wsV RX6 179 RX5 yX5_inKey wsX5_inKey) := goodIn_app (goodIn_of _ (by decide +kernel)) ggX6_key_X5_inKey
theorem dX6_key_0 : decode cX6_key 0 = .ok (.iload_n 1, 1) := by decide +kernel
theorem dX6_key_1 : decode cX6_key 1 = .ok (.ifCond .lt 8, 3) := by decide +kernel
theorem dX6_key_4 : decode cX6_key 4 = .ok (.iload_n 1, 1) := by decide +kernel
theorem dX6_key_5 : decode cX6_key 5 = .ok (.iconst 1, 1) := by decide +kernel
theorem dX6_key_6 : decode cX6_key 6 = .ok (.if_icmp .le 6, 3) := by decide +kernel
theorem dX6_key_9 : decode cX6_key 9 = .ok (.ldc 93, 2) := by decide +kernel
theorem dX6_key_11 : decode cX6_key 11 = .ok (.ireturn, 1) := by decide +kernel
theorem dX6_key_12 : decode cX6_key 12 = .ok (.aload_n 0, 1) := by decide +kernel
theorem dX6_key_13 : decode cX6_key 13 = .ok (.getfield 38, 3) := by decide +kernel
theorem dX6_key_16 : decode cX6_key 16 = .ok (.invokevirtual 176, 3) := by decide +kernel
theorem dX6_key_19 : decode cX6_key 19 = .ok (.ifCond .ne 6, 3) := by decide +kernel
theorem dX6_key_22 : decode cX6_key 22 = .ok (.ldc 147, 2) := by decide +kernel
theorem dX6_key_24 : decode cX6_key 24 = .ok (.ireturn, 1) := by decide +kernel
theorem dX6_key_25 : decode cX6_key 25 = .ok (.iconst 0, 1) := by decide +kernel
theorem dX6_key_26 : decode cX6_key 26 = .ok (.istore_n 2, 1) := by decide +kernel
theorem dX6_key_27 : decode cX6_key 27 = .ok (.aload_n 0, 1) := by decide +kernel
theorem dX6_key_28 : decode cX6_key 28 = .ok (.getfield 38, 3) := by decide +kernel
theorem dX6_key_31 : decode cX6_key 31 = .ok (.iconst 0, 1) := by decide +kernel
theorem dX6_key_32 : decode cX6_key 32 = .ok (.invokevirtual 179, 3) := by decide +kernel
theorem dX6_key_35 : decode cX6_key 35 = .ok (.istore_n 3, 1) := by decide +kernel
theorem dX6_key_36 : decode cX6_key 36 = .ok (.iconst 1, 1) := by decide +kernel
theorem dX6_key_37 : decode cX6_key 37 = .ok (.istore 4, 2) := by decide +kernel
theorem dX6_key_39 : decode cX6_key 39 = .ok (.iload 4, 2) := by decide +kernel
theorem dX6_key_41 : decode cX6_key 41 = .ok (.bipush 12, 2) := by decide +kernel
theorem dX6_key_43 : decode cX6_key 43 = .ok (.if_icmp .ge 32, 3) := by decide +kernel
theorem dX6_key_46 : decode cX6_key 46 = .ok (.aload_n 0, 1) := by decide +kernel
theorem dX6_key_47 : decode cX6_key 47 = .ok (.getfield 38, 3) := by decide +kernel
theorem dX6_key_50 : decode cX6_key 50 = .ok (.iload 4, 2) := by decide +kernel
theorem dX6_key_52 : decode cX6_key 52 = .ok (.invokevirtual 179, 3) := by decide +kernel
theorem dX6_key_55 : decode cX6_key 55 = .ok (.istore 5, 2) := by decide +kernel
theorem dX6_key_57 : decode cX6_key 57 = .ok (.iload 5, 2) := by decide +kernel
theorem dX6_key_59 : decode cX6_key 59 = .ok (.iload_n 3, 1) := by decide +kernel
theorem dX6_key_60 : decode cX6_key 60 = .ok (.if_icmp .le 9, 3) := by decide +kernel
theorem dX6_key_63 : decode cX6_key 63 = .ok (.iload 4, 2) := by decide +kernel
theorem dX6_key_65 : decode cX6_key 65 = .ok (.istore_n 2, 1) := by decide +kernel
theorem dX6_key_66 : decode cX6_key 66 = .ok (.iload 5, 2) := by decide +kernel
theorem dX6_key_68 : decode cX6_key 68 = .ok (.istore_n 3, 1) := by decide +kernel
theorem dX6_key_69 : decode cX6_key 69 = .ok (.iinc 4 1, 3) := by decide +kernel
theorem dX6_key_72 : decode cX6_key 72 = .ok (.goto (-33), 3) := by decide +kernel
theorem dX6_key_75 : decode cX6_key 75 = .ok (.iload_n 1, 1) := by decide +kernel
theorem dX6_key_76 : decode cX6_key 76 = .ok (.ifCond .ne 7, 3) := by decide +kernel
theorem dX6_key_79 : decode cX6_key 79 = .ok (.iload_n 2, 1) := by decide +kernel
theorem dX6_key_80 : decode cX6_key 80 = .ok (.goto 4, 3) := by decide +kernel
theorem dX6_key_83 : decode cX6_key 83 = .ok (.iload_n 3, 1) := by decide +kernel
theorem dX6_key_84 : decode cX6_key 84 = .ok (.ireturn, 1) := by decide +kernel
set_option maxRecDepth 20000 in
theorem ggX6_like_X2_holesAt : GoodIn wsX6_like wsX2_holesAt := goodIn_r _ [8, 9, 10, 25, 26, 27, 28, 29, 30, 31, 32] (by decide +kernel) (by decide +kernel)
set_option maxRecDepth 20000 in
theorem gX6_like_X2_holesAt : GoodIn wsX6_like (wsV RX6 94 RX2 yX2_holesAt wsX2_holesAt) := goodIn_app (goodIn_of _ (by decide +kernel)) ggX6_like_X2_holesAt
set_option maxRecDepth 20000 in
theorem ggX6_like_X6_mirrored : GoodIn wsX6_like wsX6_mirrored := goodIn_r _ [14, 15, 16, 13, 17] (by decide +kernel) (by decide +kernel)
set_option maxRecDepth 20000 in
theorem gX6_like_X6_mirrored : GoodIn wsX6_like (va_wsS RX6 182 yX6_mirrored wsX6_mirrored) := goodIn_app (goodIn_of _ (by decide +kernel)) ggX6_like_X6_mirrored
theorem dX6_like_0 : decode cX6_like 0 = .ok (.iload_n 1, 1) := by decide +kernel
theorem dX6_like_1 : decode cX6_like 1 = .ok (.ifCond .lt 8, 3) := by decide +kernel
theorem dX6_like_4 : decode cX6_like 4 = .ok (.iload_n 1, 1) := by decide +kernel
theorem dX6_like_5 : decode cX6_like 5 = .ok (.iconst 2, 1) := by decide +kernel
theorem dX6_like_6 : decode cX6_like 6 = .ok (.if_icmp .le 6, 3) := by decide +kernel
theorem dX6_like_9 : decode cX6_like 9 = .ok (.ldc 93, 2) := by decide +kernel
theorem dX6_like_11 : decode cX6_like 11 = .ok (.ireturn, 1) := by decide +kernel
theorem dX6_like_12 : decode cX6_like 12 = .ok (.iconst 0, 1) := by decide +kernel
theorem dX6_like_13 : decode cX6_like 13 = .ok (.istore_n 2, 1) := by decide +kernel
theorem dX6_like_14 : decode cX6_like 14 = .ok (.iload_n 2, 1) := by decide +kernel
theorem dX6_like_15 : decode cX6_like 15 = .ok (.aload_n 0, 1) := by decide +kernel
theorem dX6_like_16 : decode cX6_like 16 = .ok (.getfield 10, 3) := by decide +kernel
theorem dX6_like_19 : decode cX6_like 19 = .ok (.getfield 151, 3) := by decide +kernel
theorem dX6_like_22 : decode cX6_like 22 = .ok (.if_icmp .ge 62, 3) := by decide +kernel
theorem dX6_like_25 : decode cX6_like 25 = .ok (.aload_n 0, 1) := by decide +kernel
theorem dX6_like_26 : decode cX6_like 26 = .ok (.getfield 10, 3) := by decide +kernel
theorem dX6_like_29 : decode cX6_like 29 = .ok (.iload_n 1, 1) := by decide +kernel
theorem dX6_like_30 : decode cX6_like 30 = .ok (.iconst 1, 1) := by decide +kernel
theorem dX6_like_31 : decode cX6_like 31 = .ok (.if_icmp .ne 7, 3) := by decide +kernel
theorem dX6_like_34 : decode cX6_like 34 = .ok (.iload_n 2, 1) := by decide +kernel
theorem dX6_like_35 : decode cX6_like 35 = .ok (.goto 14, 3) := by decide +kernel
theorem dX6_like_38 : decode cX6_like 38 = .ok (.aload_n 0, 1) := by decide +kernel
theorem dX6_like_39 : decode cX6_like 39 = .ok (.getfield 10, 3) := by decide +kernel
theorem dX6_like_42 : decode cX6_like 42 = .ok (.getfield 151, 3) := by decide +kernel
theorem dX6_like_45 : decode cX6_like 45 = .ok (.iconst 1, 1) := by decide +kernel
theorem dX6_like_46 : decode cX6_like 46 = .ok (.isub, 1) := by decide +kernel
theorem dX6_like_47 : decode cX6_like 47 = .ok (.iload_n 2, 1) := by decide +kernel
theorem dX6_like_48 : decode cX6_like 48 = .ok (.isub, 1) := by decide +kernel
theorem dX6_like_49 : decode cX6_like 49 = .ok (.invokevirtual 94, 3) := by decide +kernel
theorem dX6_like_52 : decode cX6_like 52 = .ok (.istore_n 3, 1) := by decide +kernel
theorem dX6_like_53 : decode cX6_like 53 = .ok (.aload_n 0, 1) := by decide +kernel
theorem dX6_like_54 : decode cX6_like 54 = .ok (.getfield 10, 3) := by decide +kernel
theorem dX6_like_57 : decode cX6_like 57 = .ok (.iload_n 2, 1) := by decide +kernel
theorem dX6_like_58 : decode cX6_like 58 = .ok (.invokevirtual 94, 3) := by decide +kernel
theorem dX6_like_61 : decode cX6_like 61 = .ok (.iload_n 1, 1) := by decide +kernel
theorem dX6_like_62 : decode cX6_like 62 = .ok (.ifCond .ne 7, 3) := by decide +kernel
theorem dX6_like_65 : decode cX6_like 65 = .ok (.iload_n 3, 1) := by decide +kernel
theorem dX6_like_66 : decode cX6_like 66 = .ok (.goto 7, 3) := by decide +kernel
theorem dX6_like_69 : decode cX6_like 69 = .ok (.iload_n 3, 1) := by decide +kernel
theorem dX6_like_70 : decode cX6_like 70 = .ok (.invokestatic 182, 3) := by decide +kernel
theorem dX6_like_73 : decode cX6_like 73 = .ok (.if_icmp .eq 5, 3) := by decide +kernel
theorem dX6_like_76 : decode cX6_like 76 = .ok (.iconst 0, 1) := by decide +kernel
theorem dX6_like_77 : decode cX6_like 77 = .ok (.ireturn, 1) := by decide +kernel
theorem dX6_like_78 : decode cX6_like 78 = .ok (.iinc 2 1, 3) := by decide +kernel
theorem dX6_like_81 : decode cX6_like 81 = .ok (.goto (-67), 3) := by decide +kernel
theorem dX6_like_84 : decode cX6_like 84 = .ok (.iconst 1, 1) := by decide +kernel
theorem dX6_like_85 : decode cX6_like 85 = .ok (.ireturn, 1) := by decide +kernel
set_option maxRecDepth 20000 in
theorem ggX6_mean_X5_inAll : GoodIn wsX6_mean wsX5_inAll := goodIn_r _ [8, 9, 10, 11, 12, 13, 7, 14, 15, 16, 17, 18, 19, 20, 21, 22, 23, 24, 25, 26, 27, 28, 50, 51, 52, 53, 54, 55, 56, 57, 58] (by decide +kernel) (by decide +kernel)
set_option maxRecDepth 20000 in
theorem gX6_mean_X5_inAll : GoodIn wsX6_mean (wsV RX6 176 RX5 yX5_inAll wsX5_inAll) := goodIn_app (goodIn_of _ (by decide +kernel)) ggX6_mean_X5_inAll
set_option maxRecDepth 20000 in
theorem ggX6_mean_X3_soundingThreads : GoodIn wsX6_mean wsX3_soundingThreads := goodIn_r _ [33, 34, 35, 36, 16, 17, 18, 19, 20, 21, 37, 23, 24, 25, 26, 27, 28, 59, 51, 52, 53, 54, 55, 56, 57, 58] (by decide +kernel) (by decide +kernel)
set_option maxRecDepth 20000 in
theorem gX6_mean_X3_soundingThreads : GoodIn wsX6_mean (wsV RX6 185 RX3 yX3_soundingThreads wsX3_soundingThreads) := goodIn_app (goodIn_of _ (by decide +kernel)) ggX6_mean_X3_soundingThreads
set_option maxRecDepth 20000 in
theorem ggX6_mean_X6_bitsOf : GoodIn wsX6_mean wsX6_bitsOf := goodIn_r _ [41, 42] (by decide +kernel) (by decide +kernel)
set_option maxRecDepth 20000 in
theorem gX6_mean_X6_bitsOf : GoodIn wsX6_mean (va_wsS RX6 188 yX6_bitsOf wsX6_bitsOf) := goodIn_app (goodIn_of _ (by decide +kernel)) ggX6_mean_X6_bitsOf
theorem dX6_mean_0 : decode cX6_mean 0 = .ok (.aload_n 0, 1) := by decide +kernel
theorem dX6_mean_1 : decode cX6_mean 1 = .ok (.getfield 38, 3) := by decide +kernel
theorem dX6_mean_4 : decode cX6_mean 4 = .ok (.invokevirtual 176, 3) := by decide +kernel
theorem dX6_mean_7 : decode cX6_mean 7 = .ok (.istore_n 1, 1) := by decide +kernel
theorem dX6_mean_8 : decode cX6_mean 8 = .ok (.iload_n 1, 1) := by decide +kernel
theorem dX6_mean_9 : decode cX6_mean 9 = .ok (.ifCond .ne 6, 3) := by decide +kernel
theorem dX6_mean_12 : decode cX6_mean 12 = .ok (.ldc 147, 2) := by decide +kernel
theorem dX6_mean_14 : decode cX6_mean 14 = .ok (.ireturn, 1) := by decide +kernel
theorem dX6_mean_15 : decode cX6_mean 15 = .ok (.aload_n 0, 1) := by decide +kernel
theorem dX6_mean_16 : decode cX6_mean 16 = .ok (.getfield 31, 3) := by decide +kernel
theorem dX6_mean_19 : decode cX6_mean 19 = .ok (.invokevirtual 185, 3) := by decide +kernel
theorem dX6_mean_22 : decode cX6_mean 22 = .ok (.i2f, 1) := by decide +kernel
theorem dX6_mean_23 : decode cX6_mean 23 = .ok (.iload_n 1, 1) := by decide +kernel
theorem dX6_mean_24 : decode cX6_mean 24 = .ok (.i2f, 1) := by decide +kernel
theorem dX6_mean_25 : decode cX6_mean 25 = .ok (.fdiv, 1) := by decide +kernel
theorem dX6_mean_26 : decode cX6_mean 26 = .ok (.invokestatic 188, 3) := by decide +kernel
theorem dX6_mean_29 : decode cX6_mean 29 = .ok (.ireturn, 1) := by decide +kernel
set_option maxRecDepth 20000 in
theorem ggX6_count_X3_stamped : GoodIn wsX6_count wsX3_stamped := goodIn_r _ [19, 20, 21, 22, 23, 24, 25, 26, 27, 28, 29, 30, 31, 32, 130, 110, 111, 112, 113, 114, 115, 116, 117] (by decide +kernel) (by decide +kernel)
set_option maxRecDepth 20000 in
theorem gX6_count_X3_stamped : GoodIn wsX6_count (wsV RX6 192 RX3 yX3_stamped wsX3_stamped) := goodIn_app (goodIn_of _ (by decide +kernel)) ggX6_count_X3_stamped
set_option maxRecDepth 20000 in
theorem ggX6_count_X5_inAll : GoodIn wsX6_count wsX5_inAll := goodIn_r _ [37, 38, 39, 40, 41, 42, 36, 43, 44, 45, 46, 25, 47, 31, 32, 48, 49, 50, 51, 52, 53, 54, 131, 110, 111, 112, 113, 114, 115, 116, 117] (by decide +kernel) (by decide +kernel)
set_option maxRecDepth 20000 in
theorem gX6_count_X5_inAll : GoodIn wsX6_count (wsV RX6 176 RX5 yX5_inAll wsX5_inAll) := goodIn_app (goodIn_of _ (by decide +kernel)) ggX6_count_X5_inAll
set_option maxRecDepth 20000 in
theorem ggX6_count_X3_clashes : GoodIn wsX6_count wsX3_clashes := goodIn_r _ [58, 20, 21, 59, 45, 46, 25, 47, 31, 32, 60, 61, 62, 63, 64, 130, 110, 111, 112, 113, 114, 115, 116, 117] (by decide +kernel) (by decide +kernel)
set_option maxRecDepth 20000 in
theorem gX6_count_X3_clashes : GoodIn wsX6_count (wsV RX6 195 RX3 yX3_clashes wsX3_clashes) := goodIn_app (goodIn_of _ (by decide +kernel)) ggX6_count_X3_clashes
set_option maxRecDepth 20000 in
theorem ggX6_count_X0_longFloatsInAll : GoodIn wsX6_count wsX0_longFloatsInAll := goodIn_r _ [69, 70, 71, 72, 68, 73, 74, 75, 76, 77, 78, 79, 80, 81, 82, 25, 83, 84, 45, 46, 47, 31, 32, 85, 86, 87, 88, 89, 90, 91, 92, 132, 110, 111, 112, 113, 114, 115, 116, 117] (by decide +kernel) (by decide +kernel)
set_option maxRecDepth 20000 in
theorem gX6_count_X0_longFloatsInAll : GoodIn wsX6_count (wsV RX6 198 RX0 yX0_longFloatsInAll wsX0_longFloatsInAll) := goodIn_app (goodIn_of _ (by decide +kernel)) ggX6_count_X0_longFloatsInAll
set_option maxRecDepth 20000 in
theorem ggX6_count_X3_bars : GoodIn wsX6_count wsX3_bars := goodIn_r _ [96, 20, 21, 97, 98, 99, 18, 100, 101, 89, 90, 25, 91, 92, 130, 110, 111, 112, 113, 114, 115, 116, 117] (by decide +kernel) (by decide +kernel)
set_option maxRecDepth 20000 in
theorem gX6_count_X3_bars : GoodIn wsX6_count (wsV RX6 210 RX3 yX3_bars wsX3_bars) := goodIn_app (goodIn_of _ (by decide +kernel)) ggX6_count_X3_bars
set_option maxRecDepth 20000 in
theorem ggX6_count_X2_settingAt : GoodIn wsX6_count wsX2_settingAt := goodIn_r _ [91, 92, 110, 111, 112, 113, 114, 115, 116, 117] (by decide +kernel) (by decide +kernel)
set_option maxRecDepth 20000 in
theorem gX6_count_X2_settingAt : GoodIn wsX6_count (wsV RX6 219 RX2 yX2_settingAt wsX2_settingAt) := goodIn_app (goodIn_of _ (by decide +kernel)) ggX6_count_X2_settingAt
theorem dX6_count_0 : decode cX6_count 0 = .ok (.iload_n 1, 1) := by decide +kernel
theorem dX6_count_1 : decode cX6_count 1 = .ok (.tableswitch 227 0 23 #[111, 119, 127, 135, 143, 151, 159, 183, 191, 199, 207, 227, 227, 227, 227, 227, 227, 227, 227, 227, 215, 215, 215, 215], 111) := by decide +kernel
theorem dX6_count_112 : decode cX6_count 112 = .ok (.aload_n 0, 1) := by decide +kernel
theorem dX6_count_113 : decode cX6_count 113 = .ok (.getfield 10, 3) := by decide +kernel
theorem dX6_count_116 : decode cX6_count 116 = .ok (.getfield 151, 3) := by decide +kernel
theorem dX6_count_119 : decode cX6_count 119 = .ok (.ireturn, 1) := by decide +kernel
theorem dX6_count_120 : decode cX6_count 120 = .ok (.aload_n 0, 1) := by decide +kernel
theorem dX6_count_121 : decode cX6_count 121 = .ok (.getfield 31, 3) := by decide +kernel
theorem dX6_count_124 : decode cX6_count 124 = .ok (.invokevirtual 192, 3) := by decide +kernel
theorem dX6_count_127 : decode cX6_count 127 = .ok (.ireturn, 1) := by decide +kernel
theorem dX6_count_128 : decode cX6_count 128 = .ok (.aload_n 0, 1) := by decide +kernel
theorem dX6_count_129 : decode cX6_count 129 = .ok (.getfield 38, 3) := by decide +kernel
theorem dX6_count_132 : decode cX6_count 132 = .ok (.invokevirtual 176, 3) := by decide +kernel
theorem dX6_count_135 : decode cX6_count 135 = .ok (.ireturn, 1) := by decide +kernel
theorem dX6_count_136 : decode cX6_count 136 = .ok (.aload_n 0, 1) := by decide +kernel
theorem dX6_count_137 : decode cX6_count 137 = .ok (.getfield 31, 3) := by decide +kernel
theorem dX6_count_140 : decode cX6_count 140 = .ok (.invokevirtual 195, 3) := by decide +kernel
theorem dX6_count_143 : decode cX6_count 143 = .ok (.ireturn, 1) := by decide +kernel
theorem dX6_count_144 : decode cX6_count 144 = .ok (.aload_n 0, 1) := by decide +kernel
theorem dX6_count_145 : decode cX6_count 145 = .ok (.getfield 45, 3) := by decide +kernel
theorem dX6_count_148 : decode cX6_count 148 = .ok (.invokevirtual 198, 3) := by decide +kernel
theorem dX6_count_151 : decode cX6_count 151 = .ok (.ireturn, 1) := by decide +kernel
theorem dX6_count_152 : decode cX6_count 152 = .ok (.aload_n 0, 1) := by decide +kernel
theorem dX6_count_153 : decode cX6_count 153 = .ok (.getfield 10, 3) := by decide +kernel
theorem dX6_count_156 : decode cX6_count 156 = .ok (.getfield 201, 3) := by decide +kernel
theorem dX6_count_159 : decode cX6_count 159 = .ok (.ireturn, 1) := by decide +kernel
theorem dX6_count_160 : decode cX6_count 160 = .ok (.aload_n 0, 1) := by decide +kernel
theorem dX6_count_161 : decode cX6_count 161 = .ok (.getfield 10, 3) := by decide +kernel
theorem dX6_count_164 : decode cX6_count 164 = .ok (.getfield 204, 3) := by decide +kernel
theorem dX6_count_167 : decode cX6_count 167 = .ok (.iconst (-1), 1) := by decide +kernel
theorem dX6_count_168 : decode cX6_count 168 = .ok (.if_icmp .ne 8, 3) := by decide +kernel
theorem dX6_count_171 : decode cX6_count 171 = .ok (.ldc 147, 2) := by decide +kernel
theorem dX6_count_173 : decode cX6_count 173 = .ok (.goto 10, 3) := by decide +kernel
theorem dX6_count_176 : decode cX6_count 176 = .ok (.aload_n 0, 1) := by decide +kernel
theorem dX6_count_177 : decode cX6_count 177 = .ok (.getfield 10, 3) := by decide +kernel
theorem dX6_count_180 : decode cX6_count 180 = .ok (.getfield 204, 3) := by decide +kernel
theorem dX6_count_183 : decode cX6_count 183 = .ok (.ireturn, 1) := by decide +kernel
theorem dX6_count_184 : decode cX6_count 184 = .ok (.aload_n 0, 1) := by decide +kernel
theorem dX6_count_185 : decode cX6_count 185 = .ok (.getfield 10, 3) := by decide +kernel
theorem dX6_count_188 : decode cX6_count 188 = .ok (.getfield 207, 3) := by decide +kernel
theorem dX6_count_191 : decode cX6_count 191 = .ok (.ireturn, 1) := by decide +kernel
theorem dX6_count_192 : decode cX6_count 192 = .ok (.aload_n 0, 1) := by decide +kernel
theorem dX6_count_193 : decode cX6_count 193 = .ok (.getfield 31, 3) := by decide +kernel
theorem dX6_count_196 : decode cX6_count 196 = .ok (.invokevirtual 210, 3) := by decide +kernel
theorem dX6_count_199 : decode cX6_count 199 = .ok (.ireturn, 1) := by decide +kernel
theorem dX6_count_200 : decode cX6_count 200 = .ok (.aload_n 0, 1) := by decide +kernel
theorem dX6_count_201 : decode cX6_count 201 = .ok (.getfield 22, 3) := by decide +kernel
theorem dX6_count_204 : decode cX6_count 204 = .ok (.getfield 213, 3) := by decide +kernel
theorem dX6_count_207 : decode cX6_count 207 = .ok (.ireturn, 1) := by decide +kernel
theorem dX6_count_208 : decode cX6_count 208 = .ok (.aload_n 0, 1) := by decide +kernel
theorem dX6_count_209 : decode cX6_count 209 = .ok (.getfield 52, 3) := by decide +kernel
theorem dX6_count_212 : decode cX6_count 212 = .ok (.getfield 216, 3) := by decide +kernel
theorem dX6_count_215 : decode cX6_count 215 = .ok (.ireturn, 1) := by decide +kernel
theorem dX6_count_216 : decode cX6_count 216 = .ok (.aload_n 0, 1) := by decide +kernel
theorem dX6_count_217 : decode cX6_count 217 = .ok (.getfield 10, 3) := by decide +kernel
theorem dX6_count_220 : decode cX6_count 220 = .ok (.iload_n 1, 1) := by decide +kernel
theorem dX6_count_221 : decode cX6_count 221 = .ok (.bipush 20, 2) := by decide +kernel
theorem dX6_count_223 : decode cX6_count 223 = .ok (.isub, 1) := by decide +kernel
theorem dX6_count_224 : decode cX6_count 224 = .ok (.invokevirtual 219, 3) := by decide +kernel
theorem dX6_count_227 : decode cX6_count 227 = .ok (.ireturn, 1) := by decide +kernel
theorem dX6_count_228 : decode cX6_count 228 = .ok (.ldc 93, 2) := by decide +kernel
theorem dX6_count_230 : decode cX6_count 230 = .ok (.ireturn, 1) := by decide +kernel
set_option maxRecDepth 20000 in
theorem ggX6_undo_X1_restoreTo : GoodIn wsX6_undo wsX1_restoreTo := goodIn_r _ [7, 8, 9, 10, 11, 12, 6, 13, 14, 15, 16, 17, 18, 19, 20, 21, 22, 23, 24, 25, 26, 27, 28, 29, 30, 38, 39, 40, 41, 42, 43, 44, 45, 46, 47] (by decide +kernel) (by decide +kernel)
set_option maxRecDepth 20000 in
theorem gX6_undo_X1_restoreTo : GoodIn wsX6_undo (wsV RX6 222 RX1 yX1_restoreTo wsX1_restoreTo) := goodIn_app (goodIn_of _ (by decide +kernel)) ggX6_undo_X1_restoreTo
theorem dX6_undo_0 : decode cX6_undo 0 = .ok (.aload_n 0, 1) := by decide +kernel
theorem dX6_undo_1 : decode cX6_undo 1 = .ok (.getfield 22, 3) := by decide +kernel
theorem dX6_undo_4 : decode cX6_undo 4 = .ok (.aload_n 0, 1) := by decide +kernel
theorem dX6_undo_5 : decode cX6_undo 5 = .ok (.getfield 10, 3) := by decide +kernel
theorem dX6_undo_8 : decode cX6_undo 8 = .ok (.invokevirtual 222, 3) := by decide +kernel
theorem dX6_undo_11 : decode cX6_undo 11 = .ok (.ireturn, 1) := by decide +kernel
set_option maxRecDepth 20000 in
theorem ggX6_type_X4_append : GoodIn wsX6_type wsX4_append := goodIn_r _ [6, 7, 8, 9, 10, 18, 19, 20, 21, 22, 23, 24, 25, 26, 27] (by decide +kernel) (by decide +kernel)
set_option maxRecDepth 20000 in
theorem gX6_type_X4_append : GoodIn wsX6_type (wsV RX6 226 RX4 yX4_append wsX4_append) := goodIn_app (goodIn_of _ (by decide +kernel)) ggX6_type_X4_append
theorem dX6_type_0 : decode cX6_type 0 = .ok (.aload_n 0, 1) := by decide +kernel
theorem dX6_type_1 : decode cX6_type 1 = .ok (.getfield 52, 3) := by decide +kernel
theorem dX6_type_4 : decode cX6_type 4 = .ok (.iload_n 1, 1) := by decide +kernel
theorem dX6_type_5 : decode cX6_type 5 = .ok (.invokevirtual 226, 3) := by decide +kernel
theorem dX6_type_8 : decode cX6_type 8 = .ok (.ireturn, 1) := by decide +kernel
set_option maxRecDepth 20000 in
theorem ggX6_clearText_X4_empty : GoodIn wsX6_clearText wsX4_empty := goodIn_r _ [6, 7, 15, 16, 17, 18, 19, 20, 21, 22, 23, 24] (by decide +kernel) (by decide +kernel)
set_option maxRecDepth 20000 in
theorem gX6_clearText_X4_empty : GoodIn wsX6_clearText (wsV RX6 229 RX4 yX4_empty wsX4_empty) := goodIn_app (goodIn_of _ (by decide +kernel)) ggX6_clearText_X4_empty
theorem dX6_clearText_0 : decode cX6_clearText 0 = .ok (.aload_n 0, 1) := by decide +kernel
theorem dX6_clearText_1 : decode cX6_clearText 1 = .ok (.getfield 52, 3) := by decide +kernel
theorem dX6_clearText_4 : decode cX6_clearText 4 = .ok (.invokevirtual 229, 3) := by decide +kernel
theorem dX6_clearText_7 : decode cX6_clearText 7 = .ok (.ireturn, 1) := by decide +kernel
set_option maxRecDepth 20000 in
theorem ggX6_fault_X2_copyFrom : GoodIn wsX6_fault wsX2_copyFrom := goodIn_r _ [13, 14, 15, 16, 17, 18, 19, 20, 21, 22, 23, 12, 24, 171, 172, 173, 174, 175, 176, 177, 178] (by decide +kernel) (by decide +kernel)
set_option maxRecDepth 20000 in
theorem gX6_fault_X2_copyFrom : GoodIn wsX6_fault (wsV RX6 56 RX2 yX2_copyFrom wsX2_copyFrom) := goodIn_app (goodIn_of _ (by decide +kernel)) ggX6_fault_X2_copyFrom
set_option maxRecDepth 20000 in
theorem ggX6_fault_X4_runsOn : GoodIn wsX6_fault wsX4_runsOn := goodIn_r _ [29, 30, 31, 32, 33, 34, 35, 36, 37, 38, 28, 39, 40, 41, 42, 43, 44, 45, 46, 47, 48, 49, 50, 51, 52, 53, 54, 55, 56, 57, 58, 59, 60, 61, 62, 63, 64, 65, 66, 67, 68, 69, 70, 71, 72, 73, 74, 75, 76, 77, 78, 12, 79, 80, 81, 82, 83, 84, 85, 20, 21, 86, 87, 88, 89, 18, 90, 91, 92, 93, 94, 95, 96, 97, 98, 99, 100, 101, 102, 103, 104, 17, 105, 106, 107, 108, 14, 109, 110, 111, 112, 16, 113, 114, 115, 116, 117, 118, 119, 120, 121, 122, 123, 124, 19, 125, 126, 127, 128, 129, 130, 131, 132, 15, 133, 134, 135, 136, 137, 138, 139, 140, 141, 142, 143, 144, 145, 146, 147, 148, 149, 150, 151, 152, 153, 161, 162, 163, 164, 165, 166, 167, 168, 169, 170, 171, 172, 173, 174, 175, 176, 177, 178] (by decide +kernel) (by decide +kernel)
set_option maxRecDepth 20000 in
theorem gX6_fault_X4_runsOn : GoodIn wsX6_fault (wsV RX6 232 RX4 yX4_runsOn wsX4_runsOn) := goodIn_app (goodIn_of _ (by decide +kernel)) ggX6_fault_X4_runsOn
theorem dX6_fault_0 : decode cX6_fault 0 = .ok (.iload_n 1, 1) := by decide +kernel
theorem dX6_fault_1 : decode cX6_fault 1 = .ok (.ifCond .lt 8, 3) := by decide +kernel
theorem dX6_fault_4 : decode cX6_fault 4 = .ok (.iload_n 1, 1) := by decide +kernel
theorem dX6_fault_5 : decode cX6_fault 5 = .ok (.iconst 2, 1) := by decide +kernel
theorem dX6_fault_6 : decode cX6_fault 6 = .ok (.if_icmp .le 6, 3) := by decide +kernel
theorem dX6_fault_9 : decode cX6_fault 9 = .ok (.ldc 93, 2) := by decide +kernel
theorem dX6_fault_11 : decode cX6_fault 11 = .ok (.ireturn, 1) := by decide +kernel
theorem dX6_fault_12 : decode cX6_fault 12 = .ok (.aload_n 0, 1) := by decide +kernel
theorem dX6_fault_13 : decode cX6_fault 13 = .ok (.getfield 16, 3) := by decide +kernel
theorem dX6_fault_16 : decode cX6_fault 16 = .ok (.aload_n 0, 1) := by decide +kernel
theorem dX6_fault_17 : decode cX6_fault 17 = .ok (.getfield 10, 3) := by decide +kernel
theorem dX6_fault_20 : decode cX6_fault 20 = .ok (.invokevirtual 56, 3) := by decide +kernel
theorem dX6_fault_23 : decode cX6_fault 23 = .ok (.aload_n 0, 1) := by decide +kernel
theorem dX6_fault_24 : decode cX6_fault 24 = .ok (.getfield 52, 3) := by decide +kernel
theorem dX6_fault_27 : decode cX6_fault 27 = .ok (.aload_n 0, 1) := by decide +kernel
theorem dX6_fault_28 : decode cX6_fault 28 = .ok (.getfield 16, 3) := by decide +kernel
theorem dX6_fault_31 : decode cX6_fault 31 = .ok (.invokevirtual 232, 3) := by decide +kernel
theorem dX6_fault_34 : decode cX6_fault 34 = .ok (.ifCond .eq 6, 3) := by decide +kernel
theorem dX6_fault_37 : decode cX6_fault 37 = .ok (.ldc 147, 2) := by decide +kernel
theorem dX6_fault_39 : decode cX6_fault 39 = .ok (.ireturn, 1) := by decide +kernel
theorem dX6_fault_40 : decode cX6_fault 40 = .ok (.iload_n 1, 1) := by decide +kernel
theorem dX6_fault_41 : decode cX6_fault 41 = .ok (.ifCond .ne 13, 3) := by decide +kernel
theorem dX6_fault_44 : decode cX6_fault 44 = .ok (.aload_n 0, 1) := by decide +kernel
theorem dX6_fault_45 : decode cX6_fault 45 = .ok (.getfield 52, 3) := by decide +kernel
theorem dX6_fault_48 : decode cX6_fault 48 = .ok (.getfield 236, 3) := by decide +kernel
theorem dX6_fault_51 : decode cX6_fault 51 = .ok (.goto 25, 3) := by decide +kernel
theorem dX6_fault_54 : decode cX6_fault 54 = .ok (.iload_n 1, 1) := by decide +kernel
theorem dX6_fault_55 : decode cX6_fault 55 = .ok (.iconst 1, 1) := by decide +kernel
theorem dX6_fault_56 : decode cX6_fault 56 = .ok (.if_icmp .ne 13, 3) := by decide +kernel
theorem dX6_fault_59 : decode cX6_fault 59 = .ok (.aload_n 0, 1) := by decide +kernel
theorem dX6_fault_60 : decode cX6_fault 60 = .ok (.getfield 52, 3) := by decide +kernel
theorem dX6_fault_63 : decode cX6_fault 63 = .ok (.getfield 239, 3) := by decide +kernel
theorem dX6_fault_66 : decode cX6_fault 66 = .ok (.goto 10, 3) := by decide +kernel
theorem dX6_fault_69 : decode cX6_fault 69 = .ok (.aload_n 0, 1) := by decide +kernel
theorem dX6_fault_70 : decode cX6_fault 70 = .ok (.getfield 52, 3) := by decide +kernel
theorem dX6_fault_73 : decode cX6_fault 73 = .ok (.getfield 242, 3) := by decide +kernel
theorem dX6_fault_76 : decode cX6_fault 76 = .ok (.ireturn, 1) := by decide +kernel
set_option maxRecDepth 20000 in
theorem ggX6_play_X2_copyFrom : GoodIn wsX6_play wsX2_copyFrom := goodIn_r _ [10, 11, 12, 13, 14, 15, 16, 17, 18, 19, 20, 9, 21, 190, 191, 192, 193, 194, 195, 196, 197] (by decide +kernel) (by decide +kernel)
set_option maxRecDepth 20000 in
theorem gX6_play_X2_copyFrom : GoodIn wsX6_play (wsV RX6 56 RX2 yX2_copyFrom wsX2_copyFrom) := goodIn_app (goodIn_of _ (by decide +kernel)) ggX6_play_X2_copyFrom
set_option maxRecDepth 20000 in
theorem ggX6_play_X4_runsOn : GoodIn wsX6_play wsX4_runsOn := goodIn_r _ [26, 27, 28, 29, 30, 31, 32, 33, 34, 35, 25, 36, 37, 38, 39, 40, 41, 42, 43, 44, 45, 46, 47, 48, 49, 50, 51, 52, 53, 54, 55, 56, 57, 58, 59, 60, 61, 62, 63, 64, 65, 66, 67, 68, 69, 70, 71, 72, 73, 74, 75, 9, 76, 77, 78, 79, 80, 81, 82, 17, 18, 83, 84, 85, 86, 15, 87, 88, 89, 90, 91, 92, 93, 94, 95, 96, 97, 98, 99, 100, 101, 14, 102, 103, 104, 105, 11, 106, 107, 108, 109, 13, 110, 111, 112, 113, 114, 115, 116, 117, 118, 119, 120, 121, 16, 122, 123, 124, 125, 126, 127, 128, 129, 12, 130, 131, 132, 133, 134, 135, 136, 137, 138, 139, 140, 141, 142, 143, 144, 145, 146, 147, 148, 149, 150, 180, 181, 182, 183, 184, 185, 186, 187, 188, 189, 190, 191, 192, 193, 194, 195, 196, 197] (by decide +kernel) (by decide +kernel)
set_option maxRecDepth 20000 in
theorem gX6_play_X4_runsOn : GoodIn wsX6_play (wsV RX6 232 RX4 yX4_runsOn wsX4_runsOn) := goodIn_app (goodIn_of _ (by decide +kernel)) ggX6_play_X4_runsOn
set_option maxRecDepth 20000 in
theorem ggX6_play_X6_settle : GoodIn wsX6_play wsX6_settle := goodIn_r _ [155, 156, 2, 1, 157, 158, 159, 160, 161, 162, 163, 164, 165, 166, 167, 168, 169, 170, 171, 172, 7, 8, 9, 10, 11, 12, 13, 14, 15, 16, 17, 18, 19, 20, 21, 6, 173, 174, 175, 176, 177, 178, 179, 198, 199, 190, 191, 192, 193, 194, 195, 196, 197] (by decide +kernel) (by decide +kernel)
set_option maxRecDepth 20000 in
theorem gX6_play_X6_settle : GoodIn wsX6_play (wsV RX6 63 RX6 yX6_settle wsX6_settle) := goodIn_app (goodIn_of _ (by decide +kernel)) ggX6_play_X6_settle
theorem dX6_play_0 : decode cX6_play 0 = .ok (.aload_n 0, 1) := by decide +kernel
theorem dX6_play_1 : decode cX6_play 1 = .ok (.getfield 16, 3) := by decide +kernel
theorem dX6_play_4 : decode cX6_play 4 = .ok (.aload_n 0, 1) := by decide +kernel
theorem dX6_play_5 : decode cX6_play 5 = .ok (.getfield 10, 3) := by decide +kernel
theorem dX6_play_8 : decode cX6_play 8 = .ok (.invokevirtual 56, 3) := by decide +kernel
theorem dX6_play_11 : decode cX6_play 11 = .ok (.aload_n 0, 1) := by decide +kernel
theorem dX6_play_12 : decode cX6_play 12 = .ok (.aload_n 0, 1) := by decide +kernel
theorem dX6_play_13 : decode cX6_play 13 = .ok (.getfield 52, 3) := by decide +kernel
theorem dX6_play_16 : decode cX6_play 16 = .ok (.aload_n 0, 1) := by decide +kernel
theorem dX6_play_17 : decode cX6_play 17 = .ok (.getfield 16, 3) := by decide +kernel
theorem dX6_play_20 : decode cX6_play 20 = .ok (.invokevirtual 232, 3) := by decide +kernel
theorem dX6_play_23 : decode cX6_play 23 = .ok (.ifCond .eq 13, 3) := by decide +kernel
theorem dX6_play_26 : decode cX6_play 26 = .ok (.aload_n 0, 1) := by decide +kernel
theorem dX6_play_27 : decode cX6_play 27 = .ok (.getfield 52, 3) := by decide +kernel
theorem dX6_play_30 : decode cX6_play 30 = .ok (.getfield 245, 3) := by decide +kernel
theorem dX6_play_33 : decode cX6_play 33 = .ok (.goto 5, 3) := by decide +kernel
theorem dX6_play_36 : decode cX6_play 36 = .ok (.ldc 248, 2) := by decide +kernel
theorem dX6_play_38 : decode cX6_play 38 = .ok (.invokevirtual 63, 3) := by decide +kernel
theorem dX6_play_41 : decode cX6_play 41 = .ok (.ireturn, 1) := by decide +kernel
set_option maxRecDepth 20000 in
theorem ggX6_settle_X1_keep : GoodIn wsX6_settle wsX1_keep := goodIn_r _ [8, 9, 10, 11, 12, 13, 7, 14, 15, 16, 17, 18, 19, 20, 21, 22, 23, 24, 25, 26, 27, 28, 29, 30, 31, 32, 33, 34, 43, 44, 45, 46, 47, 48, 49, 50, 51, 52] (by decide +kernel) (by decide +kernel)
set_option maxRecDepth 20000 in
theorem gX6_settle_X1_keep : GoodIn wsX6_settle (wsV RX6 249 RX1 yX1_keep wsX1_keep) := goodIn_app (goodIn_of _ (by decide +kernel)) ggX6_settle_X1_keep
set_option maxRecDepth 20000 in
theorem ggX6_settle_X2_copyFrom : GoodIn wsX6_settle wsX2_copyFrom := goodIn_r _ [23, 24, 25, 26, 27, 28, 29, 30, 31, 32, 33, 22, 34, 45, 46, 47, 48, 49, 50, 51, 52] (by decide +kernel) (by decide +kernel)
set_option maxRecDepth 20000 in
theorem gX6_settle_X2_copyFrom : GoodIn wsX6_settle (wsV RX6 56 RX2 yX2_copyFrom wsX2_copyFrom) := goodIn_app (goodIn_of _ (by decide +kernel)) ggX6_settle_X2_copyFrom
theorem dX6_settle_0 : decode cX6_settle 0 = .ok (.iload_n 1, 1) := by decide +kernel
theorem dX6_settle_1 : decode cX6_settle 1 = .ok (.ifCond .lt 25, 3) := by decide +kernel
theorem dX6_settle_4 : decode cX6_settle 4 = .ok (.aload_n 0, 1) := by decide +kernel
theorem dX6_settle_5 : decode cX6_settle 5 = .ok (.getfield 22, 3) := by decide +kernel
theorem dX6_settle_8 : decode cX6_settle 8 = .ok (.aload_n 0, 1) := by decide +kernel
theorem dX6_settle_9 : decode cX6_settle 9 = .ok (.getfield 10, 3) := by decide +kernel
theorem dX6_settle_12 : decode cX6_settle 12 = .ok (.invokevirtual 249, 3) := by decide +kernel
theorem dX6_settle_15 : decode cX6_settle 15 = .ok (.aload_n 0, 1) := by decide +kernel
theorem dX6_settle_16 : decode cX6_settle 16 = .ok (.getfield 10, 3) := by decide +kernel
theorem dX6_settle_19 : decode cX6_settle 19 = .ok (.aload_n 0, 1) := by decide +kernel
theorem dX6_settle_20 : decode cX6_settle 20 = .ok (.getfield 16, 3) := by decide +kernel
theorem dX6_settle_23 : decode cX6_settle 23 = .ok (.invokevirtual 56, 3) := by decide +kernel
theorem dX6_settle_26 : decode cX6_settle 26 = .ok (.iload_n 1, 1) := by decide +kernel
theorem dX6_settle_27 : decode cX6_settle 27 = .ok (.ireturn, 1) := by decide +kernel
theorem dX6_bitsOf_0 : decode cX6_bitsOf 0 = .ok (.fload_n 0, 1) := by decide +kernel
theorem dX6_bitsOf_1 : decode cX6_bitsOf 1 = .ok (.fstore_n 1, 1) := by decide +kernel
theorem dX6_bitsOf_2 : decode cX6_bitsOf 2 = .ok (.bipush 127, 2) := by decide +kernel
theorem dX6_bitsOf_4 : decode cX6_bitsOf 4 = .ok (.istore_n 2, 1) := by decide +kernel
theorem dX6_bitsOf_5 : decode cX6_bitsOf 5 = .ok (.fload_n 1, 1) := by decide +kernel
theorem dX6_bitsOf_6 : decode cX6_bitsOf 6 = .ok (.fconst 2, 1) := by decide +kernel
theorem dX6_bitsOf_7 : decode cX6_bitsOf 7 = .ok (.fcmp .l, 1) := by decide +kernel
theorem dX6_bitsOf_8 : decode cX6_bitsOf 8 = .ok (.ifCond .lt 20, 3) := by decide +kernel
theorem dX6_bitsOf_11 : decode cX6_bitsOf 11 = .ok (.iload_n 2, 1) := by decide +kernel
theorem dX6_bitsOf_12 : decode cX6_bitsOf 12 = .ok (.sipush 254, 3) := by decide +kernel
theorem dX6_bitsOf_15 : decode cX6_bitsOf 15 = .ok (.if_icmp .ge 13, 3) := by decide +kernel
theorem dX6_bitsOf_18 : decode cX6_bitsOf 18 = .ok (.fload_n 1, 1) := by decide +kernel
theorem dX6_bitsOf_19 : decode cX6_bitsOf 19 = .ok (.fconst 2, 1) := by decide +kernel
theorem dX6_bitsOf_20 : decode cX6_bitsOf 20 = .ok (.fdiv, 1) := by decide +kernel
theorem dX6_bitsOf_21 : decode cX6_bitsOf 21 = .ok (.fstore_n 1, 1) := by decide +kernel
theorem dX6_bitsOf_22 : decode cX6_bitsOf 22 = .ok (.iinc 2 1, 3) := by decide +kernel
theorem dX6_bitsOf_25 : decode cX6_bitsOf 25 = .ok (.goto (-20), 3) := by decide +kernel
theorem dX6_bitsOf_28 : decode cX6_bitsOf 28 = .ok (.iload_n 2, 1) := by decide +kernel
theorem dX6_bitsOf_29 : decode cX6_bitsOf 29 = .ok (.bipush 23, 2) := by decide +kernel
theorem dX6_bitsOf_31 : decode cX6_bitsOf 31 = .ok (.ishl, 1) := by decide +kernel
theorem dX6_bitsOf_32 : decode cX6_bitsOf 32 = .ok (.fload_n 1, 1) := by decide +kernel
theorem dX6_bitsOf_33 : decode cX6_bitsOf 33 = .ok (.fconst 1, 1) := by decide +kernel
theorem dX6_bitsOf_34 : decode cX6_bitsOf 34 = .ok (.fsub, 1) := by decide +kernel
theorem dX6_bitsOf_35 : decode cX6_bitsOf 35 = .ok (.ldc 255, 2) := by decide +kernel
theorem dX6_bitsOf_37 : decode cX6_bitsOf 37 = .ok (.fmul, 1) := by decide +kernel
theorem dX6_bitsOf_38 : decode cX6_bitsOf 38 = .ok (.f2i, 1) := by decide +kernel
theorem dX6_bitsOf_39 : decode cX6_bitsOf 39 = .ok (.iadd, 1) := by decide +kernel
theorem dX6_bitsOf_40 : decode cX6_bitsOf 40 = .ok (.ireturn, 1) := by decide +kernel
