theorem dX3_noteSet_4 : decode cX3_noteSet 4 = .ok (.iload_n 3, 1) := by decide +kernel
theorem dX3_noteSet_5 : decode cX3_noteSet 5 = .ok (.bipush 8, 2) := by decide +kernel
theorem dX3_noteSet_7 : decode cX3_noteSet 7 = .ok (.if_icmp .ge 37, 3) := by decide +kernel
theorem dX3_noteSet_10 : decode cX3_noteSet 10 = .ok (.aload_n 0, 1) := by decide +kernel
theorem dX3_noteSet_11 : decode cX3_noteSet 11 = .ok (.getfield 9, 3) := by decide +kernel
theorem dX3_noteSet_14 : decode cX3_noteSet 14 = .ok (.iload_n 1, 1) := by decide +kernel
theorem dX3_noteSet_15 : decode cX3_noteSet 15 = .ok (.iload_n 3, 1) := by decide +kernel
theorem dX3_noteSet_16 : decode cX3_noteSet 16 = .ok (.invokevirtual 28, 3) := by decide +kernel
theorem dX3_noteSet_19 : decode cX3_noteSet 19 = .ok (.ifCond .eq 19, 3) := by decide +kernel
theorem dX3_noteSet_22 : decode cX3_noteSet 22 = .ok (.iload_n 2, 1) := by decide +kernel
theorem dX3_noteSet_23 : decode cX3_noteSet 23 = .ok (.iconst 1, 1) := by decide +kernel
theorem dX3_noteSet_24 : decode cX3_noteSet 24 = .ok (.aload_n 0, 1) := by decide +kernel
theorem dX3_noteSet_25 : decode cX3_noteSet 25 = .ok (.getfield 9, 3) := by decide +kernel
theorem dX3_noteSet_28 : decode cX3_noteSet 28 = .ok (.iload_n 3, 1) := by decide +kernel
theorem dX3_noteSet_29 : decode cX3_noteSet 29 = .ok (.invokevirtual 32, 3) := by decide +kernel
theorem dX3_noteSet_32 : decode cX3_noteSet 32 = .ok (.bipush 12, 2) := by decide +kernel
theorem dX3_noteSet_34 : decode cX3_noteSet 34 = .ok (.irem, 1) := by decide +kernel
theorem dX3_noteSet_35 : decode cX3_noteSet 35 = .ok (.ishl, 1) := by decide +kernel
theorem dX3_noteSet_36 : decode cX3_noteSet 36 = .ok (.ior, 1) := by decide +kernel
theorem dX3_noteSet_37 : decode cX3_noteSet 37 = .ok (.istore_n 2, 1) := by decide +kernel
theorem dX3_noteSet_38 : decode cX3_noteSet 38 = .ok (.iinc 3 1, 3) := by decide +kernel
theorem dX3_noteSet_41 : decode cX3_noteSet 41 = .ok (.goto (-37), 3) := by decide +kernel
theorem dX3_noteSet_44 : decode cX3_noteSet 44 = .ok (.iload_n 2, 1) := by decide +kernel
theorem dX3_noteSet_45 : decode cX3_noteSet 45 = .ok (.ireturn, 1) := by decide +kernel
set_option maxRecDepth 20000 in
theorem ggX3_highest_X2_soundsAt : GoodIn wsX3_highest wsX2_soundsAt := goodIn_r _ [11, 12, 13, 14, 10, 15, 16, 17, 18, 19, 20, 27, 28, 29, 30, 31, 32, 33, 34] (by decide +kernel) (by decide +kernel)
set_option maxRecDepth 20000 in
theorem gX3_highest_X2_soundsAt : GoodIn wsX3_highest (wsV RX3 28 RX2 yX2_soundsAt wsX2_soundsAt) := goodIn_app (goodIn_of _ (by decide +kernel)) ggX3_highest_X2_soundsAt
set_option maxRecDepth 20000 in
theorem ggX3_highest_X2_noteAt : GoodIn wsX3_highest wsX2_noteAt := goodIn_r _ [24, 25, 27, 28, 29, 30, 31, 32, 33, 34] (by decide +kernel) (by decide +kernel)
set_option maxRecDepth 20000 in
theorem gX3_highest_X2_noteAt : GoodIn wsX3_highest (wsV RX3 32 RX2 yX2_noteAt wsX2_noteAt) := goodIn_app (goodIn_of _ (by decide +kernel)) ggX3_highest_X2_noteAt
theorem dX3_highest_0 : decode cX3_highest 0 = .ok (.ldc 35, 2) := by decide +kernel
theorem dX3_highest_2 : decode cX3_highest 2 = .ok (.istore_n 2, 1) := by decide +kernel
theorem dX3_highest_3 : decode cX3_highest 3 = .ok (.iconst 0, 1) := by decide +kernel
theorem dX3_highest_4 : decode cX3_highest 4 = .ok (.istore_n 3, 1) := by decide +kernel
theorem dX3_highest_5 : decode cX3_highest 5 = .ok (.iload_n 3, 1) := by decide +kernel
theorem dX3_highest_6 : decode cX3_highest 6 = .ok (.bipush 8, 2) := by decide +kernel
theorem dX3_highest_8 : decode cX3_highest 8 = .ok (.if_icmp .ge 34, 3) := by decide +kernel
theorem dX3_highest_11 : decode cX3_highest 11 = .ok (.aload_n 0, 1) := by decide +kernel
theorem dX3_highest_12 : decode cX3_highest 12 = .ok (.getfield 9, 3) := by decide +kernel
theorem dX3_highest_15 : decode cX3_highest 15 = .ok (.iload_n 1, 1) := by decide +kernel
theorem dX3_highest_16 : decode cX3_highest 16 = .ok (.iload_n 3, 1) := by decide +kernel
theorem dX3_highest_17 : decode cX3_highest 17 = .ok (.invokevirtual 28, 3) := by decide +kernel
theorem dX3_highest_20 : decode cX3_highest 20 = .ok (.ifCond .eq 16, 3) := by decide +kernel
theorem dX3_highest_23 : decode cX3_highest 23 = .ok (.iload_n 2, 1) := by decide +kernel
theorem dX3_highest_24 : decode cX3_highest 24 = .ok (.aload_n 0, 1) := by decide +kernel
theorem dX3_highest_25 : decode cX3_highest 25 = .ok (.getfield 9, 3) := by decide +kernel
theorem dX3_highest_28 : decode cX3_highest 28 = .ok (.iload_n 3, 1) := by decide +kernel
theorem dX3_highest_29 : decode cX3_highest 29 = .ok (.invokevirtual 32, 3) := by decide +kernel
theorem dX3_highest_32 : decode cX3_highest 32 = .ok (.invokestatic 36, 3) := by decide +kernel
theorem dX3_highest_35 : decode cX3_highest 35 = .ok (.istore_n 2, 1) := by decide +kernel
theorem dX3_highest_36 : decode cX3_highest 36 = .ok (.iinc 3 1, 3) := by decide +kernel
theorem dX3_highest_39 : decode cX3_highest 39 = .ok (.goto (-34), 3) := by decide +kernel
theorem dX3_highest_42 : decode cX3_highest 42 = .ok (.iload_n 2, 1) := by decide +kernel
theorem dX3_highest_43 : decode cX3_highest 43 = .ok (.ireturn, 1) := by decide +kernel
set_option maxRecDepth 20000 in
theorem ggX3_lowest_X2_soundsAt : GoodIn wsX3_lowest wsX2_soundsAt := goodIn_r _ [11, 12, 13, 14, 10, 15, 16, 17, 18, 19, 20, 27, 28, 29, 30, 31, 32, 33, 34] (by decide +kernel) (by decide +kernel)
set_option maxRecDepth 20000 in
theorem gX3_lowest_X2_soundsAt : GoodIn wsX3_lowest (wsV RX3 28 RX2 yX2_soundsAt wsX2_soundsAt) := goodIn_app (goodIn_of _ (by decide +kernel)) ggX3_lowest_X2_soundsAt
set_option maxRecDepth 20000 in
theorem ggX3_lowest_X2_noteAt : GoodIn wsX3_lowest wsX2_noteAt := goodIn_r _ [24, 25, 27, 28, 29, 30, 31, 32, 33, 34] (by decide +kernel) (by decide +kernel)
set_option maxRecDepth 20000 in
theorem gX3_lowest_X2_noteAt : GoodIn wsX3_lowest (wsV RX3 32 RX2 yX2_noteAt wsX2_noteAt) := goodIn_app (goodIn_of _ (by decide +kernel)) ggX3_lowest_X2_noteAt
theorem dX3_lowest_0 : decode cX3_lowest 0 = .ok (.bipush 48, 2) := by decide +kernel
theorem dX3_lowest_2 : decode cX3_lowest 2 = .ok (.istore_n 2, 1) := by decide +kernel
theorem dX3_lowest_3 : decode cX3_lowest 3 = .ok (.iconst 0, 1) := by decide +kernel
theorem dX3_lowest_4 : decode cX3_lowest 4 = .ok (.istore_n 3, 1) := by decide +kernel
theorem dX3_lowest_5 : decode cX3_lowest 5 = .ok (.iload_n 3, 1) := by decide +kernel
theorem dX3_lowest_6 : decode cX3_lowest 6 = .ok (.bipush 8, 2) := by decide +kernel
theorem dX3_lowest_8 : decode cX3_lowest 8 = .ok (.if_icmp .ge 34, 3) := by decide +kernel
theorem dX3_lowest_11 : decode cX3_lowest 11 = .ok (.aload_n 0, 1) := by decide +kernel
theorem dX3_lowest_12 : decode cX3_lowest 12 = .ok (.getfield 9, 3) := by decide +kernel
theorem dX3_lowest_15 : decode cX3_lowest 15 = .ok (.iload_n 1, 1) := by decide +kernel
theorem dX3_lowest_16 : decode cX3_lowest 16 = .ok (.iload_n 3, 1) := by decide +kernel
theorem dX3_lowest_17 : decode cX3_lowest 17 = .ok (.invokevirtual 28, 3) := by decide +kernel
theorem dX3_lowest_20 : decode cX3_lowest 20 = .ok (.ifCond .eq 16, 3) := by decide +kernel
theorem dX3_lowest_23 : decode cX3_lowest 23 = .ok (.iload_n 2, 1) := by decide +kernel
theorem dX3_lowest_24 : decode cX3_lowest 24 = .ok (.aload_n 0, 1) := by decide +kernel
theorem dX3_lowest_25 : decode cX3_lowest 25 = .ok (.getfield 9, 3) := by decide +kernel
theorem dX3_lowest_28 : decode cX3_lowest 28 = .ok (.iload_n 3, 1) := by decide +kernel
theorem dX3_lowest_29 : decode cX3_lowest 29 = .ok (.invokevirtual 32, 3) := by decide +kernel
theorem dX3_lowest_32 : decode cX3_lowest 32 = .ok (.invokestatic 42, 3) := by decide +kernel
theorem dX3_lowest_35 : decode cX3_lowest 35 = .ok (.istore_n 2, 1) := by decide +kernel
theorem dX3_lowest_36 : decode cX3_lowest 36 = .ok (.iinc 3 1, 3) := by decide +kernel
theorem dX3_lowest_39 : decode cX3_lowest 39 = .ok (.goto (-34), 3) := by decide +kernel
theorem dX3_lowest_42 : decode cX3_lowest 42 = .ok (.iload_n 2, 1) := by decide +kernel
theorem dX3_lowest_43 : decode cX3_lowest 43 = .ok (.bipush 48, 2) := by decide +kernel
theorem dX3_lowest_45 : decode cX3_lowest 45 = .ok (.if_icmp .ne 8, 3) := by decide +kernel
theorem dX3_lowest_48 : decode cX3_lowest 48 = .ok (.ldc 35, 2) := by decide +kernel
theorem dX3_lowest_50 : decode cX3_lowest 50 = .ok (.goto 4, 3) := by decide +kernel
theorem dX3_lowest_53 : decode cX3_lowest 53 = .ok (.iload_n 2, 1) := by decide +kernel
theorem dX3_lowest_54 : decode cX3_lowest 54 = .ok (.ireturn, 1) := by decide +kernel
set_option maxRecDepth 20000 in
theorem ggX3_aboveByColours_X3_aboveWith : GoodIn wsX3_aboveByColours wsX3_aboveWith := goodIn_r _ [5, 6, 7, 8, 9, 10, 11, 12, 13, 14, 15, 16, 17, 18, 19, 20, 21, 22, 23, 24, 25, 26, 27, 28, 29, 30, 31, 32, 33, 34] (by decide +kernel) (by decide +kernel)
set_option maxRecDepth 20000 in
theorem gX3_aboveByColours_X3_aboveWith : GoodIn wsX3_aboveByColours (wsV RX3 45 RX3 yX3_aboveWith wsX3_aboveWith) := goodIn_app (goodIn_of _ (by decide +kernel)) ggX3_aboveByColours_X3_aboveWith
theorem dX3_aboveByColours_0 : decode cX3_aboveByColours 0 = .ok (.iconst 0, 1) := by decide +kernel
theorem dX3_aboveByColours_1 : decode cX3_aboveByColours 1 = .ok (.istore_n 2, 1) := by decide +kernel
theorem dX3_aboveByColours_2 : decode cX3_aboveByColours 2 = .ok (.sipush 1000, 3) := by decide +kernel
theorem dX3_aboveByColours_5 : decode cX3_aboveByColours 5 = .ok (.istore_n 3, 1) := by decide +kernel
theorem dX3_aboveByColours_6 : decode cX3_aboveByColours 6 = .ok (.iconst 0, 1) := by decide +kernel
theorem dX3_aboveByColours_7 : decode cX3_aboveByColours 7 = .ok (.istore 4, 2) := by decide +kernel
theorem dX3_aboveByColours_9 : decode cX3_aboveByColours 9 = .ok (.iload 4, 2) := by decide +kernel
theorem dX3_aboveByColours_11 : decode cX3_aboveByColours 11 = .ok (.iconst 4, 1) := by decide +kernel
theorem dX3_aboveByColours_12 : decode cX3_aboveByColours 12 = .ok (.if_icmp .ge 26, 3) := by decide +kernel
theorem dX3_aboveByColours_15 : decode cX3_aboveByColours 15 = .ok (.iload_n 2, 1) := by decide +kernel
theorem dX3_aboveByColours_16 : decode cX3_aboveByColours 16 = .ok (.iload_n 3, 1) := by decide +kernel
theorem dX3_aboveByColours_17 : decode cX3_aboveByColours 17 = .ok (.aload_n 0, 1) := by decide +kernel
theorem dX3_aboveByColours_18 : decode cX3_aboveByColours 18 = .ok (.iload_n 1, 1) := by decide +kernel
theorem dX3_aboveByColours_19 : decode cX3_aboveByColours 19 = .ok (.iload 4, 2) := by decide +kernel
theorem dX3_aboveByColours_21 : decode cX3_aboveByColours 21 = .ok (.invokevirtual 45, 3) := by decide +kernel
theorem dX3_aboveByColours_24 : decode cX3_aboveByColours 24 = .ok (.imul, 1) := by decide +kernel
theorem dX3_aboveByColours_25 : decode cX3_aboveByColours 25 = .ok (.iadd, 1) := by decide +kernel
theorem dX3_aboveByColours_26 : decode cX3_aboveByColours 26 = .ok (.istore_n 2, 1) := by decide +kernel
theorem dX3_aboveByColours_27 : decode cX3_aboveByColours 27 = .ok (.iload_n 3, 1) := by decide +kernel
theorem dX3_aboveByColours_28 : decode cX3_aboveByColours 28 = .ok (.bipush 10, 2) := by decide +kernel
theorem dX3_aboveByColours_30 : decode cX3_aboveByColours 30 = .ok (.idiv, 1) := by decide +kernel
theorem dX3_aboveByColours_31 : decode cX3_aboveByColours 31 = .ok (.istore_n 3, 1) := by decide +kernel
theorem dX3_aboveByColours_32 : decode cX3_aboveByColours 32 = .ok (.iinc 4 1, 3) := by decide +kernel
theorem dX3_aboveByColours_35 : decode cX3_aboveByColours 35 = .ok (.goto (-26), 3) := by decide +kernel
theorem dX3_aboveByColours_38 : decode cX3_aboveByColours 38 = .ok (.iload_n 2, 1) := by decide +kernel
theorem dX3_aboveByColours_39 : decode cX3_aboveByColours 39 = .ok (.ireturn, 1) := by decide +kernel
set_option maxRecDepth 20000 in
theorem ggX3_aboveWith_X2_soundsAt : GoodIn wsX3_aboveWith wsX2_soundsAt := goodIn_r _ [6, 7, 8, 9, 5, 10, 11, 12, 13, 14, 15, 22, 23, 24, 25, 26, 27, 28, 29] (by decide +kernel) (by decide +kernel)
set_option maxRecDepth 20000 in
theorem gX3_aboveWith_X2_soundsAt : GoodIn wsX3_aboveWith (wsV RX3 28 RX2 yX2_soundsAt wsX2_soundsAt) := goodIn_app (goodIn_of _ (by decide +kernel)) ggX3_aboveWith_X2_soundsAt
set_option maxRecDepth 20000 in
theorem ggX3_aboveWith_X2_colourAt : GoodIn wsX3_aboveWith wsX2_colourAt := goodIn_r _ [19, 20, 22, 23, 24, 25, 26, 27, 28, 29] (by decide +kernel) (by decide +kernel)
set_option maxRecDepth 20000 in
theorem gX3_aboveWith_X2_colourAt : GoodIn wsX3_aboveWith (wsV RX3 48 RX2 yX2_colourAt wsX2_colourAt) := goodIn_app (goodIn_of _ (by decide +kernel)) ggX3_aboveWith_X2_colourAt
theorem dX3_aboveWith_0 : decode cX3_aboveWith 0 = .ok (.iconst 0, 1) := by decide +kernel
theorem dX3_aboveWith_1 : decode cX3_aboveWith 1 = .ok (.istore_n 3, 1) := by decide +kernel
theorem dX3_aboveWith_2 : decode cX3_aboveWith 2 = .ok (.iconst 0, 1) := by decide +kernel
theorem dX3_aboveWith_3 : decode cX3_aboveWith 3 = .ok (.istore 4, 2) := by decide +kernel
theorem dX3_aboveWith_5 : decode cX3_aboveWith 5 = .ok (.iload 4, 2) := by decide +kernel
theorem dX3_aboveWith_7 : decode cX3_aboveWith 7 = .ok (.bipush 8, 2) := by decide +kernel
theorem dX3_aboveWith_9 : decode cX3_aboveWith 9 = .ok (.if_icmp .ge 38, 3) := by decide +kernel
theorem dX3_aboveWith_12 : decode cX3_aboveWith 12 = .ok (.aload_n 0, 1) := by decide +kernel
theorem dX3_aboveWith_13 : decode cX3_aboveWith 13 = .ok (.getfield 9, 3) := by decide +kernel
theorem dX3_aboveWith_16 : decode cX3_aboveWith 16 = .ok (.iload_n 1, 1) := by decide +kernel
theorem dX3_aboveWith_17 : decode cX3_aboveWith 17 = .ok (.iload 4, 2) := by decide +kernel
theorem dX3_aboveWith_19 : decode cX3_aboveWith 19 = .ok (.invokevirtual 28, 3) := by decide +kernel
theorem dX3_aboveWith_22 : decode cX3_aboveWith 22 = .ok (.ifCond .eq 19, 3) := by decide +kernel
theorem dX3_aboveWith_25 : decode cX3_aboveWith 25 = .ok (.aload_n 0, 1) := by decide +kernel
theorem dX3_aboveWith_26 : decode cX3_aboveWith 26 = .ok (.getfield 9, 3) := by decide +kernel
theorem dX3_aboveWith_29 : decode cX3_aboveWith 29 = .ok (.iload 4, 2) := by decide +kernel
theorem dX3_aboveWith_31 : decode cX3_aboveWith 31 = .ok (.invokevirtual 48, 3) := by decide +kernel
theorem dX3_aboveWith_34 : decode cX3_aboveWith 34 = .ok (.iload_n 2, 1) := by decide +kernel
theorem dX3_aboveWith_35 : decode cX3_aboveWith 35 = .ok (.if_icmp .ne 6, 3) := by decide +kernel
theorem dX3_aboveWith_38 : decode cX3_aboveWith 38 = .ok (.iinc 3 1, 3) := by decide +kernel
theorem dX3_aboveWith_41 : decode cX3_aboveWith 41 = .ok (.iinc 4 1, 3) := by decide +kernel
theorem dX3_aboveWith_44 : decode cX3_aboveWith 44 = .ok (.goto (-39), 3) := by decide +kernel
theorem dX3_aboveWith_47 : decode cX3_aboveWith 47 = .ok (.iload_n 3, 1) := by decide +kernel
theorem dX3_aboveWith_48 : decode cX3_aboveWith 48 = .ok (.ireturn, 1) := by decide +kernel
set_option maxRecDepth 20000 in
theorem ggX3_soundTheSame_X2_holesAt : GoodIn wsX3_soundTheSame wsX2_holesAt := goodIn_r _ [6, 7, 8, 35, 36, 37, 38, 39, 40, 41, 42] (by decide +kernel) (by decide +kernel)
set_option maxRecDepth 20000 in
theorem gX3_soundTheSame_X2_holesAt : GoodIn wsX3_soundTheSame (wsV RX3 51 RX2 yX2_holesAt wsX2_holesAt) := goodIn_app (goodIn_of _ (by decide +kernel)) ggX3_soundTheSame_X2_holesAt
set_option maxRecDepth 20000 in
theorem ggX3_soundTheSame_J6_bitCount_0f7a4 : GoodIn wsX3_soundTheSame wsJ6_bitCount_0f7a4 := goodIn_r _ [12, 13, 14, 15] (by decide +kernel) (by decide +kernel)
set_option maxRecDepth 20000 in
theorem gX3_soundTheSame_J6_bitCount_0f7a4 : GoodIn wsX3_soundTheSame (va_wsS RX3 54 yJ6_bitCount_0f7a4 wsJ6_bitCount_0f7a4) := goodIn_app (goodIn_of _ (by decide +kernel)) ggX3_soundTheSame_J6_bitCount_0f7a4
set_option maxRecDepth 20000 in
theorem ggX3_soundTheSame_X2_noteAt : GoodIn wsX3_soundTheSame wsX2_noteAt := goodIn_r _ [19, 20, 35, 36, 37, 38, 39, 40, 41, 42] (by decide +kernel) (by decide +kernel)
set_option maxRecDepth 20000 in
theorem gX3_soundTheSame_X2_noteAt : GoodIn wsX3_soundTheSame (wsV RX3 32 RX2 yX2_noteAt wsX2_noteAt) := goodIn_app (goodIn_of _ (by decide +kernel)) ggX3_soundTheSame_X2_noteAt
set_option maxRecDepth 20000 in
theorem ggX3_soundTheSame_X2_soundsAt : GoodIn wsX3_soundTheSame wsX2_soundsAt := goodIn_r _ [24, 25, 3, 4, 5, 6, 7, 8, 26, 27, 28, 35, 36, 37, 38, 39, 40, 41, 42] (by decide +kernel) (by decide +kernel)
set_option maxRecDepth 20000 in
theorem gX3_soundTheSame_X2_soundsAt : GoodIn wsX3_soundTheSame (wsV RX3 28 RX2 yX2_soundsAt wsX2_soundsAt) := goodIn_app (goodIn_of _ (by decide +kernel)) ggX3_soundTheSame_X2_soundsAt
set_option maxRecDepth 20000 in
theorem ggX3_soundTheSame_X3_howOften : GoodIn wsX3_soundTheSame wsX3_howOften := goodIn_r _ [33, 1, 21, 22, 23, 5, 24, 25, 3, 4, 6, 7, 8, 26, 27, 28, 16, 17, 18, 19, 20, 34, 35, 36, 37, 38, 39, 40, 41, 42] (by decide +kernel) (by decide +kernel)
set_option maxRecDepth 20000 in
theorem gX3_soundTheSame_X3_howOften : GoodIn wsX3_soundTheSame (wsV RX3 59 RX3 yX3_howOften wsX3_howOften) := goodIn_app (goodIn_of _ (by decide +kernel)) ggX3_soundTheSame_X3_howOften
theorem dX3_soundTheSame_0 : decode cX3_soundTheSame 0 = .ok (.aload_n 0, 1) := by decide +kernel
theorem dX3_soundTheSame_1 : decode cX3_soundTheSame 1 = .ok (.getfield 9, 3) := by decide +kernel
theorem dX3_soundTheSame_4 : decode cX3_soundTheSame 4 = .ok (.iload_n 1, 1) := by decide +kernel
theorem dX3_soundTheSame_5 : decode cX3_soundTheSame 5 = .ok (.invokevirtual 51, 3) := by decide +kernel
theorem dX3_soundTheSame_8 : decode cX3_soundTheSame 8 = .ok (.invokestatic 54, 3) := by decide +kernel
theorem dX3_soundTheSame_11 : decode cX3_soundTheSame 11 = .ok (.aload_n 0, 1) := by decide +kernel
theorem dX3_soundTheSame_12 : decode cX3_soundTheSame 12 = .ok (.getfield 9, 3) := by decide +kernel
theorem dX3_soundTheSame_15 : decode cX3_soundTheSame 15 = .ok (.iload_n 2, 1) := by decide +kernel
theorem dX3_soundTheSame_16 : decode cX3_soundTheSame 16 = .ok (.invokevirtual 51, 3) := by decide +kernel
theorem dX3_soundTheSame_19 : decode cX3_soundTheSame 19 = .ok (.invokestatic 54, 3) := by decide +kernel
theorem dX3_soundTheSame_22 : decode cX3_soundTheSame 22 = .ok (.if_icmp .ne 7, 3) := by decide +kernel
theorem dX3_soundTheSame_25 : decode cX3_soundTheSame 25 = .ok (.iconst 1, 1) := by decide +kernel
theorem dX3_soundTheSame_26 : decode cX3_soundTheSame 26 = .ok (.goto 4, 3) := by decide +kernel
theorem dX3_soundTheSame_29 : decode cX3_soundTheSame 29 = .ok (.iconst 0, 1) := by decide +kernel
theorem dX3_soundTheSame_30 : decode cX3_soundTheSame 30 = .ok (.istore_n 3, 1) := by decide +kernel
theorem dX3_soundTheSame_31 : decode cX3_soundTheSame 31 = .ok (.iconst 0, 1) := by decide +kernel
theorem dX3_soundTheSame_32 : decode cX3_soundTheSame 32 = .ok (.istore 4, 2) := by decide +kernel
theorem dX3_soundTheSame_34 : decode cX3_soundTheSame 34 = .ok (.iload 4, 2) := by decide +kernel
theorem dX3_soundTheSame_36 : decode cX3_soundTheSame 36 = .ok (.bipush 8, 2) := by decide +kernel
theorem dX3_soundTheSame_38 : decode cX3_soundTheSame 38 = .ok (.if_icmp .ge 60, 3) := by decide +kernel
theorem dX3_soundTheSame_41 : decode cX3_soundTheSame 41 = .ok (.iload_n 3, 1) := by decide +kernel
theorem dX3_soundTheSame_42 : decode cX3_soundTheSame 42 = .ok (.ifCond .eq 56, 3) := by decide +kernel
theorem dX3_soundTheSame_45 : decode cX3_soundTheSame 45 = .ok (.aload_n 0, 1) := by decide +kernel
theorem dX3_soundTheSame_46 : decode cX3_soundTheSame 46 = .ok (.getfield 9, 3) := by decide +kernel
theorem dX3_soundTheSame_49 : decode cX3_soundTheSame 49 = .ok (.iload 4, 2) := by decide +kernel
theorem dX3_soundTheSame_51 : decode cX3_soundTheSame 51 = .ok (.invokevirtual 32, 3) := by decide +kernel
theorem dX3_soundTheSame_54 : decode cX3_soundTheSame 54 = .ok (.istore 5, 2) := by decide +kernel
theorem dX3_soundTheSame_56 : decode cX3_soundTheSame 56 = .ok (.aload_n 0, 1) := by decide +kernel
theorem dX3_soundTheSame_57 : decode cX3_soundTheSame 57 = .ok (.getfield 9, 3) := by decide +kernel
theorem dX3_soundTheSame_60 : decode cX3_soundTheSame 60 = .ok (.iload_n 1, 1) := by decide +kernel
theorem dX3_soundTheSame_61 : decode cX3_soundTheSame 61 = .ok (.iload 4, 2) := by decide +kernel
theorem dX3_soundTheSame_63 : decode cX3_soundTheSame 63 = .ok (.invokevirtual 28, 3) := by decide +kernel
theorem dX3_soundTheSame_66 : decode cX3_soundTheSame 66 = .ok (.ifCond .eq 20, 3) := by decide +kernel
theorem dX3_soundTheSame_69 : decode cX3_soundTheSame 69 = .ok (.aload_n 0, 1) := by decide +kernel
theorem dX3_soundTheSame_70 : decode cX3_soundTheSame 70 = .ok (.iload_n 1, 1) := by decide +kernel
theorem dX3_soundTheSame_71 : decode cX3_soundTheSame 71 = .ok (.iload 5, 2) := by decide +kernel
theorem dX3_soundTheSame_73 : decode cX3_soundTheSame 73 = .ok (.invokevirtual 59, 3) := by decide +kernel
theorem dX3_soundTheSame_76 : decode cX3_soundTheSame 76 = .ok (.aload_n 0, 1) := by decide +kernel
theorem dX3_soundTheSame_77 : decode cX3_soundTheSame 77 = .ok (.iload_n 2, 1) := by decide +kernel
theorem dX3_soundTheSame_78 : decode cX3_soundTheSame 78 = .ok (.iload 5, 2) := by decide +kernel
theorem dX3_soundTheSame_80 : decode cX3_soundTheSame 80 = .ok (.invokevirtual 59, 3) := by decide +kernel
theorem dX3_soundTheSame_83 : decode cX3_soundTheSame 83 = .ok (.if_icmp .ne 7, 3) := by decide +kernel
theorem dX3_soundTheSame_86 : decode cX3_soundTheSame 86 = .ok (.iconst 1, 1) := by decide +kernel
theorem dX3_soundTheSame_87 : decode cX3_soundTheSame 87 = .ok (.goto 4, 3) := by decide +kernel
theorem dX3_soundTheSame_90 : decode cX3_soundTheSame 90 = .ok (.iconst 0, 1) := by decide +kernel
theorem dX3_soundTheSame_91 : decode cX3_soundTheSame 91 = .ok (.istore_n 3, 1) := by decide +kernel
theorem dX3_soundTheSame_92 : decode cX3_soundTheSame 92 = .ok (.iinc 4 1, 3) := by decide +kernel
theorem dX3_soundTheSame_95 : decode cX3_soundTheSame 95 = .ok (.goto (-61), 3) := by decide +kernel
theorem dX3_soundTheSame_98 : decode cX3_soundTheSame 98 = .ok (.iload_n 3, 1) := by decide +kernel
theorem dX3_soundTheSame_99 : decode cX3_soundTheSame 99 = .ok (.ireturn, 1) := by decide +kernel
set_option maxRecDepth 20000 in
theorem ggX3_howOften_X2_soundsAt : GoodIn wsX3_howOften wsX2_soundsAt := goodIn_r _ [6, 7, 8, 9, 5, 10, 11, 12, 13, 14, 15, 22, 23, 24, 25, 26, 27, 28, 29] (by decide +kernel) (by decide +kernel)
set_option maxRecDepth 20000 in
theorem gX3_howOften_X2_soundsAt : GoodIn wsX3_howOften (wsV RX3 28 RX2 yX2_soundsAt wsX2_soundsAt) := goodIn_app (goodIn_of _ (by decide +kernel)) ggX3_howOften_X2_soundsAt
set_option maxRecDepth 20000 in
theorem ggX3_howOften_X2_noteAt : GoodIn wsX3_howOften wsX2_noteAt := goodIn_r _ [19, 20, 22, 23, 24, 25, 26, 27, 28, 29] (by decide +kernel) (by decide +kernel)
set_option maxRecDepth 20000 in
theorem gX3_howOften_X2_noteAt : GoodIn wsX3_howOften (wsV RX3 32 RX2 yX2_noteAt wsX2_noteAt) := goodIn_app (goodIn_of _ (by decide +kernel)) ggX3_howOften_X2_noteAt
theorem dX3_howOften_0 : decode cX3_howOften 0 = .ok (.iconst 0, 1) := by decide +kernel
theorem dX3_howOften_1 : decode cX3_howOften 1 = .ok (.istore_n 3, 1) := by decide +kernel
theorem dX3_howOften_2 : decode cX3_howOften 2 = .ok (.iconst 0, 1) := by decide +kernel
theorem dX3_howOften_3 : decode cX3_howOften 3 = .ok (.istore 4, 2) := by decide +kernel
theorem dX3_howOften_5 : decode cX3_howOften 5 = .ok (.iload 4, 2) := by decide +kernel
theorem dX3_howOften_7 : decode cX3_howOften 7 = .ok (.bipush 8, 2) := by decide +kernel
theorem dX3_howOften_9 : decode cX3_howOften 9 = .ok (.if_icmp .ge 38, 3) := by decide +kernel
theorem dX3_howOften_12 : decode cX3_howOften 12 = .ok (.aload_n 0, 1) := by decide +kernel
theorem dX3_howOften_13 : decode cX3_howOften 13 = .ok (.getfield 9, 3) := by decide +kernel
theorem dX3_howOften_16 : decode cX3_howOften 16 = .ok (.iload_n 1, 1) := by decide +kernel
theorem dX3_howOften_17 : decode cX3_howOften 17 = .ok (.iload 4, 2) := by decide +kernel
theorem dX3_howOften_19 : decode cX3_howOften 19 = .ok (.invokevirtual 28, 3) := by decide +kernel
theorem dX3_howOften_22 : decode cX3_howOften 22 = .ok (.ifCond .eq 19, 3) := by decide +kernel
theorem dX3_howOften_25 : decode cX3_howOften 25 = .ok (.aload_n 0, 1) := by decide +kernel
theorem dX3_howOften_26 : decode cX3_howOften 26 = .ok (.getfield 9, 3) := by decide +kernel
theorem dX3_howOften_29 : decode cX3_howOften 29 = .ok (.iload 4, 2) := by decide +kernel
theorem dX3_howOften_31 : decode cX3_howOften 31 = .ok (.invokevirtual 32, 3) := by decide +kernel
theorem dX3_howOften_34 : decode cX3_howOften 34 = .ok (.iload_n 2, 1) := by decide +kernel
theorem dX3_howOften_35 : decode cX3_howOften 35 = .ok (.if_icmp .ne 6, 3) := by decide +kernel
theorem dX3_howOften_38 : decode cX3_howOften 38 = .ok (.iinc 3 1, 3) := by decide +kernel
theorem dX3_howOften_41 : decode cX3_howOften 41 = .ok (.iinc 4 1, 3) := by decide +kernel
theorem dX3_howOften_44 : decode cX3_howOften 44 = .ok (.goto (-39), 3) := by decide +kernel
theorem dX3_howOften_47 : decode cX3_howOften 47 = .ok (.iload_n 3, 1) := by decide +kernel
theorem dX3_howOften_48 : decode cX3_howOften 48 = .ok (.ireturn, 1) := by decide +kernel
set_option maxRecDepth 20000 in
theorem ggX3_soundingRows_X2_soundsAt : GoodIn wsX3_soundingRows wsX2_soundsAt := goodIn_r _ [7, 8, 9, 10, 6, 11, 12, 13, 14, 15, 16, 18, 19, 20, 21, 22, 23, 24, 25] (by decide +kernel) (by decide +kernel)
set_option maxRecDepth 20000 in
theorem gX3_soundingRows_X2_soundsAt : GoodIn wsX3_soundingRows (wsV RX3 28 RX2 yX2_soundsAt wsX2_soundsAt) := goodIn_app (goodIn_of _ (by decide +kernel)) ggX3_soundingRows_X2_soundsAt
theorem dX3_soundingRows_0 : decode cX3_soundingRows 0 = .ok (.iconst 0, 1) := by decide +kernel
theorem dX3_soundingRows_1 : decode cX3_soundingRows 1 = .ok (.istore_n 2, 1) := by decide +kernel
theorem dX3_soundingRows_2 : decode cX3_soundingRows 2 = .ok (.iconst 0, 1) := by decide +kernel
theorem dX3_soundingRows_3 : decode cX3_soundingRows 3 = .ok (.istore_n 3, 1) := by decide +kernel
theorem dX3_soundingRows_4 : decode cX3_soundingRows 4 = .ok (.iload_n 3, 1) := by decide +kernel
theorem dX3_soundingRows_5 : decode cX3_soundingRows 5 = .ok (.aload_n 0, 1) := by decide +kernel
theorem dX3_soundingRows_6 : decode cX3_soundingRows 6 = .ok (.getfield 9, 3) := by decide +kernel
theorem dX3_soundingRows_9 : decode cX3_soundingRows 9 = .ok (.getfield 21, 3) := by decide +kernel
theorem dX3_soundingRows_12 : decode cX3_soundingRows 12 = .ok (.if_icmp .ge 24, 3) := by decide +kernel
theorem dX3_soundingRows_15 : decode cX3_soundingRows 15 = .ok (.aload_n 0, 1) := by decide +kernel
theorem dX3_soundingRows_16 : decode cX3_soundingRows 16 = .ok (.getfield 9, 3) := by decide +kernel
theorem dX3_soundingRows_19 : decode cX3_soundingRows 19 = .ok (.iload_n 3, 1) := by decide +kernel
theorem dX3_soundingRows_20 : decode cX3_soundingRows 20 = .ok (.iload_n 1, 1) := by decide +kernel
theorem dX3_soundingRows_21 : decode cX3_soundingRows 21 = .ok (.invokevirtual 28, 3) := by decide +kernel
theorem dX3_soundingRows_24 : decode cX3_soundingRows 24 = .ok (.ifCond .eq 6, 3) := by decide +kernel
theorem dX3_soundingRows_27 : decode cX3_soundingRows 27 = .ok (.iinc 2 1, 3) := by decide +kernel
theorem dX3_soundingRows_30 : decode cX3_soundingRows 30 = .ok (.iinc 3 1, 3) := by decide +kernel
theorem dX3_soundingRows_33 : decode cX3_soundingRows 33 = .ok (.goto (-29), 3) := by decide +kernel
theorem dX3_soundingRows_36 : decode cX3_soundingRows 36 = .ok (.iload_n 2, 1) := by decide +kernel
theorem dX3_soundingRows_37 : decode cX3_soundingRows 37 = .ok (.ireturn, 1) := by decide +kernel
set_option maxRecDepth 20000 in
theorem ggX3_soundingThreads_X2_holesAt : GoodIn wsX3_soundingThreads wsX2_holesAt := goodIn_r _ [7, 8, 9, 18, 19, 20, 21, 22, 23, 24, 25] (by decide +kernel) (by decide +kernel)
set_option maxRecDepth 20000 in
theorem gX3_soundingThreads_X2_holesAt : GoodIn wsX3_soundingThreads (wsV RX3 51 RX2 yX2_holesAt wsX2_holesAt) := goodIn_app (goodIn_of _ (by decide +kernel)) ggX3_soundingThreads_X2_holesAt
set_option maxRecDepth 20000 in
theorem ggX3_soundingThreads_J6_bitCount_0f7a4 : GoodIn wsX3_soundingThreads wsJ6_bitCount_0f7a4 := goodIn_r _ [13, 14, 15, 16] (by decide +kernel) (by decide +kernel)
set_option maxRecDepth 20000 in
theorem gX3_soundingThreads_J6_bitCount_0f7a4 : GoodIn wsX3_soundingThreads (va_wsS RX3 54 yJ6_bitCount_0f7a4 wsJ6_bitCount_0f7a4) := goodIn_app (goodIn_of _ (by decide +kernel)) ggX3_soundingThreads_J6_bitCount_0f7a4
theorem dX3_soundingThreads_0 : decode cX3_soundingThreads 0 = .ok (.iconst 0, 1) := by decide +kernel
theorem dX3_soundingThreads_1 : decode cX3_soundingThreads 1 = .ok (.istore_n 1, 1) := by decide +kernel
theorem dX3_soundingThreads_2 : decode cX3_soundingThreads 2 = .ok (.iconst 0, 1) := by decide +kernel
theorem dX3_soundingThreads_3 : decode cX3_soundingThreads 3 = .ok (.istore_n 2, 1) := by decide +kernel
theorem dX3_soundingThreads_4 : decode cX3_soundingThreads 4 = .ok (.iload_n 2, 1) := by decide +kernel
theorem dX3_soundingThreads_5 : decode cX3_soundingThreads 5 = .ok (.aload_n 0, 1) := by decide +kernel
theorem dX3_soundingThreads_6 : decode cX3_soundingThreads 6 = .ok (.getfield 9, 3) := by decide +kernel
theorem dX3_soundingThreads_9 : decode cX3_soundingThreads 9 = .ok (.getfield 21, 3) := by decide +kernel
theorem dX3_soundingThreads_12 : decode cX3_soundingThreads 12 = .ok (.if_icmp .ge 23, 3) := by decide +kernel
theorem dX3_soundingThreads_15 : decode cX3_soundingThreads 15 = .ok (.iload_n 1, 1) := by decide +kernel
theorem dX3_soundingThreads_16 : decode cX3_soundingThreads 16 = .ok (.aload_n 0, 1) := by decide +kernel
theorem dX3_soundingThreads_17 : decode cX3_soundingThreads 17 = .ok (.getfield 9, 3) := by decide +kernel
theorem dX3_soundingThreads_20 : decode cX3_soundingThreads 20 = .ok (.iload_n 2, 1) := by decide +kernel
theorem dX3_soundingThreads_21 : decode cX3_soundingThreads 21 = .ok (.invokevirtual 51, 3) := by decide +kernel
theorem dX3_soundingThreads_24 : decode cX3_soundingThreads 24 = .ok (.invokestatic 54, 3) := by decide +kernel
theorem dX3_soundingThreads_27 : decode cX3_soundingThreads 27 = .ok (.iadd, 1) := by decide +kernel
theorem dX3_soundingThreads_28 : decode cX3_soundingThreads 28 = .ok (.istore_n 1, 1) := by decide +kernel
theorem dX3_soundingThreads_29 : decode cX3_soundingThreads 29 = .ok (.iinc 2 1, 3) := by decide +kernel
theorem dX3_soundingThreads_32 : decode cX3_soundingThreads 32 = .ok (.goto (-28), 3) := by decide +kernel
theorem dX3_soundingThreads_35 : decode cX3_soundingThreads 35 = .ok (.iload_n 1, 1) := by decide +kernel
theorem dX3_soundingThreads_36 : decode cX3_soundingThreads 36 = .ok (.ireturn, 1) := by decide +kernel
set_option maxRecDepth 20000 in
theorem ggX3_stamped_X2_stampsAt : GoodIn wsX3_stamped wsX2_stampsAt := goodIn_r _ [7, 8, 9, 10, 6, 11, 12, 13, 15, 16, 17, 18, 19, 20, 21, 22] (by decide +kernel) (by decide +kernel)
set_option maxRecDepth 20000 in
theorem gX3_stamped_X2_stampsAt : GoodIn wsX3_stamped (wsV RX3 62 RX2 yX2_stampsAt wsX2_stampsAt) := goodIn_app (goodIn_of _ (by decide +kernel)) ggX3_stamped_X2_stampsAt
theorem dX3_stamped_0 : decode cX3_stamped 0 = .ok (.iconst 0, 1) := by decide +kernel
theorem dX3_stamped_1 : decode cX3_stamped 1 = .ok (.istore_n 1, 1) := by decide +kernel
theorem dX3_stamped_2 : decode cX3_stamped 2 = .ok (.iconst 0, 1) := by decide +kernel
theorem dX3_stamped_3 : decode cX3_stamped 3 = .ok (.istore_n 2, 1) := by decide +kernel
theorem dX3_stamped_4 : decode cX3_stamped 4 = .ok (.iload_n 2, 1) := by decide +kernel
theorem dX3_stamped_5 : decode cX3_stamped 5 = .ok (.aload_n 0, 1) := by decide +kernel
theorem dX3_stamped_6 : decode cX3_stamped 6 = .ok (.getfield 9, 3) := by decide +kernel
theorem dX3_stamped_9 : decode cX3_stamped 9 = .ok (.getfield 21, 3) := by decide +kernel
theorem dX3_stamped_12 : decode cX3_stamped 12 = .ok (.if_icmp .ge 20, 3) := by decide +kernel
theorem dX3_stamped_15 : decode cX3_stamped 15 = .ok (.iload_n 1, 1) := by decide +kernel
theorem dX3_stamped_16 : decode cX3_stamped 16 = .ok (.aload_n 0, 1) := by decide +kernel
theorem dX3_stamped_17 : decode cX3_stamped 17 = .ok (.getfield 9, 3) := by decide +kernel
theorem dX3_stamped_20 : decode cX3_stamped 20 = .ok (.iload_n 2, 1) := by decide +kernel
theorem dX3_stamped_21 : decode cX3_stamped 21 = .ok (.invokevirtual 62, 3) := by decide +kernel
theorem dX3_stamped_24 : decode cX3_stamped 24 = .ok (.iadd, 1) := by decide +kernel
theorem dX3_stamped_25 : decode cX3_stamped 25 = .ok (.istore_n 1, 1) := by decide +kernel
theorem dX3_stamped_26 : decode cX3_stamped 26 = .ok (.iinc 2 1, 3) := by decide +kernel
theorem dX3_stamped_29 : decode cX3_stamped 29 = .ok (.goto (-25), 3) := by decide +kernel
theorem dX3_stamped_32 : decode cX3_stamped 32 = .ok (.iload_n 1, 1) := by decide +kernel
theorem dX3_stamped_33 : decode cX3_stamped 33 = .ok (.ireturn, 1) := by decide +kernel
set_option maxRecDepth 20000 in
theorem ggX3_clashes_X2_holesAt : GoodIn wsX3_clashes wsX2_holesAt := goodIn_r _ [7, 8, 9, 16, 17, 18, 19, 20, 21, 22, 23] (by decide +kernel) (by decide +kernel)
set_option maxRecDepth 20000 in
theorem gX3_clashes_X2_holesAt : GoodIn wsX3_clashes (wsV RX3 51 RX2 yX2_holesAt wsX2_holesAt) := goodIn_app (goodIn_of _ (by decide +kernel)) ggX3_clashes_X2_holesAt
set_option maxRecDepth 20000 in
theorem ggX3_clashes_X2_clashesOf : GoodIn wsX3_clashes wsX2_clashesOf := goodIn_r _ [13, 14, 16, 17, 18, 19, 20, 21, 22, 23] (by decide +kernel) (by decide +kernel)
set_option maxRecDepth 20000 in
theorem gX3_clashes_X2_clashesOf : GoodIn wsX3_clashes (wsV RX3 65 RX2 yX2_clashesOf wsX2_clashesOf) := goodIn_app (goodIn_of _ (by decide +kernel)) ggX3_clashes_X2_clashesOf
theorem dX3_clashes_0 : decode cX3_clashes 0 = .ok (.iconst 0, 1) := by decide +kernel
theorem dX3_clashes_1 : decode cX3_clashes 1 = .ok (.istore_n 1, 1) := by decide +kernel
theorem dX3_clashes_2 : decode cX3_clashes 2 = .ok (.iconst 0, 1) := by decide +kernel
theorem dX3_clashes_3 : decode cX3_clashes 3 = .ok (.istore_n 2, 1) := by decide +kernel
theorem dX3_clashes_4 : decode cX3_clashes 4 = .ok (.iload_n 2, 1) := by decide +kernel
theorem dX3_clashes_5 : decode cX3_clashes 5 = .ok (.aload_n 0, 1) := by decide +kernel
theorem dX3_clashes_6 : decode cX3_clashes 6 = .ok (.getfield 9, 3) := by decide +kernel
theorem dX3_clashes_9 : decode cX3_clashes 9 = .ok (.getfield 21, 3) := by decide +kernel
theorem dX3_clashes_12 : decode cX3_clashes 12 = .ok (.if_icmp .ge 27, 3) := by decide +kernel
theorem dX3_clashes_15 : decode cX3_clashes 15 = .ok (.iload_n 1, 1) := by decide +kernel
theorem dX3_clashes_16 : decode cX3_clashes 16 = .ok (.aload_n 0, 1) := by decide +kernel
theorem dX3_clashes_17 : decode cX3_clashes 17 = .ok (.getfield 9, 3) := by decide +kernel
theorem dX3_clashes_20 : decode cX3_clashes 20 = .ok (.aload_n 0, 1) := by decide +kernel
theorem dX3_clashes_21 : decode cX3_clashes 21 = .ok (.getfield 9, 3) := by decide +kernel
theorem dX3_clashes_24 : decode cX3_clashes 24 = .ok (.iload_n 2, 1) := by decide +kernel
theorem dX3_clashes_25 : decode cX3_clashes 25 = .ok (.invokevirtual 51, 3) := by decide +kernel
theorem dX3_clashes_28 : decode cX3_clashes 28 = .ok (.invokevirtual 65, 3) := by decide +kernel
theorem dX3_clashes_31 : decode cX3_clashes 31 = .ok (.iadd, 1) := by decide +kernel
theorem dX3_clashes_32 : decode cX3_clashes 32 = .ok (.istore_n 1, 1) := by decide +kernel
theorem dX3_clashes_33 : decode cX3_clashes 33 = .ok (.iinc 2 1, 3) := by decide +kernel
theorem dX3_clashes_36 : decode cX3_clashes 36 = .ok (.goto (-32), 3) := by decide +kernel
theorem dX3_clashes_39 : decode cX3_clashes 39 = .ok (.iload_n 1, 1) := by decide +kernel
theorem dX3_clashes_40 : decode cX3_clashes 40 = .ok (.ireturn, 1) := by decide +kernel
theorem dX4_init_0 : decode cX4_init 0 = .ok (.aload_n 0, 1) := by decide +kernel
theorem dX4_init_1 : decode cX4_init 1 = .ok (.invokespecial 3, 3) := by decide +kernel
theorem dX4_init_4 : decode cX4_init 4 = .ok (.aload_n 0, 1) := by decide +kernel
theorem dX4_init_5 : decode cX4_init 5 = .ok (.bipush 60, 2) := by decide +kernel
theorem dX4_init_7 : decode cX4_init 7 = .ok (.newarray .char, 2) := by decide +kernel
theorem dX4_init_9 : decode cX4_init 9 = .ok (.putfield 9, 3) := by decide +kernel
theorem dX4_init_12 : decode cX4_init 12 = .ok (.aload_n 0, 1) := by decide +kernel
theorem dX4_init_13 : decode cX4_init 13 = .ok (.iconst 0, 1) := by decide +kernel
theorem dX4_init_14 : decode cX4_init 14 = .ok (.putfield 15, 3) := by decide +kernel
theorem dX4_init_17 : decode cX4_init 17 = .ok (.return_, 1) := by decide +kernel
theorem dX4_append_0 : decode cX4_append 0 = .ok (.iload_n 1, 1) := by decide +kernel
theorem dX4_append_1 : decode cX4_append 1 = .ok (.bipush 32, 2) := by decide +kernel
theorem dX4_append_3 : decode cX4_append 3 = .ok (.if_icmp .lt 9, 3) := by decide +kernel
theorem dX4_append_6 : decode cX4_append 6 = .ok (.iload_n 1, 1) := by decide +kernel
theorem dX4_append_7 : decode cX4_append 7 = .ok (.bipush 126, 2) := by decide +kernel
theorem dX4_append_9 : decode cX4_append 9 = .ok (.if_icmp .le 6, 3) := by decide +kernel
theorem dX4_append_12 : decode cX4_append 12 = .ok (.ldc 19, 2) := by decide +kernel
theorem dX4_append_14 : decode cX4_append 14 = .ok (.ireturn, 1) := by decide +kernel
theorem dX4_append_15 : decode cX4_append 15 = .ok (.aload_n 0, 1) := by decide +kernel
theorem dX4_append_16 : decode cX4_append 16 = .ok (.getfield 15, 3) := by decide +kernel
theorem dX4_append_19 : decode cX4_append 19 = .ok (.ifCond .lt 15, 3) := by decide +kernel
theorem dX4_append_22 : decode cX4_append 22 = .ok (.aload_n 0, 1) := by decide +kernel
theorem dX4_append_23 : decode cX4_append 23 = .ok (.getfield 15, 3) := by decide +kernel
theorem dX4_append_26 : decode cX4_append 26 = .ok (.aload_n 0, 1) := by decide +kernel
theorem dX4_append_27 : decode cX4_append 27 = .ok (.getfield 9, 3) := by decide +kernel
theorem dX4_append_30 : decode cX4_append 30 = .ok (.arraylength, 1) := by decide +kernel
theorem dX4_append_31 : decode cX4_append 31 = .ok (.if_icmp .lt 6, 3) := by decide +kernel
theorem dX4_append_34 : decode cX4_append 34 = .ok (.ldc 20, 2) := by decide +kernel
theorem dX4_append_36 : decode cX4_append 36 = .ok (.ireturn, 1) := by decide +kernel
theorem dX4_append_37 : decode cX4_append 37 = .ok (.aload_n 0, 1) := by decide +kernel
theorem dX4_append_38 : decode cX4_append 38 = .ok (.getfield 9, 3) := by decide +kernel
theorem dX4_append_41 : decode cX4_append 41 = .ok (.aload_n 0, 1) := by decide +kernel
theorem dX4_append_42 : decode cX4_append 42 = .ok (.getfield 15, 3) := by decide +kernel
theorem dX4_append_45 : decode cX4_append 45 = .ok (.iload_n 1, 1) := by decide +kernel
theorem dX4_append_46 : decode cX4_append 46 = .ok (.i2c, 1) := by decide +kernel
theorem dX4_append_47 : decode cX4_append 47 = .ok (.castore, 1) := by decide +kernel
theorem dX4_append_48 : decode cX4_append 48 = .ok (.aload_n 0, 1) := by decide +kernel
theorem dX4_append_49 : decode cX4_append 49 = .ok (.dup, 1) := by decide +kernel
theorem dX4_append_50 : decode cX4_append 50 = .ok (.getfield 15, 3) := by decide +kernel
theorem dX4_append_53 : decode cX4_append 53 = .ok (.iconst 1, 1) := by decide +kernel
theorem dX4_append_54 : decode cX4_append 54 = .ok (.iadd, 1) := by decide +kernel
theorem dX4_append_55 : decode cX4_append 55 = .ok (.putfield 15, 3) := by decide +kernel
theorem dX4_append_58 : decode cX4_append 58 = .ok (.aload_n 0, 1) := by decide +kernel
theorem dX4_append_59 : decode cX4_append 59 = .ok (.getfield 15, 3) := by decide +kernel
theorem dX4_append_62 : decode cX4_append 62 = .ok (.ireturn, 1) := by decide +kernel
theorem dX4_empty_0 : decode cX4_empty 0 = .ok (.aload_n 0, 1) := by decide +kernel
theorem dX4_empty_1 : decode cX4_empty 1 = .ok (.getfield 15, 3) := by decide +kernel
theorem dX4_empty_4 : decode cX4_empty 4 = .ok (.istore_n 1, 1) := by decide +kernel
theorem dX4_empty_5 : decode cX4_empty 5 = .ok (.aload_n 0, 1) := by decide +kernel
theorem dX4_empty_6 : decode cX4_empty 6 = .ok (.iconst 0, 1) := by decide +kernel
theorem dX4_empty_7 : decode cX4_empty 7 = .ok (.putfield 15, 3) := by decide +kernel
theorem dX4_empty_10 : decode cX4_empty 10 = .ok (.iload_n 1, 1) := by decide +kernel
theorem dX4_empty_11 : decode cX4_empty 11 = .ok (.ireturn, 1) := by decide +kernel
set_option maxRecDepth 20000 in
theorem ggX4_runsOn_X4_readsOrder : GoodIn wsX4_runsOn wsX4_readsOrder := goodIn_r _ [11, 12, 1, 13, 14, 15, 10, 16, 3, 17, 18, 19, 20, 21, 22, 23, 24, 25, 26, 27, 28, 29, 30, 31, 32, 33, 34, 35, 36, 37, 38, 39, 40, 41, 42, 43, 135, 136, 137, 138, 139, 140, 141, 142, 143, 144] (by decide +kernel) (by decide +kernel)
set_option maxRecDepth 20000 in
theorem gX4_runsOn_X4_readsOrder : GoodIn wsX4_runsOn (wsV RX4 30 RX4 yX4_readsOrder wsX4_readsOrder) := goodIn_app (goodIn_of _ (by decide +kernel)) ggX4_runsOn_X4_readsOrder
set_option maxRecDepth 20000 in
theorem ggX4_runsOn_X4_doneOn : GoodIn wsX4_runsOn wsX4_doneOn := goodIn_r _ [47, 12, 22, 43, 48, 49, 50, 51, 52, 53, 54, 55, 56, 57, 58, 59, 60, 61, 62, 63, 64, 65, 66, 67, 68, 69, 70, 71, 72, 73, 74, 75, 76, 77, 78, 79, 80, 81, 82, 83, 84, 85, 86, 87, 88, 89, 90, 91, 92, 93, 94, 95, 96, 97, 98, 99, 100, 101, 102, 103, 104, 105, 106, 107, 108, 109, 110, 111, 112, 113, 114, 115, 116, 117, 118, 119, 120, 121, 122, 123, 124, 125, 126, 127, 128, 129, 130, 131, 132, 133, 134, 135, 136, 137, 138, 139, 140, 141, 142, 143, 144, 145, 146, 147, 148, 149, 150, 151, 152] (by decide +kernel) (by decide +kernel)
set_option maxRecDepth 20000 in
theorem gX4_runsOn_X4_doneOn : GoodIn wsX4_runsOn (wsV RX4 40 RX4 yX4_doneOn wsX4_doneOn) := goodIn_app (goodIn_of _ (by decide +kernel)) ggX4_runsOn_X4_doneOn
theorem dX4_runsOn_0 : decode cX4_runsOn 0 = .ok (.aload_n 0, 1) := by decide +kernel
theorem dX4_runsOn_1 : decode cX4_runsOn 1 = .ok (.iconst 0, 1) := by decide +kernel
theorem dX4_runsOn_2 : decode cX4_runsOn 2 = .ok (.putfield 21, 3) := by decide +kernel
theorem dX4_runsOn_5 : decode cX4_runsOn 5 = .ok (.aload_n 0, 1) := by decide +kernel
theorem dX4_runsOn_6 : decode cX4_runsOn 6 = .ok (.iconst 0, 1) := by decide +kernel
theorem dX4_runsOn_7 : decode cX4_runsOn 7 = .ok (.putfield 24, 3) := by decide +kernel
theorem dX4_runsOn_10 : decode cX4_runsOn 10 = .ok (.iconst 0, 1) := by decide +kernel
theorem dX4_runsOn_11 : decode cX4_runsOn 11 = .ok (.istore_n 2, 1) := by decide +kernel
theorem dX4_runsOn_12 : decode cX4_runsOn 12 = .ok (.iload_n 2, 1) := by decide +kernel
theorem dX4_runsOn_13 : decode cX4_runsOn 13 = .ok (.bipush 60, 2) := by decide +kernel
theorem dX4_runsOn_15 : decode cX4_runsOn 15 = .ok (.if_icmp .ge 87, 3) := by decide +kernel
theorem dX4_runsOn_18 : decode cX4_runsOn 18 = .ok (.aload_n 0, 1) := by decide +kernel
theorem dX4_runsOn_19 : decode cX4_runsOn 19 = .ok (.getfield 21, 3) := by decide +kernel
theorem dX4_runsOn_22 : decode cX4_runsOn 22 = .ok (.aload_n 0, 1) := by decide +kernel
theorem dX4_runsOn_23 : decode cX4_runsOn 23 = .ok (.getfield 15, 3) := by decide +kernel
theorem dX4_runsOn_26 : decode cX4_runsOn 26 = .ok (.if_icmp .ge 76, 3) := by decide +kernel
theorem dX4_runsOn_29 : decode cX4_runsOn 29 = .ok (.aload_n 0, 1) := by decide +kernel
theorem dX4_runsOn_30 : decode cX4_runsOn 30 = .ok (.aload_n 0, 1) := by decide +kernel
theorem dX4_runsOn_31 : decode cX4_runsOn 31 = .ok (.getfield 21, 3) := by decide +kernel
theorem dX4_runsOn_34 : decode cX4_runsOn 34 = .ok (.putfield 27, 3) := by decide +kernel
theorem dX4_runsOn_37 : decode cX4_runsOn 37 = .ok (.aload_n 0, 1) := by decide +kernel
theorem dX4_runsOn_38 : decode cX4_runsOn 38 = .ok (.invokevirtual 30, 3) := by decide +kernel
theorem dX4_runsOn_41 : decode cX4_runsOn 41 = .ok (.ifCond .ne 23, 3) := by decide +kernel
theorem dX4_runsOn_44 : decode cX4_runsOn 44 = .ok (.aload_n 0, 1) := by decide +kernel
theorem dX4_runsOn_45 : decode cX4_runsOn 45 = .ok (.iconst 1, 1) := by decide +kernel
theorem dX4_runsOn_46 : decode cX4_runsOn 46 = .ok (.putfield 34, 3) := by decide +kernel
theorem dX4_runsOn_49 : decode cX4_runsOn 49 = .ok (.aload_n 0, 1) := by decide +kernel
theorem dX4_runsOn_50 : decode cX4_runsOn 50 = .ok (.aload_n 0, 1) := by decide +kernel
theorem dX4_runsOn_51 : decode cX4_runsOn 51 = .ok (.getfield 21, 3) := by decide +kernel
theorem dX4_runsOn_54 : decode cX4_runsOn 54 = .ok (.aload_n 0, 1) := by decide +kernel
theorem dX4_runsOn_55 : decode cX4_runsOn 55 = .ok (.getfield 27, 3) := by decide +kernel
theorem dX4_runsOn_58 : decode cX4_runsOn 58 = .ok (.isub, 1) := by decide +kernel
theorem dX4_runsOn_59 : decode cX4_runsOn 59 = .ok (.putfield 37, 3) := by decide +kernel
theorem dX4_runsOn_62 : decode cX4_runsOn 62 = .ok (.iconst 0, 1) := by decide +kernel
theorem dX4_runsOn_63 : decode cX4_runsOn 63 = .ok (.ireturn, 1) := by decide +kernel
theorem dX4_runsOn_64 : decode cX4_runsOn 64 = .ok (.aload_n 0, 1) := by decide +kernel
theorem dX4_runsOn_65 : decode cX4_runsOn 65 = .ok (.aload_n 1, 1) := by decide +kernel
theorem dX4_runsOn_66 : decode cX4_runsOn 66 = .ok (.invokevirtual 40, 3) := by decide +kernel
theorem dX4_runsOn_69 : decode cX4_runsOn 69 = .ok (.istore_n 3, 1) := by decide +kernel
theorem dX4_runsOn_70 : decode cX4_runsOn 70 = .ok (.iload_n 3, 1) := by decide +kernel
theorem dX4_runsOn_71 : decode cX4_runsOn 71 = .ok (.ifCond .ge 15, 3) := by decide +kernel
theorem dX4_runsOn_74 : decode cX4_runsOn 74 = .ok (.aload_n 0, 1) := by decide +kernel
theorem dX4_runsOn_75 : decode cX4_runsOn 75 = .ok (.iconst 2, 1) := by decide +kernel
theorem dX4_runsOn_76 : decode cX4_runsOn 76 = .ok (.putfield 34, 3) := by decide +kernel
theorem dX4_runsOn_79 : decode cX4_runsOn 79 = .ok (.aload_n 0, 1) := by decide +kernel
theorem dX4_runsOn_80 : decode cX4_runsOn 80 = .ok (.iload_n 3, 1) := by decide +kernel
theorem dX4_runsOn_81 : decode cX4_runsOn 81 = .ok (.putfield 37, 3) := by decide +kernel
theorem dX4_runsOn_84 : decode cX4_runsOn 84 = .ok (.iconst 0, 1) := by decide +kernel
theorem dX4_runsOn_85 : decode cX4_runsOn 85 = .ok (.ireturn, 1) := by decide +kernel
theorem dX4_runsOn_86 : decode cX4_runsOn 86 = .ok (.aload_n 0, 1) := by decide +kernel
theorem dX4_runsOn_87 : decode cX4_runsOn 87 = .ok (.dup, 1) := by decide +kernel
theorem dX4_runsOn_88 : decode cX4_runsOn 88 = .ok (.getfield 24, 3) := by decide +kernel
theorem dX4_runsOn_91 : decode cX4_runsOn 91 = .ok (.iconst 1, 1) := by decide +kernel
theorem dX4_runsOn_92 : decode cX4_runsOn 92 = .ok (.iadd, 1) := by decide +kernel
theorem dX4_runsOn_93 : decode cX4_runsOn 93 = .ok (.putfield 24, 3) := by decide +kernel
theorem dX4_runsOn_96 : decode cX4_runsOn 96 = .ok (.iinc 2 1, 3) := by decide +kernel
theorem dX4_runsOn_99 : decode cX4_runsOn 99 = .ok (.goto (-87), 3) := by decide +kernel
theorem dX4_runsOn_102 : decode cX4_runsOn 102 = .ok (.iconst 1, 1) := by decide +kernel
theorem dX4_runsOn_103 : decode cX4_runsOn 103 = .ok (.ireturn, 1) := by decide +kernel
set_option maxRecDepth 20000 in
theorem ggX4_readsOrder_X4_signAtNext : GoodIn wsX4_readsOrder wsX4_signAtNext := goodIn_r _ [7, 2, 8, 9, 36, 37, 38, 39, 40, 41, 42, 43, 44, 45] (by decide +kernel) (by decide +kernel)
set_option maxRecDepth 20000 in
theorem gX4_readsOrder_X4_signAtNext : GoodIn wsX4_readsOrder (wsV RX4 44 RX4 yX4_signAtNext wsX4_signAtNext) := goodIn_app (goodIn_of _ (by decide +kernel)) ggX4_readsOrder_X4_signAtNext
set_option maxRecDepth 20000 in
theorem ggX4_readsOrder_X4_readsHoles : GoodIn wsX4_readsOrder wsX4_readsHoles := goodIn_r _ [13, 14, 15, 16, 17, 6, 18, 2, 3, 4, 5, 7, 8, 9, 36, 37, 38, 39, 40, 41, 42, 43, 44, 45] (by decide +kernel) (by decide +kernel)
set_option maxRecDepth 20000 in
theorem gX4_readsOrder_X4_readsHoles : GoodIn wsX4_readsOrder (wsV RX4 52 RX4 yX4_readsHoles wsX4_readsHoles) := goodIn_app (goodIn_of _ (by decide +kernel)) ggX4_readsOrder_X4_readsHoles
set_option maxRecDepth 20000 in
theorem ggX4_readsOrder_X4_reads : GoodIn wsX4_readsOrder wsX4_reads := goodIn_r _ [18, 2, 3, 4, 5, 6, 7, 8, 9, 36, 37, 38, 39, 40, 41, 42, 43, 44, 45] (by decide +kernel) (by decide +kernel)
set_option maxRecDepth 20000 in
theorem gX4_readsOrder_X4_reads : GoodIn wsX4_readsOrder (wsV RX4 55 RX4 yX4_reads wsX4_reads) := goodIn_app (goodIn_of _ (by decide +kernel)) ggX4_readsOrder_X4_reads
set_option maxRecDepth 20000 in
theorem ggX4_readsOrder_X4_readsFirst : GoodIn wsX4_readsOrder wsX4_readsFirst := goodIn_r _ [22, 14, 23, 24, 25, 6, 26, 2, 27, 28, 29, 30, 3, 4, 5, 7, 8, 9, 36, 37, 38, 39, 40, 41, 42, 43, 44, 45] (by decide +kernel) (by decide +kernel)
set_option maxRecDepth 20000 in
theorem gX4_readsOrder_X4_readsFirst : GoodIn wsX4_readsOrder (wsV RX4 59 RX4 yX4_readsFirst wsX4_readsFirst) := goodIn_app (goodIn_of _ (by decide +kernel)) ggX4_readsOrder_X4_readsFirst
set_option maxRecDepth 20000 in
theorem ggX4_readsOrder_X4_readsSecond : GoodIn wsX4_readsOrder wsX4_readsSecond := goodIn_r _ [34, 35, 23, 24, 25, 6, 26, 2, 27, 28, 29, 30, 3, 4, 5, 7, 8, 9, 36, 37, 38, 39, 40, 41, 42, 43, 44, 45] (by decide +kernel) (by decide +kernel)
set_option maxRecDepth 20000 in
theorem gX4_readsOrder_X4_readsSecond : GoodIn wsX4_readsOrder (wsV RX4 62 RX4 yX4_readsSecond wsX4_readsSecond) := goodIn_app (goodIn_of _ (by decide +kernel)) ggX4_readsOrder_X4_readsSecond
theorem dX4_readsOrder_0 : decode cX4_readsOrder 0 = .ok (.aload_n 0, 1) := by decide +kernel
theorem dX4_readsOrder_1 : decode cX4_readsOrder 1 = .ok (.aload_n 0, 1) := by decide +kernel
theorem dX4_readsOrder_2 : decode cX4_readsOrder 2 = .ok (.invokevirtual 44, 3) := by decide +kernel
theorem dX4_readsOrder_5 : decode cX4_readsOrder 5 = .ok (.putfield 48, 3) := by decide +kernel
theorem dX4_readsOrder_8 : decode cX4_readsOrder 8 = .ok (.aload_n 0, 1) := by decide +kernel
theorem dX4_readsOrder_9 : decode cX4_readsOrder 9 = .ok (.getfield 48, 3) := by decide +kernel
theorem dX4_readsOrder_12 : decode cX4_readsOrder 12 = .ok (.lookupswitch 181 #[(99, 52), (107, 84), (110, 84), (116, 164), (120, 132)], 52) := by decide +kernel
theorem dX4_readsOrder_64 : decode cX4_readsOrder 64 = .ok (.aload_n 0, 1) := by decide +kernel
theorem dX4_readsOrder_65 : decode cX4_readsOrder 65 = .ok (.dup, 1) := by decide +kernel
theorem dX4_readsOrder_66 : decode cX4_readsOrder 66 = .ok (.getfield 21, 3) := by decide +kernel
theorem dX4_readsOrder_69 : decode cX4_readsOrder 69 = .ok (.iconst 1, 1) := by decide +kernel
theorem dX4_readsOrder_70 : decode cX4_readsOrder 70 = .ok (.iadd, 1) := by decide +kernel
theorem dX4_readsOrder_71 : decode cX4_readsOrder 71 = .ok (.putfield 21, 3) := by decide +kernel
theorem dX4_readsOrder_74 : decode cX4_readsOrder 74 = .ok (.aload_n 0, 1) := by decide +kernel
theorem dX4_readsOrder_75 : decode cX4_readsOrder 75 = .ok (.invokevirtual 52, 3) := by decide +kernel
theorem dX4_readsOrder_78 : decode cX4_readsOrder 78 = .ok (.ifCond .eq 16, 3) := by decide +kernel
theorem dX4_readsOrder_81 : decode cX4_readsOrder 81 = .ok (.aload_n 0, 1) := by decide +kernel
theorem dX4_readsOrder_82 : decode cX4_readsOrder 82 = .ok (.bipush 59, 2) := by decide +kernel
theorem dX4_readsOrder_84 : decode cX4_readsOrder 84 = .ok (.invokevirtual 55, 3) := by decide +kernel
theorem dX4_readsOrder_87 : decode cX4_readsOrder 87 = .ok (.ifCond .eq 7, 3) := by decide +kernel
theorem dX4_readsOrder_90 : decode cX4_readsOrder 90 = .ok (.iconst 1, 1) := by decide +kernel
theorem dX4_readsOrder_91 : decode cX4_readsOrder 91 = .ok (.goto 4, 3) := by decide +kernel
theorem dX4_readsOrder_94 : decode cX4_readsOrder 94 = .ok (.iconst 0, 1) := by decide +kernel
theorem dX4_readsOrder_95 : decode cX4_readsOrder 95 = .ok (.ireturn, 1) := by decide +kernel
theorem dX4_readsOrder_96 : decode cX4_readsOrder 96 = .ok (.aload_n 0, 1) := by decide +kernel
theorem dX4_readsOrder_97 : decode cX4_readsOrder 97 = .ok (.dup, 1) := by decide +kernel
theorem dX4_readsOrder_98 : decode cX4_readsOrder 98 = .ok (.getfield 21, 3) := by decide +kernel
theorem dX4_readsOrder_101 : decode cX4_readsOrder 101 = .ok (.iconst 1, 1) := by decide +kernel
theorem dX4_readsOrder_102 : decode cX4_readsOrder 102 = .ok (.iadd, 1) := by decide +kernel
theorem dX4_readsOrder_103 : decode cX4_readsOrder 103 = .ok (.putfield 21, 3) := by decide +kernel
theorem dX4_readsOrder_106 : decode cX4_readsOrder 106 = .ok (.aload_n 0, 1) := by decide +kernel
theorem dX4_readsOrder_107 : decode cX4_readsOrder 107 = .ok (.invokevirtual 59, 3) := by decide +kernel
theorem dX4_readsOrder_110 : decode cX4_readsOrder 110 = .ok (.ifCond .eq 32, 3) := by decide +kernel
theorem dX4_readsOrder_113 : decode cX4_readsOrder 113 = .ok (.aload_n 0, 1) := by decide +kernel
theorem dX4_readsOrder_114 : decode cX4_readsOrder 114 = .ok (.bipush 44, 2) := by decide +kernel
theorem dX4_readsOrder_116 : decode cX4_readsOrder 116 = .ok (.invokevirtual 55, 3) := by decide +kernel
theorem dX4_readsOrder_119 : decode cX4_readsOrder 119 = .ok (.ifCond .eq 23, 3) := by decide +kernel
theorem dX4_readsOrder_122 : decode cX4_readsOrder 122 = .ok (.aload_n 0, 1) := by decide +kernel
theorem dX4_readsOrder_123 : decode cX4_readsOrder 123 = .ok (.invokevirtual 62, 3) := by decide +kernel
theorem dX4_readsOrder_126 : decode cX4_readsOrder 126 = .ok (.ifCond .eq 16, 3) := by decide +kernel
theorem dX4_readsOrder_129 : decode cX4_readsOrder 129 = .ok (.aload_n 0, 1) := by decide +kernel
theorem dX4_readsOrder_130 : decode cX4_readsOrder 130 = .ok (.bipush 59, 2) := by decide +kernel
theorem dX4_readsOrder_132 : decode cX4_readsOrder 132 = .ok (.invokevirtual 55, 3) := by decide +kernel
theorem dX4_readsOrder_135 : decode cX4_readsOrder 135 = .ok (.ifCond .eq 7, 3) := by decide +kernel
theorem dX4_readsOrder_138 : decode cX4_readsOrder 138 = .ok (.iconst 1, 1) := by decide +kernel
theorem dX4_readsOrder_139 : decode cX4_readsOrder 139 = .ok (.goto 4, 3) := by decide +kernel
theorem dX4_readsOrder_142 : decode cX4_readsOrder 142 = .ok (.iconst 0, 1) := by decide +kernel
theorem dX4_readsOrder_143 : decode cX4_readsOrder 143 = .ok (.ireturn, 1) := by decide +kernel
theorem dX4_readsOrder_144 : decode cX4_readsOrder 144 = .ok (.aload_n 0, 1) := by decide +kernel
theorem dX4_readsOrder_145 : decode cX4_readsOrder 145 = .ok (.dup, 1) := by decide +kernel
theorem dX4_readsOrder_146 : decode cX4_readsOrder 146 = .ok (.getfield 21, 3) := by decide +kernel
theorem dX4_readsOrder_149 : decode cX4_readsOrder 149 = .ok (.iconst 1, 1) := by decide +kernel
theorem dX4_readsOrder_150 : decode cX4_readsOrder 150 = .ok (.iadd, 1) := by decide +kernel
theorem dX4_readsOrder_151 : decode cX4_readsOrder 151 = .ok (.putfield 21, 3) := by decide +kernel
theorem dX4_readsOrder_154 : decode cX4_readsOrder 154 = .ok (.aload_n 0, 1) := by decide +kernel
theorem dX4_readsOrder_155 : decode cX4_readsOrder 155 = .ok (.invokevirtual 59, 3) := by decide +kernel
theorem dX4_readsOrder_158 : decode cX4_readsOrder 158 = .ok (.ifCond .eq 16, 3) := by decide +kernel
theorem dX4_readsOrder_161 : decode cX4_readsOrder 161 = .ok (.aload_n 0, 1) := by decide +kernel
theorem dX4_readsOrder_162 : decode cX4_readsOrder 162 = .ok (.bipush 59, 2) := by decide +kernel
theorem dX4_readsOrder_164 : decode cX4_readsOrder 164 = .ok (.invokevirtual 55, 3) := by decide +kernel
theorem dX4_readsOrder_167 : decode cX4_readsOrder 167 = .ok (.ifCond .eq 7, 3) := by decide +kernel
theorem dX4_readsOrder_170 : decode cX4_readsOrder 170 = .ok (.iconst 1, 1) := by decide +kernel
theorem dX4_readsOrder_171 : decode cX4_readsOrder 171 = .ok (.goto 4, 3) := by decide +kernel
theorem dX4_readsOrder_174 : decode cX4_readsOrder 174 = .ok (.iconst 0, 1) := by decide +kernel
theorem dX4_readsOrder_175 : decode cX4_readsOrder 175 = .ok (.ireturn, 1) := by decide +kernel
theorem dX4_readsOrder_176 : decode cX4_readsOrder 176 = .ok (.aload_n 0, 1) := by decide +kernel
theorem dX4_readsOrder_177 : decode cX4_readsOrder 177 = .ok (.dup, 1) := by decide +kernel
theorem dX4_readsOrder_178 : decode cX4_readsOrder 178 = .ok (.getfield 21, 3) := by decide +kernel
theorem dX4_readsOrder_181 : decode cX4_readsOrder 181 = .ok (.iconst 1, 1) := by decide +kernel
theorem dX4_readsOrder_182 : decode cX4_readsOrder 182 = .ok (.iadd, 1) := by decide +kernel
theorem dX4_readsOrder_183 : decode cX4_readsOrder 183 = .ok (.putfield 21, 3) := by decide +kernel
theorem dX4_readsOrder_186 : decode cX4_readsOrder 186 = .ok (.aload_n 0, 1) := by decide +kernel
theorem dX4_readsOrder_187 : decode cX4_readsOrder 187 = .ok (.bipush 59, 2) := by decide +kernel
theorem dX4_readsOrder_189 : decode cX4_readsOrder 189 = .ok (.invokevirtual 55, 3) := by decide +kernel
theorem dX4_readsOrder_192 : decode cX4_readsOrder 192 = .ok (.ireturn, 1) := by decide +kernel
theorem dX4_readsOrder_193 : decode cX4_readsOrder 193 = .ok (.iconst 0, 1) := by decide +kernel
theorem dX4_readsOrder_194 : decode cX4_readsOrder 194 = .ok (.ireturn, 1) := by decide +kernel
set_option maxRecDepth 20000 in
theorem ggX4_reads_X4_signAtNext : GoodIn wsX4_reads wsX4_signAtNext := goodIn_r _ [6, 1, 7, 8, 9, 10, 11, 12, 13, 14, 15, 16, 17, 18] (by decide +kernel) (by decide +kernel)
set_option maxRecDepth 20000 in
theorem gX4_reads_X4_signAtNext : GoodIn wsX4_reads (wsV RX4 44 RX4 yX4_signAtNext wsX4_signAtNext) := goodIn_app (goodIn_of _ (by decide +kernel)) ggX4_reads_X4_signAtNext
theorem dX4_reads_0 : decode cX4_reads 0 = .ok (.aload_n 0, 1) := by decide +kernel
theorem dX4_reads_1 : decode cX4_reads 1 = .ok (.invokevirtual 44, 3) := by decide +kernel
theorem dX4_reads_4 : decode cX4_reads 4 = .ok (.iload_n 1, 1) := by decide +kernel
theorem dX4_reads_5 : decode cX4_reads 5 = .ok (.if_icmp .eq 5, 3) := by decide +kernel
theorem dX4_reads_8 : decode cX4_reads 8 = .ok (.iconst 0, 1) := by decide +kernel
theorem dX4_reads_9 : decode cX4_reads 9 = .ok (.ireturn, 1) := by decide +kernel
theorem dX4_reads_10 : decode cX4_reads 10 = .ok (.aload_n 0, 1) := by decide +kernel
theorem dX4_reads_11 : decode cX4_reads 11 = .ok (.dup, 1) := by decide +kernel
theorem dX4_reads_12 : decode cX4_reads 12 = .ok (.getfield 21, 3) := by decide +kernel
theorem dX4_reads_15 : decode cX4_reads 15 = .ok (.iconst 1, 1) := by decide +kernel
theorem dX4_reads_16 : decode cX4_reads 16 = .ok (.iadd, 1) := by decide +kernel
theorem dX4_reads_17 : decode cX4_reads 17 = .ok (.putfield 21, 3) := by decide +kernel
theorem dX4_reads_20 : decode cX4_reads 20 = .ok (.iconst 1, 1) := by decide +kernel
theorem dX4_reads_21 : decode cX4_reads 21 = .ok (.ireturn, 1) := by decide +kernel
set_option maxRecDepth 20000 in
theorem ggX4_readsHoles_X4_reads : GoodIn wsX4_readsHoles wsX4_reads := goodIn_r _ [6, 7, 8, 9, 10, 5, 11, 12, 13, 14, 15, 16, 17, 18, 19, 20, 21, 22, 23] (by decide +kernel) (by decide +kernel)
set_option maxRecDepth 20000 in
theorem gX4_readsHoles_X4_reads : GoodIn wsX4_readsHoles (wsV RX4 55 RX4 yX4_reads wsX4_reads) := goodIn_app (goodIn_of _ (by decide +kernel)) ggX4_readsHoles_X4_reads
theorem dX4_readsHoles_0 : decode cX4_readsHoles 0 = .ok (.aload_n 0, 1) := by decide +kernel
theorem dX4_readsHoles_1 : decode cX4_readsHoles 1 = .ok (.iconst 0, 1) := by decide +kernel
theorem dX4_readsHoles_2 : decode cX4_readsHoles 2 = .ok (.putfield 65, 3) := by decide +kernel
theorem dX4_readsHoles_5 : decode cX4_readsHoles 5 = .ok (.iconst 0, 1) := by decide +kernel
theorem dX4_readsHoles_6 : decode cX4_readsHoles 6 = .ok (.istore_n 1, 1) := by decide +kernel
theorem dX4_readsHoles_7 : decode cX4_readsHoles 7 = .ok (.iload_n 1, 1) := by decide +kernel
theorem dX4_readsHoles_8 : decode cX4_readsHoles 8 = .ok (.bipush 8, 2) := by decide +kernel
theorem dX4_readsHoles_10 : decode cX4_readsHoles 10 = .ok (.if_icmp .ge 33, 3) := by decide +kernel
theorem dX4_readsHoles_13 : decode cX4_readsHoles 13 = .ok (.aload_n 0, 1) := by decide +kernel
theorem dX4_readsHoles_14 : decode cX4_readsHoles 14 = .ok (.bipush 48, 2) := by decide +kernel
theorem dX4_readsHoles_16 : decode cX4_readsHoles 16 = .ok (.iload_n 1, 1) := by decide +kernel
theorem dX4_readsHoles_17 : decode cX4_readsHoles 17 = .ok (.iadd, 1) := by decide +kernel
theorem dX4_readsHoles_18 : decode cX4_readsHoles 18 = .ok (.i2c, 1) := by decide +kernel
theorem dX4_readsHoles_19 : decode cX4_readsHoles 19 = .ok (.invokevirtual 55, 3) := by decide +kernel
theorem dX4_readsHoles_22 : decode cX4_readsHoles 22 = .ok (.ifCond .eq 15, 3) := by decide +kernel
theorem dX4_readsHoles_25 : decode cX4_readsHoles 25 = .ok (.aload_n 0, 1) := by decide +kernel
theorem dX4_readsHoles_26 : decode cX4_readsHoles 26 = .ok (.dup, 1) := by decide +kernel
theorem dX4_readsHoles_27 : decode cX4_readsHoles 27 = .ok (.getfield 65, 3) := by decide +kernel
theorem dX4_readsHoles_30 : decode cX4_readsHoles 30 = .ok (.iconst 1, 1) := by decide +kernel
theorem dX4_readsHoles_31 : decode cX4_readsHoles 31 = .ok (.iload_n 1, 1) := by decide +kernel
theorem dX4_readsHoles_32 : decode cX4_readsHoles 32 = .ok (.ishl, 1) := by decide +kernel
theorem dX4_readsHoles_33 : decode cX4_readsHoles 33 = .ok (.ior, 1) := by decide +kernel
theorem dX4_readsHoles_34 : decode cX4_readsHoles 34 = .ok (.putfield 65, 3) := by decide +kernel
theorem dX4_readsHoles_37 : decode cX4_readsHoles 37 = .ok (.iinc 1 1, 3) := by decide +kernel
theorem dX4_readsHoles_40 : decode cX4_readsHoles 40 = .ok (.goto (-33), 3) := by decide +kernel
theorem dX4_readsHoles_43 : decode cX4_readsHoles 43 = .ok (.aload_n 0, 1) := by decide +kernel
theorem dX4_readsHoles_44 : decode cX4_readsHoles 44 = .ok (.getfield 65, 3) := by decide +kernel
theorem dX4_readsHoles_47 : decode cX4_readsHoles 47 = .ok (.ifCond .eq 7, 3) := by decide +kernel
theorem dX4_readsHoles_50 : decode cX4_readsHoles 50 = .ok (.iconst 1, 1) := by decide +kernel
theorem dX4_readsHoles_51 : decode cX4_readsHoles 51 = .ok (.goto 4, 3) := by decide +kernel
theorem dX4_readsHoles_54 : decode cX4_readsHoles 54 = .ok (.iconst 0, 1) := by decide +kernel
theorem dX4_readsHoles_55 : decode cX4_readsHoles 55 = .ok (.ireturn, 1) := by decide +kernel
set_option maxRecDepth 20000 in
theorem ggX4_readsFirst_X4_readNumber : GoodIn wsX4_readsFirst wsX4_readNumber := goodIn_r _ [6, 7, 8, 9, 10, 5, 11, 12, 13, 14, 15, 16, 17, 18, 19, 20, 21, 22, 23, 24, 25, 26, 27] (by decide +kernel) (by decide +kernel)
set_option maxRecDepth 20000 in
theorem gX4_readsFirst_X4_readNumber : GoodIn wsX4_readsFirst (wsV RX4 68 RX4 yX4_readNumber wsX4_readNumber) := goodIn_app (goodIn_of _ (by decide +kernel)) ggX4_readsFirst_X4_readNumber
theorem dX4_readsFirst_0 : decode cX4_readsFirst 0 = .ok (.aload_n 0, 1) := by decide +kernel
theorem dX4_readsFirst_1 : decode cX4_readsFirst 1 = .ok (.aload_n 0, 1) := by decide +kernel
theorem dX4_readsFirst_2 : decode cX4_readsFirst 2 = .ok (.invokevirtual 68, 3) := by decide +kernel
theorem dX4_readsFirst_5 : decode cX4_readsFirst 5 = .ok (.putfield 65, 3) := by decide +kernel
theorem dX4_readsFirst_8 : decode cX4_readsFirst 8 = .ok (.aload_n 0, 1) := by decide +kernel
theorem dX4_readsFirst_9 : decode cX4_readsFirst 9 = .ok (.getfield 65, 3) := by decide +kernel
theorem dX4_readsFirst_12 : decode cX4_readsFirst 12 = .ok (.ifCond .lt 7, 3) := by decide +kernel
theorem dX4_readsFirst_15 : decode cX4_readsFirst 15 = .ok (.iconst 1, 1) := by decide +kernel
theorem dX4_readsFirst_16 : decode cX4_readsFirst 16 = .ok (.goto 4, 3) := by decide +kernel
theorem dX4_readsFirst_19 : decode cX4_readsFirst 19 = .ok (.iconst 0, 1) := by decide +kernel
theorem dX4_readsFirst_20 : decode cX4_readsFirst 20 = .ok (.ireturn, 1) := by decide +kernel
set_option maxRecDepth 20000 in
theorem ggX4_readsSecond_X4_readNumber : GoodIn wsX4_readsSecond wsX4_readNumber := goodIn_r _ [6, 7, 8, 9, 10, 5, 11, 12, 13, 14, 15, 16, 17, 18, 19, 20, 21, 22, 23, 24, 25, 26, 27] (by decide +kernel) (by decide +kernel)
set_option maxRecDepth 20000 in
theorem gX4_readsSecond_X4_readNumber : GoodIn wsX4_readsSecond (wsV RX4 68 RX4 yX4_readNumber wsX4_readNumber) := goodIn_app (goodIn_of _ (by decide +kernel)) ggX4_readsSecond_X4_readNumber
theorem dX4_readsSecond_0 : decode cX4_readsSecond 0 = .ok (.aload_n 0, 1) := by decide +kernel
theorem dX4_readsSecond_1 : decode cX4_readsSecond 1 = .ok (.aload_n 0, 1) := by decide +kernel
theorem dX4_readsSecond_2 : decode cX4_readsSecond 2 = .ok (.invokevirtual 68, 3) := by decide +kernel
theorem dX4_readsSecond_5 : decode cX4_readsSecond 5 = .ok (.putfield 72, 3) := by decide +kernel
theorem dX4_readsSecond_8 : decode cX4_readsSecond 8 = .ok (.aload_n 0, 1) := by decide +kernel
theorem dX4_readsSecond_9 : decode cX4_readsSecond 9 = .ok (.getfield 72, 3) := by decide +kernel
theorem dX4_readsSecond_12 : decode cX4_readsSecond 12 = .ok (.ifCond .lt 7, 3) := by decide +kernel
theorem dX4_readsSecond_15 : decode cX4_readsSecond 15 = .ok (.iconst 1, 1) := by decide +kernel
theorem dX4_readsSecond_16 : decode cX4_readsSecond 16 = .ok (.goto 4, 3) := by decide +kernel
theorem dX4_readsSecond_19 : decode cX4_readsSecond 19 = .ok (.iconst 0, 1) := by decide +kernel
theorem dX4_readsSecond_20 : decode cX4_readsSecond 20 = .ok (.ireturn, 1) := by decide +kernel
set_option maxRecDepth 20000 in
theorem ggX4_readNumber_X4_isDigitNext : GoodIn wsX4_readNumber wsX4_isDigitNext := goodIn_r _ [6, 7, 8, 9, 5, 10, 1, 11, 12, 13, 14, 15, 16, 17, 18, 19, 20, 21, 22] (by decide +kernel) (by decide +kernel)
set_option maxRecDepth 20000 in
theorem gX4_readNumber_X4_isDigitNext : GoodIn wsX4_readNumber (wsV RX4 75 RX4 yX4_isDigitNext wsX4_isDigitNext) := goodIn_app (goodIn_of _ (by decide +kernel)) ggX4_readNumber_X4_isDigitNext
set_option maxRecDepth 20000 in
theorem ggX4_readNumber_X4_signAtNext : GoodIn wsX4_readNumber wsX4_signAtNext := goodIn_r _ [10, 1, 11, 12, 13, 14, 15, 16, 17, 18, 19, 20, 21, 22] (by decide +kernel) (by decide +kernel)
set_option maxRecDepth 20000 in
theorem gX4_readNumber_X4_signAtNext : GoodIn wsX4_readNumber (wsV RX4 44 RX4 yX4_signAtNext wsX4_signAtNext) := goodIn_app (goodIn_of _ (by decide +kernel)) ggX4_readNumber_X4_signAtNext
theorem dX4_readNumber_0 : decode cX4_readNumber 0 = .ok (.aload_n 0, 1) := by decide +kernel
theorem dX4_readNumber_1 : decode cX4_readNumber 1 = .ok (.invokevirtual 75, 3) := by decide +kernel
theorem dX4_readNumber_4 : decode cX4_readNumber 4 = .ok (.ifCond .ne 5, 3) := by decide +kernel
theorem dX4_readNumber_7 : decode cX4_readNumber 7 = .ok (.iconst (-1), 1) := by decide +kernel
theorem dX4_readNumber_8 : decode cX4_readNumber 8 = .ok (.ireturn, 1) := by decide +kernel
theorem dX4_readNumber_9 : decode cX4_readNumber 9 = .ok (.aload_n 0, 1) := by decide +kernel
theorem dX4_readNumber_10 : decode cX4_readNumber 10 = .ok (.invokevirtual 44, 3) := by decide +kernel
theorem dX4_readNumber_13 : decode cX4_readNumber 13 = .ok (.bipush 48, 2) := by decide +kernel
theorem dX4_readNumber_15 : decode cX4_readNumber 15 = .ok (.isub, 1) := by decide +kernel
theorem dX4_readNumber_16 : decode cX4_readNumber 16 = .ok (.istore_n 1, 1) := by decide +kernel
theorem dX4_readNumber_17 : decode cX4_readNumber 17 = .ok (.aload_n 0, 1) := by decide +kernel
theorem dX4_readNumber_18 : decode cX4_readNumber 18 = .ok (.dup, 1) := by decide +kernel
theorem dX4_readNumber_19 : decode cX4_readNumber 19 = .ok (.getfield 21, 3) := by decide +kernel
theorem dX4_readNumber_22 : decode cX4_readNumber 22 = .ok (.iconst 1, 1) := by decide +kernel
theorem dX4_readNumber_23 : decode cX4_readNumber 23 = .ok (.iadd, 1) := by decide +kernel
theorem dX4_readNumber_24 : decode cX4_readNumber 24 = .ok (.putfield 21, 3) := by decide +kernel
theorem dX4_readNumber_27 : decode cX4_readNumber 27 = .ok (.aload_n 0, 1) := by decide +kernel
theorem dX4_readNumber_28 : decode cX4_readNumber 28 = .ok (.invokevirtual 75, 3) := by decide +kernel
theorem dX4_readNumber_31 : decode cX4_readNumber 31 = .ok (.ifCond .eq 26, 3) := by decide +kernel
theorem dX4_readNumber_34 : decode cX4_readNumber 34 = .ok (.bipush 10, 2) := by decide +kernel
theorem dX4_readNumber_36 : decode cX4_readNumber 36 = .ok (.iload_n 1, 1) := by decide +kernel
theorem dX4_readNumber_37 : decode cX4_readNumber 37 = .ok (.imul, 1) := by decide +kernel
theorem dX4_readNumber_38 : decode cX4_readNumber 38 = .ok (.aload_n 0, 1) := by decide +kernel
theorem dX4_readNumber_39 : decode cX4_readNumber 39 = .ok (.invokevirtual 44, 3) := by decide +kernel
theorem dX4_readNumber_42 : decode cX4_readNumber 42 = .ok (.iadd, 1) := by decide +kernel
theorem dX4_readNumber_43 : decode cX4_readNumber 43 = .ok (.bipush 48, 2) := by decide +kernel
theorem dX4_readNumber_45 : decode cX4_readNumber 45 = .ok (.isub, 1) := by decide +kernel
theorem dX4_readNumber_46 : decode cX4_readNumber 46 = .ok (.istore_n 1, 1) := by decide +kernel
theorem dX4_readNumber_47 : decode cX4_readNumber 47 = .ok (.aload_n 0, 1) := by decide +kernel
theorem dX4_readNumber_48 : decode cX4_readNumber 48 = .ok (.dup, 1) := by decide +kernel
theorem dX4_readNumber_49 : decode cX4_readNumber 49 = .ok (.getfield 21, 3) := by decide +kernel
theorem dX4_readNumber_52 : decode cX4_readNumber 52 = .ok (.iconst 1, 1) := by decide +kernel
theorem dX4_readNumber_53 : decode cX4_readNumber 53 = .ok (.iadd, 1) := by decide +kernel
theorem dX4_readNumber_54 : decode cX4_readNumber 54 = .ok (.putfield 21, 3) := by decide +kernel
theorem dX4_readNumber_57 : decode cX4_readNumber 57 = .ok (.iload_n 1, 1) := by decide +kernel
theorem dX4_readNumber_58 : decode cX4_readNumber 58 = .ok (.ireturn, 1) := by decide +kernel
set_option maxRecDepth 20000 in
theorem ggX4_isDigitNext_X4_signAtNext : GoodIn wsX4_isDigitNext wsX4_signAtNext := goodIn_r _ [5, 6, 7, 8, 9, 10, 11, 12, 13, 14, 15, 16, 17, 18] (by decide +kernel) (by decide +kernel)
set_option maxRecDepth 20000 in
theorem gX4_isDigitNext_X4_signAtNext : GoodIn wsX4_isDigitNext (wsV RX4 44 RX4 yX4_signAtNext wsX4_signAtNext) := goodIn_app (goodIn_of _ (by decide +kernel)) ggX4_isDigitNext_X4_signAtNext
theorem dX4_isDigitNext_0 : decode cX4_isDigitNext 0 = .ok (.aload_n 0, 1) := by decide +kernel
theorem dX4_isDigitNext_1 : decode cX4_isDigitNext 1 = .ok (.invokevirtual 44, 3) := by decide +kernel
theorem dX4_isDigitNext_4 : decode cX4_isDigitNext 4 = .ok (.istore_n 1, 1) := by decide +kernel
theorem dX4_isDigitNext_5 : decode cX4_isDigitNext 5 = .ok (.iload_n 1, 1) := by decide +kernel
theorem dX4_isDigitNext_6 : decode cX4_isDigitNext 6 = .ok (.bipush 48, 2) := by decide +kernel
theorem dX4_isDigitNext_8 : decode cX4_isDigitNext 8 = .ok (.if_icmp .lt 13, 3) := by decide +kernel
theorem dX4_isDigitNext_11 : decode cX4_isDigitNext 11 = .ok (.iload_n 1, 1) := by decide +kernel
theorem dX4_isDigitNext_12 : decode cX4_isDigitNext 12 = .ok (.bipush 57, 2) := by decide +kernel
theorem dX4_isDigitNext_14 : decode cX4_isDigitNext 14 = .ok (.if_icmp .gt 7, 3) := by decide +kernel
theorem dX4_isDigitNext_17 : decode cX4_isDigitNext 17 = .ok (.iconst 1, 1) := by decide +kernel
theorem dX4_isDigitNext_18 : decode cX4_isDigitNext 18 = .ok (.goto 4, 3) := by decide +kernel
theorem dX4_isDigitNext_21 : decode cX4_isDigitNext 21 = .ok (.iconst 0, 1) := by decide +kernel
theorem dX4_isDigitNext_22 : decode cX4_isDigitNext 22 = .ok (.ireturn, 1) := by decide +kernel
theorem dX4_signAtNext_0 : decode cX4_signAtNext 0 = .ok (.aload_n 0, 1) := by decide +kernel
theorem dX4_signAtNext_1 : decode cX4_signAtNext 1 = .ok (.getfield 21, 3) := by decide +kernel
theorem dX4_signAtNext_4 : decode cX4_signAtNext 4 = .ok (.ifCond .lt 38, 3) := by decide +kernel
theorem dX4_signAtNext_7 : decode cX4_signAtNext 7 = .ok (.aload_n 0, 1) := by decide +kernel
theorem dX4_signAtNext_8 : decode cX4_signAtNext 8 = .ok (.getfield 21, 3) := by decide +kernel
theorem dX4_signAtNext_11 : decode cX4_signAtNext 11 = .ok (.aload_n 0, 1) := by decide +kernel
theorem dX4_signAtNext_12 : decode cX4_signAtNext 12 = .ok (.getfield 15, 3) := by decide +kernel
theorem dX4_signAtNext_15 : decode cX4_signAtNext 15 = .ok (.if_icmp .ge 27, 3) := by decide +kernel
theorem dX4_signAtNext_18 : decode cX4_signAtNext 18 = .ok (.aload_n 0, 1) := by decide +kernel
theorem dX4_signAtNext_19 : decode cX4_signAtNext 19 = .ok (.getfield 21, 3) := by decide +kernel
theorem dX4_signAtNext_22 : decode cX4_signAtNext 22 = .ok (.aload_n 0, 1) := by decide +kernel
theorem dX4_signAtNext_23 : decode cX4_signAtNext 23 = .ok (.getfield 9, 3) := by decide +kernel
theorem dX4_signAtNext_26 : decode cX4_signAtNext 26 = .ok (.arraylength, 1) := by decide +kernel
theorem dX4_signAtNext_27 : decode cX4_signAtNext 27 = .ok (.if_icmp .ge 15, 3) := by decide +kernel
theorem dX4_signAtNext_30 : decode cX4_signAtNext 30 = .ok (.aload_n 0, 1) := by decide +kernel
theorem dX4_signAtNext_31 : decode cX4_signAtNext 31 = .ok (.getfield 9, 3) := by decide +kernel
theorem dX4_signAtNext_34 : decode cX4_signAtNext 34 = .ok (.aload_n 0, 1) := by decide +kernel
theorem dX4_signAtNext_35 : decode cX4_signAtNext 35 = .ok (.getfield 21, 3) := by decide +kernel
theorem dX4_signAtNext_38 : decode cX4_signAtNext 38 = .ok (.caload, 1) := by decide +kernel
theorem dX4_signAtNext_39 : decode cX4_signAtNext 39 = .ok (.goto 4, 3) := by decide +kernel
theorem dX4_signAtNext_42 : decode cX4_signAtNext 42 = .ok (.iconst 0, 1) := by decide +kernel
theorem dX4_signAtNext_43 : decode cX4_signAtNext 43 = .ok (.ireturn, 1) := by decide +kernel
set_option maxRecDepth 20000 in
theorem ggX4_doneOn_X2_offer : GoodIn wsX4_doneOn wsX2_offer := goodIn_r _ [8, 9, 10, 11, 7, 12, 13, 14, 15, 16, 17, 18, 19, 20, 21, 22, 23, 24, 25, 26, 27, 28, 29, 30, 31, 32, 33, 34, 35, 36, 37, 38, 39, 40, 41, 42, 43, 44, 45, 46, 47, 48, 49, 50, 51, 52, 53, 54, 55, 56, 57, 58, 59, 60, 101, 102, 103, 104, 105, 106, 107, 108] (by decide +kernel) (by decide +kernel)
set_option maxRecDepth 20000 in
theorem gX4_doneOn_X2_offer : GoodIn wsX4_doneOn (wsV RX4 78 RX2 yX2_offer wsX2_offer) := goodIn_app (goodIn_of _ (by decide +kernel)) ggX4_doneOn_X2_offer
set_option maxRecDepth 20000 in
theorem ggX4_doneOn_X2_tune : GoodIn wsX4_doneOn wsX2_tune := goodIn_r _ [64, 42, 13, 101, 102, 103, 104, 105, 106, 107, 108] (by decide +kernel) (by decide +kernel)
set_option maxRecDepth 20000 in
theorem gX4_doneOn_X2_tune : GoodIn wsX4_doneOn (wsV RX4 84 RX2 yX2_tune wsX2_tune) := goodIn_app (goodIn_of _ (by decide +kernel)) ggX4_doneOn_X2_tune
set_option maxRecDepth 20000 in
theorem ggX4_doneOn_X2_dye : GoodIn wsX4_doneOn wsX2_dye := goodIn_r _ [68, 69, 13, 101, 102, 103, 104, 105, 106, 107, 108] (by decide +kernel) (by decide +kernel)
set_option maxRecDepth 20000 in
theorem gX4_doneOn_X2_dye : GoodIn wsX4_doneOn (wsV RX4 88 RX2 yX2_dye wsX2_dye) := goodIn_app (goodIn_of _ (by decide +kernel)) ggX4_doneOn_X2_dye
set_option maxRecDepth 20000 in
theorem ggX4_doneOn_X2_tearOut : GoodIn wsX4_doneOn wsX2_tearOut := goodIn_r _ [73, 13, 21, 74, 75, 76, 7, 77, 43, 44, 45, 46, 47, 78, 79, 80, 81, 52, 53, 54, 55, 101, 102, 103, 104, 105, 106, 107, 108] (by decide +kernel) (by decide +kernel)
set_option maxRecDepth 20000 in
theorem gX4_doneOn_X2_tearOut : GoodIn wsX4_doneOn (wsV RX4 91 RX2 yX2_tearOut wsX2_tearOut) := goodIn_app (goodIn_of _ (by decide +kernel)) ggX4_doneOn_X2_tearOut
set_option maxRecDepth 20000 in
theorem ggX4_doneOn_X2_reverse : GoodIn wsX4_doneOn wsX2_reverse := goodIn_r _ [85, 21, 86, 87, 88, 89, 7, 90, 78, 79, 80, 81, 47, 52, 53, 54, 55, 101, 102, 103, 104, 105, 106, 107, 108] (by decide +kernel) (by decide +kernel)
set_option maxRecDepth 20000 in
theorem gX4_doneOn_X2_reverse : GoodIn wsX4_doneOn (wsV RX4 94 RX2 yX2_reverse wsX2_reverse) := goodIn_app (goodIn_of _ (by decide +kernel)) ggX4_doneOn_X2_reverse
theorem dX4_doneOn_0 : decode cX4_doneOn 0 = .ok (.aload_n 0, 1) := by decide +kernel
theorem dX4_doneOn_1 : decode cX4_doneOn 1 = .ok (.getfield 48, 3) := by decide +kernel
theorem dX4_doneOn_4 : decode cX4_doneOn 4 = .ok (.lookupswitch 88 #[(99, 44), (107, 66), (110, 53), (120, 79)], 44) := by decide +kernel
theorem dX4_doneOn_48 : decode cX4_doneOn 48 = .ok (.aload_n 1, 1) := by decide +kernel
theorem dX4_doneOn_49 : decode cX4_doneOn 49 = .ok (.aload_n 0, 1) := by decide +kernel
theorem dX4_doneOn_50 : decode cX4_doneOn 50 = .ok (.getfield 65, 3) := by decide +kernel
theorem dX4_doneOn_53 : decode cX4_doneOn 53 = .ok (.invokevirtual 78, 3) := by decide +kernel
theorem dX4_doneOn_56 : decode cX4_doneOn 56 = .ok (.ireturn, 1) := by decide +kernel
theorem dX4_doneOn_57 : decode cX4_doneOn 57 = .ok (.aload_n 1, 1) := by decide +kernel
theorem dX4_doneOn_58 : decode cX4_doneOn 58 = .ok (.aload_n 0, 1) := by decide +kernel
theorem dX4_doneOn_59 : decode cX4_doneOn 59 = .ok (.getfield 65, 3) := by decide +kernel
theorem dX4_doneOn_62 : decode cX4_doneOn 62 = .ok (.aload_n 0, 1) := by decide +kernel
theorem dX4_doneOn_63 : decode cX4_doneOn 63 = .ok (.getfield 72, 3) := by decide +kernel
theorem dX4_doneOn_66 : decode cX4_doneOn 66 = .ok (.invokevirtual 84, 3) := by decide +kernel
theorem dX4_doneOn_69 : decode cX4_doneOn 69 = .ok (.ireturn, 1) := by decide +kernel
theorem dX4_doneOn_70 : decode cX4_doneOn 70 = .ok (.aload_n 1, 1) := by decide +kernel
theorem dX4_doneOn_71 : decode cX4_doneOn 71 = .ok (.aload_n 0, 1) := by decide +kernel
theorem dX4_doneOn_72 : decode cX4_doneOn 72 = .ok (.getfield 65, 3) := by decide +kernel
theorem dX4_doneOn_75 : decode cX4_doneOn 75 = .ok (.aload_n 0, 1) := by decide +kernel
theorem dX4_doneOn_76 : decode cX4_doneOn 76 = .ok (.getfield 72, 3) := by decide +kernel
theorem dX4_doneOn_79 : decode cX4_doneOn 79 = .ok (.invokevirtual 88, 3) := by decide +kernel
theorem dX4_doneOn_82 : decode cX4_doneOn 82 = .ok (.ireturn, 1) := by decide +kernel
theorem dX4_doneOn_83 : decode cX4_doneOn 83 = .ok (.aload_n 1, 1) := by decide +kernel
theorem dX4_doneOn_84 : decode cX4_doneOn 84 = .ok (.aload_n 0, 1) := by decide +kernel
theorem dX4_doneOn_85 : decode cX4_doneOn 85 = .ok (.getfield 65, 3) := by decide +kernel
theorem dX4_doneOn_88 : decode cX4_doneOn 88 = .ok (.invokevirtual 91, 3) := by decide +kernel
theorem dX4_doneOn_91 : decode cX4_doneOn 91 = .ok (.ireturn, 1) := by decide +kernel
theorem dX4_doneOn_92 : decode cX4_doneOn 92 = .ok (.aload_n 1, 1) := by decide +kernel
theorem dX4_doneOn_93 : decode cX4_doneOn 93 = .ok (.invokevirtual 94, 3) := by decide +kernel
theorem dX4_doneOn_96 : decode cX4_doneOn 96 = .ok (.ireturn, 1) := by decide +kernel
theorem dX5_init_0 : decode cX5_init 0 = .ok (.aload_n 0, 1) := by decide +kernel
theorem dX5_init_1 : decode cX5_init 1 = .ok (.invokespecial 3, 3) := by decide +kernel
theorem dX5_init_4 : decode cX5_init 4 = .ok (.aload_n 0, 1) := by decide +kernel
theorem dX5_init_5 : decode cX5_init 5 = .ok (.aload_n 1, 1) := by decide +kernel
theorem dX5_init_6 : decode cX5_init 6 = .ok (.putfield 9, 3) := by decide +kernel
theorem dX5_init_9 : decode cX5_init 9 = .ok (.return_, 1) := by decide +kernel
set_option maxRecDepth 20000 in
theorem ggX5_beginsAt_X2_soundsAt : GoodIn wsX5_beginsAt wsX2_soundsAt := goodIn_r _ [6, 7, 8, 9, 5, 10, 11, 12, 13, 14, 15, 17, 18, 19, 20, 21, 22, 23, 24] (by decide +kernel) (by decide +kernel)
set_option maxRecDepth 20000 in
theorem gX5_beginsAt_X2_soundsAt : GoodIn wsX5_beginsAt (wsV RX5 15 RX2 yX2_soundsAt wsX2_soundsAt) := goodIn_app (goodIn_of _ (by decide +kernel)) ggX5_beginsAt_X2_soundsAt
theorem dX5_beginsAt_0 : decode cX5_beginsAt 0 = .ok (.aload_n 0, 1) := by decide +kernel
theorem dX5_beginsAt_1 : decode cX5_beginsAt 1 = .ok (.getfield 9, 3) := by decide +kernel
theorem dX5_beginsAt_4 : decode cX5_beginsAt 4 = .ok (.iload_n 1, 1) := by decide +kernel
theorem dX5_beginsAt_5 : decode cX5_beginsAt 5 = .ok (.iload_n 2, 1) := by decide +kernel
theorem dX5_beginsAt_6 : decode cX5_beginsAt 6 = .ok (.invokevirtual 15, 3) := by decide +kernel
theorem dX5_beginsAt_9 : decode cX5_beginsAt 9 = .ok (.ifCond .eq 21, 3) := by decide +kernel
theorem dX5_beginsAt_12 : decode cX5_beginsAt 12 = .ok (.aload_n 0, 1) := by decide +kernel
theorem dX5_beginsAt_13 : decode cX5_beginsAt 13 = .ok (.getfield 9, 3) := by decide +kernel
theorem dX5_beginsAt_16 : decode cX5_beginsAt 16 = .ok (.iload_n 1, 1) := by decide +kernel
theorem dX5_beginsAt_17 : decode cX5_beginsAt 17 = .ok (.iconst 1, 1) := by decide +kernel
theorem dX5_beginsAt_18 : decode cX5_beginsAt 18 = .ok (.isub, 1) := by decide +kernel
theorem dX5_beginsAt_19 : decode cX5_beginsAt 19 = .ok (.iload_n 2, 1) := by decide +kernel
theorem dX5_beginsAt_20 : decode cX5_beginsAt 20 = .ok (.invokevirtual 15, 3) := by decide +kernel
theorem dX5_beginsAt_23 : decode cX5_beginsAt 23 = .ok (.ifCond .ne 7, 3) := by decide +kernel
theorem dX5_beginsAt_26 : decode cX5_beginsAt 26 = .ok (.iconst 1, 1) := by decide +kernel
theorem dX5_beginsAt_27 : decode cX5_beginsAt 27 = .ok (.goto 4, 3) := by decide +kernel
theorem dX5_beginsAt_30 : decode cX5_beginsAt 30 = .ok (.iconst 0, 1) := by decide +kernel
theorem dX5_beginsAt_31 : decode cX5_beginsAt 31 = .ok (.ireturn, 1) := by decide +kernel
set_option maxRecDepth 20000 in
theorem ggX5_beginningAt_X2_holesAt : GoodIn wsX5_beginningAt wsX2_holesAt := goodIn_r _ [6, 7, 8, 17, 18, 19, 20, 21, 22, 23, 24] (by decide +kernel) (by decide +kernel)
set_option maxRecDepth 20000 in
theorem gX5_beginningAt_X2_holesAt : GoodIn wsX5_beginningAt (wsV RX5 21 RX2 yX2_holesAt wsX2_holesAt) := goodIn_app (goodIn_of _ (by decide +kernel)) ggX5_beginningAt_X2_holesAt
set_option maxRecDepth 20000 in
theorem ggX5_beginningAt_J6_bitCount_0f7a4 : GoodIn wsX5_beginningAt wsJ6_bitCount_0f7a4 := goodIn_r _ [12, 13, 14, 15] (by decide +kernel) (by decide +kernel)
set_option maxRecDepth 20000 in
theorem gX5_beginningAt_J6_bitCount_0f7a4 : GoodIn wsX5_beginningAt (va_wsS RX5 25 yJ6_bitCount_0f7a4 wsJ6_bitCount_0f7a4) := goodIn_app (goodIn_of _ (by decide +kernel)) ggX5_beginningAt_J6_bitCount_0f7a4
theorem dX5_beginningAt_0 : decode cX5_beginningAt 0 = .ok (.aload_n 0, 1) := by decide +kernel
theorem dX5_beginningAt_1 : decode cX5_beginningAt 1 = .ok (.getfield 9, 3) := by decide +kernel
theorem dX5_beginningAt_4 : decode cX5_beginningAt 4 = .ok (.iload_n 1, 1) := by decide +kernel
theorem dX5_beginningAt_5 : decode cX5_beginningAt 5 = .ok (.invokevirtual 21, 3) := by decide +kernel
theorem dX5_beginningAt_8 : decode cX5_beginningAt 8 = .ok (.aload_n 0, 1) := by decide +kernel
theorem dX5_beginningAt_9 : decode cX5_beginningAt 9 = .ok (.getfield 9, 3) := by decide +kernel
theorem dX5_beginningAt_12 : decode cX5_beginningAt 12 = .ok (.iload_n 1, 1) := by decide +kernel
theorem dX5_beginningAt_13 : decode cX5_beginningAt 13 = .ok (.iconst 1, 1) := by decide +kernel
theorem dX5_beginningAt_14 : decode cX5_beginningAt 14 = .ok (.isub, 1) := by decide +kernel
theorem dX5_beginningAt_15 : decode cX5_beginningAt 15 = .ok (.invokevirtual 21, 3) := by decide +kernel
theorem dX5_beginningAt_18 : decode cX5_beginningAt 18 = .ok (.iconst (-1), 1) := by decide +kernel
theorem dX5_beginningAt_19 : decode cX5_beginningAt 19 = .ok (.ixor, 1) := by decide +kernel
theorem dX5_beginningAt_20 : decode cX5_beginningAt 20 = .ok (.iand, 1) := by decide +kernel
theorem dX5_beginningAt_21 : decode cX5_beginningAt 21 = .ok (.invokestatic 25, 3) := by decide +kernel
theorem dX5_beginningAt_24 : decode cX5_beginningAt 24 = .ok (.ireturn, 1) := by decide +kernel
set_option maxRecDepth 20000 in
theorem ggX5_ofThread_X5_beginsAt : GoodIn wsX5_ofThread wsX5_beginsAt := goodIn_r _ [7, 1, 8, 9, 10, 11, 12, 13, 14, 15, 16, 17, 18, 19, 20, 21, 22, 23, 24, 25, 26, 27, 28, 29, 30] (by decide +kernel) (by decide +kernel)
set_option maxRecDepth 20000 in
theorem gX5_ofThread_X5_beginsAt : GoodIn wsX5_ofThread (wsV RX5 34 RX5 yX5_beginsAt wsX5_beginsAt) := goodIn_app (goodIn_of _ (by decide +kernel)) ggX5_ofThread_X5_beginsAt
theorem dX5_ofThread_0 : decode cX5_ofThread 0 = .ok (.iconst 0, 1) := by decide +kernel
theorem dX5_ofThread_1 : decode cX5_ofThread 1 = .ok (.istore_n 2, 1) := by decide +kernel
theorem dX5_ofThread_2 : decode cX5_ofThread 2 = .ok (.iconst 0, 1) := by decide +kernel
theorem dX5_ofThread_3 : decode cX5_ofThread 3 = .ok (.istore_n 3, 1) := by decide +kernel
theorem dX5_ofThread_4 : decode cX5_ofThread 4 = .ok (.iload_n 3, 1) := by decide +kernel
theorem dX5_ofThread_5 : decode cX5_ofThread 5 = .ok (.aload_n 0, 1) := by decide +kernel
theorem dX5_ofThread_6 : decode cX5_ofThread 6 = .ok (.getfield 9, 3) := by decide +kernel
theorem dX5_ofThread_9 : decode cX5_ofThread 9 = .ok (.getfield 30, 3) := by decide +kernel
theorem dX5_ofThread_12 : decode cX5_ofThread 12 = .ok (.if_icmp .ge 21, 3) := by decide +kernel
theorem dX5_ofThread_15 : decode cX5_ofThread 15 = .ok (.aload_n 0, 1) := by decide +kernel
theorem dX5_ofThread_16 : decode cX5_ofThread 16 = .ok (.iload_n 3, 1) := by decide +kernel
theorem dX5_ofThread_17 : decode cX5_ofThread 17 = .ok (.iload_n 1, 1) := by decide +kernel
theorem dX5_ofThread_18 : decode cX5_ofThread 18 = .ok (.invokevirtual 34, 3) := by decide +kernel
theorem dX5_ofThread_21 : decode cX5_ofThread 21 = .ok (.ifCond .eq 6, 3) := by decide +kernel
theorem dX5_ofThread_24 : decode cX5_ofThread 24 = .ok (.iinc 2 1, 3) := by decide +kernel
theorem dX5_ofThread_27 : decode cX5_ofThread 27 = .ok (.iinc 3 1, 3) := by decide +kernel
theorem dX5_ofThread_30 : decode cX5_ofThread 30 = .ok (.goto (-26), 3) := by decide +kernel
theorem dX5_ofThread_33 : decode cX5_ofThread 33 = .ok (.iload_n 2, 1) := by decide +kernel
theorem dX5_ofThread_34 : decode cX5_ofThread 34 = .ok (.ireturn, 1) := by decide +kernel
set_option maxRecDepth 20000 in
theorem ggX5_inAll_X5_beginningAt : GoodIn wsX5_inAll wsX5_beginningAt := goodIn_r _ [7, 1, 8, 9, 10, 11, 12, 13, 14, 15, 16, 17, 18, 19, 20, 21, 22, 23, 24, 25, 26, 27, 28, 29, 30] (by decide +kernel) (by decide +kernel)
set_option maxRecDepth 20000 in
theorem gX5_inAll_X5_beginningAt : GoodIn wsX5_inAll (wsV RX5 37 RX5 yX5_beginningAt wsX5_beginningAt) := goodIn_app (goodIn_of _ (by decide +kernel)) ggX5_inAll_X5_beginningAt
theorem dX5_inAll_0 : decode cX5_inAll 0 = .ok (.iconst 0, 1) := by decide +kernel
theorem dX5_inAll_1 : decode cX5_inAll 1 = .ok (.istore_n 1, 1) := by decide +kernel
theorem dX5_inAll_2 : decode cX5_inAll 2 = .ok (.iconst 0, 1) := by decide +kernel
theorem dX5_inAll_3 : decode cX5_inAll 3 = .ok (.istore_n 2, 1) := by decide +kernel
theorem dX5_inAll_4 : decode cX5_inAll 4 = .ok (.iload_n 2, 1) := by decide +kernel
theorem dX5_inAll_5 : decode cX5_inAll 5 = .ok (.aload_n 0, 1) := by decide +kernel
theorem dX5_inAll_6 : decode cX5_inAll 6 = .ok (.getfield 9, 3) := by decide +kernel
theorem dX5_inAll_9 : decode cX5_inAll 9 = .ok (.getfield 30, 3) := by decide +kernel
theorem dX5_inAll_12 : decode cX5_inAll 12 = .ok (.if_icmp .ge 17, 3) := by decide +kernel
theorem dX5_inAll_15 : decode cX5_inAll 15 = .ok (.iload_n 1, 1) := by decide +kernel
theorem dX5_inAll_16 : decode cX5_inAll 16 = .ok (.aload_n 0, 1) := by decide +kernel
theorem dX5_inAll_17 : decode cX5_inAll 17 = .ok (.iload_n 2, 1) := by decide +kernel
theorem dX5_inAll_18 : decode cX5_inAll 18 = .ok (.invokevirtual 37, 3) := by decide +kernel
theorem dX5_inAll_21 : decode cX5_inAll 21 = .ok (.iadd, 1) := by decide +kernel
theorem dX5_inAll_22 : decode cX5_inAll 22 = .ok (.istore_n 1, 1) := by decide +kernel
theorem dX5_inAll_23 : decode cX5_inAll 23 = .ok (.iinc 2 1, 3) := by decide +kernel
theorem dX5_inAll_26 : decode cX5_inAll 26 = .ok (.goto (-22), 3) := by decide +kernel
theorem dX5_inAll_29 : decode cX5_inAll 29 = .ok (.iload_n 1, 1) := by decide +kernel
theorem dX5_inAll_30 : decode cX5_inAll 30 = .ok (.ireturn, 1) := by decide +kernel
set_option maxRecDepth 20000 in
theorem ggX5_placeOf_X5_beginsAt : GoodIn wsX5_placeOf wsX5_beginsAt := goodIn_r _ [8, 1, 9, 10, 11, 12, 13, 14, 15, 16, 17, 18, 19, 20, 21, 22, 23, 24, 25, 26, 27, 28, 29, 30, 31] (by decide +kernel) (by decide +kernel)
set_option maxRecDepth 20000 in
theorem gX5_placeOf_X5_beginsAt : GoodIn wsX5_placeOf (wsV RX5 34 RX5 yX5_beginsAt wsX5_beginsAt) := goodIn_app (goodIn_of _ (by decide +kernel)) ggX5_placeOf_X5_beginsAt
theorem dX5_placeOf_0 : decode cX5_placeOf 0 = .ok (.iconst 0, 1) := by decide +kernel
theorem dX5_placeOf_1 : decode cX5_placeOf 1 = .ok (.istore_n 2, 1) := by decide +kernel
theorem dX5_placeOf_2 : decode cX5_placeOf 2 = .ok (.iconst 0, 1) := by decide +kernel
theorem dX5_placeOf_3 : decode cX5_placeOf 3 = .ok (.istore_n 3, 1) := by decide +kernel
theorem dX5_placeOf_4 : decode cX5_placeOf 4 = .ok (.iload_n 3, 1) := by decide +kernel
theorem dX5_placeOf_5 : decode cX5_placeOf 5 = .ok (.aload_n 0, 1) := by decide +kernel
theorem dX5_placeOf_6 : decode cX5_placeOf 6 = .ok (.getfield 9, 3) := by decide +kernel
theorem dX5_placeOf_9 : decode cX5_placeOf 9 = .ok (.getfield 30, 3) := by decide +kernel
theorem dX5_placeOf_12 : decode cX5_placeOf 12 = .ok (.bipush 8, 2) := by decide +kernel
theorem dX5_placeOf_14 : decode cX5_placeOf 14 = .ok (.imul, 1) := by decide +kernel
theorem dX5_placeOf_15 : decode cX5_placeOf 15 = .ok (.if_icmp .ge 34, 3) := by decide +kernel
theorem dX5_placeOf_18 : decode cX5_placeOf 18 = .ok (.aload_n 0, 1) := by decide +kernel
theorem dX5_placeOf_19 : decode cX5_placeOf 19 = .ok (.iload_n 3, 1) := by decide +kernel
theorem dX5_placeOf_20 : decode cX5_placeOf 20 = .ok (.bipush 8, 2) := by decide +kernel
theorem dX5_placeOf_22 : decode cX5_placeOf 22 = .ok (.idiv, 1) := by decide +kernel
theorem dX5_placeOf_23 : decode cX5_placeOf 23 = .ok (.iload_n 3, 1) := by decide +kernel
theorem dX5_placeOf_24 : decode cX5_placeOf 24 = .ok (.bipush 8, 2) := by decide +kernel
theorem dX5_placeOf_26 : decode cX5_placeOf 26 = .ok (.irem, 1) := by decide +kernel
theorem dX5_placeOf_27 : decode cX5_placeOf 27 = .ok (.invokevirtual 34, 3) := by decide +kernel
theorem dX5_placeOf_30 : decode cX5_placeOf 30 = .ok (.ifCond .eq 13, 3) := by decide +kernel
theorem dX5_placeOf_33 : decode cX5_placeOf 33 = .ok (.iload_n 2, 1) := by decide +kernel
theorem dX5_placeOf_34 : decode cX5_placeOf 34 = .ok (.iload_n 1, 1) := by decide +kernel
theorem dX5_placeOf_35 : decode cX5_placeOf 35 = .ok (.if_icmp .ne 5, 3) := by decide +kernel
theorem dX5_placeOf_38 : decode cX5_placeOf 38 = .ok (.iload_n 3, 1) := by decide +kernel
theorem dX5_placeOf_39 : decode cX5_placeOf 39 = .ok (.ireturn, 1) := by decide +kernel
theorem dX5_placeOf_40 : decode cX5_placeOf 40 = .ok (.iinc 2 1, 3) := by decide +kernel
theorem dX5_placeOf_43 : decode cX5_placeOf 43 = .ok (.iinc 3 1, 3) := by decide +kernel
theorem dX5_placeOf_46 : decode cX5_placeOf 46 = .ok (.goto (-42), 3) := by decide +kernel
theorem dX5_placeOf_49 : decode cX5_placeOf 49 = .ok (.ldc 40, 2) := by decide +kernel
theorem dX5_placeOf_51 : decode cX5_placeOf 51 = .ok (.ireturn, 1) := by decide +kernel
set_option maxRecDepth 20000 in
theorem ggX5_lengthFrom_X2_soundsAt : GoodIn wsX5_lengthFrom wsX2_soundsAt := goodIn_r _ [7, 8, 9, 10, 6, 11, 12, 13, 14, 15, 16, 18, 19, 20, 21, 22, 23, 24, 25] (by decide +kernel) (by decide +kernel)
set_option maxRecDepth 20000 in
theorem gX5_lengthFrom_X2_soundsAt : GoodIn wsX5_lengthFrom (wsV RX5 15 RX2 yX2_soundsAt wsX2_soundsAt) := goodIn_app (goodIn_of _ (by decide +kernel)) ggX5_lengthFrom_X2_soundsAt
theorem dX5_lengthFrom_0 : decode cX5_lengthFrom 0 = .ok (.iconst 0, 1) := by decide +kernel
theorem dX5_lengthFrom_1 : decode cX5_lengthFrom 1 = .ok (.istore_n 3, 1) := by decide +kernel
theorem dX5_lengthFrom_2 : decode cX5_lengthFrom 2 = .ok (.iload_n 1, 1) := by decide +kernel
theorem dX5_lengthFrom_3 : decode cX5_lengthFrom 3 = .ok (.istore 4, 2) := by decide +kernel
theorem dX5_lengthFrom_5 : decode cX5_lengthFrom 5 = .ok (.iload 4, 2) := by decide +kernel
theorem dX5_lengthFrom_7 : decode cX5_lengthFrom 7 = .ok (.aload_n 0, 1) := by decide +kernel
theorem dX5_lengthFrom_8 : decode cX5_lengthFrom 8 = .ok (.getfield 9, 3) := by decide +kernel
theorem dX5_lengthFrom_11 : decode cX5_lengthFrom 11 = .ok (.getfield 30, 3) := by decide +kernel
theorem dX5_lengthFrom_14 : decode cX5_lengthFrom 14 = .ok (.if_icmp .ge 25, 3) := by decide +kernel
theorem dX5_lengthFrom_17 : decode cX5_lengthFrom 17 = .ok (.aload_n 0, 1) := by decide +kernel
theorem dX5_lengthFrom_18 : decode cX5_lengthFrom 18 = .ok (.getfield 9, 3) := by decide +kernel
theorem dX5_lengthFrom_21 : decode cX5_lengthFrom 21 = .ok (.iload 4, 2) := by decide +kernel
theorem dX5_lengthFrom_23 : decode cX5_lengthFrom 23 = .ok (.iload_n 2, 1) := by decide +kernel
theorem dX5_lengthFrom_24 : decode cX5_lengthFrom 24 = .ok (.invokevirtual 15, 3) := by decide +kernel
theorem dX5_lengthFrom_27 : decode cX5_lengthFrom 27 = .ok (.ifCond .eq 12, 3) := by decide +kernel
theorem dX5_lengthFrom_30 : decode cX5_lengthFrom 30 = .ok (.iinc 3 1, 3) := by decide +kernel
theorem dX5_lengthFrom_33 : decode cX5_lengthFrom 33 = .ok (.iinc 4 1, 3) := by decide +kernel
theorem dX5_lengthFrom_36 : decode cX5_lengthFrom 36 = .ok (.goto (-31), 3) := by decide +kernel
theorem dX5_lengthFrom_39 : decode cX5_lengthFrom 39 = .ok (.iload_n 3, 1) := by decide +kernel
theorem dX5_lengthFrom_40 : decode cX5_lengthFrom 40 = .ok (.ireturn, 1) := by decide +kernel
set_option maxRecDepth 20000 in
theorem ggX5_inKey_X2_noteAt : GoodIn wsX5_inKey wsX2_noteAt := goodIn_r _ [6, 7, 32, 33, 34, 35, 36, 37, 38, 39] (by decide +kernel) (by decide +kernel)
set_option maxRecDepth 20000 in
theorem gX5_inKey_X2_noteAt : GoodIn wsX5_inKey (wsV RX5 41 RX2 yX2_noteAt wsX2_noteAt) := goodIn_app (goodIn_of _ (by decide +kernel)) ggX5_inKey_X2_noteAt
set_option maxRecDepth 20000 in
theorem ggX5_inKey_X6_isIn : GoodIn wsX5_inKey wsX6_isIn := goodIn_r _ [10] (by decide +kernel) (by decide +kernel)
set_option maxRecDepth 20000 in
theorem gX5_inKey_X6_isIn_n44 : GoodIn wsX5_inKey (wsX6_isIn) := ggX5_inKey_X6_isIn
set_option maxRecDepth 20000 in
theorem ggX5_inKey_X5_ofThread : GoodIn wsX5_inKey wsX5_ofThread := goodIn_r _ [15, 1, 16, 17, 18, 19, 14, 20, 21, 22, 23, 5, 24, 25, 26, 27, 28, 29, 30, 8, 9, 10, 31, 32, 33, 34, 35, 36, 37, 38, 39] (by decide +kernel) (by decide +kernel)
set_option maxRecDepth 20000 in
theorem gX5_inKey_X5_ofThread : GoodIn wsX5_inKey (wsV RX5 47 RX5 yX5_ofThread wsX5_ofThread) := goodIn_app (goodIn_of _ (by decide +kernel)) ggX5_inKey_X5_ofThread
theorem dX5_inKey_0 : decode cX5_inKey 0 = .ok (.iconst 0, 1) := by decide +kernel
theorem dX5_inKey_1 : decode cX5_inKey 1 = .ok (.istore_n 2, 1) := by decide +kernel
theorem dX5_inKey_2 : decode cX5_inKey 2 = .ok (.iconst 0, 1) := by decide +kernel
theorem dX5_inKey_3 : decode cX5_inKey 3 = .ok (.istore_n 3, 1) := by decide +kernel
theorem dX5_inKey_4 : decode cX5_inKey 4 = .ok (.iload_n 3, 1) := by decide +kernel
theorem dX5_inKey_5 : decode cX5_inKey 5 = .ok (.bipush 8, 2) := by decide +kernel
theorem dX5_inKey_7 : decode cX5_inKey 7 = .ok (.if_icmp .ge 46, 3) := by decide +kernel
theorem dX5_inKey_10 : decode cX5_inKey 10 = .ok (.aload_n 0, 1) := by decide +kernel
theorem dX5_inKey_11 : decode cX5_inKey 11 = .ok (.getfield 9, 3) := by decide +kernel
theorem dX5_inKey_14 : decode cX5_inKey 14 = .ok (.iload_n 3, 1) := by decide +kernel
theorem dX5_inKey_15 : decode cX5_inKey 15 = .ok (.invokevirtual 41, 3) := by decide +kernel
theorem dX5_inKey_18 : decode cX5_inKey 18 = .ok (.bipush 12, 2) := by decide +kernel
theorem dX5_inKey_20 : decode cX5_inKey 20 = .ok (.iadd, 1) := by decide +kernel
theorem dX5_inKey_21 : decode cX5_inKey 21 = .ok (.iload_n 1, 1) := by decide +kernel
theorem dX5_inKey_22 : decode cX5_inKey 22 = .ok (.isub, 1) := by decide +kernel
theorem dX5_inKey_23 : decode cX5_inKey 23 = .ok (.bipush 12, 2) := by decide +kernel
theorem dX5_inKey_25 : decode cX5_inKey 25 = .ok (.irem, 1) := by decide +kernel
theorem dX5_inKey_26 : decode cX5_inKey 26 = .ok (.istore 4, 2) := by decide +kernel
theorem dX5_inKey_28 : decode cX5_inKey 28 = .ok (.sipush 2741, 3) := by decide +kernel
theorem dX5_inKey_31 : decode cX5_inKey 31 = .ok (.iload 4, 2) := by decide +kernel
theorem dX5_inKey_33 : decode cX5_inKey 33 = .ok (.invokestatic 44, 3) := by decide +kernel
theorem dX5_inKey_36 : decode cX5_inKey 36 = .ok (.ifCond .eq 11, 3) := by decide +kernel
theorem dX5_inKey_39 : decode cX5_inKey 39 = .ok (.iload_n 2, 1) := by decide +kernel
theorem dX5_inKey_40 : decode cX5_inKey 40 = .ok (.aload_n 0, 1) := by decide +kernel
theorem dX5_inKey_41 : decode cX5_inKey 41 = .ok (.iload_n 3, 1) := by decide +kernel
theorem dX5_inKey_42 : decode cX5_inKey 42 = .ok (.invokevirtual 47, 3) := by decide +kernel
theorem dX5_inKey_45 : decode cX5_inKey 45 = .ok (.iadd, 1) := by decide +kernel
theorem dX5_inKey_46 : decode cX5_inKey 46 = .ok (.istore_n 2, 1) := by decide +kernel
theorem dX5_inKey_47 : decode cX5_inKey 47 = .ok (.iinc 3 1, 3) := by decide +kernel
theorem dX5_inKey_50 : decode cX5_inKey 50 = .ok (.goto (-46), 3) := by decide +kernel
theorem dX5_inKey_53 : decode cX5_inKey 53 = .ok (.iload_n 2, 1) := by decide +kernel
theorem dX5_inKey_54 : decode cX5_inKey 54 = .ok (.ireturn, 1) := by decide +kernel
set_option maxRecDepth 20000 in
theorem ggX6_mirrored_X6_isIn : GoodIn wsX6_mirrored wsX6_isIn := goodIn_r _ [4] (by decide +kernel) (by decide +kernel)
set_option maxRecDepth 20000 in
theorem gX6_mirrored_X6_isIn : GoodIn wsX6_mirrored (va_wsS RX6 252 yX6_isIn wsX6_isIn) := goodIn_app (goodIn_of _ (by decide +kernel)) ggX6_mirrored_X6_isIn
theorem dX6_mirrored_0 : decode cX6_mirrored 0 = .ok (.iconst 0, 1) := by decide +kernel
theorem dX6_mirrored_1 : decode cX6_mirrored 1 = .ok (.istore_n 1, 1) := by decide +kernel
theorem dX6_mirrored_2 : decode cX6_mirrored 2 = .ok (.iconst 0, 1) := by decide +kernel
theorem dX6_mirrored_3 : decode cX6_mirrored 3 = .ok (.istore_n 2, 1) := by decide +kernel
theorem dX6_mirrored_4 : decode cX6_mirrored 4 = .ok (.iload_n 2, 1) := by decide +kernel
theorem dX6_mirrored_5 : decode cX6_mirrored 5 = .ok (.bipush 8, 2) := by decide +kernel
theorem dX6_mirrored_7 : decode cX6_mirrored 7 = .ok (.if_icmp .ge 26, 3) := by decide +kernel
theorem dX6_mirrored_10 : decode cX6_mirrored 10 = .ok (.iload_n 0, 1) := by decide +kernel
theorem dX6_mirrored_11 : decode cX6_mirrored 11 = .ok (.iload_n 2, 1) := by decide +kernel
theorem dX6_mirrored_12 : decode cX6_mirrored 12 = .ok (.invokestatic 252, 3) := by decide +kernel
theorem dX6_mirrored_15 : decode cX6_mirrored 15 = .ok (.ifCond .eq 12, 3) := by decide +kernel
theorem dX6_mirrored_18 : decode cX6_mirrored 18 = .ok (.iload_n 1, 1) := by decide +kernel
theorem dX6_mirrored_19 : decode cX6_mirrored 19 = .ok (.iconst 1, 1) := by decide +kernel
theorem dX6_mirrored_20 : decode cX6_mirrored 20 = .ok (.bipush 7, 2) := by decide +kernel
theorem dX6_mirrored_22 : decode cX6_mirrored 22 = .ok (.iload_n 2, 1) := by decide +kernel
theorem dX6_mirrored_23 : decode cX6_mirrored 23 = .ok (.isub, 1) := by decide +kernel
theorem dX6_mirrored_24 : decode cX6_mirrored 24 = .ok (.ishl, 1) := by decide +kernel
theorem dX6_mirrored_25 : decode cX6_mirrored 25 = .ok (.ior, 1) := by decide +kernel
theorem dX6_mirrored_26 : decode cX6_mirrored 26 = .ok (.istore_n 1, 1) := by decide +kernel
theorem dX6_mirrored_27 : decode cX6_mirrored 27 = .ok (.iinc 2 1, 3) := by decide +kernel
theorem dX6_mirrored_30 : decode cX6_mirrored 30 = .ok (.goto (-26), 3) := by decide +kernel
theorem dX6_mirrored_33 : decode cX6_mirrored 33 = .ok (.iload_n 1, 1) := by decide +kernel
theorem dX6_mirrored_34 : decode cX6_mirrored 34 = .ok (.ireturn, 1) := by decide +kernel
theorem dX6_isIn_0 : decode cX6_isIn 0 = .ok (.iload_n 0, 1) := by decide +kernel
theorem dX6_isIn_1 : decode cX6_isIn 1 = .ok (.iload_n 1, 1) := by decide +kernel
theorem dX6_isIn_2 : decode cX6_isIn 2 = .ok (.ishr, 1) := by decide +kernel
theorem dX6_isIn_3 : decode cX6_isIn 3 = .ok (.iconst 1, 1) := by decide +kernel
theorem dX6_isIn_4 : decode cX6_isIn 4 = .ok (.iand, 1) := by decide +kernel
theorem dX6_isIn_5 : decode cX6_isIn 5 = .ok (.iconst 1, 1) := by decide +kernel
theorem dX6_isIn_6 : decode cX6_isIn 6 = .ok (.if_icmp .ne 7, 3) := by decide +kernel
theorem dX6_isIn_9 : decode cX6_isIn 9 = .ok (.iconst 1, 1) := by decide +kernel
theorem dX6_isIn_10 : decode cX6_isIn 10 = .ok (.goto 4, 3) := by decide +kernel
theorem dX6_isIn_13 : decode cX6_isIn 13 = .ok (.iconst 0, 1) := by decide +kernel
theorem dX6_isIn_14 : decode cX6_isIn 14 = .ok (.ireturn, 1) := by decide +kernel
theorem dJ6_bitCount_0f7a4_0 : decode cJ6_bitCount_0f7a4 0 = .ok (.iload_n 0, 1) := by decide +kernel
theorem dJ6_bitCount_0f7a4_1 : decode cJ6_bitCount_0f7a4 1 = .ok (.iload_n 0, 1) := by decide +kernel
theorem dJ6_bitCount_0f7a4_2 : decode cJ6_bitCount_0f7a4 2 = .ok (.iconst 1, 1) := by decide +kernel
theorem dJ6_bitCount_0f7a4_3 : decode cJ6_bitCount_0f7a4 3 = .ok (.iushr, 1) := by decide +kernel
theorem dJ6_bitCount_0f7a4_4 : decode cJ6_bitCount_0f7a4 4 = .ok (.ldc_w 265, 3) := by decide +kernel
theorem dJ6_bitCount_0f7a4_7 : decode cJ6_bitCount_0f7a4 7 = .ok (.iand, 1) := by decide +kernel
theorem dJ6_bitCount_0f7a4_8 : decode cJ6_bitCount_0f7a4 8 = .ok (.isub, 1) := by decide +kernel
theorem dJ6_bitCount_0f7a4_9 : decode cJ6_bitCount_0f7a4 9 = .ok (.istore_n 0, 1) := by decide +kernel
theorem dJ6_bitCount_0f7a4_10 : decode cJ6_bitCount_0f7a4 10 = .ok (.iload_n 0, 1) := by decide +kernel
theorem dJ6_bitCount_0f7a4_11 : decode cJ6_bitCount_0f7a4 11 = .ok (.ldc_w 266, 3) := by decide +kernel
theorem dJ6_bitCount_0f7a4_14 : decode cJ6_bitCount_0f7a4 14 = .ok (.iand, 1) := by decide +kernel
theorem dJ6_bitCount_0f7a4_15 : decode cJ6_bitCount_0f7a4 15 = .ok (.iload_n 0, 1) := by decide +kernel
theorem dJ6_bitCount_0f7a4_16 : decode cJ6_bitCount_0f7a4 16 = .ok (.iconst 2, 1) := by decide +kernel
theorem dJ6_bitCount_0f7a4_17 : decode cJ6_bitCount_0f7a4 17 = .ok (.iushr, 1) := by decide +kernel
theorem dJ6_bitCount_0f7a4_18 : decode cJ6_bitCount_0f7a4 18 = .ok (.ldc_w 266, 3) := by decide +kernel
theorem dJ6_bitCount_0f7a4_21 : decode cJ6_bitCount_0f7a4 21 = .ok (.iand, 1) := by decide +kernel
theorem dJ6_bitCount_0f7a4_22 : decode cJ6_bitCount_0f7a4 22 = .ok (.iadd, 1) := by decide +kernel
theorem dJ6_bitCount_0f7a4_23 : decode cJ6_bitCount_0f7a4 23 = .ok (.istore_n 0, 1) := by decide +kernel
theorem dJ6_bitCount_0f7a4_24 : decode cJ6_bitCount_0f7a4 24 = .ok (.iload_n 0, 1) := by decide +kernel
theorem dJ6_bitCount_0f7a4_25 : decode cJ6_bitCount_0f7a4 25 = .ok (.iload_n 0, 1) := by decide +kernel
theorem dJ6_bitCount_0f7a4_26 : decode cJ6_bitCount_0f7a4 26 = .ok (.iconst 4, 1) := by decide +kernel
theorem dJ6_bitCount_0f7a4_27 : decode cJ6_bitCount_0f7a4 27 = .ok (.iushr, 1) := by decide +kernel
theorem dJ6_bitCount_0f7a4_28 : decode cJ6_bitCount_0f7a4 28 = .ok (.iadd, 1) := by decide +kernel
theorem dJ6_bitCount_0f7a4_29 : decode cJ6_bitCount_0f7a4 29 = .ok (.ldc_w 267, 3) := by decide +kernel
theorem dJ6_bitCount_0f7a4_32 : decode cJ6_bitCount_0f7a4 32 = .ok (.iand, 1) := by decide +kernel
theorem dJ6_bitCount_0f7a4_33 : decode cJ6_bitCount_0f7a4 33 = .ok (.istore_n 0, 1) := by decide +kernel
theorem dJ6_bitCount_0f7a4_34 : decode cJ6_bitCount_0f7a4 34 = .ok (.iload_n 0, 1) := by decide +kernel
theorem dJ6_bitCount_0f7a4_35 : decode cJ6_bitCount_0f7a4 35 = .ok (.iload_n 0, 1) := by decide +kernel
theorem dJ6_bitCount_0f7a4_36 : decode cJ6_bitCount_0f7a4 36 = .ok (.bipush 8, 2) := by decide +kernel
theorem dJ6_bitCount_0f7a4_38 : decode cJ6_bitCount_0f7a4 38 = .ok (.iushr, 1) := by decide +kernel
theorem dJ6_bitCount_0f7a4_39 : decode cJ6_bitCount_0f7a4 39 = .ok (.iadd, 1) := by decide +kernel
theorem dJ6_bitCount_0f7a4_40 : decode cJ6_bitCount_0f7a4 40 = .ok (.istore_n 0, 1) := by decide +kernel
theorem dJ6_bitCount_0f7a4_41 : decode cJ6_bitCount_0f7a4 41 = .ok (.iload_n 0, 1) := by decide +kernel
theorem dJ6_bitCount_0f7a4_42 : decode cJ6_bitCount_0f7a4 42 = .ok (.iload_n 0, 1) := by decide +kernel
theorem dJ6_bitCount_0f7a4_43 : decode cJ6_bitCount_0f7a4 43 = .ok (.bipush 16, 2) := by decide +kernel
theorem dJ6_bitCount_0f7a4_45 : decode cJ6_bitCount_0f7a4 45 = .ok (.iushr, 1) := by decide +kernel
theorem dJ6_bitCount_0f7a4_46 : decode cJ6_bitCount_0f7a4 46 = .ok (.iadd, 1) := by decide +kernel
theorem dJ6_bitCount_0f7a4_47 : decode cJ6_bitCount_0f7a4 47 = .ok (.istore_n 0, 1) := by decide +kernel
theorem dJ6_bitCount_0f7a4_48 : decode cJ6_bitCount_0f7a4 48 = .ok (.iload_n 0, 1) := by decide +kernel
theorem dJ6_bitCount_0f7a4_49 : decode cJ6_bitCount_0f7a4 49 = .ok (.bipush 63, 2) := by decide +kernel
theorem dJ6_bitCount_0f7a4_51 : decode cJ6_bitCount_0f7a4 51 = .ok (.iand, 1) := by decide +kernel
theorem dJ6_bitCount_0f7a4_52 : decode cJ6_bitCount_0f7a4 52 = .ok (.ireturn, 1) := by decide +kernel
theorem dJ9_max_7cf53_0 : decode cJ9_max_7cf53 0 = .ok (.iload_n 0, 1) := by decide +kernel
theorem dJ9_max_7cf53_1 : decode cJ9_max_7cf53 1 = .ok (.iload_n 1, 1) := by decide +kernel
theorem dJ9_max_7cf53_2 : decode cJ9_max_7cf53 2 = .ok (.if_icmp .lt 7, 3) := by decide +kernel
theorem dJ9_max_7cf53_5 : decode cJ9_max_7cf53 5 = .ok (.iload_n 0, 1) := by decide +kernel
theorem dJ9_max_7cf53_6 : decode cJ9_max_7cf53 6 = .ok (.goto 4, 3) := by decide +kernel
theorem dJ9_max_7cf53_9 : decode cJ9_max_7cf53 9 = .ok (.iload_n 1, 1) := by decide +kernel
theorem dJ9_max_7cf53_10 : decode cJ9_max_7cf53 10 = .ok (.ireturn, 1) := by decide +kernel
theorem dJ9_min_7cf53_0 : decode cJ9_min_7cf53 0 = .ok (.iload_n 0, 1) := by decide +kernel
theorem dJ9_min_7cf53_1 : decode cJ9_min_7cf53 1 = .ok (.iload_n 1, 1) := by decide +kernel
theorem dJ9_min_7cf53_2 : decode cJ9_min_7cf53 2 = .ok (.if_icmp .gt 7, 3) := by decide +kernel
theorem dJ9_min_7cf53_5 : decode cJ9_min_7cf53 5 = .ok (.iload_n 0, 1) := by decide +kernel
theorem dJ9_min_7cf53_6 : decode cJ9_min_7cf53 6 = .ok (.goto 4, 3) := by decide +kernel
theorem dJ9_min_7cf53_9 : decode cJ9_min_7cf53 9 = .ok (.iload_n 1, 1) := by decide +kernel
theorem dJ9_min_7cf53_10 : decode cJ9_min_7cf53 10 = .ok (.ireturn, 1) := by decide +kernel
