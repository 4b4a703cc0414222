theorem dX7_puts_15 : decode cX7_puts 15 = .ok (.ireturn, 1) := by decide +kernel
set_option maxRecDepth 20000 in
theorem ggX7_note_X7_in : GoodIn wsX7_note wsX7_in := goodIn_r _ [5] (by decide +kernel) (by decide +kernel)
set_option maxRecDepth 20000 in
theorem gX7_note_X7_in : GoodIn wsX7_note (va_wsS RX7 22 yX7_in wsX7_in) := goodIn_app (goodIn_of _ (by decide +kernel)) ggX7_note_X7_in
set_option maxRecDepth 20000 in
theorem ggX7_note_X7_know : GoodIn wsX7_note wsX7_know := goodIn_r _ [9, 10, 11, 12, 17, 18, 19, 20, 21, 22, 23, 24, 25, 26, 27, 28, 29, 30] (by decide +kernel) (by decide +kernel)
set_option maxRecDepth 20000 in
theorem gX7_note_X7_know : GoodIn wsX7_note (wsV RX7 57 RX7 yX7_know wsX7_know) := goodIn_app (goodIn_of _ (by decide +kernel)) ggX7_note_X7_know
set_option maxRecDepth 20000 in
theorem ggX7_note_X7_puts : GoodIn wsX7_note wsX7_puts := goodIn_r _ [16, 12, 17, 18, 19, 20, 21, 22, 23, 24, 25, 26, 27, 28, 29, 30] (by decide +kernel) (by decide +kernel)
set_option maxRecDepth 20000 in
theorem gX7_note_X7_puts : GoodIn wsX7_note (wsV RX7 60 RX7 yX7_puts wsX7_puts) := goodIn_app (goodIn_of _ (by decide +kernel)) ggX7_note_X7_puts
theorem dX7_note_0 : decode cX7_note 0 = .ok (.iload_n 1, 1) := by decide +kernel
theorem dX7_note_1 : decode cX7_note 1 = .ok (.iconst 0, 1) := by decide +kernel
theorem dX7_note_2 : decode cX7_note 2 = .ok (.bipush 7, 2) := by decide +kernel
theorem dX7_note_4 : decode cX7_note 4 = .ok (.invokestatic 22, 3) := by decide +kernel
theorem dX7_note_7 : decode cX7_note 7 = .ok (.ifCond .eq 13, 3) := by decide +kernel
theorem dX7_note_10 : decode cX7_note 10 = .ok (.iload_n 2, 1) := by decide +kernel
theorem dX7_note_11 : decode cX7_note 11 = .ok (.iconst 0, 1) := by decide +kernel
theorem dX7_note_12 : decode cX7_note 12 = .ok (.bipush 47, 2) := by decide +kernel
theorem dX7_note_14 : decode cX7_note 14 = .ok (.invokestatic 22, 3) := by decide +kernel
theorem dX7_note_17 : decode cX7_note 17 = .ok (.ifCond .ne 6, 3) := by decide +kernel
theorem dX7_note_20 : decode cX7_note 20 = .ok (.ldc 51, 2) := by decide +kernel
theorem dX7_note_22 : decode cX7_note 22 = .ok (.ireturn, 1) := by decide +kernel
theorem dX7_note_23 : decode cX7_note 23 = .ok (.aload_n 0, 1) := by decide +kernel
theorem dX7_note_24 : decode cX7_note 24 = .ok (.invokevirtual 57, 3) := by decide +kernel
theorem dX7_note_27 : decode cX7_note 27 = .ok (.aload_n 0, 1) := by decide +kernel
theorem dX7_note_28 : decode cX7_note 28 = .ok (.iconst 0, 1) := by decide +kernel
theorem dX7_note_29 : decode cX7_note 29 = .ok (.iload_n 1, 1) := by decide +kernel
theorem dX7_note_30 : decode cX7_note 30 = .ok (.iadd, 1) := by decide +kernel
theorem dX7_note_31 : decode cX7_note 31 = .ok (.iload_n 2, 1) := by decide +kernel
theorem dX7_note_32 : decode cX7_note 32 = .ok (.invokevirtual 60, 3) := by decide +kernel
theorem dX7_note_35 : decode cX7_note 35 = .ok (.ireturn, 1) := by decide +kernel
set_option maxRecDepth 20000 in
theorem ggX7_colour_X7_in : GoodIn wsX7_colour wsX7_in := goodIn_r _ [5] (by decide +kernel) (by decide +kernel)
set_option maxRecDepth 20000 in
theorem gX7_colour_X7_in : GoodIn wsX7_colour (va_wsS RX7 22 yX7_in wsX7_in) := goodIn_app (goodIn_of _ (by decide +kernel)) ggX7_colour_X7_in
set_option maxRecDepth 20000 in
theorem ggX7_colour_X7_know : GoodIn wsX7_colour wsX7_know := goodIn_r _ [9, 10, 11, 12, 17, 18, 19, 20, 21, 22, 23, 24, 25, 26, 27, 28, 29, 30] (by decide +kernel) (by decide +kernel)
set_option maxRecDepth 20000 in
theorem gX7_colour_X7_know : GoodIn wsX7_colour (wsV RX7 57 RX7 yX7_know wsX7_know) := goodIn_app (goodIn_of _ (by decide +kernel)) ggX7_colour_X7_know
set_option maxRecDepth 20000 in
theorem ggX7_colour_X7_puts : GoodIn wsX7_colour wsX7_puts := goodIn_r _ [16, 12, 17, 18, 19, 20, 21, 22, 23, 24, 25, 26, 27, 28, 29, 30] (by decide +kernel) (by decide +kernel)
set_option maxRecDepth 20000 in
theorem gX7_colour_X7_puts : GoodIn wsX7_colour (wsV RX7 60 RX7 yX7_puts wsX7_puts) := goodIn_app (goodIn_of _ (by decide +kernel)) ggX7_colour_X7_puts
theorem dX7_colour_0 : decode cX7_colour 0 = .ok (.iload_n 1, 1) := by decide +kernel
theorem dX7_colour_1 : decode cX7_colour 1 = .ok (.iconst 0, 1) := by decide +kernel
theorem dX7_colour_2 : decode cX7_colour 2 = .ok (.bipush 7, 2) := by decide +kernel
theorem dX7_colour_4 : decode cX7_colour 4 = .ok (.invokestatic 22, 3) := by decide +kernel
theorem dX7_colour_7 : decode cX7_colour 7 = .ok (.ifCond .eq 12, 3) := by decide +kernel
theorem dX7_colour_10 : decode cX7_colour 10 = .ok (.iload_n 2, 1) := by decide +kernel
theorem dX7_colour_11 : decode cX7_colour 11 = .ok (.iconst 0, 1) := by decide +kernel
theorem dX7_colour_12 : decode cX7_colour 12 = .ok (.iconst 3, 1) := by decide +kernel
theorem dX7_colour_13 : decode cX7_colour 13 = .ok (.invokestatic 22, 3) := by decide +kernel
theorem dX7_colour_16 : decode cX7_colour 16 = .ok (.ifCond .ne 6, 3) := by decide +kernel
theorem dX7_colour_19 : decode cX7_colour 19 = .ok (.ldc 51, 2) := by decide +kernel
theorem dX7_colour_21 : decode cX7_colour 21 = .ok (.ireturn, 1) := by decide +kernel
theorem dX7_colour_22 : decode cX7_colour 22 = .ok (.aload_n 0, 1) := by decide +kernel
theorem dX7_colour_23 : decode cX7_colour 23 = .ok (.invokevirtual 57, 3) := by decide +kernel
theorem dX7_colour_26 : decode cX7_colour 26 = .ok (.aload_n 0, 1) := by decide +kernel
theorem dX7_colour_27 : decode cX7_colour 27 = .ok (.bipush 8, 2) := by decide +kernel
theorem dX7_colour_29 : decode cX7_colour 29 = .ok (.iload_n 1, 1) := by decide +kernel
theorem dX7_colour_30 : decode cX7_colour 30 = .ok (.iadd, 1) := by decide +kernel
theorem dX7_colour_31 : decode cX7_colour 31 = .ok (.iload_n 2, 1) := by decide +kernel
theorem dX7_colour_32 : decode cX7_colour 32 = .ok (.invokevirtual 60, 3) := by decide +kernel
theorem dX7_colour_35 : decode cX7_colour 35 = .ok (.ireturn, 1) := by decide +kernel
set_option maxRecDepth 20000 in
theorem ggX7_bring_X7_bringFault : GoodIn wsX7_bring wsX7_bringFault := goodIn_r _ [5, 6, 7, 8, 9, 10, 4, 11, 44, 45, 46, 47, 48, 49, 50, 51, 52, 53, 54, 55, 56, 57] (by decide +kernel) (by decide +kernel)
set_option maxRecDepth 20000 in
theorem gX7_bring_X7_bringFault : GoodIn wsX7_bring (wsV RX7 64 RX7 yX7_bringFault wsX7_bringFault) := goodIn_app (goodIn_of _ (by decide +kernel)) ggX7_bring_X7_bringFault
set_option maxRecDepth 20000 in
theorem ggX7_bring_X7_know : GoodIn wsX7_bring wsX7_know := goodIn_r _ [15, 16, 17, 7, 44, 45, 46, 47, 48, 49, 50, 51, 52, 53, 54, 55, 56, 57] (by decide +kernel) (by decide +kernel)
set_option maxRecDepth 20000 in
theorem gX7_bring_X7_know : GoodIn wsX7_bring (wsV RX7 57 RX7 yX7_know wsX7_know) := goodIn_app (goodIn_of _ (by decide +kernel)) ggX7_bring_X7_know
set_option maxRecDepth 20000 in
theorem ggX7_bring_X7_brings : GoodIn wsX7_bring wsX7_brings := goodIn_r _ [21, 7, 22, 23, 24, 4, 25, 26, 27, 28, 29, 30, 31, 32, 33, 34, 35, 36, 37, 38, 39, 40, 41, 42, 43, 44, 45, 46, 47, 48, 49, 50, 51, 52, 53, 54, 55, 56, 57] (by decide +kernel) (by decide +kernel)
set_option maxRecDepth 20000 in
theorem gX7_bring_X7_brings : GoodIn wsX7_bring (wsV RX7 67 RX7 yX7_brings wsX7_brings) := goodIn_app (goodIn_of _ (by decide +kernel)) ggX7_bring_X7_brings
theorem dX7_bring_0 : decode cX7_bring 0 = .ok (.aload_n 0, 1) := by decide +kernel
theorem dX7_bring_1 : decode cX7_bring 1 = .ok (.iload_n 1, 1) := by decide +kernel
theorem dX7_bring_2 : decode cX7_bring 2 = .ok (.invokevirtual 64, 3) := by decide +kernel
theorem dX7_bring_5 : decode cX7_bring 5 = .ok (.istore_n 2, 1) := by decide +kernel
theorem dX7_bring_6 : decode cX7_bring 6 = .ok (.iload_n 2, 1) := by decide +kernel
theorem dX7_bring_7 : decode cX7_bring 7 = .ok (.ifCond .ge 5, 3) := by decide +kernel
theorem dX7_bring_10 : decode cX7_bring 10 = .ok (.iload_n 2, 1) := by decide +kernel
theorem dX7_bring_11 : decode cX7_bring 11 = .ok (.ireturn, 1) := by decide +kernel
theorem dX7_bring_12 : decode cX7_bring 12 = .ok (.aload_n 0, 1) := by decide +kernel
theorem dX7_bring_13 : decode cX7_bring 13 = .ok (.invokevirtual 57, 3) := by decide +kernel
theorem dX7_bring_16 : decode cX7_bring 16 = .ok (.aload_n 0, 1) := by decide +kernel
theorem dX7_bring_17 : decode cX7_bring 17 = .ok (.iload_n 1, 1) := by decide +kernel
theorem dX7_bring_18 : decode cX7_bring 18 = .ok (.invokevirtual 67, 3) := by decide +kernel
theorem dX7_bring_21 : decode cX7_bring 21 = .ok (.ireturn, 1) := by decide +kernel
set_option maxRecDepth 20000 in
theorem ggX7_tear_X7_isCard : GoodIn wsX7_tear wsX7_isCard := goodIn_r _ [6, 7, 8, 9, 5, 10, 21, 22, 23, 24, 25, 26, 27, 28, 29, 30, 31, 32, 33, 34] (by decide +kernel) (by decide +kernel)
set_option maxRecDepth 20000 in
theorem gX7_tear_X7_isCard : GoodIn wsX7_tear (wsV RX7 70 RX7 yX7_isCard wsX7_isCard) := goodIn_app (goodIn_of _ (by decide +kernel)) ggX7_tear_X7_isCard
set_option maxRecDepth 20000 in
theorem ggX7_tear_X7_know : GoodIn wsX7_tear wsX7_know := goodIn_r _ [14, 15, 16, 7, 21, 22, 23, 24, 25, 26, 27, 28, 29, 30, 31, 32, 33, 34] (by decide +kernel) (by decide +kernel)
set_option maxRecDepth 20000 in
theorem gX7_tear_X7_know : GoodIn wsX7_tear (wsV RX7 57 RX7 yX7_know wsX7_know) := goodIn_app (goodIn_of _ (by decide +kernel)) ggX7_tear_X7_know
set_option maxRecDepth 20000 in
theorem ggX7_tear_X7_tears : GoodIn wsX7_tear wsX7_tears := goodIn_r _ [20, 7, 21, 22, 23, 24, 25, 26, 27, 28, 29, 30, 31, 32, 33, 34] (by decide +kernel) (by decide +kernel)
set_option maxRecDepth 20000 in
theorem gX7_tear_X7_tears : GoodIn wsX7_tear (wsV RX7 73 RX7 yX7_tears wsX7_tears) := goodIn_app (goodIn_of _ (by decide +kernel)) ggX7_tear_X7_tears
theorem dX7_tear_0 : decode cX7_tear 0 = .ok (.aload_n 0, 1) := by decide +kernel
theorem dX7_tear_1 : decode cX7_tear 1 = .ok (.iload_n 1, 1) := by decide +kernel
theorem dX7_tear_2 : decode cX7_tear 2 = .ok (.invokevirtual 70, 3) := by decide +kernel
theorem dX7_tear_5 : decode cX7_tear 5 = .ok (.ifCond .ne 6, 3) := by decide +kernel
theorem dX7_tear_8 : decode cX7_tear 8 = .ok (.ldc 51, 2) := by decide +kernel
theorem dX7_tear_10 : decode cX7_tear 10 = .ok (.ireturn, 1) := by decide +kernel
theorem dX7_tear_11 : decode cX7_tear 11 = .ok (.aload_n 0, 1) := by decide +kernel
theorem dX7_tear_12 : decode cX7_tear 12 = .ok (.invokevirtual 57, 3) := by decide +kernel
theorem dX7_tear_15 : decode cX7_tear 15 = .ok (.aload_n 0, 1) := by decide +kernel
theorem dX7_tear_16 : decode cX7_tear 16 = .ok (.iload_n 1, 1) := by decide +kernel
theorem dX7_tear_17 : decode cX7_tear 17 = .ok (.invokevirtual 73, 3) := by decide +kernel
theorem dX7_tear_20 : decode cX7_tear 20 = .ok (.ireturn, 1) := by decide +kernel
set_option maxRecDepth 20000 in
theorem ggX7_swap_X7_isCard : GoodIn wsX7_swap wsX7_isCard := goodIn_r _ [7, 2, 8, 9, 6, 10, 21, 22, 23, 24, 25, 26, 27, 28, 29, 30, 31, 32, 33, 34] (by decide +kernel) (by decide +kernel)
set_option maxRecDepth 20000 in
theorem gX7_swap_X7_isCard : GoodIn wsX7_swap (wsV RX7 70 RX7 yX7_isCard wsX7_isCard) := goodIn_app (goodIn_of _ (by decide +kernel)) ggX7_swap_X7_isCard
set_option maxRecDepth 20000 in
theorem ggX7_swap_X7_know : GoodIn wsX7_swap wsX7_know := goodIn_r _ [14, 15, 16, 2, 21, 22, 23, 24, 25, 26, 27, 28, 29, 30, 31, 32, 33, 34] (by decide +kernel) (by decide +kernel)
set_option maxRecDepth 20000 in
theorem gX7_swap_X7_know : GoodIn wsX7_swap (wsV RX7 57 RX7 yX7_know wsX7_know) := goodIn_app (goodIn_of _ (by decide +kernel)) ggX7_swap_X7_know
set_option maxRecDepth 20000 in
theorem ggX7_swap_X7_exchange : GoodIn wsX7_swap wsX7_exchange := goodIn_r _ [20, 2, 21, 22, 23, 24, 25, 26, 27, 28, 29, 30, 31, 32, 33, 34] (by decide +kernel) (by decide +kernel)
set_option maxRecDepth 20000 in
theorem gX7_swap_X7_exchange : GoodIn wsX7_swap (wsV RX7 53 RX7 yX7_exchange wsX7_exchange) := goodIn_app (goodIn_of _ (by decide +kernel)) ggX7_swap_X7_exchange
theorem dX7_swap_0 : decode cX7_swap 0 = .ok (.aload_n 0, 1) := by decide +kernel
theorem dX7_swap_1 : decode cX7_swap 1 = .ok (.iload_n 1, 1) := by decide +kernel
theorem dX7_swap_2 : decode cX7_swap 2 = .ok (.invokevirtual 70, 3) := by decide +kernel
theorem dX7_swap_5 : decode cX7_swap 5 = .ok (.ifCond .eq 16, 3) := by decide +kernel
theorem dX7_swap_8 : decode cX7_swap 8 = .ok (.aload_n 0, 1) := by decide +kernel
theorem dX7_swap_9 : decode cX7_swap 9 = .ok (.iload_n 2, 1) := by decide +kernel
theorem dX7_swap_10 : decode cX7_swap 10 = .ok (.invokevirtual 70, 3) := by decide +kernel
theorem dX7_swap_13 : decode cX7_swap 13 = .ok (.ifCond .eq 8, 3) := by decide +kernel
theorem dX7_swap_16 : decode cX7_swap 16 = .ok (.iload_n 1, 1) := by decide +kernel
theorem dX7_swap_17 : decode cX7_swap 17 = .ok (.iload_n 2, 1) := by decide +kernel
theorem dX7_swap_18 : decode cX7_swap 18 = .ok (.if_icmp .ne 6, 3) := by decide +kernel
theorem dX7_swap_21 : decode cX7_swap 21 = .ok (.ldc 51, 2) := by decide +kernel
theorem dX7_swap_23 : decode cX7_swap 23 = .ok (.ireturn, 1) := by decide +kernel
theorem dX7_swap_24 : decode cX7_swap 24 = .ok (.aload_n 0, 1) := by decide +kernel
theorem dX7_swap_25 : decode cX7_swap 25 = .ok (.invokevirtual 57, 3) := by decide +kernel
theorem dX7_swap_28 : decode cX7_swap 28 = .ok (.aload_n 0, 1) := by decide +kernel
theorem dX7_swap_29 : decode cX7_swap 29 = .ok (.iload_n 1, 1) := by decide +kernel
theorem dX7_swap_30 : decode cX7_swap 30 = .ok (.iload_n 2, 1) := by decide +kernel
theorem dX7_swap_31 : decode cX7_swap 31 = .ok (.invokevirtual 53, 3) := by decide +kernel
theorem dX7_swap_34 : decode cX7_swap 34 = .ok (.aload_n 0, 1) := by decide +kernel
theorem dX7_swap_35 : decode cX7_swap 35 = .ok (.getfield 7, 3) := by decide +kernel
theorem dX7_swap_38 : decode cX7_swap 38 = .ok (.bipush 17, 2) := by decide +kernel
theorem dX7_swap_40 : decode cX7_swap 40 = .ok (.iload_n 1, 1) := by decide +kernel
theorem dX7_swap_41 : decode cX7_swap 41 = .ok (.iadd, 1) := by decide +kernel
theorem dX7_swap_42 : decode cX7_swap 42 = .ok (.iaload, 1) := by decide +kernel
theorem dX7_swap_43 : decode cX7_swap 43 = .ok (.ireturn, 1) := by decide +kernel
set_option maxRecDepth 20000 in
theorem ggX7_turn_X7_know : GoodIn wsX7_turn wsX7_know := goodIn_r _ [7, 8, 9, 1, 18, 19, 20, 21, 22, 23, 24, 25, 26, 27, 28, 29, 30, 31] (by decide +kernel) (by decide +kernel)
set_option maxRecDepth 20000 in
theorem gX7_turn_X7_know : GoodIn wsX7_turn (wsV RX7 57 RX7 yX7_know wsX7_know) := goodIn_app (goodIn_of _ (by decide +kernel)) ggX7_turn_X7_know
set_option maxRecDepth 20000 in
theorem ggX7_turn_X7_turns : GoodIn wsX7_turn wsX7_turns := goodIn_r _ [13, 1, 14, 15, 16, 6, 17, 18, 19, 20, 21, 22, 23, 24, 25, 26, 27, 28, 29, 30, 31] (by decide +kernel) (by decide +kernel)
set_option maxRecDepth 20000 in
theorem gX7_turn_X7_turns : GoodIn wsX7_turn (wsV RX7 77 RX7 yX7_turns wsX7_turns) := goodIn_app (goodIn_of _ (by decide +kernel)) ggX7_turn_X7_turns
theorem dX7_turn_0 : decode cX7_turn 0 = .ok (.aload_n 0, 1) := by decide +kernel
theorem dX7_turn_1 : decode cX7_turn 1 = .ok (.getfield 7, 3) := by decide +kernel
theorem dX7_turn_4 : decode cX7_turn 4 = .ok (.bipush 16, 2) := by decide +kernel
theorem dX7_turn_6 : decode cX7_turn 6 = .ok (.iaload, 1) := by decide +kernel
theorem dX7_turn_7 : decode cX7_turn 7 = .ok (.iconst 2, 1) := by decide +kernel
theorem dX7_turn_8 : decode cX7_turn 8 = .ok (.if_icmp .ge 6, 3) := by decide +kernel
theorem dX7_turn_11 : decode cX7_turn 11 = .ok (.ldc 76, 2) := by decide +kernel
theorem dX7_turn_13 : decode cX7_turn 13 = .ok (.ireturn, 1) := by decide +kernel
theorem dX7_turn_14 : decode cX7_turn 14 = .ok (.aload_n 0, 1) := by decide +kernel
theorem dX7_turn_15 : decode cX7_turn 15 = .ok (.invokevirtual 57, 3) := by decide +kernel
theorem dX7_turn_18 : decode cX7_turn 18 = .ok (.aload_n 0, 1) := by decide +kernel
theorem dX7_turn_19 : decode cX7_turn 19 = .ok (.invokevirtual 77, 3) := by decide +kernel
theorem dX7_turn_22 : decode cX7_turn 22 = .ok (.ireturn, 1) := by decide +kernel
set_option maxRecDepth 20000 in
theorem ggX7_mirror_X7_know : GoodIn wsX7_mirror wsX7_know := goodIn_r _ [7, 8, 9, 1, 20, 21, 22, 23, 24, 25, 26, 27, 28, 29, 30, 31, 32, 33] (by decide +kernel) (by decide +kernel)
set_option maxRecDepth 20000 in
theorem gX7_mirror_X7_know : GoodIn wsX7_mirror (wsV RX7 57 RX7 yX7_know wsX7_know) := goodIn_app (goodIn_of _ (by decide +kernel)) ggX7_mirror_X7_know
set_option maxRecDepth 20000 in
theorem ggX7_mirror_X7_mirrored : GoodIn wsX7_mirror wsX7_mirrored := goodIn_r _ [12, 13, 14, 6, 15] (by decide +kernel) (by decide +kernel)
set_option maxRecDepth 20000 in
theorem gX7_mirror_X7_mirrored : GoodIn wsX7_mirror (va_wsS RX7 81 yX7_mirrored wsX7_mirrored) := goodIn_app (goodIn_of _ (by decide +kernel)) ggX7_mirror_X7_mirrored
set_option maxRecDepth 20000 in
theorem ggX7_mirror_X7_puts : GoodIn wsX7_mirror wsX7_puts := goodIn_r _ [19, 1, 20, 21, 22, 23, 24, 25, 26, 27, 28, 29, 30, 31, 32, 33] (by decide +kernel) (by decide +kernel)
set_option maxRecDepth 20000 in
theorem gX7_mirror_X7_puts : GoodIn wsX7_mirror (wsV RX7 60 RX7 yX7_puts wsX7_puts) := goodIn_app (goodIn_of _ (by decide +kernel)) ggX7_mirror_X7_puts
theorem dX7_mirror_0 : decode cX7_mirror 0 = .ok (.aload_n 0, 1) := by decide +kernel
theorem dX7_mirror_1 : decode cX7_mirror 1 = .ok (.getfield 7, 3) := by decide +kernel
theorem dX7_mirror_4 : decode cX7_mirror 4 = .ok (.bipush 16, 2) := by decide +kernel
theorem dX7_mirror_6 : decode cX7_mirror 6 = .ok (.iaload, 1) := by decide +kernel
theorem dX7_mirror_7 : decode cX7_mirror 7 = .ok (.ifCond .ne 6, 3) := by decide +kernel
theorem dX7_mirror_10 : decode cX7_mirror 10 = .ok (.ldc 76, 2) := by decide +kernel
theorem dX7_mirror_12 : decode cX7_mirror 12 = .ok (.ireturn, 1) := by decide +kernel
theorem dX7_mirror_13 : decode cX7_mirror 13 = .ok (.aload_n 0, 1) := by decide +kernel
theorem dX7_mirror_14 : decode cX7_mirror 14 = .ok (.invokevirtual 57, 3) := by decide +kernel
theorem dX7_mirror_17 : decode cX7_mirror 17 = .ok (.iconst 0, 1) := by decide +kernel
theorem dX7_mirror_18 : decode cX7_mirror 18 = .ok (.istore_n 1, 1) := by decide +kernel
theorem dX7_mirror_19 : decode cX7_mirror 19 = .ok (.iconst 0, 1) := by decide +kernel
theorem dX7_mirror_20 : decode cX7_mirror 20 = .ok (.istore_n 2, 1) := by decide +kernel
theorem dX7_mirror_21 : decode cX7_mirror 21 = .ok (.iload_n 2, 1) := by decide +kernel
theorem dX7_mirror_22 : decode cX7_mirror 22 = .ok (.aload_n 0, 1) := by decide +kernel
theorem dX7_mirror_23 : decode cX7_mirror 23 = .ok (.getfield 7, 3) := by decide +kernel
theorem dX7_mirror_26 : decode cX7_mirror 26 = .ok (.bipush 16, 2) := by decide +kernel
theorem dX7_mirror_28 : decode cX7_mirror 28 = .ok (.iaload, 1) := by decide +kernel
theorem dX7_mirror_29 : decode cX7_mirror 29 = .ok (.if_icmp .ge 51, 3) := by decide +kernel
theorem dX7_mirror_32 : decode cX7_mirror 32 = .ok (.aload_n 0, 1) := by decide +kernel
theorem dX7_mirror_33 : decode cX7_mirror 33 = .ok (.bipush 17, 2) := by decide +kernel
theorem dX7_mirror_35 : decode cX7_mirror 35 = .ok (.iload_n 2, 1) := by decide +kernel
theorem dX7_mirror_36 : decode cX7_mirror 36 = .ok (.iadd, 1) := by decide +kernel
theorem dX7_mirror_37 : decode cX7_mirror 37 = .ok (.aload_n 0, 1) := by decide +kernel
theorem dX7_mirror_38 : decode cX7_mirror 38 = .ok (.getfield 7, 3) := by decide +kernel
theorem dX7_mirror_41 : decode cX7_mirror 41 = .ok (.bipush 17, 2) := by decide +kernel
theorem dX7_mirror_43 : decode cX7_mirror 43 = .ok (.iload_n 2, 1) := by decide +kernel
theorem dX7_mirror_44 : decode cX7_mirror 44 = .ok (.iadd, 1) := by decide +kernel
theorem dX7_mirror_45 : decode cX7_mirror 45 = .ok (.iaload, 1) := by decide +kernel
theorem dX7_mirror_46 : decode cX7_mirror 46 = .ok (.invokestatic 81, 3) := by decide +kernel
theorem dX7_mirror_49 : decode cX7_mirror 49 = .ok (.invokevirtual 60, 3) := by decide +kernel
theorem dX7_mirror_52 : decode cX7_mirror 52 = .ok (.istore_n 3, 1) := by decide +kernel
theorem dX7_mirror_53 : decode cX7_mirror 53 = .ok (.iload_n 1, 1) := by decide +kernel
theorem dX7_mirror_54 : decode cX7_mirror 54 = .ok (.iload_n 3, 1) := by decide +kernel
theorem dX7_mirror_55 : decode cX7_mirror 55 = .ok (.aload_n 0, 1) := by decide +kernel
theorem dX7_mirror_56 : decode cX7_mirror 56 = .ok (.getfield 7, 3) := by decide +kernel
theorem dX7_mirror_59 : decode cX7_mirror 59 = .ok (.bipush 17, 2) := by decide +kernel
theorem dX7_mirror_61 : decode cX7_mirror 61 = .ok (.iload_n 2, 1) := by decide +kernel
theorem dX7_mirror_62 : decode cX7_mirror 62 = .ok (.iadd, 1) := by decide +kernel
theorem dX7_mirror_63 : decode cX7_mirror 63 = .ok (.iaload, 1) := by decide +kernel
theorem dX7_mirror_64 : decode cX7_mirror 64 = .ok (.if_icmp .ne 7, 3) := by decide +kernel
theorem dX7_mirror_67 : decode cX7_mirror 67 = .ok (.iconst 0, 1) := by decide +kernel
theorem dX7_mirror_68 : decode cX7_mirror 68 = .ok (.goto 4, 3) := by decide +kernel
theorem dX7_mirror_71 : decode cX7_mirror 71 = .ok (.iconst 1, 1) := by decide +kernel
theorem dX7_mirror_72 : decode cX7_mirror 72 = .ok (.iadd, 1) := by decide +kernel
theorem dX7_mirror_73 : decode cX7_mirror 73 = .ok (.istore_n 1, 1) := by decide +kernel
theorem dX7_mirror_74 : decode cX7_mirror 74 = .ok (.iinc 2 1, 3) := by decide +kernel
theorem dX7_mirror_77 : decode cX7_mirror 77 = .ok (.goto (-56), 3) := by decide +kernel
theorem dX7_mirror_80 : decode cX7_mirror 80 = .ok (.iload_n 1, 1) := by decide +kernel
theorem dX7_mirror_81 : decode cX7_mirror 81 = .ok (.ireturn, 1) := by decide +kernel
set_option maxRecDepth 20000 in
theorem ggX7_set_X7_in : GoodIn wsX7_set wsX7_in := goodIn_r _ [5] (by decide +kernel) (by decide +kernel)
set_option maxRecDepth 20000 in
theorem gX7_set_X7_in : GoodIn wsX7_set (va_wsS RX7 22 yX7_in wsX7_in) := goodIn_app (goodIn_of _ (by decide +kernel)) ggX7_set_X7_in
set_option maxRecDepth 20000 in
theorem ggX7_set_X7_know : GoodIn wsX7_set wsX7_know := goodIn_r _ [9, 10, 11, 12, 17, 18, 19, 20, 21, 22, 23, 24, 25, 26, 27, 28, 29, 30] (by decide +kernel) (by decide +kernel)
set_option maxRecDepth 20000 in
theorem gX7_set_X7_know : GoodIn wsX7_set (wsV RX7 57 RX7 yX7_know wsX7_know) := goodIn_app (goodIn_of _ (by decide +kernel)) ggX7_set_X7_know
set_option maxRecDepth 20000 in
theorem ggX7_set_X7_puts : GoodIn wsX7_set wsX7_puts := goodIn_r _ [16, 12, 17, 18, 19, 20, 21, 22, 23, 24, 25, 26, 27, 28, 29, 30] (by decide +kernel) (by decide +kernel)
set_option maxRecDepth 20000 in
theorem gX7_set_X7_puts : GoodIn wsX7_set (wsV RX7 60 RX7 yX7_puts wsX7_puts) := goodIn_app (goodIn_of _ (by decide +kernel)) ggX7_set_X7_puts
theorem dX7_set_0 : decode cX7_set 0 = .ok (.iload_n 1, 1) := by decide +kernel
theorem dX7_set_1 : decode cX7_set 1 = .ok (.ifCond .ne 7, 3) := by decide +kernel
theorem dX7_set_4 : decode cX7_set 4 = .ok (.iconst 2, 1) := by decide +kernel
theorem dX7_set_5 : decode cX7_set 5 = .ok (.goto 13, 3) := by decide +kernel
theorem dX7_set_8 : decode cX7_set 8 = .ok (.iload_n 1, 1) := by decide +kernel
theorem dX7_set_9 : decode cX7_set 9 = .ok (.iconst 2, 1) := by decide +kernel
theorem dX7_set_10 : decode cX7_set 10 = .ok (.if_icmp .ne 7, 3) := by decide +kernel
theorem dX7_set_13 : decode cX7_set 13 = .ok (.iconst 0, 1) := by decide +kernel
theorem dX7_set_14 : decode cX7_set 14 = .ok (.goto 4, 3) := by decide +kernel
theorem dX7_set_17 : decode cX7_set 17 = .ok (.iconst 1, 1) := by decide +kernel
theorem dX7_set_18 : decode cX7_set 18 = .ok (.istore_n 3, 1) := by decide +kernel
theorem dX7_set_19 : decode cX7_set 19 = .ok (.iload_n 1, 1) := by decide +kernel
theorem dX7_set_20 : decode cX7_set 20 = .ok (.iconst 2, 1) := by decide +kernel
theorem dX7_set_21 : decode cX7_set 21 = .ok (.if_icmp .ne 8, 3) := by decide +kernel
theorem dX7_set_24 : decode cX7_set 24 = .ok (.bipush 28, 2) := by decide +kernel
theorem dX7_set_26 : decode cX7_set 26 = .ok (.goto 15, 3) := by decide +kernel
theorem dX7_set_29 : decode cX7_set 29 = .ok (.iload_n 1, 1) := by decide +kernel
theorem dX7_set_30 : decode cX7_set 30 = .ok (.iconst 3, 1) := by decide +kernel
theorem dX7_set_31 : decode cX7_set 31 = .ok (.if_icmp .ne 8, 3) := by decide +kernel
theorem dX7_set_34 : decode cX7_set 34 = .ok (.bipush 24, 2) := by decide +kernel
theorem dX7_set_36 : decode cX7_set 36 = .ok (.goto 5, 3) := by decide +kernel
theorem dX7_set_39 : decode cX7_set 39 = .ok (.bipush 8, 2) := by decide +kernel
theorem dX7_set_41 : decode cX7_set 41 = .ok (.istore 4, 2) := by decide +kernel
theorem dX7_set_43 : decode cX7_set 43 = .ok (.iload_n 1, 1) := by decide +kernel
theorem dX7_set_44 : decode cX7_set 44 = .ok (.iconst 0, 1) := by decide +kernel
theorem dX7_set_45 : decode cX7_set 45 = .ok (.iconst 3, 1) := by decide +kernel
theorem dX7_set_46 : decode cX7_set 46 = .ok (.invokestatic 22, 3) := by decide +kernel
theorem dX7_set_49 : decode cX7_set 49 = .ok (.ifCond .eq 13, 3) := by decide +kernel
theorem dX7_set_52 : decode cX7_set 52 = .ok (.iload_n 2, 1) := by decide +kernel
theorem dX7_set_53 : decode cX7_set 53 = .ok (.iload_n 3, 1) := by decide +kernel
theorem dX7_set_54 : decode cX7_set 54 = .ok (.iload 4, 2) := by decide +kernel
theorem dX7_set_56 : decode cX7_set 56 = .ok (.invokestatic 22, 3) := by decide +kernel
theorem dX7_set_59 : decode cX7_set 59 = .ok (.ifCond .ne 6, 3) := by decide +kernel
theorem dX7_set_62 : decode cX7_set 62 = .ok (.ldc 51, 2) := by decide +kernel
theorem dX7_set_64 : decode cX7_set 64 = .ok (.ireturn, 1) := by decide +kernel
theorem dX7_set_65 : decode cX7_set 65 = .ok (.aload_n 0, 1) := by decide +kernel
theorem dX7_set_66 : decode cX7_set 66 = .ok (.invokevirtual 57, 3) := by decide +kernel
theorem dX7_set_69 : decode cX7_set 69 = .ok (.aload_n 0, 1) := by decide +kernel
theorem dX7_set_70 : decode cX7_set 70 = .ok (.bipush 68, 2) := by decide +kernel
theorem dX7_set_72 : decode cX7_set 72 = .ok (.iload_n 1, 1) := by decide +kernel
theorem dX7_set_73 : decode cX7_set 73 = .ok (.iadd, 1) := by decide +kernel
theorem dX7_set_74 : decode cX7_set 74 = .ok (.iload_n 2, 1) := by decide +kernel
theorem dX7_set_75 : decode cX7_set 75 = .ok (.invokevirtual 60, 3) := by decide +kernel
theorem dX7_set_78 : decode cX7_set 78 = .ok (.ireturn, 1) := by decide +kernel
set_option maxRecDepth 20000 in
theorem ggX7_sounds_X7_has : GoodIn wsX7_sounds wsX7_has := goodIn_r _ [5] (by decide +kernel) (by decide +kernel)
set_option maxRecDepth 20000 in
theorem gX7_sounds_X7_has : GoodIn wsX7_sounds (va_wsS RX7 30 yX7_has wsX7_has) := goodIn_app (goodIn_of _ (by decide +kernel)) ggX7_sounds_X7_has
theorem dX7_sounds_0 : decode cX7_sounds 0 = .ok (.iload_n 1, 1) := by decide +kernel
theorem dX7_sounds_1 : decode cX7_sounds 1 = .ok (.ifCond .lt 34, 3) := by decide +kernel
theorem dX7_sounds_4 : decode cX7_sounds 4 = .ok (.iload_n 1, 1) := by decide +kernel
theorem dX7_sounds_5 : decode cX7_sounds 5 = .ok (.aload_n 0, 1) := by decide +kernel
theorem dX7_sounds_6 : decode cX7_sounds 6 = .ok (.getfield 7, 3) := by decide +kernel
theorem dX7_sounds_9 : decode cX7_sounds 9 = .ok (.bipush 16, 2) := by decide +kernel
theorem dX7_sounds_11 : decode cX7_sounds 11 = .ok (.iaload, 1) := by decide +kernel
theorem dX7_sounds_12 : decode cX7_sounds 12 = .ok (.if_icmp .ge 23, 3) := by decide +kernel
theorem dX7_sounds_15 : decode cX7_sounds 15 = .ok (.aload_n 0, 1) := by decide +kernel
theorem dX7_sounds_16 : decode cX7_sounds 16 = .ok (.getfield 7, 3) := by decide +kernel
theorem dX7_sounds_19 : decode cX7_sounds 19 = .ok (.bipush 17, 2) := by decide +kernel
theorem dX7_sounds_21 : decode cX7_sounds 21 = .ok (.iload_n 1, 1) := by decide +kernel
theorem dX7_sounds_22 : decode cX7_sounds 22 = .ok (.iadd, 1) := by decide +kernel
theorem dX7_sounds_23 : decode cX7_sounds 23 = .ok (.iaload, 1) := by decide +kernel
theorem dX7_sounds_24 : decode cX7_sounds 24 = .ok (.iload_n 2, 1) := by decide +kernel
theorem dX7_sounds_25 : decode cX7_sounds 25 = .ok (.invokestatic 30, 3) := by decide +kernel
theorem dX7_sounds_28 : decode cX7_sounds 28 = .ok (.ifCond .eq 7, 3) := by decide +kernel
theorem dX7_sounds_31 : decode cX7_sounds 31 = .ok (.iconst 1, 1) := by decide +kernel
theorem dX7_sounds_32 : decode cX7_sounds 32 = .ok (.goto 4, 3) := by decide +kernel
theorem dX7_sounds_35 : decode cX7_sounds 35 = .ok (.iconst 0, 1) := by decide +kernel
theorem dX7_sounds_36 : decode cX7_sounds 36 = .ok (.ireturn, 1) := by decide +kernel
set_option maxRecDepth 20000 in
theorem ggX7_begins_X7_sounds : GoodIn wsX7_begins wsX7_sounds := goodIn_r _ [5, 6, 7, 8, 4, 9, 10, 11, 12, 13, 14, 15, 16, 17, 18, 19, 20, 21, 22, 23] (by decide +kernel) (by decide +kernel)
set_option maxRecDepth 20000 in
theorem gX7_begins_X7_sounds : GoodIn wsX7_begins (wsV RX7 84 RX7 yX7_sounds wsX7_sounds) := goodIn_app (goodIn_of _ (by decide +kernel)) ggX7_begins_X7_sounds
theorem dX7_begins_0 : decode cX7_begins 0 = .ok (.aload_n 0, 1) := by decide +kernel
theorem dX7_begins_1 : decode cX7_begins 1 = .ok (.iload_n 1, 1) := by decide +kernel
theorem dX7_begins_2 : decode cX7_begins 2 = .ok (.iload_n 2, 1) := by decide +kernel
theorem dX7_begins_3 : decode cX7_begins 3 = .ok (.invokevirtual 84, 3) := by decide +kernel
theorem dX7_begins_6 : decode cX7_begins 6 = .ok (.ifCond .eq 18, 3) := by decide +kernel
theorem dX7_begins_9 : decode cX7_begins 9 = .ok (.aload_n 0, 1) := by decide +kernel
theorem dX7_begins_10 : decode cX7_begins 10 = .ok (.iload_n 1, 1) := by decide +kernel
theorem dX7_begins_11 : decode cX7_begins 11 = .ok (.iconst 1, 1) := by decide +kernel
theorem dX7_begins_12 : decode cX7_begins 12 = .ok (.isub, 1) := by decide +kernel
theorem dX7_begins_13 : decode cX7_begins 13 = .ok (.iload_n 2, 1) := by decide +kernel
theorem dX7_begins_14 : decode cX7_begins 14 = .ok (.invokevirtual 84, 3) := by decide +kernel
theorem dX7_begins_17 : decode cX7_begins 17 = .ok (.ifCond .ne 7, 3) := by decide +kernel
theorem dX7_begins_20 : decode cX7_begins 20 = .ok (.iconst 1, 1) := by decide +kernel
theorem dX7_begins_21 : decode cX7_begins 21 = .ok (.goto 4, 3) := by decide +kernel
theorem dX7_begins_24 : decode cX7_begins 24 = .ok (.iconst 0, 1) := by decide +kernel
theorem dX7_begins_25 : decode cX7_begins 25 = .ok (.ireturn, 1) := by decide +kernel
set_option maxRecDepth 20000 in
theorem ggX7_tonesOf_X7_begins : GoodIn wsX7_tonesOf wsX7_begins := goodIn_r _ [5, 6, 7, 8, 4, 9, 10, 11, 12, 13, 14, 15, 16, 17, 18, 19, 20, 21, 22, 23, 24, 25, 26, 27] (by decide +kernel) (by decide +kernel)
set_option maxRecDepth 20000 in
theorem gX7_tonesOf_X7_begins : GoodIn wsX7_tonesOf (wsV RX7 87 RX7 yX7_begins wsX7_begins) := goodIn_app (goodIn_of _ (by decide +kernel)) ggX7_tonesOf_X7_begins
theorem dX7_tonesOf_0 : decode cX7_tonesOf 0 = .ok (.iconst 0, 1) := by decide +kernel
theorem dX7_tonesOf_1 : decode cX7_tonesOf 1 = .ok (.istore_n 2, 1) := by decide +kernel
theorem dX7_tonesOf_2 : decode cX7_tonesOf 2 = .ok (.iconst 0, 1) := by decide +kernel
theorem dX7_tonesOf_3 : decode cX7_tonesOf 3 = .ok (.istore_n 3, 1) := by decide +kernel
theorem dX7_tonesOf_4 : decode cX7_tonesOf 4 = .ok (.iload_n 3, 1) := by decide +kernel
theorem dX7_tonesOf_5 : decode cX7_tonesOf 5 = .ok (.bipush 8, 2) := by decide +kernel
theorem dX7_tonesOf_7 : decode cX7_tonesOf 7 = .ok (.if_icmp .ge 26, 3) := by decide +kernel
theorem dX7_tonesOf_10 : decode cX7_tonesOf 10 = .ok (.iload_n 2, 1) := by decide +kernel
theorem dX7_tonesOf_11 : decode cX7_tonesOf 11 = .ok (.aload_n 0, 1) := by decide +kernel
theorem dX7_tonesOf_12 : decode cX7_tonesOf 12 = .ok (.iload_n 1, 1) := by decide +kernel
theorem dX7_tonesOf_13 : decode cX7_tonesOf 13 = .ok (.iload_n 3, 1) := by decide +kernel
theorem dX7_tonesOf_14 : decode cX7_tonesOf 14 = .ok (.invokevirtual 87, 3) := by decide +kernel
theorem dX7_tonesOf_17 : decode cX7_tonesOf 17 = .ok (.ifCond .eq 7, 3) := by decide +kernel
theorem dX7_tonesOf_20 : decode cX7_tonesOf 20 = .ok (.iconst 1, 1) := by decide +kernel
theorem dX7_tonesOf_21 : decode cX7_tonesOf 21 = .ok (.goto 4, 3) := by decide +kernel
theorem dX7_tonesOf_24 : decode cX7_tonesOf 24 = .ok (.iconst 0, 1) := by decide +kernel
theorem dX7_tonesOf_25 : decode cX7_tonesOf 25 = .ok (.iadd, 1) := by decide +kernel
theorem dX7_tonesOf_26 : decode cX7_tonesOf 26 = .ok (.istore_n 2, 1) := by decide +kernel
theorem dX7_tonesOf_27 : decode cX7_tonesOf 27 = .ok (.iinc 3 1, 3) := by decide +kernel
theorem dX7_tonesOf_30 : decode cX7_tonesOf 30 = .ok (.goto (-26), 3) := by decide +kernel
theorem dX7_tonesOf_33 : decode cX7_tonesOf 33 = .ok (.iload_n 2, 1) := by decide +kernel
theorem dX7_tonesOf_34 : decode cX7_tonesOf 34 = .ok (.ireturn, 1) := by decide +kernel
set_option maxRecDepth 20000 in
theorem ggX7_tones_X7_tonesOf : GoodIn wsX7_tones wsX7_tonesOf := goodIn_r _ [6, 7, 8, 9, 5, 10, 11, 12, 13, 14, 1, 15, 16, 17, 18, 19, 20, 21, 22, 23, 24, 25, 26, 27, 28, 29, 30, 31] (by decide +kernel) (by decide +kernel)
set_option maxRecDepth 20000 in
theorem gX7_tones_X7_tonesOf : GoodIn wsX7_tones (wsV RX7 90 RX7 yX7_tonesOf wsX7_tonesOf) := goodIn_app (goodIn_of _ (by decide +kernel)) ggX7_tones_X7_tonesOf
theorem dX7_tones_0 : decode cX7_tones 0 = .ok (.iconst 0, 1) := by decide +kernel
theorem dX7_tones_1 : decode cX7_tones 1 = .ok (.istore_n 1, 1) := by decide +kernel
theorem dX7_tones_2 : decode cX7_tones 2 = .ok (.iconst 0, 1) := by decide +kernel
theorem dX7_tones_3 : decode cX7_tones 3 = .ok (.istore_n 2, 1) := by decide +kernel
theorem dX7_tones_4 : decode cX7_tones 4 = .ok (.iload_n 2, 1) := by decide +kernel
theorem dX7_tones_5 : decode cX7_tones 5 = .ok (.aload_n 0, 1) := by decide +kernel
theorem dX7_tones_6 : decode cX7_tones 6 = .ok (.getfield 7, 3) := by decide +kernel
theorem dX7_tones_9 : decode cX7_tones 9 = .ok (.bipush 16, 2) := by decide +kernel
theorem dX7_tones_11 : decode cX7_tones 11 = .ok (.iaload, 1) := by decide +kernel
theorem dX7_tones_12 : decode cX7_tones 12 = .ok (.if_icmp .ge 17, 3) := by decide +kernel
theorem dX7_tones_15 : decode cX7_tones 15 = .ok (.iload_n 1, 1) := by decide +kernel
theorem dX7_tones_16 : decode cX7_tones 16 = .ok (.aload_n 0, 1) := by decide +kernel
theorem dX7_tones_17 : decode cX7_tones 17 = .ok (.iload_n 2, 1) := by decide +kernel
theorem dX7_tones_18 : decode cX7_tones 18 = .ok (.invokevirtual 90, 3) := by decide +kernel
theorem dX7_tones_21 : decode cX7_tones 21 = .ok (.iadd, 1) := by decide +kernel
theorem dX7_tones_22 : decode cX7_tones 22 = .ok (.istore_n 1, 1) := by decide +kernel
theorem dX7_tones_23 : decode cX7_tones 23 = .ok (.iinc 2 1, 3) := by decide +kernel
theorem dX7_tones_26 : decode cX7_tones 26 = .ok (.goto (-22), 3) := by decide +kernel
theorem dX7_tones_29 : decode cX7_tones 29 = .ok (.iload_n 1, 1) := by decide +kernel
theorem dX7_tones_30 : decode cX7_tones 30 = .ok (.ireturn, 1) := by decide +kernel
set_option maxRecDepth 20000 in
theorem ggX7_lengthOf_X7_sounds : GoodIn wsX7_lengthOf wsX7_sounds := goodIn_r _ [5, 6, 7, 8, 4, 9, 10, 11, 12, 13, 14, 15, 16, 17, 18, 19, 20, 21, 22, 23] (by decide +kernel) (by decide +kernel)
set_option maxRecDepth 20000 in
theorem gX7_lengthOf_X7_sounds : GoodIn wsX7_lengthOf (wsV RX7 84 RX7 yX7_sounds wsX7_sounds) := goodIn_app (goodIn_of _ (by decide +kernel)) ggX7_lengthOf_X7_sounds
theorem dX7_lengthOf_0 : decode cX7_lengthOf 0 = .ok (.iconst 0, 1) := by decide +kernel
theorem dX7_lengthOf_1 : decode cX7_lengthOf 1 = .ok (.istore_n 3, 1) := by decide +kernel
theorem dX7_lengthOf_2 : decode cX7_lengthOf 2 = .ok (.aload_n 0, 1) := by decide +kernel
theorem dX7_lengthOf_3 : decode cX7_lengthOf 3 = .ok (.iload_n 1, 1) := by decide +kernel
theorem dX7_lengthOf_4 : decode cX7_lengthOf 4 = .ok (.iload_n 3, 1) := by decide +kernel
theorem dX7_lengthOf_5 : decode cX7_lengthOf 5 = .ok (.iadd, 1) := by decide +kernel
theorem dX7_lengthOf_6 : decode cX7_lengthOf 6 = .ok (.iload_n 2, 1) := by decide +kernel
theorem dX7_lengthOf_7 : decode cX7_lengthOf 7 = .ok (.invokevirtual 84, 3) := by decide +kernel
theorem dX7_lengthOf_10 : decode cX7_lengthOf 10 = .ok (.ifCond .eq 9, 3) := by decide +kernel
theorem dX7_lengthOf_13 : decode cX7_lengthOf 13 = .ok (.iinc 3 1, 3) := by decide +kernel
theorem dX7_lengthOf_16 : decode cX7_lengthOf 16 = .ok (.goto (-14), 3) := by decide +kernel
theorem dX7_lengthOf_19 : decode cX7_lengthOf 19 = .ok (.iload_n 3, 1) := by decide +kernel
theorem dX7_lengthOf_20 : decode cX7_lengthOf 20 = .ok (.ireturn, 1) := by decide +kernel
set_option maxRecDepth 20000 in
theorem ggX7_notes_X7_has : GoodIn wsX7_notes wsX7_has := goodIn_r _ [5] (by decide +kernel) (by decide +kernel)
set_option maxRecDepth 20000 in
theorem gX7_notes_X7_has : GoodIn wsX7_notes (va_wsS RX7 30 yX7_has wsX7_has) := goodIn_app (goodIn_of _ (by decide +kernel)) ggX7_notes_X7_has
theorem dX7_notes_0 : decode cX7_notes 0 = .ok (.iconst 0, 1) := by decide +kernel
theorem dX7_notes_1 : decode cX7_notes 1 = .ok (.istore_n 2, 1) := by decide +kernel
theorem dX7_notes_2 : decode cX7_notes 2 = .ok (.iconst 0, 1) := by decide +kernel
theorem dX7_notes_3 : decode cX7_notes 3 = .ok (.istore_n 3, 1) := by decide +kernel
theorem dX7_notes_4 : decode cX7_notes 4 = .ok (.iload_n 3, 1) := by decide +kernel
theorem dX7_notes_5 : decode cX7_notes 5 = .ok (.bipush 8, 2) := by decide +kernel
theorem dX7_notes_7 : decode cX7_notes 7 = .ok (.if_icmp .ge 37, 3) := by decide +kernel
theorem dX7_notes_10 : decode cX7_notes 10 = .ok (.iload_n 2, 1) := by decide +kernel
theorem dX7_notes_11 : decode cX7_notes 11 = .ok (.iload_n 1, 1) := by decide +kernel
theorem dX7_notes_12 : decode cX7_notes 12 = .ok (.iload_n 3, 1) := by decide +kernel
theorem dX7_notes_13 : decode cX7_notes 13 = .ok (.invokestatic 30, 3) := by decide +kernel
theorem dX7_notes_16 : decode cX7_notes 16 = .ok (.ifCond .eq 19, 3) := by decide +kernel
theorem dX7_notes_19 : decode cX7_notes 19 = .ok (.iconst 1, 1) := by decide +kernel
theorem dX7_notes_20 : decode cX7_notes 20 = .ok (.aload_n 0, 1) := by decide +kernel
theorem dX7_notes_21 : decode cX7_notes 21 = .ok (.getfield 7, 3) := by decide +kernel
theorem dX7_notes_24 : decode cX7_notes 24 = .ok (.iconst 0, 1) := by decide +kernel
theorem dX7_notes_25 : decode cX7_notes 25 = .ok (.iload_n 3, 1) := by decide +kernel
theorem dX7_notes_26 : decode cX7_notes 26 = .ok (.iadd, 1) := by decide +kernel
theorem dX7_notes_27 : decode cX7_notes 27 = .ok (.iaload, 1) := by decide +kernel
theorem dX7_notes_28 : decode cX7_notes 28 = .ok (.bipush 12, 2) := by decide +kernel
theorem dX7_notes_30 : decode cX7_notes 30 = .ok (.irem, 1) := by decide +kernel
theorem dX7_notes_31 : decode cX7_notes 31 = .ok (.ishl, 1) := by decide +kernel
theorem dX7_notes_32 : decode cX7_notes 32 = .ok (.goto 4, 3) := by decide +kernel
theorem dX7_notes_35 : decode cX7_notes 35 = .ok (.iconst 0, 1) := by decide +kernel
theorem dX7_notes_36 : decode cX7_notes 36 = .ok (.ior, 1) := by decide +kernel
theorem dX7_notes_37 : decode cX7_notes 37 = .ok (.istore_n 2, 1) := by decide +kernel
theorem dX7_notes_38 : decode cX7_notes 38 = .ok (.iinc 3 1, 3) := by decide +kernel
theorem dX7_notes_41 : decode cX7_notes 41 = .ok (.goto (-37), 3) := by decide +kernel
theorem dX7_notes_44 : decode cX7_notes 44 = .ok (.iload_n 2, 1) := by decide +kernel
theorem dX7_notes_45 : decode cX7_notes 45 = .ok (.ireturn, 1) := by decide +kernel
set_option maxRecDepth 20000 in
theorem ggX7_outermost_X7_sounds : GoodIn wsX7_outermost wsX7_sounds := goodIn_r _ [7, 2, 8, 9, 6, 10, 11, 12, 13, 14, 15, 16, 17, 18, 19, 20, 21, 22, 23, 24] (by decide +kernel) (by decide +kernel)
set_option maxRecDepth 20000 in
theorem gX7_outermost_X7_sounds : GoodIn wsX7_outermost (wsV RX7 84 RX7 yX7_sounds wsX7_sounds) := goodIn_app (goodIn_of _ (by decide +kernel)) ggX7_outermost_X7_sounds
theorem dX7_outermost_0 : decode cX7_outermost 0 = .ok (.ldc 93, 2) := by decide +kernel
theorem dX7_outermost_2 : decode cX7_outermost 2 = .ok (.istore_n 3, 1) := by decide +kernel
theorem dX7_outermost_3 : decode cX7_outermost 3 = .ok (.iconst 0, 1) := by decide +kernel
theorem dX7_outermost_4 : decode cX7_outermost 4 = .ok (.istore 4, 2) := by decide +kernel
theorem dX7_outermost_6 : decode cX7_outermost 6 = .ok (.iload 4, 2) := by decide +kernel
theorem dX7_outermost_8 : decode cX7_outermost 8 = .ok (.bipush 8, 2) := by decide +kernel
theorem dX7_outermost_10 : decode cX7_outermost 10 = .ok (.if_icmp .ge 74, 3) := by decide +kernel
theorem dX7_outermost_13 : decode cX7_outermost 13 = .ok (.aload_n 0, 1) := by decide +kernel
theorem dX7_outermost_14 : decode cX7_outermost 14 = .ok (.getfield 7, 3) := by decide +kernel
theorem dX7_outermost_17 : decode cX7_outermost 17 = .ok (.iconst 0, 1) := by decide +kernel
theorem dX7_outermost_18 : decode cX7_outermost 18 = .ok (.iload 4, 2) := by decide +kernel
theorem dX7_outermost_20 : decode cX7_outermost 20 = .ok (.iadd, 1) := by decide +kernel
theorem dX7_outermost_21 : decode cX7_outermost 21 = .ok (.iaload, 1) := by decide +kernel
theorem dX7_outermost_22 : decode cX7_outermost 22 = .ok (.istore 5, 2) := by decide +kernel
theorem dX7_outermost_24 : decode cX7_outermost 24 = .ok (.aload_n 0, 1) := by decide +kernel
theorem dX7_outermost_25 : decode cX7_outermost 25 = .ok (.iload_n 1, 1) := by decide +kernel
theorem dX7_outermost_26 : decode cX7_outermost 26 = .ok (.iload 4, 2) := by decide +kernel
theorem dX7_outermost_28 : decode cX7_outermost 28 = .ok (.invokevirtual 84, 3) := by decide +kernel
theorem dX7_outermost_31 : decode cX7_outermost 31 = .ok (.ifCond .eq 32, 3) := by decide +kernel
theorem dX7_outermost_34 : decode cX7_outermost 34 = .ok (.iload_n 3, 1) := by decide +kernel
theorem dX7_outermost_35 : decode cX7_outermost 35 = .ok (.ldc 93, 2) := by decide +kernel
theorem dX7_outermost_37 : decode cX7_outermost 37 = .ok (.if_icmp .eq 22, 3) := by decide +kernel
theorem dX7_outermost_40 : decode cX7_outermost 40 = .ok (.iload_n 2, 1) := by decide +kernel
theorem dX7_outermost_41 : decode cX7_outermost 41 = .ok (.ifCond .eq 12, 3) := by decide +kernel
theorem dX7_outermost_44 : decode cX7_outermost 44 = .ok (.iload 5, 2) := by decide +kernel
theorem dX7_outermost_46 : decode cX7_outermost 46 = .ok (.iload_n 3, 1) := by decide +kernel
theorem dX7_outermost_47 : decode cX7_outermost 47 = .ok (.if_icmp .le 16, 3) := by decide +kernel
theorem dX7_outermost_50 : decode cX7_outermost 50 = .ok (.goto 9, 3) := by decide +kernel
theorem dX7_outermost_53 : decode cX7_outermost 53 = .ok (.iload 5, 2) := by decide +kernel
theorem dX7_outermost_55 : decode cX7_outermost 55 = .ok (.iload_n 3, 1) := by decide +kernel
theorem dX7_outermost_56 : decode cX7_outermost 56 = .ok (.if_icmp .ge 7, 3) := by decide +kernel
theorem dX7_outermost_59 : decode cX7_outermost 59 = .ok (.iconst 1, 1) := by decide +kernel
theorem dX7_outermost_60 : decode cX7_outermost 60 = .ok (.goto 4, 3) := by decide +kernel
theorem dX7_outermost_63 : decode cX7_outermost 63 = .ok (.iconst 0, 1) := by decide +kernel
theorem dX7_outermost_64 : decode cX7_outermost 64 = .ok (.istore 6, 2) := by decide +kernel
theorem dX7_outermost_66 : decode cX7_outermost 66 = .ok (.iload 6, 2) := by decide +kernel
theorem dX7_outermost_68 : decode cX7_outermost 68 = .ok (.ifCond .eq 8, 3) := by decide +kernel
theorem dX7_outermost_71 : decode cX7_outermost 71 = .ok (.iload 5, 2) := by decide +kernel
theorem dX7_outermost_73 : decode cX7_outermost 73 = .ok (.goto 4, 3) := by decide +kernel
theorem dX7_outermost_76 : decode cX7_outermost 76 = .ok (.iload_n 3, 1) := by decide +kernel
theorem dX7_outermost_77 : decode cX7_outermost 77 = .ok (.istore_n 3, 1) := by decide +kernel
theorem dX7_outermost_78 : decode cX7_outermost 78 = .ok (.iinc 4 1, 3) := by decide +kernel
theorem dX7_outermost_81 : decode cX7_outermost 81 = .ok (.goto (-75), 3) := by decide +kernel
theorem dX7_outermost_84 : decode cX7_outermost 84 = .ok (.iload_n 3, 1) := by decide +kernel
theorem dX7_outermost_85 : decode cX7_outermost 85 = .ok (.ireturn, 1) := by decide +kernel
set_option maxRecDepth 20000 in
theorem ggX7_colours_X7_sounds : GoodIn wsX7_colours wsX7_sounds := goodIn_r _ [6, 1, 7, 8, 5, 9, 10, 11, 12, 13, 14, 15, 16, 17, 18, 19, 20, 21, 22, 23] (by decide +kernel) (by decide +kernel)
set_option maxRecDepth 20000 in
theorem gX7_colours_X7_sounds : GoodIn wsX7_colours (wsV RX7 84 RX7 yX7_sounds wsX7_sounds) := goodIn_app (goodIn_of _ (by decide +kernel)) ggX7_colours_X7_sounds
theorem dX7_colours_0 : decode cX7_colours 0 = .ok (.iconst 0, 1) := by decide +kernel
theorem dX7_colours_1 : decode cX7_colours 1 = .ok (.istore_n 2, 1) := by decide +kernel
theorem dX7_colours_2 : decode cX7_colours 2 = .ok (.iconst 0, 1) := by decide +kernel
theorem dX7_colours_3 : decode cX7_colours 3 = .ok (.istore_n 3, 1) := by decide +kernel
theorem dX7_colours_4 : decode cX7_colours 4 = .ok (.iload_n 3, 1) := by decide +kernel
theorem dX7_colours_5 : decode cX7_colours 5 = .ok (.bipush 8, 2) := by decide +kernel
theorem dX7_colours_7 : decode cX7_colours 7 = .ok (.if_icmp .ge 70, 3) := by decide +kernel
theorem dX7_colours_10 : decode cX7_colours 10 = .ok (.aload_n 0, 1) := by decide +kernel
theorem dX7_colours_11 : decode cX7_colours 11 = .ok (.getfield 7, 3) := by decide +kernel
theorem dX7_colours_14 : decode cX7_colours 14 = .ok (.bipush 8, 2) := by decide +kernel
theorem dX7_colours_16 : decode cX7_colours 16 = .ok (.iload_n 3, 1) := by decide +kernel
theorem dX7_colours_17 : decode cX7_colours 17 = .ok (.iadd, 1) := by decide +kernel
theorem dX7_colours_18 : decode cX7_colours 18 = .ok (.iaload, 1) := by decide +kernel
theorem dX7_colours_19 : decode cX7_colours 19 = .ok (.istore 4, 2) := by decide +kernel
theorem dX7_colours_21 : decode cX7_colours 21 = .ok (.iload_n 2, 1) := by decide +kernel
theorem dX7_colours_22 : decode cX7_colours 22 = .ok (.aload_n 0, 1) := by decide +kernel
theorem dX7_colours_23 : decode cX7_colours 23 = .ok (.iload_n 1, 1) := by decide +kernel
theorem dX7_colours_24 : decode cX7_colours 24 = .ok (.iload_n 3, 1) := by decide +kernel
theorem dX7_colours_25 : decode cX7_colours 25 = .ok (.invokevirtual 84, 3) := by decide +kernel
theorem dX7_colours_28 : decode cX7_colours 28 = .ok (.ifCond .ne 7, 3) := by decide +kernel
theorem dX7_colours_31 : decode cX7_colours 31 = .ok (.iconst 0, 1) := by decide +kernel
theorem dX7_colours_32 : decode cX7_colours 32 = .ok (.goto 37, 3) := by decide +kernel
theorem dX7_colours_35 : decode cX7_colours 35 = .ok (.iload 4, 2) := by decide +kernel
theorem dX7_colours_37 : decode cX7_colours 37 = .ok (.ifCond .ne 9, 3) := by decide +kernel
theorem dX7_colours_40 : decode cX7_colours 40 = .ok (.sipush 1000, 3) := by decide +kernel
theorem dX7_colours_43 : decode cX7_colours 43 = .ok (.goto 26, 3) := by decide +kernel
theorem dX7_colours_46 : decode cX7_colours 46 = .ok (.iload 4, 2) := by decide +kernel
theorem dX7_colours_48 : decode cX7_colours 48 = .ok (.iconst 1, 1) := by decide +kernel
theorem dX7_colours_49 : decode cX7_colours 49 = .ok (.if_icmp .ne 8, 3) := by decide +kernel
theorem dX7_colours_52 : decode cX7_colours 52 = .ok (.bipush 100, 2) := by decide +kernel
theorem dX7_colours_54 : decode cX7_colours 54 = .ok (.goto 15, 3) := by decide +kernel
theorem dX7_colours_57 : decode cX7_colours 57 = .ok (.iload 4, 2) := by decide +kernel
theorem dX7_colours_59 : decode cX7_colours 59 = .ok (.iconst 2, 1) := by decide +kernel
theorem dX7_colours_60 : decode cX7_colours 60 = .ok (.if_icmp .ne 8, 3) := by decide +kernel
theorem dX7_colours_63 : decode cX7_colours 63 = .ok (.bipush 10, 2) := by decide +kernel
theorem dX7_colours_65 : decode cX7_colours 65 = .ok (.goto 4, 3) := by decide +kernel
theorem dX7_colours_68 : decode cX7_colours 68 = .ok (.iconst 1, 1) := by decide +kernel
theorem dX7_colours_69 : decode cX7_colours 69 = .ok (.iadd, 1) := by decide +kernel
theorem dX7_colours_70 : decode cX7_colours 70 = .ok (.istore_n 2, 1) := by decide +kernel
theorem dX7_colours_71 : decode cX7_colours 71 = .ok (.iinc 3 1, 3) := by decide +kernel
theorem dX7_colours_74 : decode cX7_colours 74 = .ok (.goto (-70), 3) := by decide +kernel
theorem dX7_colours_77 : decode cX7_colours 77 = .ok (.iload_n 2, 1) := by decide +kernel
theorem dX7_colours_78 : decode cX7_colours 78 = .ok (.ireturn, 1) := by decide +kernel
set_option maxRecDepth 20000 in
theorem ggX7_cardOf_X7_isCard : GoodIn wsX7_cardOf wsX7_isCard := goodIn_r _ [7, 2, 8, 9, 6, 10, 46, 47, 48, 49, 50, 51, 52, 53, 54, 55, 56, 57, 58, 59] (by decide +kernel) (by decide +kernel)
set_option maxRecDepth 20000 in
theorem gX7_cardOf_X7_isCard : GoodIn wsX7_cardOf (wsV RX7 70 RX7 yX7_isCard wsX7_isCard) := goodIn_app (goodIn_of _ (by decide +kernel)) ggX7_cardOf_X7_isCard
set_option maxRecDepth 20000 in
theorem ggX7_cardOf_X7_bits : GoodIn wsX7_cardOf wsX7_bits := goodIn_r _ [13] (by decide +kernel) (by decide +kernel)
set_option maxRecDepth 20000 in
theorem gX7_cardOf_X7_bits : GoodIn wsX7_cardOf (va_wsS RX7 34 yX7_bits wsX7_bits) := goodIn_app (goodIn_of _ (by decide +kernel)) ggX7_cardOf_X7_bits
set_option maxRecDepth 20000 in
theorem ggX7_cardOf_X7_clashes : GoodIn wsX7_cardOf wsX7_clashes := goodIn_r _ [17, 2, 18, 19, 6, 20, 46, 47, 48, 49, 50, 51, 52, 53, 54, 55, 56, 57, 58, 59] (by decide +kernel) (by decide +kernel)
set_option maxRecDepth 20000 in
theorem gX7_cardOf_X7_clashes : GoodIn wsX7_cardOf (wsV RX7 38 RX7 yX7_clashes wsX7_clashes) := goodIn_app (goodIn_of _ (by decide +kernel)) ggX7_cardOf_X7_clashes
set_option maxRecDepth 20000 in
theorem ggX7_cardOf_X7_notes : GoodIn wsX7_cardOf wsX7_notes := goodIn_r _ [24, 2, 18, 19, 6, 20, 46, 47, 48, 49, 50, 51, 52, 53, 54, 55, 56, 57, 58, 59] (by decide +kernel) (by decide +kernel)
set_option maxRecDepth 20000 in
theorem gX7_cardOf_X7_notes : GoodIn wsX7_cardOf (wsV RX7 94 RX7 yX7_notes wsX7_notes) := goodIn_app (goodIn_of _ (by decide +kernel)) ggX7_cardOf_X7_notes
set_option maxRecDepth 20000 in
theorem ggX7_cardOf_X7_outermost : GoodIn wsX7_cardOf wsX7_outermost := goodIn_r _ [28, 29, 2, 30, 31, 32, 6, 33, 18, 19, 20, 46, 47, 48, 49, 50, 51, 52, 53, 54, 55, 56, 57, 58, 59] (by decide +kernel) (by decide +kernel)
set_option maxRecDepth 20000 in
theorem gX7_cardOf_X7_outermost : GoodIn wsX7_cardOf (wsV RX7 97 RX7 yX7_outermost wsX7_outermost) := goodIn_app (goodIn_of _ (by decide +kernel)) ggX7_cardOf_X7_outermost
set_option maxRecDepth 20000 in
theorem ggX7_cardOf_X7_tonesOf : GoodIn wsX7_cardOf wsX7_tonesOf := goodIn_r _ [37, 38, 39, 40, 6, 41, 30, 31, 32, 33, 2, 18, 19, 20, 46, 47, 48, 49, 50, 51, 52, 53, 54, 55, 56, 57, 58, 59] (by decide +kernel) (by decide +kernel)
set_option maxRecDepth 20000 in
theorem gX7_cardOf_X7_tonesOf : GoodIn wsX7_cardOf (wsV RX7 90 RX7 yX7_tonesOf wsX7_tonesOf) := goodIn_app (goodIn_of _ (by decide +kernel)) ggX7_cardOf_X7_tonesOf
set_option maxRecDepth 20000 in
theorem ggX7_cardOf_X7_colours : GoodIn wsX7_cardOf wsX7_colours := goodIn_r _ [45, 2, 30, 31, 32, 6, 33, 18, 19, 20, 46, 47, 48, 49, 50, 51, 52, 53, 54, 55, 56, 57, 58, 59] (by decide +kernel) (by decide +kernel)
set_option maxRecDepth 20000 in
theorem gX7_cardOf_X7_colours : GoodIn wsX7_cardOf (wsV RX7 101 RX7 yX7_colours wsX7_colours) := goodIn_app (goodIn_of _ (by decide +kernel)) ggX7_cardOf_X7_colours
theorem dX7_cardOf_0 : decode cX7_cardOf 0 = .ok (.aload_n 0, 1) := by decide +kernel
theorem dX7_cardOf_1 : decode cX7_cardOf 1 = .ok (.iload_n 1, 1) := by decide +kernel
theorem dX7_cardOf_2 : decode cX7_cardOf 2 = .ok (.invokevirtual 70, 3) := by decide +kernel
theorem dX7_cardOf_5 : decode cX7_cardOf 5 = .ok (.ifCond .ne 6, 3) := by decide +kernel
theorem dX7_cardOf_8 : decode cX7_cardOf 8 = .ok (.ldc 51, 2) := by decide +kernel
theorem dX7_cardOf_10 : decode cX7_cardOf 10 = .ok (.ireturn, 1) := by decide +kernel
theorem dX7_cardOf_11 : decode cX7_cardOf 11 = .ok (.aload_n 0, 1) := by decide +kernel
theorem dX7_cardOf_12 : decode cX7_cardOf 12 = .ok (.getfield 7, 3) := by decide +kernel
theorem dX7_cardOf_15 : decode cX7_cardOf 15 = .ok (.bipush 17, 2) := by decide +kernel
theorem dX7_cardOf_17 : decode cX7_cardOf 17 = .ok (.iload_n 1, 1) := by decide +kernel
theorem dX7_cardOf_18 : decode cX7_cardOf 18 = .ok (.iadd, 1) := by decide +kernel
theorem dX7_cardOf_19 : decode cX7_cardOf 19 = .ok (.iaload, 1) := by decide +kernel
theorem dX7_cardOf_20 : decode cX7_cardOf 20 = .ok (.istore_n 3, 1) := by decide +kernel
theorem dX7_cardOf_21 : decode cX7_cardOf 21 = .ok (.iload_n 2, 1) := by decide +kernel
theorem dX7_cardOf_22 : decode cX7_cardOf 22 = .ok (.tableswitch 121 0 9 #[54, 56, 61, 71, 77, 83, 83, 99, 105, 115], 54) := by decide +kernel
theorem dX7_cardOf_76 : decode cX7_cardOf 76 = .ok (.iload_n 3, 1) := by decide +kernel
theorem dX7_cardOf_77 : decode cX7_cardOf 77 = .ok (.ireturn, 1) := by decide +kernel
theorem dX7_cardOf_78 : decode cX7_cardOf 78 = .ok (.iload_n 3, 1) := by decide +kernel
theorem dX7_cardOf_79 : decode cX7_cardOf 79 = .ok (.invokestatic 34, 3) := by decide +kernel
theorem dX7_cardOf_82 : decode cX7_cardOf 82 = .ok (.ireturn, 1) := by decide +kernel
theorem dX7_cardOf_83 : decode cX7_cardOf 83 = .ok (.aload_n 0, 1) := by decide +kernel
theorem dX7_cardOf_84 : decode cX7_cardOf 84 = .ok (.getfield 7, 3) := by decide +kernel
theorem dX7_cardOf_87 : decode cX7_cardOf 87 = .ok (.bipush 41, 2) := by decide +kernel
theorem dX7_cardOf_89 : decode cX7_cardOf 89 = .ok (.iload_n 1, 1) := by decide +kernel
theorem dX7_cardOf_90 : decode cX7_cardOf 90 = .ok (.iadd, 1) := by decide +kernel
theorem dX7_cardOf_91 : decode cX7_cardOf 91 = .ok (.iaload, 1) := by decide +kernel
theorem dX7_cardOf_92 : decode cX7_cardOf 92 = .ok (.ireturn, 1) := by decide +kernel
theorem dX7_cardOf_93 : decode cX7_cardOf 93 = .ok (.aload_n 0, 1) := by decide +kernel
theorem dX7_cardOf_94 : decode cX7_cardOf 94 = .ok (.iload_n 3, 1) := by decide +kernel
theorem dX7_cardOf_95 : decode cX7_cardOf 95 = .ok (.invokevirtual 38, 3) := by decide +kernel
theorem dX7_cardOf_98 : decode cX7_cardOf 98 = .ok (.ireturn, 1) := by decide +kernel
theorem dX7_cardOf_99 : decode cX7_cardOf 99 = .ok (.aload_n 0, 1) := by decide +kernel
theorem dX7_cardOf_100 : decode cX7_cardOf 100 = .ok (.iload_n 3, 1) := by decide +kernel
theorem dX7_cardOf_101 : decode cX7_cardOf 101 = .ok (.invokevirtual 94, 3) := by decide +kernel
theorem dX7_cardOf_104 : decode cX7_cardOf 104 = .ok (.ireturn, 1) := by decide +kernel
theorem dX7_cardOf_105 : decode cX7_cardOf 105 = .ok (.aload_n 0, 1) := by decide +kernel
theorem dX7_cardOf_106 : decode cX7_cardOf 106 = .ok (.iload_n 1, 1) := by decide +kernel
theorem dX7_cardOf_107 : decode cX7_cardOf 107 = .ok (.iload_n 2, 1) := by decide +kernel
theorem dX7_cardOf_108 : decode cX7_cardOf 108 = .ok (.iconst 5, 1) := by decide +kernel
theorem dX7_cardOf_109 : decode cX7_cardOf 109 = .ok (.if_icmp .ne 7, 3) := by decide +kernel
theorem dX7_cardOf_112 : decode cX7_cardOf 112 = .ok (.iconst 1, 1) := by decide +kernel
theorem dX7_cardOf_113 : decode cX7_cardOf 113 = .ok (.goto 4, 3) := by decide +kernel
theorem dX7_cardOf_116 : decode cX7_cardOf 116 = .ok (.iconst 0, 1) := by decide +kernel
theorem dX7_cardOf_117 : decode cX7_cardOf 117 = .ok (.invokevirtual 97, 3) := by decide +kernel
theorem dX7_cardOf_120 : decode cX7_cardOf 120 = .ok (.ireturn, 1) := by decide +kernel
theorem dX7_cardOf_121 : decode cX7_cardOf 121 = .ok (.aload_n 0, 1) := by decide +kernel
theorem dX7_cardOf_122 : decode cX7_cardOf 122 = .ok (.iload_n 1, 1) := by decide +kernel
theorem dX7_cardOf_123 : decode cX7_cardOf 123 = .ok (.invokevirtual 90, 3) := by decide +kernel
theorem dX7_cardOf_126 : decode cX7_cardOf 126 = .ok (.ireturn, 1) := by decide +kernel
theorem dX7_cardOf_127 : decode cX7_cardOf 127 = .ok (.iload_n 1, 1) := by decide +kernel
theorem dX7_cardOf_128 : decode cX7_cardOf 128 = .ok (.aload_n 0, 1) := by decide +kernel
theorem dX7_cardOf_129 : decode cX7_cardOf 129 = .ok (.getfield 7, 3) := by decide +kernel
theorem dX7_cardOf_132 : decode cX7_cardOf 132 = .ok (.bipush 68, 2) := by decide +kernel
theorem dX7_cardOf_134 : decode cX7_cardOf 134 = .ok (.iaload, 1) := by decide +kernel
theorem dX7_cardOf_135 : decode cX7_cardOf 135 = .ok (.idiv, 1) := by decide +kernel
theorem dX7_cardOf_136 : decode cX7_cardOf 136 = .ok (.ireturn, 1) := by decide +kernel
theorem dX7_cardOf_137 : decode cX7_cardOf 137 = .ok (.aload_n 0, 1) := by decide +kernel
theorem dX7_cardOf_138 : decode cX7_cardOf 138 = .ok (.iload_n 1, 1) := by decide +kernel
theorem dX7_cardOf_139 : decode cX7_cardOf 139 = .ok (.invokevirtual 101, 3) := by decide +kernel
theorem dX7_cardOf_142 : decode cX7_cardOf 142 = .ok (.ireturn, 1) := by decide +kernel
theorem dX7_cardOf_143 : decode cX7_cardOf 143 = .ok (.ldc 51, 2) := by decide +kernel
theorem dX7_cardOf_145 : decode cX7_cardOf 145 = .ok (.ireturn, 1) := by decide +kernel
set_option maxRecDepth 20000 in
theorem ggX7_floats_X7_sounds : GoodIn wsX7_floats wsX7_sounds := goodIn_r _ [6, 1, 7, 8, 5, 9, 10, 11, 12, 13, 14, 15, 16, 17, 18, 19, 20, 21, 22, 23] (by decide +kernel) (by decide +kernel)
set_option maxRecDepth 20000 in
theorem gX7_floats_X7_sounds : GoodIn wsX7_floats (wsV RX7 84 RX7 yX7_sounds wsX7_sounds) := goodIn_app (goodIn_of _ (by decide +kernel)) ggX7_floats_X7_sounds
theorem dX7_floats_0 : decode cX7_floats 0 = .ok (.iconst 0, 1) := by decide +kernel
theorem dX7_floats_1 : decode cX7_floats 1 = .ok (.istore_n 3, 1) := by decide +kernel
theorem dX7_floats_2 : decode cX7_floats 2 = .ok (.iconst 0, 1) := by decide +kernel
theorem dX7_floats_3 : decode cX7_floats 3 = .ok (.istore 4, 2) := by decide +kernel
theorem dX7_floats_5 : decode cX7_floats 5 = .ok (.iconst 0, 1) := by decide +kernel
theorem dX7_floats_6 : decode cX7_floats 6 = .ok (.istore 5, 2) := by decide +kernel
theorem dX7_floats_8 : decode cX7_floats 8 = .ok (.iconst 0, 1) := by decide +kernel
theorem dX7_floats_9 : decode cX7_floats 9 = .ok (.istore 6, 2) := by decide +kernel
theorem dX7_floats_11 : decode cX7_floats 11 = .ok (.iload 6, 2) := by decide +kernel
theorem dX7_floats_13 : decode cX7_floats 13 = .ok (.aload_n 0, 1) := by decide +kernel
theorem dX7_floats_14 : decode cX7_floats 14 = .ok (.getfield 7, 3) := by decide +kernel
theorem dX7_floats_17 : decode cX7_floats 17 = .ok (.bipush 16, 2) := by decide +kernel
theorem dX7_floats_19 : decode cX7_floats 19 = .ok (.iaload, 1) := by decide +kernel
theorem dX7_floats_20 : decode cX7_floats 20 = .ok (.if_icmp .ge 80, 3) := by decide +kernel
theorem dX7_floats_23 : decode cX7_floats 23 = .ok (.iload 6, 2) := by decide +kernel
theorem dX7_floats_25 : decode cX7_floats 25 = .ok (.ifCond .le 29, 3) := by decide +kernel
theorem dX7_floats_28 : decode cX7_floats 28 = .ok (.aload_n 0, 1) := by decide +kernel
theorem dX7_floats_29 : decode cX7_floats 29 = .ok (.iload 6, 2) := by decide +kernel
theorem dX7_floats_31 : decode cX7_floats 31 = .ok (.iload_n 1, 1) := by decide +kernel
theorem dX7_floats_32 : decode cX7_floats 32 = .ok (.invokevirtual 84, 3) := by decide +kernel
theorem dX7_floats_35 : decode cX7_floats 35 = .ok (.aload_n 0, 1) := by decide +kernel
theorem dX7_floats_36 : decode cX7_floats 36 = .ok (.iload 6, 2) := by decide +kernel
theorem dX7_floats_38 : decode cX7_floats 38 = .ok (.iconst 1, 1) := by decide +kernel
theorem dX7_floats_39 : decode cX7_floats 39 = .ok (.isub, 1) := by decide +kernel
theorem dX7_floats_40 : decode cX7_floats 40 = .ok (.iload_n 1, 1) := by decide +kernel
theorem dX7_floats_41 : decode cX7_floats 41 = .ok (.invokevirtual 84, 3) := by decide +kernel
theorem dX7_floats_44 : decode cX7_floats 44 = .ok (.if_icmp .ne 10, 3) := by decide +kernel
theorem dX7_floats_47 : decode cX7_floats 47 = .ok (.iload 5, 2) := by decide +kernel
theorem dX7_floats_49 : decode cX7_floats 49 = .ok (.iconst 1, 1) := by decide +kernel
theorem dX7_floats_50 : decode cX7_floats 50 = .ok (.iadd, 1) := by decide +kernel
theorem dX7_floats_51 : decode cX7_floats 51 = .ok (.goto 4, 3) := by decide +kernel
theorem dX7_floats_54 : decode cX7_floats 54 = .ok (.iconst 1, 1) := by decide +kernel
theorem dX7_floats_55 : decode cX7_floats 55 = .ok (.istore 5, 2) := by decide +kernel
theorem dX7_floats_57 : decode cX7_floats 57 = .ok (.iload 5, 2) := by decide +kernel
theorem dX7_floats_59 : decode cX7_floats 59 = .ok (.iload_n 3, 1) := by decide +kernel
theorem dX7_floats_60 : decode cX7_floats 60 = .ok (.if_icmp .le 8, 3) := by decide +kernel
theorem dX7_floats_63 : decode cX7_floats 63 = .ok (.iload 5, 2) := by decide +kernel
theorem dX7_floats_65 : decode cX7_floats 65 = .ok (.goto 4, 3) := by decide +kernel
theorem dX7_floats_68 : decode cX7_floats 68 = .ok (.iload_n 3, 1) := by decide +kernel
theorem dX7_floats_69 : decode cX7_floats 69 = .ok (.istore_n 3, 1) := by decide +kernel
theorem dX7_floats_70 : decode cX7_floats 70 = .ok (.iload 4, 2) := by decide +kernel
theorem dX7_floats_72 : decode cX7_floats 72 = .ok (.iload 5, 2) := by decide +kernel
theorem dX7_floats_74 : decode cX7_floats 74 = .ok (.aload_n 0, 1) := by decide +kernel
theorem dX7_floats_75 : decode cX7_floats 75 = .ok (.getfield 7, 3) := by decide +kernel
theorem dX7_floats_78 : decode cX7_floats 78 = .ok (.bipush 71, 2) := by decide +kernel
theorem dX7_floats_80 : decode cX7_floats 80 = .ok (.iaload, 1) := by decide +kernel
theorem dX7_floats_81 : decode cX7_floats 81 = .ok (.iconst 1, 1) := by decide +kernel
theorem dX7_floats_82 : decode cX7_floats 82 = .ok (.iadd, 1) := by decide +kernel
theorem dX7_floats_83 : decode cX7_floats 83 = .ok (.if_icmp .ne 7, 3) := by decide +kernel
theorem dX7_floats_86 : decode cX7_floats 86 = .ok (.iconst 1, 1) := by decide +kernel
theorem dX7_floats_87 : decode cX7_floats 87 = .ok (.goto 4, 3) := by decide +kernel
theorem dX7_floats_90 : decode cX7_floats 90 = .ok (.iconst 0, 1) := by decide +kernel
theorem dX7_floats_91 : decode cX7_floats 91 = .ok (.iadd, 1) := by decide +kernel
theorem dX7_floats_92 : decode cX7_floats 92 = .ok (.istore 4, 2) := by decide +kernel
theorem dX7_floats_94 : decode cX7_floats 94 = .ok (.iinc 6 1, 3) := by decide +kernel
theorem dX7_floats_97 : decode cX7_floats 97 = .ok (.goto (-86), 3) := by decide +kernel
theorem dX7_floats_100 : decode cX7_floats 100 = .ok (.iload_n 2, 1) := by decide +kernel
theorem dX7_floats_101 : decode cX7_floats 101 = .ok (.iconst 4, 1) := by decide +kernel
theorem dX7_floats_102 : decode cX7_floats 102 = .ok (.if_icmp .ne 7, 3) := by decide +kernel
theorem dX7_floats_105 : decode cX7_floats 105 = .ok (.iload_n 3, 1) := by decide +kernel
theorem dX7_floats_106 : decode cX7_floats 106 = .ok (.goto 5, 3) := by decide +kernel
theorem dX7_floats_109 : decode cX7_floats 109 = .ok (.iload 4, 2) := by decide +kernel
theorem dX7_floats_111 : decode cX7_floats 111 = .ok (.ireturn, 1) := by decide +kernel
set_option maxRecDepth 20000 in
theorem ggX7_rows_X7_begins : GoodIn wsX7_rows wsX7_begins := goodIn_r _ [6, 7, 8, 9, 5, 10, 1, 11, 12, 13, 14, 15, 16, 17, 18, 19, 20, 21, 22, 23, 24, 25, 26, 27] (by decide +kernel) (by decide +kernel)
set_option maxRecDepth 20000 in
theorem gX7_rows_X7_begins : GoodIn wsX7_rows (wsV RX7 87 RX7 yX7_begins wsX7_begins) := goodIn_app (goodIn_of _ (by decide +kernel)) ggX7_rows_X7_begins
set_option maxRecDepth 20000 in
theorem ggX7_rows_X7_sounds : GoodIn wsX7_rows wsX7_sounds := goodIn_r _ [10, 1, 11, 12, 5, 13, 14, 15, 16, 17, 18, 19, 20, 21, 22, 23, 24, 25, 26, 27] (by decide +kernel) (by decide +kernel)
set_option maxRecDepth 20000 in
theorem gX7_rows_X7_sounds : GoodIn wsX7_rows (wsV RX7 84 RX7 yX7_sounds wsX7_sounds) := goodIn_app (goodIn_of _ (by decide +kernel)) ggX7_rows_X7_sounds
theorem dX7_rows_0 : decode cX7_rows 0 = .ok (.iconst 0, 1) := by decide +kernel
theorem dX7_rows_1 : decode cX7_rows 1 = .ok (.istore_n 3, 1) := by decide +kernel
theorem dX7_rows_2 : decode cX7_rows 2 = .ok (.iconst 0, 1) := by decide +kernel
theorem dX7_rows_3 : decode cX7_rows 3 = .ok (.istore 4, 2) := by decide +kernel
theorem dX7_rows_5 : decode cX7_rows 5 = .ok (.iload 4, 2) := by decide +kernel
theorem dX7_rows_7 : decode cX7_rows 7 = .ok (.aload_n 0, 1) := by decide +kernel
theorem dX7_rows_8 : decode cX7_rows 8 = .ok (.getfield 7, 3) := by decide +kernel
theorem dX7_rows_11 : decode cX7_rows 11 = .ok (.bipush 16, 2) := by decide +kernel
theorem dX7_rows_13 : decode cX7_rows 13 = .ok (.iaload, 1) := by decide +kernel
theorem dX7_rows_14 : decode cX7_rows 14 = .ok (.if_icmp .ge 45, 3) := by decide +kernel
theorem dX7_rows_17 : decode cX7_rows 17 = .ok (.iload_n 3, 1) := by decide +kernel
theorem dX7_rows_18 : decode cX7_rows 18 = .ok (.iload_n 2, 1) := by decide +kernel
theorem dX7_rows_19 : decode cX7_rows 19 = .ok (.iconst 2, 1) := by decide +kernel
theorem dX7_rows_20 : decode cX7_rows 20 = .ok (.if_icmp .ne 16, 3) := by decide +kernel
theorem dX7_rows_23 : decode cX7_rows 23 = .ok (.aload_n 0, 1) := by decide +kernel
theorem dX7_rows_24 : decode cX7_rows 24 = .ok (.iload 4, 2) := by decide +kernel
theorem dX7_rows_26 : decode cX7_rows 26 = .ok (.iload_n 1, 1) := by decide +kernel
theorem dX7_rows_27 : decode cX7_rows 27 = .ok (.invokevirtual 87, 3) := by decide +kernel
theorem dX7_rows_30 : decode cX7_rows 30 = .ok (.ifCond .eq 20, 3) := by decide +kernel
theorem dX7_rows_33 : decode cX7_rows 33 = .ok (.goto 13, 3) := by decide +kernel
theorem dX7_rows_36 : decode cX7_rows 36 = .ok (.aload_n 0, 1) := by decide +kernel
theorem dX7_rows_37 : decode cX7_rows 37 = .ok (.iload 4, 2) := by decide +kernel
theorem dX7_rows_39 : decode cX7_rows 39 = .ok (.iload_n 1, 1) := by decide +kernel
theorem dX7_rows_40 : decode cX7_rows 40 = .ok (.invokevirtual 84, 3) := by decide +kernel
theorem dX7_rows_43 : decode cX7_rows 43 = .ok (.ifCond .eq 7, 3) := by decide +kernel
theorem dX7_rows_46 : decode cX7_rows 46 = .ok (.iconst 1, 1) := by decide +kernel
theorem dX7_rows_47 : decode cX7_rows 47 = .ok (.goto 4, 3) := by decide +kernel
theorem dX7_rows_50 : decode cX7_rows 50 = .ok (.iconst 0, 1) := by decide +kernel
theorem dX7_rows_51 : decode cX7_rows 51 = .ok (.iadd, 1) := by decide +kernel
theorem dX7_rows_52 : decode cX7_rows 52 = .ok (.istore_n 3, 1) := by decide +kernel
theorem dX7_rows_53 : decode cX7_rows 53 = .ok (.iinc 4 1, 3) := by decide +kernel
theorem dX7_rows_56 : decode cX7_rows 56 = .ok (.goto (-51), 3) := by decide +kernel
theorem dX7_rows_59 : decode cX7_rows 59 = .ok (.iload_n 3, 1) := by decide +kernel
theorem dX7_rows_60 : decode cX7_rows 60 = .ok (.ireturn, 1) := by decide +kernel
set_option maxRecDepth 20000 in
theorem ggX7_threadOf_X7_in : GoodIn wsX7_threadOf wsX7_in := goodIn_r _ [6] (by decide +kernel) (by decide +kernel)
set_option maxRecDepth 20000 in
theorem gX7_threadOf_X7_in : GoodIn wsX7_threadOf (va_wsS RX7 22 yX7_in wsX7_in) := goodIn_app (goodIn_of _ (by decide +kernel)) ggX7_threadOf_X7_in
set_option maxRecDepth 20000 in
theorem ggX7_threadOf_X7_rows : GoodIn wsX7_threadOf wsX7_rows := goodIn_r _ [10, 2, 11, 12, 13, 5, 14, 15, 16, 17, 18, 19, 20, 21, 26, 27, 28, 29, 30, 31, 32, 33, 34, 35, 36, 37, 38, 39] (by decide +kernel) (by decide +kernel)
set_option maxRecDepth 20000 in
theorem gX7_threadOf_X7_rows : GoodIn wsX7_threadOf (wsV RX7 104 RX7 yX7_rows wsX7_rows) := goodIn_app (goodIn_of _ (by decide +kernel)) ggX7_threadOf_X7_rows
set_option maxRecDepth 20000 in
theorem ggX7_threadOf_X7_floats : GoodIn wsX7_threadOf wsX7_floats := goodIn_r _ [25, 2, 15, 16, 17, 5, 18, 19, 20, 21, 26, 27, 28, 29, 30, 31, 32, 33, 34, 35, 36, 37, 38, 39] (by decide +kernel) (by decide +kernel)
set_option maxRecDepth 20000 in
theorem gX7_threadOf_X7_floats : GoodIn wsX7_threadOf (wsV RX7 107 RX7 yX7_floats wsX7_floats) := goodIn_app (goodIn_of _ (by decide +kernel)) ggX7_threadOf_X7_floats
theorem dX7_threadOf_0 : decode cX7_threadOf 0 = .ok (.iload_n 1, 1) := by decide +kernel
theorem dX7_threadOf_1 : decode cX7_threadOf 1 = .ok (.iconst 0, 1) := by decide +kernel
theorem dX7_threadOf_2 : decode cX7_threadOf 2 = .ok (.bipush 7, 2) := by decide +kernel
theorem dX7_threadOf_4 : decode cX7_threadOf 4 = .ok (.invokestatic 22, 3) := by decide +kernel
theorem dX7_threadOf_7 : decode cX7_threadOf 7 = .ok (.ifCond .ne 6, 3) := by decide +kernel
theorem dX7_threadOf_10 : decode cX7_threadOf 10 = .ok (.ldc 51, 2) := by decide +kernel
theorem dX7_threadOf_12 : decode cX7_threadOf 12 = .ok (.ireturn, 1) := by decide +kernel
theorem dX7_threadOf_13 : decode cX7_threadOf 13 = .ok (.iload_n 2, 1) := by decide +kernel
theorem dX7_threadOf_14 : decode cX7_threadOf 14 = .ok (.tableswitch 71 0 5 #[38, 47, 57, 57, 64, 64], 38) := by decide +kernel
theorem dX7_threadOf_52 : decode cX7_threadOf 52 = .ok (.aload_n 0, 1) := by decide +kernel
theorem dX7_threadOf_53 : decode cX7_threadOf 53 = .ok (.getfield 7, 3) := by decide +kernel
theorem dX7_threadOf_56 : decode cX7_threadOf 56 = .ok (.iconst 0, 1) := by decide +kernel
theorem dX7_threadOf_57 : decode cX7_threadOf 57 = .ok (.iload_n 1, 1) := by decide +kernel
theorem dX7_threadOf_58 : decode cX7_threadOf 58 = .ok (.iadd, 1) := by decide +kernel
theorem dX7_threadOf_59 : decode cX7_threadOf 59 = .ok (.iaload, 1) := by decide +kernel
theorem dX7_threadOf_60 : decode cX7_threadOf 60 = .ok (.ireturn, 1) := by decide +kernel
theorem dX7_threadOf_61 : decode cX7_threadOf 61 = .ok (.aload_n 0, 1) := by decide +kernel
theorem dX7_threadOf_62 : decode cX7_threadOf 62 = .ok (.getfield 7, 3) := by decide +kernel
theorem dX7_threadOf_65 : decode cX7_threadOf 65 = .ok (.bipush 8, 2) := by decide +kernel
theorem dX7_threadOf_67 : decode cX7_threadOf 67 = .ok (.iload_n 1, 1) := by decide +kernel
theorem dX7_threadOf_68 : decode cX7_threadOf 68 = .ok (.iadd, 1) := by decide +kernel
theorem dX7_threadOf_69 : decode cX7_threadOf 69 = .ok (.iaload, 1) := by decide +kernel
theorem dX7_threadOf_70 : decode cX7_threadOf 70 = .ok (.ireturn, 1) := by decide +kernel
theorem dX7_threadOf_71 : decode cX7_threadOf 71 = .ok (.aload_n 0, 1) := by decide +kernel
theorem dX7_threadOf_72 : decode cX7_threadOf 72 = .ok (.iload_n 1, 1) := by decide +kernel
theorem dX7_threadOf_73 : decode cX7_threadOf 73 = .ok (.iload_n 2, 1) := by decide +kernel
theorem dX7_threadOf_74 : decode cX7_threadOf 74 = .ok (.invokevirtual 104, 3) := by decide +kernel
theorem dX7_threadOf_77 : decode cX7_threadOf 77 = .ok (.ireturn, 1) := by decide +kernel
theorem dX7_threadOf_78 : decode cX7_threadOf 78 = .ok (.aload_n 0, 1) := by decide +kernel
theorem dX7_threadOf_79 : decode cX7_threadOf 79 = .ok (.iload_n 1, 1) := by decide +kernel
theorem dX7_threadOf_80 : decode cX7_threadOf 80 = .ok (.iload_n 2, 1) := by decide +kernel
theorem dX7_threadOf_81 : decode cX7_threadOf 81 = .ok (.invokevirtual 107, 3) := by decide +kernel
theorem dX7_threadOf_84 : decode cX7_threadOf 84 = .ok (.ireturn, 1) := by decide +kernel
theorem dX7_threadOf_85 : decode cX7_threadOf 85 = .ok (.ldc 51, 2) := by decide +kernel
theorem dX7_threadOf_87 : decode cX7_threadOf 87 = .ok (.ireturn, 1) := by decide +kernel
set_option maxRecDepth 20000 in
theorem ggX7_toneOf_X7_in : GoodIn wsX7_toneOf wsX7_in := goodIn_r _ [7] (by decide +kernel) (by decide +kernel)
set_option maxRecDepth 20000 in
theorem gX7_toneOf_X7_in : GoodIn wsX7_toneOf (va_wsS RX7 22 yX7_in wsX7_in) := goodIn_app (goodIn_of _ (by decide +kernel)) ggX7_toneOf_X7_in
set_option maxRecDepth 20000 in
theorem ggX7_toneOf_X7_begins : GoodIn wsX7_toneOf wsX7_begins := goodIn_r _ [11, 12, 13, 14, 6, 15, 2, 16, 17, 18, 23, 24, 25, 26, 27, 28, 29, 30, 31, 32, 33, 34, 35, 36] (by decide +kernel) (by decide +kernel)
set_option maxRecDepth 20000 in
theorem gX7_toneOf_X7_begins : GoodIn wsX7_toneOf (wsV RX7 87 RX7 yX7_begins wsX7_begins) := goodIn_app (goodIn_of _ (by decide +kernel)) ggX7_toneOf_X7_begins
set_option maxRecDepth 20000 in
theorem ggX7_toneOf_X7_lengthOf : GoodIn wsX7_toneOf wsX7_lengthOf := goodIn_r _ [22, 12, 13, 14, 6, 15, 2, 16, 17, 18, 23, 24, 25, 26, 27, 28, 29, 30, 31, 32, 33, 34, 35, 36] (by decide +kernel) (by decide +kernel)
set_option maxRecDepth 20000 in
theorem gX7_toneOf_X7_lengthOf : GoodIn wsX7_toneOf (wsV RX7 110 RX7 yX7_lengthOf wsX7_lengthOf) := goodIn_app (goodIn_of _ (by decide +kernel)) ggX7_toneOf_X7_lengthOf
theorem dX7_toneOf_0 : decode cX7_toneOf 0 = .ok (.iload_n 1, 1) := by decide +kernel
theorem dX7_toneOf_1 : decode cX7_toneOf 1 = .ok (.ifCond .lt 12, 3) := by decide +kernel
theorem dX7_toneOf_4 : decode cX7_toneOf 4 = .ok (.iload_n 2, 1) := by decide +kernel
theorem dX7_toneOf_5 : decode cX7_toneOf 5 = .ok (.iconst 0, 1) := by decide +kernel
theorem dX7_toneOf_6 : decode cX7_toneOf 6 = .ok (.iconst 4, 1) := by decide +kernel
theorem dX7_toneOf_7 : decode cX7_toneOf 7 = .ok (.invokestatic 22, 3) := by decide +kernel
theorem dX7_toneOf_10 : decode cX7_toneOf 10 = .ok (.ifCond .ne 6, 3) := by decide +kernel
theorem dX7_toneOf_13 : decode cX7_toneOf 13 = .ok (.ldc 51, 2) := by decide +kernel
theorem dX7_toneOf_15 : decode cX7_toneOf 15 = .ok (.ireturn, 1) := by decide +kernel
theorem dX7_toneOf_16 : decode cX7_toneOf 16 = .ok (.iconst 0, 1) := by decide +kernel
theorem dX7_toneOf_17 : decode cX7_toneOf 17 = .ok (.istore_n 3, 1) := by decide +kernel
theorem dX7_toneOf_18 : decode cX7_toneOf 18 = .ok (.iconst 0, 1) := by decide +kernel
theorem dX7_toneOf_19 : decode cX7_toneOf 19 = .ok (.istore 4, 2) := by decide +kernel
theorem dX7_toneOf_21 : decode cX7_toneOf 21 = .ok (.iload 4, 2) := by decide +kernel
theorem dX7_toneOf_23 : decode cX7_toneOf 23 = .ok (.bipush 8, 2) := by decide +kernel
theorem dX7_toneOf_25 : decode cX7_toneOf 25 = .ok (.aload_n 0, 1) := by decide +kernel
theorem dX7_toneOf_26 : decode cX7_toneOf 26 = .ok (.getfield 7, 3) := by decide +kernel
theorem dX7_toneOf_29 : decode cX7_toneOf 29 = .ok (.bipush 16, 2) := by decide +kernel
theorem dX7_toneOf_31 : decode cX7_toneOf 31 = .ok (.iaload, 1) := by decide +kernel
theorem dX7_toneOf_32 : decode cX7_toneOf 32 = .ok (.imul, 1) := by decide +kernel
theorem dX7_toneOf_33 : decode cX7_toneOf 33 = .ok (.if_icmp .ge 105, 3) := by decide +kernel
theorem dX7_toneOf_36 : decode cX7_toneOf 36 = .ok (.iload 4, 2) := by decide +kernel
theorem dX7_toneOf_38 : decode cX7_toneOf 38 = .ok (.bipush 8, 2) := by decide +kernel
theorem dX7_toneOf_40 : decode cX7_toneOf 40 = .ok (.idiv, 1) := by decide +kernel
theorem dX7_toneOf_41 : decode cX7_toneOf 41 = .ok (.istore 5, 2) := by decide +kernel
theorem dX7_toneOf_43 : decode cX7_toneOf 43 = .ok (.iload 4, 2) := by decide +kernel
theorem dX7_toneOf_45 : decode cX7_toneOf 45 = .ok (.bipush 8, 2) := by decide +kernel
theorem dX7_toneOf_47 : decode cX7_toneOf 47 = .ok (.irem, 1) := by decide +kernel
theorem dX7_toneOf_48 : decode cX7_toneOf 48 = .ok (.istore 6, 2) := by decide +kernel
theorem dX7_toneOf_50 : decode cX7_toneOf 50 = .ok (.aload_n 0, 1) := by decide +kernel
theorem dX7_toneOf_51 : decode cX7_toneOf 51 = .ok (.iload 5, 2) := by decide +kernel
theorem dX7_toneOf_53 : decode cX7_toneOf 53 = .ok (.iload 6, 2) := by decide +kernel
theorem dX7_toneOf_55 : decode cX7_toneOf 55 = .ok (.invokevirtual 87, 3) := by decide +kernel
theorem dX7_toneOf_58 : decode cX7_toneOf 58 = .ok (.ifCond .eq 74, 3) := by decide +kernel
theorem dX7_toneOf_61 : decode cX7_toneOf 61 = .ok (.iload_n 3, 1) := by decide +kernel
theorem dX7_toneOf_62 : decode cX7_toneOf 62 = .ok (.iload_n 1, 1) := by decide +kernel
theorem dX7_toneOf_63 : decode cX7_toneOf 63 = .ok (.if_icmp .ne 66, 3) := by decide +kernel
theorem dX7_toneOf_66 : decode cX7_toneOf 66 = .ok (.iload_n 2, 1) := by decide +kernel
theorem dX7_toneOf_67 : decode cX7_toneOf 67 = .ok (.ifCond .ne 8, 3) := by decide +kernel
theorem dX7_toneOf_70 : decode cX7_toneOf 70 = .ok (.iload 6, 2) := by decide +kernel
theorem dX7_toneOf_72 : decode cX7_toneOf 72 = .ok (.goto 56, 3) := by decide +kernel
theorem dX7_toneOf_75 : decode cX7_toneOf 75 = .ok (.iload_n 2, 1) := by decide +kernel
theorem dX7_toneOf_76 : decode cX7_toneOf 76 = .ok (.iconst 1, 1) := by decide +kernel
theorem dX7_toneOf_77 : decode cX7_toneOf 77 = .ok (.if_icmp .ne 8, 3) := by decide +kernel
theorem dX7_toneOf_80 : decode cX7_toneOf 80 = .ok (.iload 5, 2) := by decide +kernel
theorem dX7_toneOf_82 : decode cX7_toneOf 82 = .ok (.goto 46, 3) := by decide +kernel
theorem dX7_toneOf_85 : decode cX7_toneOf 85 = .ok (.iload_n 2, 1) := by decide +kernel
theorem dX7_toneOf_86 : decode cX7_toneOf 86 = .ok (.iconst 2, 1) := by decide +kernel
theorem dX7_toneOf_87 : decode cX7_toneOf 87 = .ok (.if_icmp .ne 14, 3) := by decide +kernel
theorem dX7_toneOf_90 : decode cX7_toneOf 90 = .ok (.aload_n 0, 1) := by decide +kernel
theorem dX7_toneOf_91 : decode cX7_toneOf 91 = .ok (.iload 5, 2) := by decide +kernel
theorem dX7_toneOf_93 : decode cX7_toneOf 93 = .ok (.iload 6, 2) := by decide +kernel
theorem dX7_toneOf_95 : decode cX7_toneOf 95 = .ok (.invokevirtual 110, 3) := by decide +kernel
theorem dX7_toneOf_98 : decode cX7_toneOf 98 = .ok (.goto 30, 3) := by decide +kernel
theorem dX7_toneOf_101 : decode cX7_toneOf 101 = .ok (.iload_n 2, 1) := by decide +kernel
theorem dX7_toneOf_102 : decode cX7_toneOf 102 = .ok (.iconst 3, 1) := by decide +kernel
theorem dX7_toneOf_103 : decode cX7_toneOf 103 = .ok (.if_icmp .ne 15, 3) := by decide +kernel
theorem dX7_toneOf_106 : decode cX7_toneOf 106 = .ok (.aload_n 0, 1) := by decide +kernel
theorem dX7_toneOf_107 : decode cX7_toneOf 107 = .ok (.getfield 7, 3) := by decide +kernel
theorem dX7_toneOf_110 : decode cX7_toneOf 110 = .ok (.iconst 0, 1) := by decide +kernel
theorem dX7_toneOf_111 : decode cX7_toneOf 111 = .ok (.iload 6, 2) := by decide +kernel
theorem dX7_toneOf_113 : decode cX7_toneOf 113 = .ok (.iadd, 1) := by decide +kernel
theorem dX7_toneOf_114 : decode cX7_toneOf 114 = .ok (.iaload, 1) := by decide +kernel
theorem dX7_toneOf_115 : decode cX7_toneOf 115 = .ok (.goto 13, 3) := by decide +kernel
theorem dX7_toneOf_118 : decode cX7_toneOf 118 = .ok (.iload 5, 2) := by decide +kernel
theorem dX7_toneOf_120 : decode cX7_toneOf 120 = .ok (.aload_n 0, 1) := by decide +kernel
theorem dX7_toneOf_121 : decode cX7_toneOf 121 = .ok (.getfield 7, 3) := by decide +kernel
theorem dX7_toneOf_124 : decode cX7_toneOf 124 = .ok (.bipush 68, 2) := by decide +kernel
theorem dX7_toneOf_126 : decode cX7_toneOf 126 = .ok (.iaload, 1) := by decide +kernel
theorem dX7_toneOf_127 : decode cX7_toneOf 127 = .ok (.idiv, 1) := by decide +kernel
theorem dX7_toneOf_128 : decode cX7_toneOf 128 = .ok (.ireturn, 1) := by decide +kernel
theorem dX7_toneOf_129 : decode cX7_toneOf 129 = .ok (.iinc 3 1, 3) := by decide +kernel
theorem dX7_toneOf_132 : decode cX7_toneOf 132 = .ok (.iinc 4 1, 3) := by decide +kernel
theorem dX7_toneOf_135 : decode cX7_toneOf 135 = .ok (.goto (-114), 3) := by decide +kernel
theorem dX7_toneOf_138 : decode cX7_toneOf 138 = .ok (.ldc 93, 2) := by decide +kernel
theorem dX7_toneOf_140 : decode cX7_toneOf 140 = .ok (.ireturn, 1) := by decide +kernel
set_option maxRecDepth 20000 in
theorem ggX7_barOf_X7_in : GoodIn wsX7_barOf wsX7_in := goodIn_r _ [6] (by decide +kernel) (by decide +kernel)
set_option maxRecDepth 20000 in
theorem gX7_barOf_X7_in : GoodIn wsX7_barOf (va_wsS RX7 22 yX7_in wsX7_in) := goodIn_app (goodIn_of _ (by decide +kernel)) ggX7_barOf_X7_in
set_option maxRecDepth 20000 in
theorem ggX7_barOf_X7_notes : GoodIn wsX7_barOf wsX7_notes := goodIn_r _ [10, 2, 11, 12, 5, 13, 30, 31, 32, 33, 34, 35, 36, 37, 38, 39, 40, 41, 42, 43] (by decide +kernel) (by decide +kernel)
set_option maxRecDepth 20000 in
theorem gX7_barOf_X7_notes : GoodIn wsX7_barOf (wsV RX7 94 RX7 yX7_notes wsX7_notes) := goodIn_app (goodIn_of _ (by decide +kernel)) ggX7_barOf_X7_notes
set_option maxRecDepth 20000 in
theorem ggX7_barOf_X7_tonesOf : GoodIn wsX7_barOf wsX7_tonesOf := goodIn_r _ [17, 18, 19, 20, 5, 21, 22, 23, 24, 25, 2, 11, 12, 13, 30, 31, 32, 33, 34, 35, 36, 37, 38, 39, 40, 41, 42, 43] (by decide +kernel) (by decide +kernel)
set_option maxRecDepth 20000 in
theorem gX7_barOf_X7_tonesOf : GoodIn wsX7_barOf (wsV RX7 90 RX7 yX7_tonesOf wsX7_tonesOf) := goodIn_app (goodIn_of _ (by decide +kernel)) ggX7_barOf_X7_tonesOf
set_option maxRecDepth 20000 in
theorem ggX7_barOf_X7_clashes : GoodIn wsX7_barOf wsX7_clashes := goodIn_r _ [29, 2, 11, 12, 5, 13, 30, 31, 32, 33, 34, 35, 36, 37, 38, 39, 40, 41, 42, 43] (by decide +kernel) (by decide +kernel)
set_option maxRecDepth 20000 in
theorem gX7_barOf_X7_clashes : GoodIn wsX7_barOf (wsV RX7 38 RX7 yX7_clashes wsX7_clashes) := goodIn_app (goodIn_of _ (by decide +kernel)) ggX7_barOf_X7_clashes
theorem dX7_barOf_0 : decode cX7_barOf 0 = .ok (.iload_n 1, 1) := by decide +kernel
theorem dX7_barOf_1 : decode cX7_barOf 1 = .ok (.iconst 0, 1) := by decide +kernel
theorem dX7_barOf_2 : decode cX7_barOf 2 = .ok (.bipush 11, 2) := by decide +kernel
theorem dX7_barOf_4 : decode cX7_barOf 4 = .ok (.invokestatic 22, 3) := by decide +kernel
theorem dX7_barOf_7 : decode cX7_barOf 7 = .ok (.ifCond .eq 12, 3) := by decide +kernel
theorem dX7_barOf_10 : decode cX7_barOf 10 = .ok (.iload_n 2, 1) := by decide +kernel
theorem dX7_barOf_11 : decode cX7_barOf 11 = .ok (.iconst 0, 1) := by decide +kernel
theorem dX7_barOf_12 : decode cX7_barOf 12 = .ok (.iconst 3, 1) := by decide +kernel
theorem dX7_barOf_13 : decode cX7_barOf 13 = .ok (.invokestatic 22, 3) := by decide +kernel
theorem dX7_barOf_16 : decode cX7_barOf 16 = .ok (.ifCond .ne 6, 3) := by decide +kernel
theorem dX7_barOf_19 : decode cX7_barOf 19 = .ok (.ldc 51, 2) := by decide +kernel
theorem dX7_barOf_21 : decode cX7_barOf 21 = .ok (.ireturn, 1) := by decide +kernel
theorem dX7_barOf_22 : decode cX7_barOf 22 = .ok (.iconst 0, 1) := by decide +kernel
theorem dX7_barOf_23 : decode cX7_barOf 23 = .ok (.istore_n 3, 1) := by decide +kernel
theorem dX7_barOf_24 : decode cX7_barOf 24 = .ok (.iconst 0, 1) := by decide +kernel
theorem dX7_barOf_25 : decode cX7_barOf 25 = .ok (.istore 4, 2) := by decide +kernel
theorem dX7_barOf_27 : decode cX7_barOf 27 = .ok (.iload 4, 2) := by decide +kernel
theorem dX7_barOf_29 : decode cX7_barOf 29 = .ok (.aload_n 0, 1) := by decide +kernel
theorem dX7_barOf_30 : decode cX7_barOf 30 = .ok (.getfield 7, 3) := by decide +kernel
theorem dX7_barOf_33 : decode cX7_barOf 33 = .ok (.bipush 16, 2) := by decide +kernel
theorem dX7_barOf_35 : decode cX7_barOf 35 = .ok (.iaload, 1) := by decide +kernel
theorem dX7_barOf_36 : decode cX7_barOf 36 = .ok (.if_icmp .ge 82, 3) := by decide +kernel
theorem dX7_barOf_39 : decode cX7_barOf 39 = .ok (.aload_n 0, 1) := by decide +kernel
theorem dX7_barOf_40 : decode cX7_barOf 40 = .ok (.getfield 7, 3) := by decide +kernel
theorem dX7_barOf_43 : decode cX7_barOf 43 = .ok (.bipush 17, 2) := by decide +kernel
theorem dX7_barOf_45 : decode cX7_barOf 45 = .ok (.iload 4, 2) := by decide +kernel
theorem dX7_barOf_47 : decode cX7_barOf 47 = .ok (.iadd, 1) := by decide +kernel
theorem dX7_barOf_48 : decode cX7_barOf 48 = .ok (.iaload, 1) := by decide +kernel
theorem dX7_barOf_49 : decode cX7_barOf 49 = .ok (.istore 5, 2) := by decide +kernel
theorem dX7_barOf_51 : decode cX7_barOf 51 = .ok (.iload 4, 2) := by decide +kernel
theorem dX7_barOf_53 : decode cX7_barOf 53 = .ok (.aload_n 0, 1) := by decide +kernel
theorem dX7_barOf_54 : decode cX7_barOf 54 = .ok (.getfield 7, 3) := by decide +kernel
theorem dX7_barOf_57 : decode cX7_barOf 57 = .ok (.bipush 68, 2) := by decide +kernel
theorem dX7_barOf_59 : decode cX7_barOf 59 = .ok (.iaload, 1) := by decide +kernel
theorem dX7_barOf_60 : decode cX7_barOf 60 = .ok (.idiv, 1) := by decide +kernel
theorem dX7_barOf_61 : decode cX7_barOf 61 = .ok (.iload_n 1, 1) := by decide +kernel
theorem dX7_barOf_62 : decode cX7_barOf 62 = .ok (.if_icmp .ne 50, 3) := by decide +kernel
theorem dX7_barOf_65 : decode cX7_barOf 65 = .ok (.iload_n 2, 1) := by decide +kernel
theorem dX7_barOf_66 : decode cX7_barOf 66 = .ok (.iconst 3, 1) := by decide +kernel
theorem dX7_barOf_67 : decode cX7_barOf 67 = .ok (.if_icmp .ne 14, 3) := by decide +kernel
theorem dX7_barOf_70 : decode cX7_barOf 70 = .ok (.iload_n 3, 1) := by decide +kernel
theorem dX7_barOf_71 : decode cX7_barOf 71 = .ok (.aload_n 0, 1) := by decide +kernel
theorem dX7_barOf_72 : decode cX7_barOf 72 = .ok (.iload 5, 2) := by decide +kernel
theorem dX7_barOf_74 : decode cX7_barOf 74 = .ok (.invokevirtual 94, 3) := by decide +kernel
theorem dX7_barOf_77 : decode cX7_barOf 77 = .ok (.ior, 1) := by decide +kernel
theorem dX7_barOf_78 : decode cX7_barOf 78 = .ok (.goto 33, 3) := by decide +kernel
theorem dX7_barOf_81 : decode cX7_barOf 81 = .ok (.iload_n 3, 1) := by decide +kernel
theorem dX7_barOf_82 : decode cX7_barOf 82 = .ok (.iload_n 2, 1) := by decide +kernel
theorem dX7_barOf_83 : decode cX7_barOf 83 = .ok (.ifCond .ne 7, 3) := by decide +kernel
theorem dX7_barOf_86 : decode cX7_barOf 86 = .ok (.iconst 1, 1) := by decide +kernel
theorem dX7_barOf_87 : decode cX7_barOf 87 = .ok (.goto 23, 3) := by decide +kernel
theorem dX7_barOf_90 : decode cX7_barOf 90 = .ok (.iload_n 2, 1) := by decide +kernel
theorem dX7_barOf_91 : decode cX7_barOf 91 = .ok (.iconst 1, 1) := by decide +kernel
theorem dX7_barOf_92 : decode cX7_barOf 92 = .ok (.if_icmp .ne 12, 3) := by decide +kernel
theorem dX7_barOf_95 : decode cX7_barOf 95 = .ok (.aload_n 0, 1) := by decide +kernel
theorem dX7_barOf_96 : decode cX7_barOf 96 = .ok (.iload 4, 2) := by decide +kernel
theorem dX7_barOf_98 : decode cX7_barOf 98 = .ok (.invokevirtual 90, 3) := by decide +kernel
theorem dX7_barOf_101 : decode cX7_barOf 101 = .ok (.goto 9, 3) := by decide +kernel
theorem dX7_barOf_104 : decode cX7_barOf 104 = .ok (.aload_n 0, 1) := by decide +kernel
theorem dX7_barOf_105 : decode cX7_barOf 105 = .ok (.iload 5, 2) := by decide +kernel
theorem dX7_barOf_107 : decode cX7_barOf 107 = .ok (.invokevirtual 38, 3) := by decide +kernel
theorem dX7_barOf_110 : decode cX7_barOf 110 = .ok (.iadd, 1) := by decide +kernel
theorem dX7_barOf_111 : decode cX7_barOf 111 = .ok (.istore_n 3, 1) := by decide +kernel
theorem dX7_barOf_112 : decode cX7_barOf 112 = .ok (.iinc 4 1, 3) := by decide +kernel
theorem dX7_barOf_115 : decode cX7_barOf 115 = .ok (.goto (-88), 3) := by decide +kernel
theorem dX7_barOf_118 : decode cX7_barOf 118 = .ok (.iload_n 3, 1) := by decide +kernel
theorem dX7_barOf_119 : decode cX7_barOf 119 = .ok (.ireturn, 1) := by decide +kernel
set_option maxRecDepth 20000 in
theorem ggX7_timesOf_X7_sounds : GoodIn wsX7_timesOf wsX7_sounds := goodIn_r _ [6, 1, 7, 8, 5, 9, 10, 11, 12, 13, 14, 15, 16, 17, 18, 19, 20, 21, 22, 23] (by decide +kernel) (by decide +kernel)
set_option maxRecDepth 20000 in
theorem gX7_timesOf_X7_sounds : GoodIn wsX7_timesOf (wsV RX7 84 RX7 yX7_sounds wsX7_sounds) := goodIn_app (goodIn_of _ (by decide +kernel)) ggX7_timesOf_X7_sounds
theorem dX7_timesOf_0 : decode cX7_timesOf 0 = .ok (.iconst 0, 1) := by decide +kernel
theorem dX7_timesOf_1 : decode cX7_timesOf 1 = .ok (.istore_n 3, 1) := by decide +kernel
theorem dX7_timesOf_2 : decode cX7_timesOf 2 = .ok (.iconst 0, 1) := by decide +kernel
theorem dX7_timesOf_3 : decode cX7_timesOf 3 = .ok (.istore 4, 2) := by decide +kernel
theorem dX7_timesOf_5 : decode cX7_timesOf 5 = .ok (.iload 4, 2) := by decide +kernel
theorem dX7_timesOf_7 : decode cX7_timesOf 7 = .ok (.bipush 8, 2) := by decide +kernel
theorem dX7_timesOf_9 : decode cX7_timesOf 9 = .ok (.if_icmp .ge 40, 3) := by decide +kernel
theorem dX7_timesOf_12 : decode cX7_timesOf 12 = .ok (.iload_n 3, 1) := by decide +kernel
theorem dX7_timesOf_13 : decode cX7_timesOf 13 = .ok (.aload_n 0, 1) := by decide +kernel
theorem dX7_timesOf_14 : decode cX7_timesOf 14 = .ok (.iload_n 1, 1) := by decide +kernel
theorem dX7_timesOf_15 : decode cX7_timesOf 15 = .ok (.iload 4, 2) := by decide +kernel
theorem dX7_timesOf_17 : decode cX7_timesOf 17 = .ok (.invokevirtual 84, 3) := by decide +kernel
theorem dX7_timesOf_20 : decode cX7_timesOf 20 = .ok (.ifCond .eq 20, 3) := by decide +kernel
theorem dX7_timesOf_23 : decode cX7_timesOf 23 = .ok (.aload_n 0, 1) := by decide +kernel
theorem dX7_timesOf_24 : decode cX7_timesOf 24 = .ok (.getfield 7, 3) := by decide +kernel
theorem dX7_timesOf_27 : decode cX7_timesOf 27 = .ok (.iconst 0, 1) := by decide +kernel
theorem dX7_timesOf_28 : decode cX7_timesOf 28 = .ok (.iload 4, 2) := by decide +kernel
theorem dX7_timesOf_30 : decode cX7_timesOf 30 = .ok (.iadd, 1) := by decide +kernel
theorem dX7_timesOf_31 : decode cX7_timesOf 31 = .ok (.iaload, 1) := by decide +kernel
theorem dX7_timesOf_32 : decode cX7_timesOf 32 = .ok (.iload_n 2, 1) := by decide +kernel
theorem dX7_timesOf_33 : decode cX7_timesOf 33 = .ok (.if_icmp .ne 7, 3) := by decide +kernel
theorem dX7_timesOf_36 : decode cX7_timesOf 36 = .ok (.iconst 1, 1) := by decide +kernel
theorem dX7_timesOf_37 : decode cX7_timesOf 37 = .ok (.goto 4, 3) := by decide +kernel
theorem dX7_timesOf_40 : decode cX7_timesOf 40 = .ok (.iconst 0, 1) := by decide +kernel
theorem dX7_timesOf_41 : decode cX7_timesOf 41 = .ok (.iadd, 1) := by decide +kernel
theorem dX7_timesOf_42 : decode cX7_timesOf 42 = .ok (.istore_n 3, 1) := by decide +kernel
theorem dX7_timesOf_43 : decode cX7_timesOf 43 = .ok (.iinc 4 1, 3) := by decide +kernel
theorem dX7_timesOf_46 : decode cX7_timesOf 46 = .ok (.goto (-41), 3) := by decide +kernel
theorem dX7_timesOf_49 : decode cX7_timesOf 49 = .ok (.iload_n 3, 1) := by decide +kernel
theorem dX7_timesOf_50 : decode cX7_timesOf 50 = .ok (.ireturn, 1) := by decide +kernel
set_option maxRecDepth 20000 in
theorem ggX7_areAlike_X7_timesOf : GoodIn wsX7_areAlike wsX7_timesOf := goodIn_r _ [5, 6, 7, 8, 9, 4, 10, 11, 12, 13, 14, 15, 16, 17, 18, 19, 20, 21, 22, 23, 24, 25, 26, 27] (by decide +kernel) (by decide +kernel)
set_option maxRecDepth 20000 in
theorem gX7_areAlike_X7_timesOf : GoodIn wsX7_areAlike (wsV RX7 113 RX7 yX7_timesOf wsX7_timesOf) := goodIn_app (goodIn_of _ (by decide +kernel)) ggX7_areAlike_X7_timesOf
theorem dX7_areAlike_0 : decode cX7_areAlike 0 = .ok (.iconst 1, 1) := by decide +kernel
theorem dX7_areAlike_1 : decode cX7_areAlike 1 = .ok (.istore_n 3, 1) := by decide +kernel
theorem dX7_areAlike_2 : decode cX7_areAlike 2 = .ok (.iconst 0, 1) := by decide +kernel
theorem dX7_areAlike_3 : decode cX7_areAlike 3 = .ok (.istore 4, 2) := by decide +kernel
theorem dX7_areAlike_5 : decode cX7_areAlike 5 = .ok (.iload 4, 2) := by decide +kernel
theorem dX7_areAlike_7 : decode cX7_areAlike 7 = .ok (.bipush 48, 2) := by decide +kernel
theorem dX7_areAlike_9 : decode cX7_areAlike 9 = .ok (.if_icmp .ge 36, 3) := by decide +kernel
theorem dX7_areAlike_12 : decode cX7_areAlike 12 = .ok (.iload_n 3, 1) := by decide +kernel
theorem dX7_areAlike_13 : decode cX7_areAlike 13 = .ok (.ifCond .eq 24, 3) := by decide +kernel
