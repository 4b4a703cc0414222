theorem dX7_threadOf_71 : decode cX7_threadOf 71 = .ok (.aload_n 0, 1) := by decide +kernel
theorem dX7_threadOf_72 : decode cX7_threadOf 72 = .ok (.iload_n 1, 1) := by decide +kernel
theorem dX7_threadOf_73 : decode cX7_threadOf 73 = .ok (.iload_n 2, 1) := by decide +kernel
theorem dX7_threadOf_74 : decode cX7_threadOf 74 = .ok (.invokevirtual 104, 3) := by decide +kernel
theorem dX7_threadOf_77 : decode cX7_threadOf 77 = .ok (.ireturn, 1) := by decide +kernel
theorem dX7_threadOf_78 : decode cX7_threadOf 78 = .ok (.aload_n 0, 1) := by decide +kernel
theorem dX7_threadOf_79 : decode cX7_threadOf 79 = .ok (.iload_n 1, 1) := by decide +kernel
theorem dX7_threadOf_80 : decode cX7_threadOf 80 = .ok (.iload_n 2, 1) := by decide +kernel
theorem dX7_threadOf_81 : decode cX7_threadOf 81 = .ok (.invokevirtual 107, 3) := by decide +kernel
theorem dX7_threadOf_84 : decode cX7_threadOf 84 = .ok (.ireturn, 1) := by decide +kernel
theorem dX7_threadOf_85 : decode cX7_threadOf 85 = .ok (.ldc 51, 2) := by decide +kernel
theorem dX7_threadOf_87 : decode cX7_threadOf 87 = .ok (.ireturn, 1) := by decide +kernel
set_option maxRecDepth 20000 in
theorem ggX7_toneOf_X7_in : GoodIn wsX7_toneOf wsX7_in := goodIn_r _ [7] (by decide +kernel) (by decide +kernel)
set_option maxRecDepth 20000 in
theorem gX7_toneOf_X7_in : GoodIn wsX7_toneOf (va_wsS RX7 22 yX7_in wsX7_in) := goodIn_app (goodIn_of _ (by decide +kernel)) ggX7_toneOf_X7_in
set_option maxRecDepth 20000 in
theorem ggX7_toneOf_X7_begins : GoodIn wsX7_toneOf wsX7_begins := goodIn_r _ [11, 12, 13, 14, 6, 15, 2, 16, 17, 18, 23, 24, 25, 26, 27, 28, 29, 30, 31, 32, 33, 34, 35, 36] (by decide +kernel) (by decide +kernel)
set_option maxRecDepth 20000 in
theorem gX7_toneOf_X7_begins : GoodIn wsX7_toneOf (wsV RX7 87 RX7 yX7_begins wsX7_begins) := goodIn_app (goodIn_of _ (by decide +kernel)) ggX7_toneOf_X7_begins
set_option maxRecDepth 20000 in
theorem ggX7_toneOf_X7_lengthOf : GoodIn wsX7_toneOf wsX7_lengthOf := goodIn_r _ [22, 12, 13, 14, 6, 15, 2, 16, 17, 18, 23, 24, 25, 26, 27, 28, 29, 30, 31, 32, 33, 34, 35, 36] (by decide +kernel) (by decide +kernel)
set_option maxRecDepth 20000 in
theorem gX7_toneOf_X7_lengthOf : GoodIn wsX7_toneOf (wsV RX7 110 RX7 yX7_lengthOf wsX7_lengthOf) := goodIn_app (goodIn_of _ (by decide +kernel)) ggX7_toneOf_X7_lengthOf
theorem dX7_toneOf_0 : decode cX7_toneOf 0 = .ok (.iload_n 1, 1) := by decide +kernel
theorem dX7_toneOf_1 : decode cX7_toneOf 1 = .ok (.ifCond .lt 12, 3) := by decide +kernel
theorem dX7_toneOf_4 : decode cX7_toneOf 4 = .ok (.iload_n 2, 1) := by decide +kernel
theorem dX7_toneOf_5 : decode cX7_toneOf 5 = .ok (.iconst 0, 1) := by decide +kernel
theorem dX7_toneOf_6 : decode cX7_toneOf 6 = .ok (.iconst 4, 1) := by decide +kernel
theorem dX7_toneOf_7 : decode cX7_toneOf 7 = .ok (.invokestatic 22, 3) := by decide +kernel
theorem dX7_toneOf_10 : decode cX7_toneOf 10 = .ok (.ifCond .ne 6, 3) := by decide +kernel
theorem dX7_toneOf_13 : decode cX7_toneOf 13 = .ok (.ldc 51, 2) := by decide +kernel
theorem dX7_toneOf_15 : decode cX7_toneOf 15 = .ok (.ireturn, 1) := by decide +kernel
theorem dX7_toneOf_16 : decode cX7_toneOf 16 = .ok (.iconst 0, 1) := by decide +kernel
theorem dX7_toneOf_17 : decode cX7_toneOf 17 = .ok (.istore_n 3, 1) := by decide +kernel
theorem dX7_toneOf_18 : decode cX7_toneOf 18 = .ok (.iconst 0, 1) := by decide +kernel
theorem dX7_toneOf_19 : decode cX7_toneOf 19 = .ok (.istore 4, 2) := by decide +kernel
theorem dX7_toneOf_21 : decode cX7_toneOf 21 = .ok (.iload 4, 2) := by decide +kernel
theorem dX7_toneOf_23 : decode cX7_toneOf 23 = .ok (.bipush 8, 2) := by decide +kernel
theorem dX7_toneOf_25 : decode cX7_toneOf 25 = .ok (.aload_n 0, 1) := by decide +kernel
theorem dX7_toneOf_26 : decode cX7_toneOf 26 = .ok (.getfield 7, 3) := by decide +kernel
theorem dX7_toneOf_29 : decode cX7_toneOf 29 = .ok (.bipush 16, 2) := by decide +kernel
theorem dX7_toneOf_31 : decode cX7_toneOf 31 = .ok (.iaload, 1) := by decide +kernel
theorem dX7_toneOf_32 : decode cX7_toneOf 32 = .ok (.imul, 1) := by decide +kernel
theorem dX7_toneOf_33 : decode cX7_toneOf 33 = .ok (.if_icmp .ge 105, 3) := by decide +kernel
theorem dX7_toneOf_36 : decode cX7_toneOf 36 = .ok (.iload 4, 2) := by decide +kernel
theorem dX7_toneOf_38 : decode cX7_toneOf 38 = .ok (.bipush 8, 2) := by decide +kernel
theorem dX7_toneOf_40 : decode cX7_toneOf 40 = .ok (.idiv, 1) := by decide +kernel
theorem dX7_toneOf_41 : decode cX7_toneOf 41 = .ok (.istore 5, 2) := by decide +kernel
theorem dX7_toneOf_43 : decode cX7_toneOf 43 = .ok (.iload 4, 2) := by decide +kernel
theorem dX7_toneOf_45 : decode cX7_toneOf 45 = .ok (.bipush 8, 2) := by decide +kernel
theorem dX7_toneOf_47 : decode cX7_toneOf 47 = .ok (.irem, 1) := by decide +kernel
theorem dX7_toneOf_48 : decode cX7_toneOf 48 = .ok (.istore 6, 2) := by decide +kernel
theorem dX7_toneOf_50 : decode cX7_toneOf 50 = .ok (.aload_n 0, 1) := by decide +kernel
theorem dX7_toneOf_51 : decode cX7_toneOf 51 = .ok (.iload 5, 2) := by decide +kernel
theorem dX7_toneOf_53 : decode cX7_toneOf 53 = .ok (.iload 6, 2) := by decide +kernel
theorem dX7_toneOf_55 : decode cX7_toneOf 55 = .ok (.invokevirtual 87, 3) := by decide +kernel
theorem dX7_toneOf_58 : decode cX7_toneOf 58 = .ok (.ifCond .eq 74, 3) := by decide +kernel
theorem dX7_toneOf_61 : decode cX7_toneOf 61 = .ok (.iload_n 3, 1) := by decide +kernel
theorem dX7_toneOf_62 : decode cX7_toneOf 62 = .ok (.iload_n 1, 1) := by decide +kernel
theorem dX7_toneOf_63 : decode cX7_toneOf 63 = .ok (.if_icmp .ne 66, 3) := by decide +kernel
theorem dX7_toneOf_66 : decode cX7_toneOf 66 = .ok (.iload_n 2, 1) := by decide +kernel
theorem dX7_toneOf_67 : decode cX7_toneOf 67 = .ok (.ifCond .ne 8, 3) := by decide +kernel
theorem dX7_toneOf_70 : decode cX7_toneOf 70 = .ok (.iload 6, 2) := by decide +kernel
theorem dX7_toneOf_72 : decode cX7_toneOf 72 = .ok (.goto 56, 3) := by decide +kernel
theorem dX7_toneOf_75 : decode cX7_toneOf 75 = .ok (.iload_n 2, 1) := by decide +kernel
theorem dX7_toneOf_76 : decode cX7_toneOf 76 = .ok (.iconst 1, 1) := by decide +kernel
theorem dX7_toneOf_77 : decode cX7_toneOf 77 = .ok (.if_icmp .ne 8, 3) := by decide +kernel
theorem dX7_toneOf_80 : decode cX7_toneOf 80 = .ok (.iload 5, 2) := by decide +kernel
theorem dX7_toneOf_82 : decode cX7_toneOf 82 = .ok (.goto 46, 3) := by decide +kernel
theorem dX7_toneOf_85 : decode cX7_toneOf 85 = .ok (.iload_n 2, 1) := by decide +kernel
theorem dX7_toneOf_86 : decode cX7_toneOf 86 = .ok (.iconst 2, 1) := by decide +kernel
theorem dX7_toneOf_87 : decode cX7_toneOf 87 = .ok (.if_icmp .ne 14, 3) := by decide +kernel
theorem dX7_toneOf_90 : decode cX7_toneOf 90 = .ok (.aload_n 0, 1) := by decide +kernel
theorem dX7_toneOf_91 : decode cX7_toneOf 91 = .ok (.iload 5, 2) := by decide +kernel
theorem dX7_toneOf_93 : decode cX7_toneOf 93 = .ok (.iload 6, 2) := by decide +kernel
theorem dX7_toneOf_95 : decode cX7_toneOf 95 = .ok (.invokevirtual 110, 3) := by decide +kernel
theorem dX7_toneOf_98 : decode cX7_toneOf 98 = .ok (.goto 30, 3) := by decide +kernel
theorem dX7_toneOf_101 : decode cX7_toneOf 101 = .ok (.iload_n 2, 1) := by decide +kernel
theorem dX7_toneOf_102 : decode cX7_toneOf 102 = .ok (.iconst 3, 1) := by decide +kernel
theorem dX7_toneOf_103 : decode cX7_toneOf 103 = .ok (.if_icmp .ne 15, 3) := by decide +kernel
theorem dX7_toneOf_106 : decode cX7_toneOf 106 = .ok (.aload_n 0, 1) := by decide +kernel
theorem dX7_toneOf_107 : decode cX7_toneOf 107 = .ok (.getfield 7, 3) := by decide +kernel
theorem dX7_toneOf_110 : decode cX7_toneOf 110 = .ok (.iconst 0, 1) := by decide +kernel
theorem dX7_toneOf_111 : decode cX7_toneOf 111 = .ok (.iload 6, 2) := by decide +kernel
theorem dX7_toneOf_113 : decode cX7_toneOf 113 = .ok (.iadd, 1) := by decide +kernel
theorem dX7_toneOf_114 : decode cX7_toneOf 114 = .ok (.iaload, 1) := by decide +kernel
theorem dX7_toneOf_115 : decode cX7_toneOf 115 = .ok (.goto 13, 3) := by decide +kernel
theorem dX7_toneOf_118 : decode cX7_toneOf 118 = .ok (.iload 5, 2) := by decide +kernel
theorem dX7_toneOf_120 : decode cX7_toneOf 120 = .ok (.aload_n 0, 1) := by decide +kernel
theorem dX7_toneOf_121 : decode cX7_toneOf 121 = .ok (.getfield 7, 3) := by decide +kernel
theorem dX7_toneOf_124 : decode cX7_toneOf 124 = .ok (.bipush 68, 2) := by decide +kernel
theorem dX7_toneOf_126 : decode cX7_toneOf 126 = .ok (.iaload, 1) := by decide +kernel
theorem dX7_toneOf_127 : decode cX7_toneOf 127 = .ok (.idiv, 1) := by decide +kernel
theorem dX7_toneOf_128 : decode cX7_toneOf 128 = .ok (.ireturn, 1) := by decide +kernel
theorem dX7_toneOf_129 : decode cX7_toneOf 129 = .ok (.iinc 3 1, 3) := by decide +kernel
theorem dX7_toneOf_132 : decode cX7_toneOf 132 = .ok (.iinc 4 1, 3) := by decide +kernel
theorem dX7_toneOf_135 : decode cX7_toneOf 135 = .ok (.goto (-114), 3) := by decide +kernel
theorem dX7_toneOf_138 : decode cX7_toneOf 138 = .ok (.ldc 93, 2) := by decide +kernel
theorem dX7_toneOf_140 : decode cX7_toneOf 140 = .ok (.ireturn, 1) := by decide +kernel
set_option maxRecDepth 20000 in
theorem ggX7_barOf_X7_in : GoodIn wsX7_barOf wsX7_in := goodIn_r _ [6] (by decide +kernel) (by decide +kernel)
set_option maxRecDepth 20000 in
theorem gX7_barOf_X7_in : GoodIn wsX7_barOf (va_wsS RX7 22 yX7_in wsX7_in) := goodIn_app (goodIn_of _ (by decide +kernel)) ggX7_barOf_X7_in
set_option maxRecDepth 20000 in
theorem ggX7_barOf_X7_notes : GoodIn wsX7_barOf wsX7_notes := goodIn_r _ [10, 2, 11, 12, 5, 13, 30, 31, 32, 33, 34, 35, 36, 37, 38, 39, 40, 41, 42, 43] (by decide +kernel) (by decide +kernel)
set_option maxRecDepth 20000 in
theorem gX7_barOf_X7_notes : GoodIn wsX7_barOf (wsV RX7 94 RX7 yX7_notes wsX7_notes) := goodIn_app (goodIn_of _ (by decide +kernel)) ggX7_barOf_X7_notes
set_option maxRecDepth 20000 in
theorem ggX7_barOf_X7_tonesOf : GoodIn wsX7_barOf wsX7_tonesOf := goodIn_r _ [17, 18, 19, 20, 5, 21, 22, 23, 24, 25, 2, 11, 12, 13, 30, 31, 32, 33, 34, 35, 36, 37, 38, 39, 40, 41, 42, 43] (by decide +kernel) (by decide +kernel)
set_option maxRecDepth 20000 in
theorem gX7_barOf_X7_tonesOf : GoodIn wsX7_barOf (wsV RX7 90 RX7 yX7_tonesOf wsX7_tonesOf) := goodIn_app (goodIn_of _ (by decide +kernel)) ggX7_barOf_X7_tonesOf
set_option maxRecDepth 20000 in
theorem ggX7_barOf_X7_clashes : GoodIn wsX7_barOf wsX7_clashes := goodIn_r _ [29, 2, 11, 12, 5, 13, 30, 31, 32, 33, 34, 35, 36, 37, 38, 39, 40, 41, 42, 43] (by decide +kernel) (by decide +kernel)
set_option maxRecDepth 20000 in
theorem gX7_barOf_X7_clashes : GoodIn wsX7_barOf (wsV RX7 38 RX7 yX7_clashes wsX7_clashes) := goodIn_app (goodIn_of _ (by decide +kernel)) ggX7_barOf_X7_clashes
theorem dX7_barOf_0 : decode cX7_barOf 0 = .ok (.iload_n 1, 1) := by decide +kernel
theorem dX7_barOf_1 : decode cX7_barOf 1 = .ok (.iconst 0, 1) := by decide +kernel
theorem dX7_barOf_2 : decode cX7_barOf 2 = .ok (.bipush 11, 2) := by decide +kernel
theorem dX7_barOf_4 : decode cX7_barOf 4 = .ok (.invokestatic 22, 3) := by decide +kernel
theorem dX7_barOf_7 : decode cX7_barOf 7 = .ok (.ifCond .eq 12, 3) := by decide +kernel
theorem dX7_barOf_10 : decode cX7_barOf 10 = .ok (.iload_n 2, 1) := by decide +kernel
theorem dX7_barOf_11 : decode cX7_barOf 11 = .ok (.iconst 0, 1) := by decide +kernel
theorem dX7_barOf_12 : decode cX7_barOf 12 = .ok (.iconst 3, 1) := by decide +kernel
theorem dX7_barOf_13 : decode cX7_barOf 13 = .ok (.invokestatic 22, 3) := by decide +kernel
theorem dX7_barOf_16 : decode cX7_barOf 16 = .ok (.ifCond .ne 6, 3) := by decide +kernel
theorem dX7_barOf_19 : decode cX7_barOf 19 = .ok (.ldc 51, 2) := by decide +kernel
theorem dX7_barOf_21 : decode cX7_barOf 21 = .ok (.ireturn, 1) := by decide +kernel
theorem dX7_barOf_22 : decode cX7_barOf 22 = .ok (.iconst 0, 1) := by decide +kernel
theorem dX7_barOf_23 : decode cX7_barOf 23 = .ok (.istore_n 3, 1) := by decide +kernel
theorem dX7_barOf_24 : decode cX7_barOf 24 = .ok (.iconst 0, 1) := by decide +kernel
theorem dX7_barOf_25 : decode cX7_barOf 25 = .ok (.istore 4, 2) := by decide +kernel
theorem dX7_barOf_27 : decode cX7_barOf 27 = .ok (.iload 4, 2) := by decide +kernel
theorem dX7_barOf_29 : decode cX7_barOf 29 = .ok (.aload_n 0, 1) := by decide +kernel
theorem dX7_barOf_30 : decode cX7_barOf 30 = .ok (.getfield 7, 3) := by decide +kernel
theorem dX7_barOf_33 : decode cX7_barOf 33 = .ok (.bipush 16, 2) := by decide +kernel
theorem dX7_barOf_35 : decode cX7_barOf 35 = .ok (.iaload, 1) := by decide +kernel
theorem dX7_barOf_36 : decode cX7_barOf 36 = .ok (.if_icmp .ge 82, 3) := by decide +kernel
theorem dX7_barOf_39 : decode cX7_barOf 39 = .ok (.aload_n 0, 1) := by decide +kernel
theorem dX7_barOf_40 : decode cX7_barOf 40 = .ok (.getfield 7, 3) := by decide +kernel
theorem dX7_barOf_43 : decode cX7_barOf 43 = .ok (.bipush 17, 2) := by decide +kernel
theorem dX7_barOf_45 : decode cX7_barOf 45 = .ok (.iload 4, 2) := by decide +kernel
theorem dX7_barOf_47 : decode cX7_barOf 47 = .ok (.iadd, 1) := by decide +kernel
theorem dX7_barOf_48 : decode cX7_barOf 48 = .ok (.iaload, 1) := by decide +kernel
theorem dX7_barOf_49 : decode cX7_barOf 49 = .ok (.istore 5, 2) := by decide +kernel
theorem dX7_barOf_51 : decode cX7_barOf 51 = .ok (.iload 4, 2) := by decide +kernel
theorem dX7_barOf_53 : decode cX7_barOf 53 = .ok (.aload_n 0, 1) := by decide +kernel
theorem dX7_barOf_54 : decode cX7_barOf 54 = .ok (.getfield 7, 3) := by decide +kernel
theorem dX7_barOf_57 : decode cX7_barOf 57 = .ok (.bipush 68, 2) := by decide +kernel
theorem dX7_barOf_59 : decode cX7_barOf 59 = .ok (.iaload, 1) := by decide +kernel
theorem dX7_barOf_60 : decode cX7_barOf 60 = .ok (.idiv, 1) := by decide +kernel
theorem dX7_barOf_61 : decode cX7_barOf 61 = .ok (.iload_n 1, 1) := by decide +kernel
theorem dX7_barOf_62 : decode cX7_barOf 62 = .ok (.if_icmp .ne 50, 3) := by decide +kernel
theorem dX7_barOf_65 : decode cX7_barOf 65 = .ok (.iload_n 2, 1) := by decide +kernel
theorem dX7_barOf_66 : decode cX7_barOf 66 = .ok (.iconst 3, 1) := by decide +kernel
theorem dX7_barOf_67 : decode cX7_barOf 67 = .ok (.if_icmp .ne 14, 3) := by decide +kernel
theorem dX7_barOf_70 : decode cX7_barOf 70 = .ok (.iload_n 3, 1) := by decide +kernel
theorem dX7_barOf_71 : decode cX7_barOf 71 = .ok (.aload_n 0, 1) := by decide +kernel
theorem dX7_barOf_72 : decode cX7_barOf 72 = .ok (.iload 5, 2) := by decide +kernel
theorem dX7_barOf_74 : decode cX7_barOf 74 = .ok (.invokevirtual 94, 3) := by decide +kernel
theorem dX7_barOf_77 : decode cX7_barOf 77 = .ok (.ior, 1) := by decide +kernel
theorem dX7_barOf_78 : decode cX7_barOf 78 = .ok (.goto 33, 3) := by decide +kernel
theorem dX7_barOf_81 : decode cX7_barOf 81 = .ok (.iload_n 3, 1) := by decide +kernel
theorem dX7_barOf_82 : decode cX7_barOf 82 = .ok (.iload_n 2, 1) := by decide +kernel
theorem dX7_barOf_83 : decode cX7_barOf 83 = .ok (.ifCond .ne 7, 3) := by decide +kernel
theorem dX7_barOf_86 : decode cX7_barOf 86 = .ok (.iconst 1, 1) := by decide +kernel
theorem dX7_barOf_87 : decode cX7_barOf 87 = .ok (.goto 23, 3) := by decide +kernel
theorem dX7_barOf_90 : decode cX7_barOf 90 = .ok (.iload_n 2, 1) := by decide +kernel
theorem dX7_barOf_91 : decode cX7_barOf 91 = .ok (.iconst 1, 1) := by decide +kernel
theorem dX7_barOf_92 : decode cX7_barOf 92 = .ok (.if_icmp .ne 12, 3) := by decide +kernel
theorem dX7_barOf_95 : decode cX7_barOf 95 = .ok (.aload_n 0, 1) := by decide +kernel
theorem dX7_barOf_96 : decode cX7_barOf 96 = .ok (.iload 4, 2) := by decide +kernel
theorem dX7_barOf_98 : decode cX7_barOf 98 = .ok (.invokevirtual 90, 3) := by decide +kernel
theorem dX7_barOf_101 : decode cX7_barOf 101 = .ok (.goto 9, 3) := by decide +kernel
theorem dX7_barOf_104 : decode cX7_barOf 104 = .ok (.aload_n 0, 1) := by decide +kernel
theorem dX7_barOf_105 : decode cX7_barOf 105 = .ok (.iload 5, 2) := by decide +kernel
theorem dX7_barOf_107 : decode cX7_barOf 107 = .ok (.invokevirtual 38, 3) := by decide +kernel
theorem dX7_barOf_110 : decode cX7_barOf 110 = .ok (.iadd, 1) := by decide +kernel
theorem dX7_barOf_111 : decode cX7_barOf 111 = .ok (.istore_n 3, 1) := by decide +kernel
theorem dX7_barOf_112 : decode cX7_barOf 112 = .ok (.iinc 4 1, 3) := by decide +kernel
theorem dX7_barOf_115 : decode cX7_barOf 115 = .ok (.goto (-88), 3) := by decide +kernel
theorem dX7_barOf_118 : decode cX7_barOf 118 = .ok (.iload_n 3, 1) := by decide +kernel
theorem dX7_barOf_119 : decode cX7_barOf 119 = .ok (.ireturn, 1) := by decide +kernel
set_option maxRecDepth 20000 in
theorem ggX7_timesOf_X7_sounds : GoodIn wsX7_timesOf wsX7_sounds := goodIn_r _ [6, 1, 7, 8, 5, 9, 10, 11, 12, 13, 14, 15, 16, 17, 18, 19, 20, 21, 22, 23] (by decide +kernel) (by decide +kernel)
set_option maxRecDepth 20000 in
theorem gX7_timesOf_X7_sounds : GoodIn wsX7_timesOf (wsV RX7 84 RX7 yX7_sounds wsX7_sounds) := goodIn_app (goodIn_of _ (by decide +kernel)) ggX7_timesOf_X7_sounds
theorem dX7_timesOf_0 : decode cX7_timesOf 0 = .ok (.iconst 0, 1) := by decide +kernel
theorem dX7_timesOf_1 : decode cX7_timesOf 1 = .ok (.istore_n 3, 1) := by decide +kernel
theorem dX7_timesOf_2 : decode cX7_timesOf 2 = .ok (.iconst 0, 1) := by decide +kernel
theorem dX7_timesOf_3 : decode cX7_timesOf 3 = .ok (.istore 4, 2) := by decide +kernel
theorem dX7_timesOf_5 : decode cX7_timesOf 5 = .ok (.iload 4, 2) := by decide +kernel
theorem dX7_timesOf_7 : decode cX7_timesOf 7 = .ok (.bipush 8, 2) := by decide +kernel
theorem dX7_timesOf_9 : decode cX7_timesOf 9 = .ok (.if_icmp .ge 40, 3) := by decide +kernel
theorem dX7_timesOf_12 : decode cX7_timesOf 12 = .ok (.iload_n 3, 1) := by decide +kernel
theorem dX7_timesOf_13 : decode cX7_timesOf 13 = .ok (.aload_n 0, 1) := by decide +kernel
theorem dX7_timesOf_14 : decode cX7_timesOf 14 = .ok (.iload_n 1, 1) := by decide +kernel
theorem dX7_timesOf_15 : decode cX7_timesOf 15 = .ok (.iload 4, 2) := by decide +kernel
theorem dX7_timesOf_17 : decode cX7_timesOf 17 = .ok (.invokevirtual 84, 3) := by decide +kernel
theorem dX7_timesOf_20 : decode cX7_timesOf 20 = .ok (.ifCond .eq 20, 3) := by decide +kernel
theorem dX7_timesOf_23 : decode cX7_timesOf 23 = .ok (.aload_n 0, 1) := by decide +kernel
theorem dX7_timesOf_24 : decode cX7_timesOf 24 = .ok (.getfield 7, 3) := by decide +kernel
theorem dX7_timesOf_27 : decode cX7_timesOf 27 = .ok (.iconst 0, 1) := by decide +kernel
theorem dX7_timesOf_28 : decode cX7_timesOf 28 = .ok (.iload 4, 2) := by decide +kernel
theorem dX7_timesOf_30 : decode cX7_timesOf 30 = .ok (.iadd, 1) := by decide +kernel
theorem dX7_timesOf_31 : decode cX7_timesOf 31 = .ok (.iaload, 1) := by decide +kernel
theorem dX7_timesOf_32 : decode cX7_timesOf 32 = .ok (.iload_n 2, 1) := by decide +kernel
theorem dX7_timesOf_33 : decode cX7_timesOf 33 = .ok (.if_icmp .ne 7, 3) := by decide +kernel
theorem dX7_timesOf_36 : decode cX7_timesOf 36 = .ok (.iconst 1, 1) := by decide +kernel
theorem dX7_timesOf_37 : decode cX7_timesOf 37 = .ok (.goto 4, 3) := by decide +kernel
theorem dX7_timesOf_40 : decode cX7_timesOf 40 = .ok (.iconst 0, 1) := by decide +kernel
theorem dX7_timesOf_41 : decode cX7_timesOf 41 = .ok (.iadd, 1) := by decide +kernel
theorem dX7_timesOf_42 : decode cX7_timesOf 42 = .ok (.istore_n 3, 1) := by decide +kernel
theorem dX7_timesOf_43 : decode cX7_timesOf 43 = .ok (.iinc 4 1, 3) := by decide +kernel
theorem dX7_timesOf_46 : decode cX7_timesOf 46 = .ok (.goto (-41), 3) := by decide +kernel
theorem dX7_timesOf_49 : decode cX7_timesOf 49 = .ok (.iload_n 3, 1) := by decide +kernel
theorem dX7_timesOf_50 : decode cX7_timesOf 50 = .ok (.ireturn, 1) := by decide +kernel
set_option maxRecDepth 20000 in
theorem ggX7_areAlike_X7_timesOf : GoodIn wsX7_areAlike wsX7_timesOf := goodIn_r _ [5, 6, 7, 8, 9, 4, 10, 11, 12, 13, 14, 15, 16, 17, 18, 19, 20, 21, 22, 23, 24, 25, 26, 27] (by decide +kernel) (by decide +kernel)
set_option maxRecDepth 20000 in
theorem gX7_areAlike_X7_timesOf : GoodIn wsX7_areAlike (wsV RX7 113 RX7 yX7_timesOf wsX7_timesOf) := goodIn_app (goodIn_of _ (by decide +kernel)) ggX7_areAlike_X7_timesOf
theorem dX7_areAlike_0 : decode cX7_areAlike 0 = .ok (.iconst 1, 1) := by decide +kernel
theorem dX7_areAlike_1 : decode cX7_areAlike 1 = .ok (.istore_n 3, 1) := by decide +kernel
theorem dX7_areAlike_2 : decode cX7_areAlike 2 = .ok (.iconst 0, 1) := by decide +kernel
theorem dX7_areAlike_3 : decode cX7_areAlike 3 = .ok (.istore 4, 2) := by decide +kernel
theorem dX7_areAlike_5 : decode cX7_areAlike 5 = .ok (.iload 4, 2) := by decide +kernel
theorem dX7_areAlike_7 : decode cX7_areAlike 7 = .ok (.bipush 48, 2) := by decide +kernel
theorem dX7_areAlike_9 : decode cX7_areAlike 9 = .ok (.if_icmp .ge 36, 3) := by decide +kernel
theorem dX7_areAlike_12 : decode cX7_areAlike 12 = .ok (.iload_n 3, 1) := by decide +kernel
theorem dX7_areAlike_13 : decode cX7_areAlike 13 = .ok (.ifCond .eq 24, 3) := by decide +kernel
theorem dX7_areAlike_16 : decode cX7_areAlike 16 = .ok (.aload_n 0, 1) := by decide +kernel
theorem dX7_areAlike_17 : decode cX7_areAlike 17 = .ok (.iload_n 1, 1) := by decide +kernel
theorem dX7_areAlike_18 : decode cX7_areAlike 18 = .ok (.iload 4, 2) := by decide +kernel
theorem dX7_areAlike_20 : decode cX7_areAlike 20 = .ok (.invokevirtual 113, 3) := by decide +kernel
theorem dX7_areAlike_23 : decode cX7_areAlike 23 = .ok (.aload_n 0, 1) := by decide +kernel
theorem dX7_areAlike_24 : decode cX7_areAlike 24 = .ok (.iload_n 2, 1) := by decide +kernel
theorem dX7_areAlike_25 : decode cX7_areAlike 25 = .ok (.iload 4, 2) := by decide +kernel
theorem dX7_areAlike_27 : decode cX7_areAlike 27 = .ok (.invokevirtual 113, 3) := by decide +kernel
theorem dX7_areAlike_30 : decode cX7_areAlike 30 = .ok (.if_icmp .ne 7, 3) := by decide +kernel
theorem dX7_areAlike_33 : decode cX7_areAlike 33 = .ok (.iconst 1, 1) := by decide +kernel
theorem dX7_areAlike_34 : decode cX7_areAlike 34 = .ok (.goto 4, 3) := by decide +kernel
theorem dX7_areAlike_37 : decode cX7_areAlike 37 = .ok (.iconst 0, 1) := by decide +kernel
theorem dX7_areAlike_38 : decode cX7_areAlike 38 = .ok (.istore_n 3, 1) := by decide +kernel
theorem dX7_areAlike_39 : decode cX7_areAlike 39 = .ok (.iinc 4 1, 3) := by decide +kernel
theorem dX7_areAlike_42 : decode cX7_areAlike 42 = .ok (.goto (-37), 3) := by decide +kernel
theorem dX7_areAlike_45 : decode cX7_areAlike 45 = .ok (.iload_n 3, 1) := by decide +kernel
theorem dX7_areAlike_46 : decode cX7_areAlike 46 = .ok (.ireturn, 1) := by decide +kernel
set_option maxRecDepth 20000 in
theorem ggX7_alike_X7_isCard : GoodIn wsX7_alike wsX7_isCard := goodIn_r _ [7, 8, 9, 10, 6, 11, 27, 28, 29, 30, 31, 32, 33, 34, 35, 36, 37, 38, 39, 40] (by decide +kernel) (by decide +kernel)
set_option maxRecDepth 20000 in
theorem gX7_alike_X7_isCard : GoodIn wsX7_alike (wsV RX7 70 RX7 yX7_isCard wsX7_isCard) := goodIn_app (goodIn_of _ (by decide +kernel)) ggX7_alike_X7_isCard
set_option maxRecDepth 20000 in
theorem ggX7_alike_X7_areAlike : GoodIn wsX7_alike wsX7_areAlike := goodIn_r _ [15, 16, 17, 18, 6, 19, 8, 20, 21, 22, 23, 24, 25, 26, 27, 28, 29, 30, 31, 32, 33, 34, 35, 36, 37, 38, 39, 40] (by decide +kernel) (by decide +kernel)
set_option maxRecDepth 20000 in
theorem gX7_alike_X7_areAlike : GoodIn wsX7_alike (wsV RX7 116 RX7 yX7_areAlike wsX7_areAlike) := goodIn_app (goodIn_of _ (by decide +kernel)) ggX7_alike_X7_areAlike
theorem dX7_alike_0 : decode cX7_alike 0 = .ok (.aload_n 0, 1) := by decide +kernel
theorem dX7_alike_1 : decode cX7_alike 1 = .ok (.iload_n 1, 1) := by decide +kernel
theorem dX7_alike_2 : decode cX7_alike 2 = .ok (.invokevirtual 70, 3) := by decide +kernel
theorem dX7_alike_5 : decode cX7_alike 5 = .ok (.ifCond .ne 6, 3) := by decide +kernel
theorem dX7_alike_8 : decode cX7_alike 8 = .ok (.ldc 51, 2) := by decide +kernel
theorem dX7_alike_10 : decode cX7_alike 10 = .ok (.ireturn, 1) := by decide +kernel
theorem dX7_alike_11 : decode cX7_alike 11 = .ok (.iload_n 1, 1) := by decide +kernel
theorem dX7_alike_12 : decode cX7_alike 12 = .ok (.iconst 1, 1) := by decide +kernel
theorem dX7_alike_13 : decode cX7_alike 13 = .ok (.isub, 1) := by decide +kernel
theorem dX7_alike_14 : decode cX7_alike 14 = .ok (.istore_n 2, 1) := by decide +kernel
theorem dX7_alike_15 : decode cX7_alike 15 = .ok (.iload_n 2, 1) := by decide +kernel
theorem dX7_alike_16 : decode cX7_alike 16 = .ok (.ifCond .lt 20, 3) := by decide +kernel
theorem dX7_alike_19 : decode cX7_alike 19 = .ok (.aload_n 0, 1) := by decide +kernel
theorem dX7_alike_20 : decode cX7_alike 20 = .ok (.iload_n 2, 1) := by decide +kernel
theorem dX7_alike_21 : decode cX7_alike 21 = .ok (.iload_n 1, 1) := by decide +kernel
theorem dX7_alike_22 : decode cX7_alike 22 = .ok (.invokevirtual 116, 3) := by decide +kernel
theorem dX7_alike_25 : decode cX7_alike 25 = .ok (.ifCond .eq 5, 3) := by decide +kernel
theorem dX7_alike_28 : decode cX7_alike 28 = .ok (.iload_n 2, 1) := by decide +kernel
theorem dX7_alike_29 : decode cX7_alike 29 = .ok (.ireturn, 1) := by decide +kernel
theorem dX7_alike_30 : decode cX7_alike 30 = .ok (.iinc 2 (-1), 3) := by decide +kernel
theorem dX7_alike_33 : decode cX7_alike 33 = .ok (.goto (-18), 3) := by decide +kernel
theorem dX7_alike_36 : decode cX7_alike 36 = .ok (.ldc 93, 2) := by decide +kernel
theorem dX7_alike_38 : decode cX7_alike 38 = .ok (.ireturn, 1) := by decide +kernel
set_option maxRecDepth 20000 in
theorem ggX7_would_X7_bringFault : GoodIn wsX7_would wsX7_bringFault := goodIn_r _ [5, 6, 7, 8, 9, 10, 4, 11, 34, 35, 36, 37, 38, 39, 40, 41, 42, 43, 44, 45, 46, 47] (by decide +kernel) (by decide +kernel)
set_option maxRecDepth 20000 in
theorem gX7_would_X7_bringFault : GoodIn wsX7_would (wsV RX7 64 RX7 yX7_bringFault wsX7_bringFault) := goodIn_app (goodIn_of _ (by decide +kernel)) ggX7_would_X7_bringFault
set_option maxRecDepth 20000 in
theorem ggX7_would_X7_says : GoodIn wsX7_would wsX7_says := goodIn_r _ [15, 16, 17, 18, 4, 19, 7, 20, 21, 22, 23, 24, 25, 26, 27, 28, 29, 30, 31, 32, 33, 34, 35, 36, 37, 38, 39, 40, 41, 42, 43, 44, 45, 46, 47] (by decide +kernel) (by decide +kernel)
set_option maxRecDepth 20000 in
theorem gX7_would_X7_says : GoodIn wsX7_would (wsV RX7 48 RX7 yX7_says wsX7_says) := goodIn_app (goodIn_of _ (by decide +kernel)) ggX7_would_X7_says
theorem dX7_would_0 : decode cX7_would 0 = .ok (.aload_n 0, 1) := by decide +kernel
theorem dX7_would_1 : decode cX7_would 1 = .ok (.iload_n 1, 1) := by decide +kernel
theorem dX7_would_2 : decode cX7_would 2 = .ok (.invokevirtual 64, 3) := by decide +kernel
theorem dX7_would_5 : decode cX7_would 5 = .ok (.istore_n 2, 1) := by decide +kernel
theorem dX7_would_6 : decode cX7_would 6 = .ok (.iload_n 2, 1) := by decide +kernel
theorem dX7_would_7 : decode cX7_would 7 = .ok (.ifCond .ge 7, 3) := by decide +kernel
theorem dX7_would_10 : decode cX7_would 10 = .ok (.iload_n 2, 1) := by decide +kernel
theorem dX7_would_11 : decode cX7_would 11 = .ok (.goto 8, 3) := by decide +kernel
theorem dX7_would_14 : decode cX7_would 14 = .ok (.aload_n 0, 1) := by decide +kernel
theorem dX7_would_15 : decode cX7_would 15 = .ok (.iload_n 1, 1) := by decide +kernel
theorem dX7_would_16 : decode cX7_would 16 = .ok (.invokevirtual 48, 3) := by decide +kernel
theorem dX7_would_19 : decode cX7_would 19 = .ok (.ireturn, 1) := by decide +kernel
set_option maxRecDepth 20000 in
theorem ggX7_best_X7_in : GoodIn wsX7_best wsX7_in := goodIn_r _ [8] (by decide +kernel) (by decide +kernel)
set_option maxRecDepth 20000 in
theorem gX7_best_X7_in : GoodIn wsX7_best (va_wsS RX7 22 yX7_in wsX7_in) := goodIn_app (goodIn_of _ (by decide +kernel)) ggX7_best_X7_in
set_option maxRecDepth 20000 in
theorem ggX7_best_X7_says : GoodIn wsX7_best wsX7_says := goodIn_r _ [12, 13, 14, 15, 7, 16, 2, 17, 18, 19, 20, 21, 22, 23, 24, 25, 26, 27, 28, 29, 30, 31, 32, 33, 34, 35, 36, 37, 38, 39, 40, 41, 42, 43, 44] (by decide +kernel) (by decide +kernel)
set_option maxRecDepth 20000 in
theorem gX7_best_X7_says : GoodIn wsX7_best (wsV RX7 48 RX7 yX7_says wsX7_says) := goodIn_app (goodIn_of _ (by decide +kernel)) ggX7_best_X7_says
set_option maxRecDepth 20000 in
theorem ggX7_best_X7_clashes : GoodIn wsX7_best wsX7_clashes := goodIn_r _ [23, 2, 24, 25, 7, 26, 31, 32, 33, 34, 35, 36, 37, 38, 39, 40, 41, 42, 43, 44] (by decide +kernel) (by decide +kernel)
set_option maxRecDepth 20000 in
theorem gX7_best_X7_clashes : GoodIn wsX7_best (wsV RX7 38 RX7 yX7_clashes wsX7_clashes) := goodIn_app (goodIn_of _ (by decide +kernel)) ggX7_best_X7_clashes
set_option maxRecDepth 20000 in
theorem ggX7_best_X7_bits : GoodIn wsX7_best wsX7_bits := goodIn_r _ [19] (by decide +kernel) (by decide +kernel)
set_option maxRecDepth 20000 in
theorem gX7_best_X7_bits : GoodIn wsX7_best (va_wsS RX7 34 yX7_bits wsX7_bits) := goodIn_app (goodIn_of _ (by decide +kernel)) ggX7_best_X7_bits
theorem dX7_best_0 : decode cX7_best 0 = .ok (.iload_n 1, 1) := by decide +kernel
theorem dX7_best_1 : decode cX7_best 1 = .ok (.iconst 0, 1) := by decide +kernel
theorem dX7_best_2 : decode cX7_best 2 = .ok (.iconst 2, 1) := by decide +kernel
theorem dX7_best_3 : decode cX7_best 3 = .ok (.invokestatic 22, 3) := by decide +kernel
theorem dX7_best_6 : decode cX7_best 6 = .ok (.ifCond .ne 6, 3) := by decide +kernel
theorem dX7_best_9 : decode cX7_best 9 = .ok (.ldc 51, 2) := by decide +kernel
theorem dX7_best_11 : decode cX7_best 11 = .ok (.ireturn, 1) := by decide +kernel
theorem dX7_best_12 : decode cX7_best 12 = .ok (.aload_n 0, 1) := by decide +kernel
theorem dX7_best_13 : decode cX7_best 13 = .ok (.getfield 7, 3) := by decide +kernel
theorem dX7_best_16 : decode cX7_best 16 = .ok (.bipush 16, 2) := by decide +kernel
theorem dX7_best_18 : decode cX7_best 18 = .ok (.iaload, 1) := by decide +kernel
theorem dX7_best_19 : decode cX7_best 19 = .ok (.bipush 24, 2) := by decide +kernel
theorem dX7_best_21 : decode cX7_best 21 = .ok (.if_icmp .ne 6, 3) := by decide +kernel
theorem dX7_best_24 : decode cX7_best 24 = .ok (.ldc 52, 2) := by decide +kernel
theorem dX7_best_26 : decode cX7_best 26 = .ok (.ireturn, 1) := by decide +kernel
theorem dX7_best_27 : decode cX7_best 27 = .ok (.aload_n 0, 1) := by decide +kernel
theorem dX7_best_28 : decode cX7_best 28 = .ok (.getfield 7, 3) := by decide +kernel
theorem dX7_best_31 : decode cX7_best 31 = .ok (.bipush 16, 2) := by decide +kernel
theorem dX7_best_33 : decode cX7_best 33 = .ok (.iaload, 1) := by decide +kernel
theorem dX7_best_34 : decode cX7_best 34 = .ok (.ifCond .ne 7, 3) := by decide +kernel
theorem dX7_best_37 : decode cX7_best 37 = .ok (.iconst 0, 1) := by decide +kernel
theorem dX7_best_38 : decode cX7_best 38 = .ok (.goto 20, 3) := by decide +kernel
theorem dX7_best_41 : decode cX7_best 41 = .ok (.aload_n 0, 1) := by decide +kernel
theorem dX7_best_42 : decode cX7_best 42 = .ok (.getfield 7, 3) := by decide +kernel
theorem dX7_best_45 : decode cX7_best 45 = .ok (.bipush 17, 2) := by decide +kernel
theorem dX7_best_47 : decode cX7_best 47 = .ok (.aload_n 0, 1) := by decide +kernel
theorem dX7_best_48 : decode cX7_best 48 = .ok (.getfield 7, 3) := by decide +kernel
theorem dX7_best_51 : decode cX7_best 51 = .ok (.bipush 16, 2) := by decide +kernel
theorem dX7_best_53 : decode cX7_best 53 = .ok (.iaload, 1) := by decide +kernel
theorem dX7_best_54 : decode cX7_best 54 = .ok (.iadd, 1) := by decide +kernel
theorem dX7_best_55 : decode cX7_best 55 = .ok (.iconst 1, 1) := by decide +kernel
theorem dX7_best_56 : decode cX7_best 56 = .ok (.isub, 1) := by decide +kernel
theorem dX7_best_57 : decode cX7_best 57 = .ok (.iaload, 1) := by decide +kernel
theorem dX7_best_58 : decode cX7_best 58 = .ok (.istore_n 2, 1) := by decide +kernel
theorem dX7_best_59 : decode cX7_best 59 = .ok (.ldc 93, 2) := by decide +kernel
theorem dX7_best_61 : decode cX7_best 61 = .ok (.istore_n 3, 1) := by decide +kernel
theorem dX7_best_62 : decode cX7_best 62 = .ok (.iconst 0, 1) := by decide +kernel
theorem dX7_best_63 : decode cX7_best 63 = .ok (.istore 4, 2) := by decide +kernel
theorem dX7_best_65 : decode cX7_best 65 = .ok (.iconst 0, 1) := by decide +kernel
theorem dX7_best_66 : decode cX7_best 66 = .ok (.istore 5, 2) := by decide +kernel
theorem dX7_best_68 : decode cX7_best 68 = .ok (.iconst 1, 1) := by decide +kernel
theorem dX7_best_69 : decode cX7_best 69 = .ok (.istore 6, 2) := by decide +kernel
theorem dX7_best_71 : decode cX7_best 71 = .ok (.iload 6, 2) := by decide +kernel
theorem dX7_best_73 : decode cX7_best 73 = .ok (.sipush 256, 3) := by decide +kernel
theorem dX7_best_76 : decode cX7_best 76 = .ok (.if_icmp .ge 109, 3) := by decide +kernel
theorem dX7_best_79 : decode cX7_best 79 = .ok (.aload_n 0, 1) := by decide +kernel
theorem dX7_best_80 : decode cX7_best 80 = .ok (.iload 6, 2) := by decide +kernel
theorem dX7_best_82 : decode cX7_best 82 = .ok (.invokevirtual 48, 3) := by decide +kernel
theorem dX7_best_85 : decode cX7_best 85 = .ok (.ifCond .ne 94, 3) := by decide +kernel
theorem dX7_best_88 : decode cX7_best 88 = .ok (.aload_n 0, 1) := by decide +kernel
theorem dX7_best_89 : decode cX7_best 89 = .ok (.iload 6, 2) := by decide +kernel
theorem dX7_best_91 : decode cX7_best 91 = .ok (.invokevirtual 38, 3) := by decide +kernel
theorem dX7_best_94 : decode cX7_best 94 = .ok (.istore 7, 2) := by decide +kernel
theorem dX7_best_96 : decode cX7_best 96 = .ok (.iload 6, 2) := by decide +kernel
theorem dX7_best_98 : decode cX7_best 98 = .ok (.iload_n 2, 1) := by decide +kernel
theorem dX7_best_99 : decode cX7_best 99 = .ok (.iand, 1) := by decide +kernel
theorem dX7_best_100 : decode cX7_best 100 = .ok (.invokestatic 34, 3) := by decide +kernel
theorem dX7_best_103 : decode cX7_best 103 = .ok (.istore 8, 2) := by decide +kernel
theorem dX7_best_105 : decode cX7_best 105 = .ok (.iload_n 3, 1) := by decide +kernel
theorem dX7_best_106 : decode cX7_best 106 = .ok (.ldc 93, 2) := by decide +kernel
theorem dX7_best_108 : decode cX7_best 108 = .ok (.if_icmp .eq 24, 3) := by decide +kernel
theorem dX7_best_111 : decode cX7_best 111 = .ok (.iload 7, 2) := by decide +kernel
theorem dX7_best_113 : decode cX7_best 113 = .ok (.iload 4, 2) := by decide +kernel
theorem dX7_best_115 : decode cX7_best 115 = .ok (.if_icmp .lt 17, 3) := by decide +kernel
theorem dX7_best_118 : decode cX7_best 118 = .ok (.iload 7, 2) := by decide +kernel
theorem dX7_best_120 : decode cX7_best 120 = .ok (.iload 4, 2) := by decide +kernel
theorem dX7_best_122 : decode cX7_best 122 = .ok (.if_icmp .ne 14, 3) := by decide +kernel
theorem dX7_best_125 : decode cX7_best 125 = .ok (.iload 8, 2) := by decide +kernel
theorem dX7_best_127 : decode cX7_best 127 = .ok (.iload 5, 2) := by decide +kernel
theorem dX7_best_129 : decode cX7_best 129 = .ok (.if_icmp .le 7, 3) := by decide +kernel
theorem dX7_best_132 : decode cX7_best 132 = .ok (.iconst 1, 1) := by decide +kernel
theorem dX7_best_133 : decode cX7_best 133 = .ok (.goto 4, 3) := by decide +kernel
theorem dX7_best_136 : decode cX7_best 136 = .ok (.iconst 0, 1) := by decide +kernel
theorem dX7_best_137 : decode cX7_best 137 = .ok (.istore 9, 2) := by decide +kernel
theorem dX7_best_139 : decode cX7_best 139 = .ok (.iload 9, 2) := by decide +kernel
theorem dX7_best_141 : decode cX7_best 141 = .ok (.ifCond .eq 8, 3) := by decide +kernel
theorem dX7_best_144 : decode cX7_best 144 = .ok (.iload 6, 2) := by decide +kernel
theorem dX7_best_146 : decode cX7_best 146 = .ok (.goto 4, 3) := by decide +kernel
theorem dX7_best_149 : decode cX7_best 149 = .ok (.iload_n 3, 1) := by decide +kernel
theorem dX7_best_150 : decode cX7_best 150 = .ok (.istore_n 3, 1) := by decide +kernel
theorem dX7_best_151 : decode cX7_best 151 = .ok (.iload 9, 2) := by decide +kernel
theorem dX7_best_153 : decode cX7_best 153 = .ok (.ifCond .eq 8, 3) := by decide +kernel
theorem dX7_best_156 : decode cX7_best 156 = .ok (.iload 7, 2) := by decide +kernel
theorem dX7_best_158 : decode cX7_best 158 = .ok (.goto 5, 3) := by decide +kernel
theorem dX7_best_161 : decode cX7_best 161 = .ok (.iload 4, 2) := by decide +kernel
theorem dX7_best_163 : decode cX7_best 163 = .ok (.istore 4, 2) := by decide +kernel
theorem dX7_best_165 : decode cX7_best 165 = .ok (.iload 9, 2) := by decide +kernel
theorem dX7_best_167 : decode cX7_best 167 = .ok (.ifCond .eq 8, 3) := by decide +kernel
theorem dX7_best_170 : decode cX7_best 170 = .ok (.iload 8, 2) := by decide +kernel
theorem dX7_best_172 : decode cX7_best 172 = .ok (.goto 5, 3) := by decide +kernel
theorem dX7_best_175 : decode cX7_best 175 = .ok (.iload 5, 2) := by decide +kernel
theorem dX7_best_177 : decode cX7_best 177 = .ok (.istore 5, 2) := by decide +kernel
theorem dX7_best_179 : decode cX7_best 179 = .ok (.iinc 6 1, 3) := by decide +kernel
theorem dX7_best_182 : decode cX7_best 182 = .ok (.goto (-111), 3) := by decide +kernel
theorem dX7_best_185 : decode cX7_best 185 = .ok (.iload_n 3, 1) := by decide +kernel
theorem dX7_best_186 : decode cX7_best 186 = .ok (.ldc 93, 2) := by decide +kernel
theorem dX7_best_188 : decode cX7_best 188 = .ok (.if_icmp .ne 8, 3) := by decide +kernel
theorem dX7_best_191 : decode cX7_best 191 = .ok (.ldc 93, 2) := by decide +kernel
theorem dX7_best_193 : decode cX7_best 193 = .ok (.goto 23, 3) := by decide +kernel
theorem dX7_best_196 : decode cX7_best 196 = .ok (.iload_n 1, 1) := by decide +kernel
theorem dX7_best_197 : decode cX7_best 197 = .ok (.ifCond .ne 7, 3) := by decide +kernel
theorem dX7_best_200 : decode cX7_best 200 = .ok (.iload_n 3, 1) := by decide +kernel
theorem dX7_best_201 : decode cX7_best 201 = .ok (.goto 15, 3) := by decide +kernel
theorem dX7_best_204 : decode cX7_best 204 = .ok (.iload_n 1, 1) := by decide +kernel
theorem dX7_best_205 : decode cX7_best 205 = .ok (.iconst 1, 1) := by decide +kernel
theorem dX7_best_206 : decode cX7_best 206 = .ok (.if_icmp .ne 8, 3) := by decide +kernel
theorem dX7_best_209 : decode cX7_best 209 = .ok (.iload 4, 2) := by decide +kernel
theorem dX7_best_211 : decode cX7_best 211 = .ok (.goto 5, 3) := by decide +kernel
theorem dX7_best_214 : decode cX7_best 214 = .ok (.iload 5, 2) := by decide +kernel
theorem dX7_best_216 : decode cX7_best 216 = .ok (.ireturn, 1) := by decide +kernel
theorem dX7_isIn_0 : decode cX7_isIn 0 = .ok (.iload_n 1, 1) := by decide +kernel
theorem dX7_isIn_1 : decode cX7_isIn 1 = .ok (.iload_n 0, 1) := by decide +kernel
theorem dX7_isIn_2 : decode cX7_isIn 2 = .ok (.isub, 1) := by decide +kernel
theorem dX7_isIn_3 : decode cX7_isIn 3 = .ok (.bipush 12, 2) := by decide +kernel
theorem dX7_isIn_5 : decode cX7_isIn 5 = .ok (.iadd, 1) := by decide +kernel
theorem dX7_isIn_6 : decode cX7_isIn 6 = .ok (.bipush 12, 2) := by decide +kernel
theorem dX7_isIn_8 : decode cX7_isIn 8 = .ok (.irem, 1) := by decide +kernel
theorem dX7_isIn_9 : decode cX7_isIn 9 = .ok (.istore_n 2, 1) := by decide +kernel
theorem dX7_isIn_10 : decode cX7_isIn 10 = .ok (.iload_n 2, 1) := by decide +kernel
theorem dX7_isIn_11 : decode cX7_isIn 11 = .ok (.ifCond .eq 36, 3) := by decide +kernel
theorem dX7_isIn_14 : decode cX7_isIn 14 = .ok (.iload_n 2, 1) := by decide +kernel
theorem dX7_isIn_15 : decode cX7_isIn 15 = .ok (.iconst 2, 1) := by decide +kernel
theorem dX7_isIn_16 : decode cX7_isIn 16 = .ok (.if_icmp .eq 31, 3) := by decide +kernel
theorem dX7_isIn_19 : decode cX7_isIn 19 = .ok (.iload_n 2, 1) := by decide +kernel
theorem dX7_isIn_20 : decode cX7_isIn 20 = .ok (.iconst 4, 1) := by decide +kernel
theorem dX7_isIn_21 : decode cX7_isIn 21 = .ok (.if_icmp .eq 26, 3) := by decide +kernel
theorem dX7_isIn_24 : decode cX7_isIn 24 = .ok (.iload_n 2, 1) := by decide +kernel
theorem dX7_isIn_25 : decode cX7_isIn 25 = .ok (.iconst 5, 1) := by decide +kernel
theorem dX7_isIn_26 : decode cX7_isIn 26 = .ok (.if_icmp .eq 21, 3) := by decide +kernel
theorem dX7_isIn_29 : decode cX7_isIn 29 = .ok (.iload_n 2, 1) := by decide +kernel
theorem dX7_isIn_30 : decode cX7_isIn 30 = .ok (.bipush 7, 2) := by decide +kernel
theorem dX7_isIn_32 : decode cX7_isIn 32 = .ok (.if_icmp .eq 15, 3) := by decide +kernel
theorem dX7_isIn_35 : decode cX7_isIn 35 = .ok (.iload_n 2, 1) := by decide +kernel
theorem dX7_isIn_36 : decode cX7_isIn 36 = .ok (.bipush 9, 2) := by decide +kernel
theorem dX7_isIn_38 : decode cX7_isIn 38 = .ok (.if_icmp .eq 9, 3) := by decide +kernel
theorem dX7_isIn_41 : decode cX7_isIn 41 = .ok (.iload_n 2, 1) := by decide +kernel
theorem dX7_isIn_42 : decode cX7_isIn 42 = .ok (.bipush 11, 2) := by decide +kernel
theorem dX7_isIn_44 : decode cX7_isIn 44 = .ok (.if_icmp .ne 7, 3) := by decide +kernel
theorem dX7_isIn_47 : decode cX7_isIn 47 = .ok (.iconst 1, 1) := by decide +kernel
theorem dX7_isIn_48 : decode cX7_isIn 48 = .ok (.goto 4, 3) := by decide +kernel
theorem dX7_isIn_51 : decode cX7_isIn 51 = .ok (.iconst 0, 1) := by decide +kernel
theorem dX7_isIn_52 : decode cX7_isIn 52 = .ok (.ireturn, 1) := by decide +kernel
set_option maxRecDepth 20000 in
theorem ggX7_fits_X7_isIn : GoodIn wsX7_fits wsX7_isIn := goodIn_r _ [5] (by decide +kernel) (by decide +kernel)
set_option maxRecDepth 20000 in
theorem gX7_fits_X7_isIn : GoodIn wsX7_fits (va_wsS RX7 119 yX7_isIn wsX7_isIn) := goodIn_app (goodIn_of _ (by decide +kernel)) ggX7_fits_X7_isIn
set_option maxRecDepth 20000 in
theorem ggX7_fits_X7_rows : GoodIn wsX7_fits wsX7_rows := goodIn_r _ [9, 1, 10, 11, 12, 4, 13, 14, 15, 16, 17, 18, 19, 20, 21, 22, 23, 24, 25, 26, 27, 28, 29, 30, 31, 32, 33, 34] (by decide +kernel) (by decide +kernel)
set_option maxRecDepth 20000 in
theorem gX7_fits_X7_rows : GoodIn wsX7_fits (wsV RX7 104 RX7 yX7_rows wsX7_rows) := goodIn_app (goodIn_of _ (by decide +kernel)) ggX7_fits_X7_rows
theorem dX7_fits_0 : decode cX7_fits 0 = .ok (.iconst 0, 1) := by decide +kernel
theorem dX7_fits_1 : decode cX7_fits 1 = .ok (.istore_n 2, 1) := by decide +kernel
theorem dX7_fits_2 : decode cX7_fits 2 = .ok (.iconst 0, 1) := by decide +kernel
theorem dX7_fits_3 : decode cX7_fits 3 = .ok (.istore_n 3, 1) := by decide +kernel
theorem dX7_fits_4 : decode cX7_fits 4 = .ok (.iload_n 3, 1) := by decide +kernel
theorem dX7_fits_5 : decode cX7_fits 5 = .ok (.bipush 8, 2) := by decide +kernel
theorem dX7_fits_7 : decode cX7_fits 7 = .ok (.if_icmp .ge 40, 3) := by decide +kernel
theorem dX7_fits_10 : decode cX7_fits 10 = .ok (.iload_n 2, 1) := by decide +kernel
theorem dX7_fits_11 : decode cX7_fits 11 = .ok (.iload_n 1, 1) := by decide +kernel
theorem dX7_fits_12 : decode cX7_fits 12 = .ok (.aload_n 0, 1) := by decide +kernel
theorem dX7_fits_13 : decode cX7_fits 13 = .ok (.getfield 7, 3) := by decide +kernel
theorem dX7_fits_16 : decode cX7_fits 16 = .ok (.iconst 0, 1) := by decide +kernel
theorem dX7_fits_17 : decode cX7_fits 17 = .ok (.iload_n 3, 1) := by decide +kernel
theorem dX7_fits_18 : decode cX7_fits 18 = .ok (.iadd, 1) := by decide +kernel
theorem dX7_fits_19 : decode cX7_fits 19 = .ok (.iaload, 1) := by decide +kernel
theorem dX7_fits_20 : decode cX7_fits 20 = .ok (.bipush 12, 2) := by decide +kernel
theorem dX7_fits_22 : decode cX7_fits 22 = .ok (.irem, 1) := by decide +kernel
theorem dX7_fits_23 : decode cX7_fits 23 = .ok (.invokestatic 119, 3) := by decide +kernel
theorem dX7_fits_26 : decode cX7_fits 26 = .ok (.ifCond .eq 12, 3) := by decide +kernel
theorem dX7_fits_29 : decode cX7_fits 29 = .ok (.aload_n 0, 1) := by decide +kernel
theorem dX7_fits_30 : decode cX7_fits 30 = .ok (.iload_n 3, 1) := by decide +kernel
theorem dX7_fits_31 : decode cX7_fits 31 = .ok (.iconst 2, 1) := by decide +kernel
theorem dX7_fits_32 : decode cX7_fits 32 = .ok (.invokevirtual 104, 3) := by decide +kernel
theorem dX7_fits_35 : decode cX7_fits 35 = .ok (.goto 4, 3) := by decide +kernel
theorem dX7_fits_38 : decode cX7_fits 38 = .ok (.iconst 0, 1) := by decide +kernel
theorem dX7_fits_39 : decode cX7_fits 39 = .ok (.iadd, 1) := by decide +kernel
theorem dX7_fits_40 : decode cX7_fits 40 = .ok (.istore_n 2, 1) := by decide +kernel
theorem dX7_fits_41 : decode cX7_fits 41 = .ok (.iinc 3 1, 3) := by decide +kernel
theorem dX7_fits_44 : decode cX7_fits 44 = .ok (.goto (-40), 3) := by decide +kernel
theorem dX7_fits_47 : decode cX7_fits 47 = .ok (.iload_n 2, 1) := by decide +kernel
theorem dX7_fits_48 : decode cX7_fits 48 = .ok (.ireturn, 1) := by decide +kernel
set_option maxRecDepth 20000 in
theorem ggX7_key_X7_in : GoodIn wsX7_key wsX7_in := goodIn_r _ [6] (by decide +kernel) (by decide +kernel)
set_option maxRecDepth 20000 in
theorem gX7_key_X7_in : GoodIn wsX7_key (va_wsS RX7 22 yX7_in wsX7_in) := goodIn_app (goodIn_of _ (by decide +kernel)) ggX7_key_X7_in
set_option maxRecDepth 20000 in
theorem ggX7_key_X7_tones : GoodIn wsX7_key wsX7_tones := goodIn_r _ [10, 11, 12, 13, 14, 5, 15, 16, 17, 18, 19, 20, 21, 22, 23, 24, 25, 26, 38, 39, 40, 41, 42, 43, 44, 45, 46, 47, 48, 49, 50, 51] (by decide +kernel) (by decide +kernel)
set_option maxRecDepth 20000 in
theorem gX7_key_X7_tones : GoodIn wsX7_key (wsV RX7 122 RX7 yX7_tones wsX7_tones) := goodIn_app (goodIn_of _ (by decide +kernel)) ggX7_key_X7_tones
set_option maxRecDepth 20000 in
theorem ggX7_key_X7_fits : GoodIn wsX7_key wsX7_fits := goodIn_r _ [30, 11, 31, 32, 5, 33, 34, 35, 36, 37, 16, 17, 18, 19, 20, 21, 22, 23, 24, 25, 26, 38, 39, 40, 41, 42, 43, 44, 45, 46, 47, 48, 49, 50, 51] (by decide +kernel) (by decide +kernel)
set_option maxRecDepth 20000 in
theorem gX7_key_X7_fits : GoodIn wsX7_key (wsV RX7 125 RX7 yX7_fits wsX7_fits) := goodIn_app (goodIn_of _ (by decide +kernel)) ggX7_key_X7_fits
theorem dX7_key_0 : decode cX7_key 0 = .ok (.iload_n 1, 1) := by decide +kernel
theorem dX7_key_1 : decode cX7_key 1 = .ok (.iconst 0, 1) := by decide +kernel
theorem dX7_key_2 : decode cX7_key 2 = .ok (.iconst 1, 1) := by decide +kernel
theorem dX7_key_3 : decode cX7_key 3 = .ok (.invokestatic 22, 3) := by decide +kernel
theorem dX7_key_6 : decode cX7_key 6 = .ok (.ifCond .ne 6, 3) := by decide +kernel
theorem dX7_key_9 : decode cX7_key 9 = .ok (.ldc 51, 2) := by decide +kernel
theorem dX7_key_11 : decode cX7_key 11 = .ok (.ireturn, 1) := by decide +kernel
theorem dX7_key_12 : decode cX7_key 12 = .ok (.aload_n 0, 1) := by decide +kernel
theorem dX7_key_13 : decode cX7_key 13 = .ok (.invokevirtual 122, 3) := by decide +kernel
theorem dX7_key_16 : decode cX7_key 16 = .ok (.ifCond .ne 6, 3) := by decide +kernel
theorem dX7_key_19 : decode cX7_key 19 = .ok (.ldc 93, 2) := by decide +kernel
theorem dX7_key_21 : decode cX7_key 21 = .ok (.ireturn, 1) := by decide +kernel
theorem dX7_key_22 : decode cX7_key 22 = .ok (.iconst 0, 1) := by decide +kernel
theorem dX7_key_23 : decode cX7_key 23 = .ok (.istore_n 2, 1) := by decide +kernel
theorem dX7_key_24 : decode cX7_key 24 = .ok (.iconst 1, 1) := by decide +kernel
theorem dX7_key_25 : decode cX7_key 25 = .ok (.istore_n 3, 1) := by decide +kernel
theorem dX7_key_26 : decode cX7_key 26 = .ok (.iload_n 3, 1) := by decide +kernel
theorem dX7_key_27 : decode cX7_key 27 = .ok (.bipush 12, 2) := by decide +kernel
theorem dX7_key_29 : decode cX7_key 29 = .ok (.if_icmp .ge 28, 3) := by decide +kernel
theorem dX7_key_32 : decode cX7_key 32 = .ok (.aload_n 0, 1) := by decide +kernel
theorem dX7_key_33 : decode cX7_key 33 = .ok (.iload_n 3, 1) := by decide +kernel
theorem dX7_key_34 : decode cX7_key 34 = .ok (.invokevirtual 125, 3) := by decide +kernel
theorem dX7_key_37 : decode cX7_key 37 = .ok (.aload_n 0, 1) := by decide +kernel
theorem dX7_key_38 : decode cX7_key 38 = .ok (.iload_n 2, 1) := by decide +kernel
theorem dX7_key_39 : decode cX7_key 39 = .ok (.invokevirtual 125, 3) := by decide +kernel
theorem dX7_key_42 : decode cX7_key 42 = .ok (.if_icmp .le 7, 3) := by decide +kernel
theorem dX7_key_45 : decode cX7_key 45 = .ok (.iload_n 3, 1) := by decide +kernel
theorem dX7_key_46 : decode cX7_key 46 = .ok (.goto 4, 3) := by decide +kernel
theorem dX7_key_49 : decode cX7_key 49 = .ok (.iload_n 2, 1) := by decide +kernel
theorem dX7_key_50 : decode cX7_key 50 = .ok (.istore_n 2, 1) := by decide +kernel
theorem dX7_key_51 : decode cX7_key 51 = .ok (.iinc 3 1, 3) := by decide +kernel
theorem dX7_key_54 : decode cX7_key 54 = .ok (.goto (-28), 3) := by decide +kernel
theorem dX7_key_57 : decode cX7_key 57 = .ok (.iload_n 1, 1) := by decide +kernel
theorem dX7_key_58 : decode cX7_key 58 = .ok (.ifCond .ne 7, 3) := by decide +kernel
theorem dX7_key_61 : decode cX7_key 61 = .ok (.iload_n 2, 1) := by decide +kernel
theorem dX7_key_62 : decode cX7_key 62 = .ok (.goto 8, 3) := by decide +kernel
theorem dX7_key_65 : decode cX7_key 65 = .ok (.aload_n 0, 1) := by decide +kernel
theorem dX7_key_66 : decode cX7_key 66 = .ok (.iload_n 2, 1) := by decide +kernel
theorem dX7_key_67 : decode cX7_key 67 = .ok (.invokevirtual 125, 3) := by decide +kernel
theorem dX7_key_70 : decode cX7_key 70 = .ok (.ireturn, 1) := by decide +kernel
set_option maxRecDepth 20000 in
theorem ggX7_like_X7_in : GoodIn wsX7_like wsX7_in := goodIn_r _ [6] (by decide +kernel) (by decide +kernel)
set_option maxRecDepth 20000 in
theorem gX7_like_X7_in : GoodIn wsX7_like (va_wsS RX7 22 yX7_in wsX7_in) := goodIn_app (goodIn_of _ (by decide +kernel)) ggX7_like_X7_in
set_option maxRecDepth 20000 in
theorem ggX7_like_X7_mirrored : GoodIn wsX7_like wsX7_mirrored := goodIn_r _ [9, 10, 11, 5, 12] (by decide +kernel) (by decide +kernel)
set_option maxRecDepth 20000 in
theorem gX7_like_X7_mirrored : GoodIn wsX7_like (va_wsS RX7 81 yX7_mirrored wsX7_mirrored) := goodIn_app (goodIn_of _ (by decide +kernel)) ggX7_like_X7_mirrored
theorem dX7_like_0 : decode cX7_like 0 = .ok (.iload_n 1, 1) := by decide +kernel
theorem dX7_like_1 : decode cX7_like 1 = .ok (.iconst 0, 1) := by decide +kernel
theorem dX7_like_2 : decode cX7_like 2 = .ok (.iconst 2, 1) := by decide +kernel
theorem dX7_like_3 : decode cX7_like 3 = .ok (.invokestatic 22, 3) := by decide +kernel
theorem dX7_like_6 : decode cX7_like 6 = .ok (.ifCond .ne 6, 3) := by decide +kernel
theorem dX7_like_9 : decode cX7_like 9 = .ok (.ldc 51, 2) := by decide +kernel
theorem dX7_like_11 : decode cX7_like 11 = .ok (.ireturn, 1) := by decide +kernel
theorem dX7_like_12 : decode cX7_like 12 = .ok (.iconst 1, 1) := by decide +kernel
theorem dX7_like_13 : decode cX7_like 13 = .ok (.istore_n 2, 1) := by decide +kernel
theorem dX7_like_14 : decode cX7_like 14 = .ok (.iconst 0, 1) := by decide +kernel
theorem dX7_like_15 : decode cX7_like 15 = .ok (.istore_n 3, 1) := by decide +kernel
theorem dX7_like_16 : decode cX7_like 16 = .ok (.iload_n 3, 1) := by decide +kernel
theorem dX7_like_17 : decode cX7_like 17 = .ok (.aload_n 0, 1) := by decide +kernel
theorem dX7_like_18 : decode cX7_like 18 = .ok (.getfield 7, 3) := by decide +kernel
theorem dX7_like_21 : decode cX7_like 21 = .ok (.bipush 16, 2) := by decide +kernel
theorem dX7_like_23 : decode cX7_like 23 = .ok (.iaload, 1) := by decide +kernel
theorem dX7_like_24 : decode cX7_like 24 = .ok (.if_icmp .ge 75, 3) := by decide +kernel
theorem dX7_like_27 : decode cX7_like 27 = .ok (.aload_n 0, 1) := by decide +kernel
theorem dX7_like_28 : decode cX7_like 28 = .ok (.getfield 7, 3) := by decide +kernel
theorem dX7_like_31 : decode cX7_like 31 = .ok (.bipush 17, 2) := by decide +kernel
theorem dX7_like_33 : decode cX7_like 33 = .ok (.iload_n 1, 1) := by decide +kernel
theorem dX7_like_34 : decode cX7_like 34 = .ok (.iconst 1, 1) := by decide +kernel
theorem dX7_like_35 : decode cX7_like 35 = .ok (.if_icmp .ne 7, 3) := by decide +kernel
theorem dX7_like_38 : decode cX7_like 38 = .ok (.iload_n 3, 1) := by decide +kernel
theorem dX7_like_39 : decode cX7_like 39 = .ok (.goto 14, 3) := by decide +kernel
theorem dX7_like_42 : decode cX7_like 42 = .ok (.aload_n 0, 1) := by decide +kernel
theorem dX7_like_43 : decode cX7_like 43 = .ok (.getfield 7, 3) := by decide +kernel
theorem dX7_like_46 : decode cX7_like 46 = .ok (.bipush 16, 2) := by decide +kernel
theorem dX7_like_48 : decode cX7_like 48 = .ok (.iaload, 1) := by decide +kernel
theorem dX7_like_49 : decode cX7_like 49 = .ok (.iconst 1, 1) := by decide +kernel
theorem dX7_like_50 : decode cX7_like 50 = .ok (.isub, 1) := by decide +kernel
theorem dX7_like_51 : decode cX7_like 51 = .ok (.iload_n 3, 1) := by decide +kernel
theorem dX7_like_52 : decode cX7_like 52 = .ok (.isub, 1) := by decide +kernel
theorem dX7_like_53 : decode cX7_like 53 = .ok (.iadd, 1) := by decide +kernel
theorem dX7_like_54 : decode cX7_like 54 = .ok (.iaload, 1) := by decide +kernel
theorem dX7_like_55 : decode cX7_like 55 = .ok (.istore 4, 2) := by decide +kernel
theorem dX7_like_57 : decode cX7_like 57 = .ok (.iload_n 2, 1) := by decide +kernel
theorem dX7_like_58 : decode cX7_like 58 = .ok (.ifCond .eq 33, 3) := by decide +kernel
theorem dX7_like_61 : decode cX7_like 61 = .ok (.aload_n 0, 1) := by decide +kernel
theorem dX7_like_62 : decode cX7_like 62 = .ok (.getfield 7, 3) := by decide +kernel
theorem dX7_like_65 : decode cX7_like 65 = .ok (.bipush 17, 2) := by decide +kernel
theorem dX7_like_67 : decode cX7_like 67 = .ok (.iload_n 3, 1) := by decide +kernel
theorem dX7_like_68 : decode cX7_like 68 = .ok (.iadd, 1) := by decide +kernel
theorem dX7_like_69 : decode cX7_like 69 = .ok (.iaload, 1) := by decide +kernel
theorem dX7_like_70 : decode cX7_like 70 = .ok (.iload_n 1, 1) := by decide +kernel
theorem dX7_like_71 : decode cX7_like 71 = .ok (.ifCond .ne 8, 3) := by decide +kernel
theorem dX7_like_74 : decode cX7_like 74 = .ok (.iload 4, 2) := by decide +kernel
theorem dX7_like_76 : decode cX7_like 76 = .ok (.goto 8, 3) := by decide +kernel
theorem dX7_like_79 : decode cX7_like 79 = .ok (.iload 4, 2) := by decide +kernel
theorem dX7_like_81 : decode cX7_like 81 = .ok (.invokestatic 81, 3) := by decide +kernel
theorem dX7_like_84 : decode cX7_like 84 = .ok (.if_icmp .ne 7, 3) := by decide +kernel
theorem dX7_like_87 : decode cX7_like 87 = .ok (.iconst 1, 1) := by decide +kernel
theorem dX7_like_88 : decode cX7_like 88 = .ok (.goto 4, 3) := by decide +kernel
theorem dX7_like_91 : decode cX7_like 91 = .ok (.iconst 0, 1) := by decide +kernel
theorem dX7_like_92 : decode cX7_like 92 = .ok (.istore_n 2, 1) := by decide +kernel
theorem dX7_like_93 : decode cX7_like 93 = .ok (.iinc 3 1, 3) := by decide +kernel
theorem dX7_like_96 : decode cX7_like 96 = .ok (.goto (-80), 3) := by decide +kernel
theorem dX7_like_99 : decode cX7_like 99 = .ok (.iload_n 2, 1) := by decide +kernel
theorem dX7_like_100 : decode cX7_like 100 = .ok (.ifCond .eq 7, 3) := by decide +kernel
theorem dX7_like_103 : decode cX7_like 103 = .ok (.iconst 1, 1) := by decide +kernel
theorem dX7_like_104 : decode cX7_like 104 = .ok (.goto 4, 3) := by decide +kernel
theorem dX7_like_107 : decode cX7_like 107 = .ok (.iconst 0, 1) := by decide +kernel
theorem dX7_like_108 : decode cX7_like 108 = .ok (.ireturn, 1) := by decide +kernel
theorem dX7_bitsOf_0 : decode cX7_bitsOf 0 = .ok (.bipush 127, 2) := by decide +kernel
theorem dX7_bitsOf_2 : decode cX7_bitsOf 2 = .ok (.istore_n 1, 1) := by decide +kernel
theorem dX7_bitsOf_3 : decode cX7_bitsOf 3 = .ok (.fload_n 0, 1) := by decide +kernel
theorem dX7_bitsOf_4 : decode cX7_bitsOf 4 = .ok (.fstore_n 2, 1) := by decide +kernel
theorem dX7_bitsOf_5 : decode cX7_bitsOf 5 = .ok (.fload_n 2, 1) := by decide +kernel
theorem dX7_bitsOf_6 : decode cX7_bitsOf 6 = .ok (.fconst 2, 1) := by decide +kernel
theorem dX7_bitsOf_7 : decode cX7_bitsOf 7 = .ok (.fcmp .l, 1) := by decide +kernel
theorem dX7_bitsOf_8 : decode cX7_bitsOf 8 = .ok (.ifCond .lt 14, 3) := by decide +kernel
theorem dX7_bitsOf_11 : decode cX7_bitsOf 11 = .ok (.fload_n 2, 1) := by decide +kernel
theorem dX7_bitsOf_12 : decode cX7_bitsOf 12 = .ok (.ldc 128, 2) := by decide +kernel
theorem dX7_bitsOf_14 : decode cX7_bitsOf 14 = .ok (.fmul, 1) := by decide +kernel
theorem dX7_bitsOf_15 : decode cX7_bitsOf 15 = .ok (.fstore_n 2, 1) := by decide +kernel
theorem dX7_bitsOf_16 : decode cX7_bitsOf 16 = .ok (.iinc 1 1, 3) := by decide +kernel
theorem dX7_bitsOf_19 : decode cX7_bitsOf 19 = .ok (.goto (-14), 3) := by decide +kernel
theorem dX7_bitsOf_22 : decode cX7_bitsOf 22 = .ok (.iload_n 1, 1) := by decide +kernel
theorem dX7_bitsOf_23 : decode cX7_bitsOf 23 = .ok (.ldc 129, 2) := by decide +kernel
theorem dX7_bitsOf_25 : decode cX7_bitsOf 25 = .ok (.imul, 1) := by decide +kernel
theorem dX7_bitsOf_26 : decode cX7_bitsOf 26 = .ok (.fload_n 2, 1) := by decide +kernel
theorem dX7_bitsOf_27 : decode cX7_bitsOf 27 = .ok (.fconst 1, 1) := by decide +kernel
theorem dX7_bitsOf_28 : decode cX7_bitsOf 28 = .ok (.fsub, 1) := by decide +kernel
theorem dX7_bitsOf_29 : decode cX7_bitsOf 29 = .ok (.ldc 130, 2) := by decide +kernel
theorem dX7_bitsOf_31 : decode cX7_bitsOf 31 = .ok (.fmul, 1) := by decide +kernel
theorem dX7_bitsOf_32 : decode cX7_bitsOf 32 = .ok (.f2i, 1) := by decide +kernel
theorem dX7_bitsOf_33 : decode cX7_bitsOf 33 = .ok (.iadd, 1) := by decide +kernel
theorem dX7_bitsOf_34 : decode cX7_bitsOf 34 = .ok (.ireturn, 1) := by decide +kernel
set_option maxRecDepth 20000 in
theorem ggX7_mean_X7_rows : GoodIn wsX7_mean wsX7_rows := goodIn_r _ [6, 7, 8, 9, 10, 5, 11, 12, 13, 14, 15, 16, 17, 18, 33, 34, 35, 36, 37, 38, 39, 40, 41, 42, 43, 44, 45, 46] (by decide +kernel) (by decide +kernel)
set_option maxRecDepth 20000 in
theorem gX7_mean_X7_rows : GoodIn wsX7_mean (wsV RX7 104 RX7 yX7_rows wsX7_rows) := goodIn_app (goodIn_of _ (by decide +kernel)) ggX7_mean_X7_rows
set_option maxRecDepth 20000 in
theorem ggX7_mean_X7_tones : GoodIn wsX7_mean wsX7_tones := goodIn_r _ [22, 7, 23, 24, 25, 5, 26, 8, 9, 10, 11, 12, 13, 14, 15, 16, 17, 18, 33, 34, 35, 36, 37, 38, 39, 40, 41, 42, 43, 44, 45, 46] (by decide +kernel) (by decide +kernel)
set_option maxRecDepth 20000 in
theorem gX7_mean_X7_tones : GoodIn wsX7_mean (wsV RX7 122 RX7 yX7_tones wsX7_tones) := goodIn_app (goodIn_of _ (by decide +kernel)) ggX7_mean_X7_tones
set_option maxRecDepth 20000 in
theorem ggX7_mean_X7_bitsOf : GoodIn wsX7_mean wsX7_bitsOf := goodIn_r _ [29, 30, 31, 32] (by decide +kernel) (by decide +kernel)
set_option maxRecDepth 20000 in
theorem gX7_mean_X7_bitsOf : GoodIn wsX7_mean (va_wsS RX7 131 yX7_bitsOf wsX7_bitsOf) := goodIn_app (goodIn_of _ (by decide +kernel)) ggX7_mean_X7_bitsOf
theorem dX7_mean_0 : decode cX7_mean 0 = .ok (.iconst 0, 1) := by decide +kernel
theorem dX7_mean_1 : decode cX7_mean 1 = .ok (.istore_n 1, 1) := by decide +kernel
theorem dX7_mean_2 : decode cX7_mean 2 = .ok (.iconst 0, 1) := by decide +kernel
theorem dX7_mean_3 : decode cX7_mean 3 = .ok (.istore_n 2, 1) := by decide +kernel
theorem dX7_mean_4 : decode cX7_mean 4 = .ok (.iload_n 2, 1) := by decide +kernel
theorem dX7_mean_5 : decode cX7_mean 5 = .ok (.bipush 8, 2) := by decide +kernel
theorem dX7_mean_7 : decode cX7_mean 7 = .ok (.if_icmp .ge 18, 3) := by decide +kernel
theorem dX7_mean_10 : decode cX7_mean 10 = .ok (.iload_n 1, 1) := by decide +kernel
theorem dX7_mean_11 : decode cX7_mean 11 = .ok (.aload_n 0, 1) := by decide +kernel
theorem dX7_mean_12 : decode cX7_mean 12 = .ok (.iload_n 2, 1) := by decide +kernel
theorem dX7_mean_13 : decode cX7_mean 13 = .ok (.iconst 3, 1) := by decide +kernel
theorem dX7_mean_14 : decode cX7_mean 14 = .ok (.invokevirtual 104, 3) := by decide +kernel
theorem dX7_mean_17 : decode cX7_mean 17 = .ok (.iadd, 1) := by decide +kernel
theorem dX7_mean_18 : decode cX7_mean 18 = .ok (.istore_n 1, 1) := by decide +kernel
theorem dX7_mean_19 : decode cX7_mean 19 = .ok (.iinc 2 1, 3) := by decide +kernel
theorem dX7_mean_22 : decode cX7_mean 22 = .ok (.goto (-18), 3) := by decide +kernel
theorem dX7_mean_25 : decode cX7_mean 25 = .ok (.aload_n 0, 1) := by decide +kernel
theorem dX7_mean_26 : decode cX7_mean 26 = .ok (.invokevirtual 122, 3) := by decide +kernel
theorem dX7_mean_29 : decode cX7_mean 29 = .ok (.istore_n 2, 1) := by decide +kernel
theorem dX7_mean_30 : decode cX7_mean 30 = .ok (.iload_n 2, 1) := by decide +kernel
theorem dX7_mean_31 : decode cX7_mean 31 = .ok (.ifCond .ne 8, 3) := by decide +kernel
theorem dX7_mean_34 : decode cX7_mean 34 = .ok (.ldc 93, 2) := by decide +kernel
theorem dX7_mean_36 : decode cX7_mean 36 = .ok (.goto 11, 3) := by decide +kernel
theorem dX7_mean_39 : decode cX7_mean 39 = .ok (.iload_n 1, 1) := by decide +kernel
theorem dX7_mean_40 : decode cX7_mean 40 = .ok (.i2f, 1) := by decide +kernel
theorem dX7_mean_41 : decode cX7_mean 41 = .ok (.iload_n 2, 1) := by decide +kernel
theorem dX7_mean_42 : decode cX7_mean 42 = .ok (.i2f, 1) := by decide +kernel
theorem dX7_mean_43 : decode cX7_mean 43 = .ok (.fdiv, 1) := by decide +kernel
theorem dX7_mean_44 : decode cX7_mean 44 = .ok (.invokestatic 131, 3) := by decide +kernel
theorem dX7_mean_47 : decode cX7_mean 47 = .ok (.ireturn, 1) := by decide +kernel
set_option maxRecDepth 20000 in
theorem ggX7_sum_X7_clashes : GoodIn wsX7_sum wsX7_clashes := goodIn_r _ [6, 1, 7, 8, 5, 9, 18, 19, 20, 21, 22, 23, 24, 25, 26, 27, 28, 29, 30, 31] (by decide +kernel) (by decide +kernel)
set_option maxRecDepth 20000 in
theorem gX7_sum_X7_clashes : GoodIn wsX7_sum (wsV RX7 38 RX7 yX7_clashes wsX7_clashes) := goodIn_app (goodIn_of _ (by decide +kernel)) ggX7_sum_X7_clashes
set_option maxRecDepth 20000 in
theorem ggX7_sum_X7_floats : GoodIn wsX7_sum wsX7_floats := goodIn_r _ [13, 1, 14, 15, 16, 5, 17, 7, 8, 9, 18, 19, 20, 21, 22, 23, 24, 25, 26, 27, 28, 29, 30, 31] (by decide +kernel) (by decide +kernel)
set_option maxRecDepth 20000 in
theorem gX7_sum_X7_floats : GoodIn wsX7_sum (wsV RX7 107 RX7 yX7_floats wsX7_floats) := goodIn_app (goodIn_of _ (by decide +kernel)) ggX7_sum_X7_floats
theorem dX7_sum_0 : decode cX7_sum 0 = .ok (.iconst 0, 1) := by decide +kernel
theorem dX7_sum_1 : decode cX7_sum 1 = .ok (.istore_n 2, 1) := by decide +kernel
theorem dX7_sum_2 : decode cX7_sum 2 = .ok (.iconst 0, 1) := by decide +kernel
theorem dX7_sum_3 : decode cX7_sum 3 = .ok (.istore_n 3, 1) := by decide +kernel
theorem dX7_sum_4 : decode cX7_sum 4 = .ok (.iload_n 3, 1) := by decide +kernel
theorem dX7_sum_5 : decode cX7_sum 5 = .ok (.aload_n 0, 1) := by decide +kernel
theorem dX7_sum_6 : decode cX7_sum 6 = .ok (.getfield 7, 3) := by decide +kernel
theorem dX7_sum_9 : decode cX7_sum 9 = .ok (.bipush 16, 2) := by decide +kernel
theorem dX7_sum_11 : decode cX7_sum 11 = .ok (.iaload, 1) := by decide +kernel
theorem dX7_sum_12 : decode cX7_sum 12 = .ok (.if_icmp .ge 47, 3) := by decide +kernel
theorem dX7_sum_15 : decode cX7_sum 15 = .ok (.iload_n 1, 1) := by decide +kernel
theorem dX7_sum_16 : decode cX7_sum 16 = .ok (.iconst 4, 1) := by decide +kernel
theorem dX7_sum_17 : decode cX7_sum 17 = .ok (.if_icmp .ge 42, 3) := by decide +kernel
theorem dX7_sum_20 : decode cX7_sum 20 = .ok (.iload_n 2, 1) := by decide +kernel
theorem dX7_sum_21 : decode cX7_sum 21 = .ok (.iload_n 1, 1) := by decide +kernel
theorem dX7_sum_22 : decode cX7_sum 22 = .ok (.iconst 1, 1) := by decide +kernel
theorem dX7_sum_23 : decode cX7_sum 23 = .ok (.if_icmp .ne 15, 3) := by decide +kernel
theorem dX7_sum_26 : decode cX7_sum 26 = .ok (.aload_n 0, 1) := by decide +kernel
theorem dX7_sum_27 : decode cX7_sum 27 = .ok (.getfield 7, 3) := by decide +kernel
theorem dX7_sum_30 : decode cX7_sum 30 = .ok (.bipush 41, 2) := by decide +kernel
theorem dX7_sum_32 : decode cX7_sum 32 = .ok (.iload_n 3, 1) := by decide +kernel
theorem dX7_sum_33 : decode cX7_sum 33 = .ok (.iadd, 1) := by decide +kernel
theorem dX7_sum_34 : decode cX7_sum 34 = .ok (.iaload, 1) := by decide +kernel
theorem dX7_sum_35 : decode cX7_sum 35 = .ok (.goto 16, 3) := by decide +kernel
theorem dX7_sum_38 : decode cX7_sum 38 = .ok (.aload_n 0, 1) := by decide +kernel
theorem dX7_sum_39 : decode cX7_sum 39 = .ok (.aload_n 0, 1) := by decide +kernel
theorem dX7_sum_40 : decode cX7_sum 40 = .ok (.getfield 7, 3) := by decide +kernel
theorem dX7_sum_43 : decode cX7_sum 43 = .ok (.bipush 17, 2) := by decide +kernel
theorem dX7_sum_45 : decode cX7_sum 45 = .ok (.iload_n 3, 1) := by decide +kernel
theorem dX7_sum_46 : decode cX7_sum 46 = .ok (.iadd, 1) := by decide +kernel
theorem dX7_sum_47 : decode cX7_sum 47 = .ok (.iaload, 1) := by decide +kernel
theorem dX7_sum_48 : decode cX7_sum 48 = .ok (.invokevirtual 38, 3) := by decide +kernel
theorem dX7_sum_51 : decode cX7_sum 51 = .ok (.iadd, 1) := by decide +kernel
theorem dX7_sum_52 : decode cX7_sum 52 = .ok (.istore_n 2, 1) := by decide +kernel
theorem dX7_sum_53 : decode cX7_sum 53 = .ok (.iinc 3 1, 3) := by decide +kernel
theorem dX7_sum_56 : decode cX7_sum 56 = .ok (.goto (-52), 3) := by decide +kernel
theorem dX7_sum_59 : decode cX7_sum 59 = .ok (.iconst 0, 1) := by decide +kernel
theorem dX7_sum_60 : decode cX7_sum 60 = .ok (.istore_n 3, 1) := by decide +kernel
theorem dX7_sum_61 : decode cX7_sum 61 = .ok (.iload_n 3, 1) := by decide +kernel
theorem dX7_sum_62 : decode cX7_sum 62 = .ok (.bipush 8, 2) := by decide +kernel
theorem dX7_sum_64 : decode cX7_sum 64 = .ok (.if_icmp .ge 23, 3) := by decide +kernel
theorem dX7_sum_67 : decode cX7_sum 67 = .ok (.iload_n 1, 1) := by decide +kernel
theorem dX7_sum_68 : decode cX7_sum 68 = .ok (.iconst 4, 1) := by decide +kernel
theorem dX7_sum_69 : decode cX7_sum 69 = .ok (.if_icmp .ne 18, 3) := by decide +kernel
theorem dX7_sum_72 : decode cX7_sum 72 = .ok (.iload_n 2, 1) := by decide +kernel
theorem dX7_sum_73 : decode cX7_sum 73 = .ok (.aload_n 0, 1) := by decide +kernel
theorem dX7_sum_74 : decode cX7_sum 74 = .ok (.iload_n 3, 1) := by decide +kernel
theorem dX7_sum_75 : decode cX7_sum 75 = .ok (.iconst 5, 1) := by decide +kernel
theorem dX7_sum_76 : decode cX7_sum 76 = .ok (.invokevirtual 107, 3) := by decide +kernel
theorem dX7_sum_79 : decode cX7_sum 79 = .ok (.iadd, 1) := by decide +kernel
theorem dX7_sum_80 : decode cX7_sum 80 = .ok (.istore_n 2, 1) := by decide +kernel
theorem dX7_sum_81 : decode cX7_sum 81 = .ok (.iinc 3 1, 3) := by decide +kernel
theorem dX7_sum_84 : decode cX7_sum 84 = .ok (.goto (-23), 3) := by decide +kernel
theorem dX7_sum_87 : decode cX7_sum 87 = .ok (.iload_n 2, 1) := by decide +kernel
theorem dX7_sum_88 : decode cX7_sum 88 = .ok (.ireturn, 1) := by decide +kernel
set_option maxRecDepth 20000 in
theorem ggX7_count_X7_sum : GoodIn wsX7_count wsX7_sum := goodIn_r _ [10, 1, 11, 12, 13, 9, 14, 15, 16, 17, 18, 19, 20, 21, 22, 23, 24, 25, 41, 42, 43, 44, 45, 46, 47, 48, 49, 50, 51, 52, 53, 54] (by decide +kernel) (by decide +kernel)
set_option maxRecDepth 20000 in
theorem gX7_count_X7_sum : GoodIn wsX7_count (wsV RX7 135 RX7 yX7_sum wsX7_sum) := goodIn_app (goodIn_of _ (by decide +kernel)) ggX7_count_X7_sum
set_option maxRecDepth 20000 in
theorem ggX7_count_X7_tones : GoodIn wsX7_count wsX7_tones := goodIn_r _ [29, 1, 30, 31, 32, 9, 33, 34, 35, 36, 37, 22, 23, 24, 25, 15, 16, 17, 41, 42, 43, 44, 45, 46, 47, 48, 49, 50, 51, 52, 53, 54] (by decide +kernel) (by decide +kernel)
set_option maxRecDepth 20000 in
theorem gX7_count_X7_tones : GoodIn wsX7_count (wsV RX7 122 RX7 yX7_tones wsX7_tones) := goodIn_app (goodIn_of _ (by decide +kernel)) ggX7_count_X7_tones
set_option maxRecDepth 20000 in
theorem ggX7_count_X7_in : GoodIn wsX7_count wsX7_in := goodIn_r _ [40] (by decide +kernel) (by decide +kernel)
set_option maxRecDepth 20000 in
theorem gX7_count_X7_in : GoodIn wsX7_count (va_wsS RX7 22 yX7_in wsX7_in) := goodIn_app (goodIn_of _ (by decide +kernel)) ggX7_count_X7_in
theorem dX7_count_0 : decode cX7_count 0 = .ok (.iload_n 1, 1) := by decide +kernel
theorem dX7_count_1 : decode cX7_count 1 = .ok (.tableswitch 153 0 10 #[59, 67, 73, 67, 67, 78, 86, 109, 117, 143, 148], 59) := by decide +kernel
theorem dX7_count_60 : decode cX7_count 60 = .ok (.aload_n 0, 1) := by decide +kernel
theorem dX7_count_61 : decode cX7_count 61 = .ok (.getfield 7, 3) := by decide +kernel
theorem dX7_count_64 : decode cX7_count 64 = .ok (.bipush 16, 2) := by decide +kernel
theorem dX7_count_66 : decode cX7_count 66 = .ok (.iaload, 1) := by decide +kernel
theorem dX7_count_67 : decode cX7_count 67 = .ok (.ireturn, 1) := by decide +kernel
theorem dX7_count_68 : decode cX7_count 68 = .ok (.aload_n 0, 1) := by decide +kernel
theorem dX7_count_69 : decode cX7_count 69 = .ok (.iload_n 1, 1) := by decide +kernel
theorem dX7_count_70 : decode cX7_count 70 = .ok (.invokevirtual 135, 3) := by decide +kernel
theorem dX7_count_73 : decode cX7_count 73 = .ok (.ireturn, 1) := by decide +kernel
theorem dX7_count_74 : decode cX7_count 74 = .ok (.aload_n 0, 1) := by decide +kernel
theorem dX7_count_75 : decode cX7_count 75 = .ok (.invokevirtual 122, 3) := by decide +kernel
theorem dX7_count_78 : decode cX7_count 78 = .ok (.ireturn, 1) := by decide +kernel
theorem dX7_count_79 : decode cX7_count 79 = .ok (.aload_n 0, 1) := by decide +kernel
theorem dX7_count_80 : decode cX7_count 80 = .ok (.getfield 7, 3) := by decide +kernel
theorem dX7_count_83 : decode cX7_count 83 = .ok (.bipush 67, 2) := by decide +kernel
theorem dX7_count_85 : decode cX7_count 85 = .ok (.iaload, 1) := by decide +kernel
theorem dX7_count_86 : decode cX7_count 86 = .ok (.ireturn, 1) := by decide +kernel
theorem dX7_count_87 : decode cX7_count 87 = .ok (.aload_n 0, 1) := by decide +kernel
theorem dX7_count_88 : decode cX7_count 88 = .ok (.getfield 7, 3) := by decide +kernel
theorem dX7_count_91 : decode cX7_count 91 = .ok (.bipush 66, 2) := by decide +kernel
theorem dX7_count_93 : decode cX7_count 93 = .ok (.iaload, 1) := by decide +kernel
theorem dX7_count_94 : decode cX7_count 94 = .ok (.ifCond .ne 8, 3) := by decide +kernel
theorem dX7_count_97 : decode cX7_count 97 = .ok (.ldc 93, 2) := by decide +kernel
theorem dX7_count_99 : decode cX7_count 99 = .ok (.goto 10, 3) := by decide +kernel
theorem dX7_count_102 : decode cX7_count 102 = .ok (.aload_n 0, 1) := by decide +kernel
theorem dX7_count_103 : decode cX7_count 103 = .ok (.getfield 7, 3) := by decide +kernel
theorem dX7_count_106 : decode cX7_count 106 = .ok (.bipush 65, 2) := by decide +kernel
theorem dX7_count_108 : decode cX7_count 108 = .ok (.iaload, 1) := by decide +kernel
theorem dX7_count_109 : decode cX7_count 109 = .ok (.ireturn, 1) := by decide +kernel
theorem dX7_count_110 : decode cX7_count 110 = .ok (.aload_n 0, 1) := by decide +kernel
theorem dX7_count_111 : decode cX7_count 111 = .ok (.getfield 7, 3) := by decide +kernel
theorem dX7_count_114 : decode cX7_count 114 = .ok (.bipush 66, 2) := by decide +kernel
theorem dX7_count_116 : decode cX7_count 116 = .ok (.iaload, 1) := by decide +kernel
theorem dX7_count_117 : decode cX7_count 117 = .ok (.ireturn, 1) := by decide +kernel
theorem dX7_count_118 : decode cX7_count 118 = .ok (.aload_n 0, 1) := by decide +kernel
theorem dX7_count_119 : decode cX7_count 119 = .ok (.getfield 7, 3) := by decide +kernel
theorem dX7_count_122 : decode cX7_count 122 = .ok (.bipush 16, 2) := by decide +kernel
theorem dX7_count_124 : decode cX7_count 124 = .ok (.iaload, 1) := by decide +kernel
theorem dX7_count_125 : decode cX7_count 125 = .ok (.aload_n 0, 1) := by decide +kernel
theorem dX7_count_126 : decode cX7_count 126 = .ok (.getfield 7, 3) := by decide +kernel
theorem dX7_count_129 : decode cX7_count 129 = .ok (.bipush 68, 2) := by decide +kernel
theorem dX7_count_131 : decode cX7_count 131 = .ok (.iaload, 1) := by decide +kernel
theorem dX7_count_132 : decode cX7_count 132 = .ok (.iadd, 1) := by decide +kernel
theorem dX7_count_133 : decode cX7_count 133 = .ok (.iconst 1, 1) := by decide +kernel
theorem dX7_count_134 : decode cX7_count 134 = .ok (.isub, 1) := by decide +kernel
theorem dX7_count_135 : decode cX7_count 135 = .ok (.aload_n 0, 1) := by decide +kernel
theorem dX7_count_136 : decode cX7_count 136 = .ok (.getfield 7, 3) := by decide +kernel
theorem dX7_count_139 : decode cX7_count 139 = .ok (.bipush 68, 2) := by decide +kernel
theorem dX7_count_141 : decode cX7_count 141 = .ok (.iaload, 1) := by decide +kernel
theorem dX7_count_142 : decode cX7_count 142 = .ok (.idiv, 1) := by decide +kernel
theorem dX7_count_143 : decode cX7_count 143 = .ok (.ireturn, 1) := by decide +kernel
theorem dX7_count_144 : decode cX7_count 144 = .ok (.aload_n 0, 1) := by decide +kernel
theorem dX7_count_145 : decode cX7_count 145 = .ok (.getfield 26, 3) := by decide +kernel
theorem dX7_count_148 : decode cX7_count 148 = .ok (.ireturn, 1) := by decide +kernel
theorem dX7_count_149 : decode cX7_count 149 = .ok (.aload_n 0, 1) := by decide +kernel
theorem dX7_count_150 : decode cX7_count 150 = .ok (.getfield 138, 3) := by decide +kernel
theorem dX7_count_153 : decode cX7_count 153 = .ok (.ireturn, 1) := by decide +kernel
theorem dX7_count_154 : decode cX7_count 154 = .ok (.iload_n 1, 1) := by decide +kernel
theorem dX7_count_155 : decode cX7_count 155 = .ok (.bipush 20, 2) := by decide +kernel
theorem dX7_count_157 : decode cX7_count 157 = .ok (.bipush 23, 2) := by decide +kernel
theorem dX7_count_159 : decode cX7_count 159 = .ok (.invokestatic 22, 3) := by decide +kernel
theorem dX7_count_162 : decode cX7_count 162 = .ok (.ifCond .eq 18, 3) := by decide +kernel
theorem dX7_count_165 : decode cX7_count 165 = .ok (.aload_n 0, 1) := by decide +kernel
theorem dX7_count_166 : decode cX7_count 166 = .ok (.getfield 7, 3) := by decide +kernel
theorem dX7_count_169 : decode cX7_count 169 = .ok (.bipush 68, 2) := by decide +kernel
theorem dX7_count_171 : decode cX7_count 171 = .ok (.iload_n 1, 1) := by decide +kernel
theorem dX7_count_172 : decode cX7_count 172 = .ok (.iadd, 1) := by decide +kernel
theorem dX7_count_173 : decode cX7_count 173 = .ok (.bipush 20, 2) := by decide +kernel
theorem dX7_count_175 : decode cX7_count 175 = .ok (.isub, 1) := by decide +kernel
theorem dX7_count_176 : decode cX7_count 176 = .ok (.iaload, 1) := by decide +kernel
theorem dX7_count_177 : decode cX7_count 177 = .ok (.goto 5, 3) := by decide +kernel
theorem dX7_count_180 : decode cX7_count 180 = .ok (.ldc 51, 2) := by decide +kernel
theorem dX7_count_182 : decode cX7_count 182 = .ok (.ireturn, 1) := by decide +kernel
theorem dX7_undo_0 : decode cX7_undo 0 = .ok (.aload_n 0, 1) := by decide +kernel
theorem dX7_undo_1 : decode cX7_undo 1 = .ok (.getfield 26, 3) := by decide +kernel
theorem dX7_undo_4 : decode cX7_undo 4 = .ok (.ifCond .ne 6, 3) := by decide +kernel
theorem dX7_undo_7 : decode cX7_undo 7 = .ok (.ldc 76, 2) := by decide +kernel
theorem dX7_undo_9 : decode cX7_undo 9 = .ok (.ireturn, 1) := by decide +kernel
theorem dX7_undo_10 : decode cX7_undo 10 = .ok (.aload_n 0, 1) := by decide +kernel
theorem dX7_undo_11 : decode cX7_undo 11 = .ok (.dup, 1) := by decide +kernel
theorem dX7_undo_12 : decode cX7_undo 12 = .ok (.getfield 26, 3) := by decide +kernel
theorem dX7_undo_15 : decode cX7_undo 15 = .ok (.iconst 1, 1) := by decide +kernel
theorem dX7_undo_16 : decode cX7_undo 16 = .ok (.isub, 1) := by decide +kernel
theorem dX7_undo_17 : decode cX7_undo 17 = .ok (.putfield 26, 3) := by decide +kernel
theorem dX7_undo_20 : decode cX7_undo 20 = .ok (.iconst 0, 1) := by decide +kernel
theorem dX7_undo_21 : decode cX7_undo 21 = .ok (.istore_n 1, 1) := by decide +kernel
theorem dX7_undo_22 : decode cX7_undo 22 = .ok (.iload_n 1, 1) := by decide +kernel
theorem dX7_undo_23 : decode cX7_undo 23 = .ok (.bipush 72, 2) := by decide +kernel
theorem dX7_undo_25 : decode cX7_undo 25 = .ok (.if_icmp .ge 29, 3) := by decide +kernel
theorem dX7_undo_28 : decode cX7_undo 28 = .ok (.aload_n 0, 1) := by decide +kernel
theorem dX7_undo_29 : decode cX7_undo 29 = .ok (.getfield 7, 3) := by decide +kernel
theorem dX7_undo_32 : decode cX7_undo 32 = .ok (.iload_n 1, 1) := by decide +kernel
theorem dX7_undo_33 : decode cX7_undo 33 = .ok (.aload_n 0, 1) := by decide +kernel
theorem dX7_undo_34 : decode cX7_undo 34 = .ok (.getfield 16, 3) := by decide +kernel
theorem dX7_undo_37 : decode cX7_undo 37 = .ok (.bipush 72, 2) := by decide +kernel
theorem dX7_undo_39 : decode cX7_undo 39 = .ok (.aload_n 0, 1) := by decide +kernel
theorem dX7_undo_40 : decode cX7_undo 40 = .ok (.getfield 26, 3) := by decide +kernel
theorem dX7_undo_43 : decode cX7_undo 43 = .ok (.imul, 1) := by decide +kernel
theorem dX7_undo_44 : decode cX7_undo 44 = .ok (.iload_n 1, 1) := by decide +kernel
theorem dX7_undo_45 : decode cX7_undo 45 = .ok (.iadd, 1) := by decide +kernel
theorem dX7_undo_46 : decode cX7_undo 46 = .ok (.iaload, 1) := by decide +kernel
theorem dX7_undo_47 : decode cX7_undo 47 = .ok (.iastore, 1) := by decide +kernel
theorem dX7_undo_48 : decode cX7_undo 48 = .ok (.iinc 1 1, 3) := by decide +kernel
theorem dX7_undo_51 : decode cX7_undo 51 = .ok (.goto (-29), 3) := by decide +kernel
theorem dX7_undo_54 : decode cX7_undo 54 = .ok (.aload_n 0, 1) := by decide +kernel
theorem dX7_undo_55 : decode cX7_undo 55 = .ok (.getfield 26, 3) := by decide +kernel
theorem dX7_undo_58 : decode cX7_undo 58 = .ok (.ireturn, 1) := by decide +kernel
set_option maxRecDepth 20000 in
theorem ggX7_type_X7_in : GoodIn wsX7_type wsX7_in := goodIn_r _ [8] (by decide +kernel) (by decide +kernel)
set_option maxRecDepth 20000 in
theorem gX7_type_X7_in : GoodIn wsX7_type (va_wsS RX7 22 yX7_in wsX7_in) := goodIn_app (goodIn_of _ (by decide +kernel)) ggX7_type_X7_in
theorem dX7_type_0 : decode cX7_type 0 = .ok (.iload_n 1, 1) := by decide +kernel
theorem dX7_type_1 : decode cX7_type 1 = .ok (.bipush 32, 2) := by decide +kernel
theorem dX7_type_3 : decode cX7_type 3 = .ok (.bipush 126, 2) := by decide +kernel
theorem dX7_type_5 : decode cX7_type 5 = .ok (.invokestatic 22, 3) := by decide +kernel
theorem dX7_type_8 : decode cX7_type 8 = .ok (.ifCond .ne 6, 3) := by decide +kernel
theorem dX7_type_11 : decode cX7_type 11 = .ok (.ldc 51, 2) := by decide +kernel
theorem dX7_type_13 : decode cX7_type 13 = .ok (.ireturn, 1) := by decide +kernel
theorem dX7_type_14 : decode cX7_type 14 = .ok (.aload_n 0, 1) := by decide +kernel
theorem dX7_type_15 : decode cX7_type 15 = .ok (.getfield 138, 3) := by decide +kernel
theorem dX7_type_18 : decode cX7_type 18 = .ok (.bipush 60, 2) := by decide +kernel
theorem dX7_type_20 : decode cX7_type 20 = .ok (.if_icmp .ne 6, 3) := by decide +kernel
theorem dX7_type_23 : decode cX7_type 23 = .ok (.ldc 52, 2) := by decide +kernel
theorem dX7_type_25 : decode cX7_type 25 = .ok (.ireturn, 1) := by decide +kernel
theorem dX7_type_26 : decode cX7_type 26 = .ok (.aload_n 0, 1) := by decide +kernel
theorem dX7_type_27 : decode cX7_type 27 = .ok (.getfield 19, 3) := by decide +kernel
theorem dX7_type_30 : decode cX7_type 30 = .ok (.aload_n 0, 1) := by decide +kernel
theorem dX7_type_31 : decode cX7_type 31 = .ok (.getfield 138, 3) := by decide +kernel
theorem dX7_type_34 : decode cX7_type 34 = .ok (.iload_n 1, 1) := by decide +kernel
theorem dX7_type_35 : decode cX7_type 35 = .ok (.iastore, 1) := by decide +kernel
theorem dX7_type_36 : decode cX7_type 36 = .ok (.aload_n 0, 1) := by decide +kernel
theorem dX7_type_37 : decode cX7_type 37 = .ok (.dup, 1) := by decide +kernel
theorem dX7_type_38 : decode cX7_type 38 = .ok (.getfield 138, 3) := by decide +kernel
theorem dX7_type_41 : decode cX7_type 41 = .ok (.iconst 1, 1) := by decide +kernel
theorem dX7_type_42 : decode cX7_type 42 = .ok (.iadd, 1) := by decide +kernel
theorem dX7_type_43 : decode cX7_type 43 = .ok (.putfield 138, 3) := by decide +kernel
theorem dX7_type_46 : decode cX7_type 46 = .ok (.aload_n 0, 1) := by decide +kernel
theorem dX7_type_47 : decode cX7_type 47 = .ok (.getfield 138, 3) := by decide +kernel
theorem dX7_type_50 : decode cX7_type 50 = .ok (.ireturn, 1) := by decide +kernel
theorem dX7_clearText_0 : decode cX7_clearText 0 = .ok (.aload_n 0, 1) := by decide +kernel
theorem dX7_clearText_1 : decode cX7_clearText 1 = .ok (.getfield 138, 3) := by decide +kernel
theorem dX7_clearText_4 : decode cX7_clearText 4 = .ok (.istore_n 1, 1) := by decide +kernel
theorem dX7_clearText_5 : decode cX7_clearText 5 = .ok (.aload_n 0, 1) := by decide +kernel
theorem dX7_clearText_6 : decode cX7_clearText 6 = .ok (.iconst 0, 1) := by decide +kernel
theorem dX7_clearText_7 : decode cX7_clearText 7 = .ok (.putfield 138, 3) := by decide +kernel
theorem dX7_clearText_10 : decode cX7_clearText 10 = .ok (.iload_n 1, 1) := by decide +kernel
theorem dX7_clearText_11 : decode cX7_clearText 11 = .ok (.ireturn, 1) := by decide +kernel
set_option maxRecDepth 20000 in
theorem ggX7_sign_X7_in : GoodIn wsX7_sign wsX7_in := goodIn_r _ [8] (by decide +kernel) (by decide +kernel)
set_option maxRecDepth 20000 in
theorem gX7_sign_X7_in : GoodIn wsX7_sign (va_wsS RX7 22 yX7_in wsX7_in) := goodIn_app (goodIn_of _ (by decide +kernel)) ggX7_sign_X7_in
theorem dX7_sign_0 : decode cX7_sign 0 = .ok (.aload_n 0, 1) := by decide +kernel
theorem dX7_sign_1 : decode cX7_sign 1 = .ok (.getfield 141, 3) := by decide +kernel
theorem dX7_sign_4 : decode cX7_sign 4 = .ok (.aload_n 0, 1) := by decide +kernel
theorem dX7_sign_5 : decode cX7_sign 5 = .ok (.getfield 138, 3) := by decide +kernel
theorem dX7_sign_8 : decode cX7_sign 8 = .ok (.if_icmp .ge 15, 3) := by decide +kernel
theorem dX7_sign_11 : decode cX7_sign 11 = .ok (.aload_n 0, 1) := by decide +kernel
theorem dX7_sign_12 : decode cX7_sign 12 = .ok (.getfield 19, 3) := by decide +kernel
theorem dX7_sign_15 : decode cX7_sign 15 = .ok (.aload_n 0, 1) := by decide +kernel
theorem dX7_sign_16 : decode cX7_sign 16 = .ok (.getfield 141, 3) := by decide +kernel
theorem dX7_sign_19 : decode cX7_sign 19 = .ok (.iaload, 1) := by decide +kernel
theorem dX7_sign_20 : decode cX7_sign 20 = .ok (.goto 4, 3) := by decide +kernel
theorem dX7_sign_23 : decode cX7_sign 23 = .ok (.iconst 0, 1) := by decide +kernel
theorem dX7_sign_24 : decode cX7_sign 24 = .ok (.istore_n 3, 1) := by decide +kernel
theorem dX7_sign_25 : decode cX7_sign 25 = .ok (.aload_n 0, 1) := by decide +kernel
theorem dX7_sign_26 : decode cX7_sign 26 = .ok (.aload_n 0, 1) := by decide +kernel
theorem dX7_sign_27 : decode cX7_sign 27 = .ok (.getfield 144, 3) := by decide +kernel
theorem dX7_sign_30 : decode cX7_sign 30 = .ok (.ifCond .ne 12, 3) := by decide +kernel
theorem dX7_sign_33 : decode cX7_sign 33 = .ok (.iload_n 3, 1) := by decide +kernel
theorem dX7_sign_34 : decode cX7_sign 34 = .ok (.iload_n 1, 1) := by decide +kernel
theorem dX7_sign_35 : decode cX7_sign 35 = .ok (.iload_n 2, 1) := by decide +kernel
theorem dX7_sign_36 : decode cX7_sign 36 = .ok (.invokestatic 22, 3) := by decide +kernel
theorem dX7_sign_39 : decode cX7_sign 39 = .ok (.ifCond .ne 7, 3) := by decide +kernel
theorem dX7_sign_42 : decode cX7_sign 42 = .ok (.iconst 1, 1) := by decide +kernel
theorem dX7_sign_43 : decode cX7_sign 43 = .ok (.goto 4, 3) := by decide +kernel
theorem dX7_sign_46 : decode cX7_sign 46 = .ok (.iconst 0, 1) := by decide +kernel
theorem dX7_sign_47 : decode cX7_sign 47 = .ok (.putfield 144, 3) := by decide +kernel
theorem dX7_sign_50 : decode cX7_sign 50 = .ok (.aload_n 0, 1) := by decide +kernel
theorem dX7_sign_51 : decode cX7_sign 51 = .ok (.dup, 1) := by decide +kernel
theorem dX7_sign_52 : decode cX7_sign 52 = .ok (.getfield 141, 3) := by decide +kernel
theorem dX7_sign_55 : decode cX7_sign 55 = .ok (.aload_n 0, 1) := by decide +kernel
theorem dX7_sign_56 : decode cX7_sign 56 = .ok (.getfield 144, 3) := by decide +kernel
theorem dX7_sign_59 : decode cX7_sign 59 = .ok (.ifCond .eq 7, 3) := by decide +kernel
theorem dX7_sign_62 : decode cX7_sign 62 = .ok (.iconst 0, 1) := by decide +kernel
theorem dX7_sign_63 : decode cX7_sign 63 = .ok (.goto 4, 3) := by decide +kernel
theorem dX7_sign_66 : decode cX7_sign 66 = .ok (.iconst 1, 1) := by decide +kernel
theorem dX7_sign_67 : decode cX7_sign 67 = .ok (.iadd, 1) := by decide +kernel
theorem dX7_sign_68 : decode cX7_sign 68 = .ok (.putfield 141, 3) := by decide +kernel
theorem dX7_sign_71 : decode cX7_sign 71 = .ok (.iload_n 3, 1) := by decide +kernel
theorem dX7_sign_72 : decode cX7_sign 72 = .ok (.ireturn, 1) := by decide +kernel
set_option maxRecDepth 20000 in
theorem ggX7_isNext_X7_in : GoodIn wsX7_isNext wsX7_in := goodIn_r _ [8] (by decide +kernel) (by decide +kernel)
set_option maxRecDepth 20000 in
theorem gX7_isNext_X7_in : GoodIn wsX7_isNext (va_wsS RX7 22 yX7_in wsX7_in) := goodIn_app (goodIn_of _ (by decide +kernel)) ggX7_isNext_X7_in
theorem dX7_isNext_0 : decode cX7_isNext 0 = .ok (.aload_n 0, 1) := by decide +kernel
theorem dX7_isNext_1 : decode cX7_isNext 1 = .ok (.getfield 144, 3) := by decide +kernel
theorem dX7_isNext_4 : decode cX7_isNext 4 = .ok (.ifCond .ne 35, 3) := by decide +kernel
theorem dX7_isNext_7 : decode cX7_isNext 7 = .ok (.aload_n 0, 1) := by decide +kernel
theorem dX7_isNext_8 : decode cX7_isNext 8 = .ok (.getfield 141, 3) := by decide +kernel
theorem dX7_isNext_11 : decode cX7_isNext 11 = .ok (.aload_n 0, 1) := by decide +kernel
theorem dX7_isNext_12 : decode cX7_isNext 12 = .ok (.getfield 138, 3) := by decide +kernel
theorem dX7_isNext_15 : decode cX7_isNext 15 = .ok (.if_icmp .ge 24, 3) := by decide +kernel
theorem dX7_isNext_18 : decode cX7_isNext 18 = .ok (.aload_n 0, 1) := by decide +kernel
theorem dX7_isNext_19 : decode cX7_isNext 19 = .ok (.getfield 19, 3) := by decide +kernel
theorem dX7_isNext_22 : decode cX7_isNext 22 = .ok (.aload_n 0, 1) := by decide +kernel
theorem dX7_isNext_23 : decode cX7_isNext 23 = .ok (.getfield 141, 3) := by decide +kernel
theorem dX7_isNext_26 : decode cX7_isNext 26 = .ok (.iaload, 1) := by decide +kernel
theorem dX7_isNext_27 : decode cX7_isNext 27 = .ok (.iload_n 1, 1) := by decide +kernel
theorem dX7_isNext_28 : decode cX7_isNext 28 = .ok (.iload_n 2, 1) := by decide +kernel
theorem dX7_isNext_29 : decode cX7_isNext 29 = .ok (.invokestatic 22, 3) := by decide +kernel
theorem dX7_isNext_32 : decode cX7_isNext 32 = .ok (.ifCond .eq 7, 3) := by decide +kernel
theorem dX7_isNext_35 : decode cX7_isNext 35 = .ok (.iconst 1, 1) := by decide +kernel
theorem dX7_isNext_36 : decode cX7_isNext 36 = .ok (.goto 4, 3) := by decide +kernel
theorem dX7_isNext_39 : decode cX7_isNext 39 = .ok (.iconst 0, 1) := by decide +kernel
theorem dX7_isNext_40 : decode cX7_isNext 40 = .ok (.ireturn, 1) := by decide +kernel
set_option maxRecDepth 20000 in
theorem ggX7_number_X7_sign : GoodIn wsX7_number wsX7_sign := goodIn_r _ [5, 6, 7, 8, 9, 10, 11, 4, 12, 17, 18, 19, 20, 21, 22, 23, 24, 25, 26, 27, 28, 29, 30] (by decide +kernel) (by decide +kernel)
set_option maxRecDepth 20000 in
theorem gX7_number_X7_sign : GoodIn wsX7_number (wsV RX7 148 RX7 yX7_sign wsX7_sign) := goodIn_app (goodIn_of _ (by decide +kernel)) ggX7_number_X7_sign
set_option maxRecDepth 20000 in
theorem ggX7_number_X7_isNext : GoodIn wsX7_number wsX7_isNext := goodIn_r _ [16, 9, 6, 7, 8, 10, 11, 4, 12, 17, 18, 19, 20, 21, 22, 23, 24, 25, 26, 27, 28, 29, 30] (by decide +kernel) (by decide +kernel)
set_option maxRecDepth 20000 in
theorem gX7_number_X7_isNext : GoodIn wsX7_number (wsV RX7 151 RX7 yX7_isNext wsX7_isNext) := goodIn_app (goodIn_of _ (by decide +kernel)) ggX7_number_X7_isNext
theorem dX7_number_0 : decode cX7_number 0 = .ok (.aload_n 0, 1) := by decide +kernel
theorem dX7_number_1 : decode cX7_number 1 = .ok (.bipush 48, 2) := by decide +kernel
theorem dX7_number_3 : decode cX7_number 3 = .ok (.bipush 57, 2) := by decide +kernel
theorem dX7_number_5 : decode cX7_number 5 = .ok (.invokevirtual 148, 3) := by decide +kernel
theorem dX7_number_8 : decode cX7_number 8 = .ok (.bipush 48, 2) := by decide +kernel
theorem dX7_number_10 : decode cX7_number 10 = .ok (.isub, 1) := by decide +kernel
theorem dX7_number_11 : decode cX7_number 11 = .ok (.istore_n 1, 1) := by decide +kernel
theorem dX7_number_12 : decode cX7_number 12 = .ok (.aload_n 0, 1) := by decide +kernel
theorem dX7_number_13 : decode cX7_number 13 = .ok (.bipush 48, 2) := by decide +kernel
theorem dX7_number_15 : decode cX7_number 15 = .ok (.bipush 57, 2) := by decide +kernel
theorem dX7_number_17 : decode cX7_number 17 = .ok (.invokevirtual 151, 3) := by decide +kernel
theorem dX7_number_20 : decode cX7_number 20 = .ok (.ifCond .eq 22, 3) := by decide +kernel
theorem dX7_number_23 : decode cX7_number 23 = .ok (.bipush 10, 2) := by decide +kernel
theorem dX7_number_25 : decode cX7_number 25 = .ok (.iload_n 1, 1) := by decide +kernel
theorem dX7_number_26 : decode cX7_number 26 = .ok (.imul, 1) := by decide +kernel
theorem dX7_number_27 : decode cX7_number 27 = .ok (.aload_n 0, 1) := by decide +kernel
theorem dX7_number_28 : decode cX7_number 28 = .ok (.bipush 48, 2) := by decide +kernel
theorem dX7_number_30 : decode cX7_number 30 = .ok (.bipush 57, 2) := by decide +kernel
theorem dX7_number_32 : decode cX7_number 32 = .ok (.invokevirtual 148, 3) := by decide +kernel
theorem dX7_number_35 : decode cX7_number 35 = .ok (.iadd, 1) := by decide +kernel
theorem dX7_number_36 : decode cX7_number 36 = .ok (.bipush 48, 2) := by decide +kernel
theorem dX7_number_38 : decode cX7_number 38 = .ok (.isub, 1) := by decide +kernel
theorem dX7_number_39 : decode cX7_number 39 = .ok (.goto 4, 3) := by decide +kernel
theorem dX7_number_42 : decode cX7_number 42 = .ok (.iload_n 1, 1) := by decide +kernel
theorem dX7_number_43 : decode cX7_number 43 = .ok (.ireturn, 1) := by decide +kernel
set_option maxRecDepth 20000 in
theorem ggX7_readHoles_X7_sign : GoodIn wsX7_readHoles wsX7_sign := goodIn_r _ [7, 8, 9, 10, 1, 11, 12, 6, 13, 18, 19, 20, 21, 22, 23, 24, 25, 26, 27, 28, 29, 30, 31] (by decide +kernel) (by decide +kernel)
set_option maxRecDepth 20000 in
theorem gX7_readHoles_X7_sign : GoodIn wsX7_readHoles (wsV RX7 148 RX7 yX7_sign wsX7_sign) := goodIn_app (goodIn_of _ (by decide +kernel)) ggX7_readHoles_X7_sign
set_option maxRecDepth 20000 in
theorem ggX7_readHoles_X7_isNext : GoodIn wsX7_readHoles wsX7_isNext := goodIn_r _ [17, 1, 8, 9, 10, 11, 12, 6, 13, 18, 19, 20, 21, 22, 23, 24, 25, 26, 27, 28, 29, 30, 31] (by decide +kernel) (by decide +kernel)
set_option maxRecDepth 20000 in
theorem gX7_readHoles_X7_isNext : GoodIn wsX7_readHoles (wsV RX7 151 RX7 yX7_isNext wsX7_isNext) := goodIn_app (goodIn_of _ (by decide +kernel)) ggX7_readHoles_X7_isNext
theorem dX7_readHoles_0 : decode cX7_readHoles 0 = .ok (.aload_n 0, 1) := by decide +kernel
theorem dX7_readHoles_1 : decode cX7_readHoles 1 = .ok (.bipush 48, 2) := by decide +kernel
theorem dX7_readHoles_3 : decode cX7_readHoles 3 = .ok (.bipush 55, 2) := by decide +kernel
theorem dX7_readHoles_5 : decode cX7_readHoles 5 = .ok (.invokevirtual 148, 3) := by decide +kernel
theorem dX7_readHoles_8 : decode cX7_readHoles 8 = .ok (.istore_n 1, 1) := by decide +kernel
theorem dX7_readHoles_9 : decode cX7_readHoles 9 = .ok (.aload_n 0, 1) := by decide +kernel
theorem dX7_readHoles_10 : decode cX7_readHoles 10 = .ok (.aload_n 0, 1) := by decide +kernel
theorem dX7_readHoles_11 : decode cX7_readHoles 11 = .ok (.getfield 144, 3) := by decide +kernel
theorem dX7_readHoles_14 : decode cX7_readHoles 14 = .ok (.ifCond .eq 7, 3) := by decide +kernel
theorem dX7_readHoles_17 : decode cX7_readHoles 17 = .ok (.iconst 0, 1) := by decide +kernel
theorem dX7_readHoles_18 : decode cX7_readHoles 18 = .ok (.goto 9, 3) := by decide +kernel
theorem dX7_readHoles_21 : decode cX7_readHoles 21 = .ok (.iconst 1, 1) := by decide +kernel
theorem dX7_readHoles_22 : decode cX7_readHoles 22 = .ok (.iload_n 1, 1) := by decide +kernel
theorem dX7_readHoles_23 : decode cX7_readHoles 23 = .ok (.bipush 48, 2) := by decide +kernel
theorem dX7_readHoles_25 : decode cX7_readHoles 25 = .ok (.isub, 1) := by decide +kernel
theorem dX7_readHoles_26 : decode cX7_readHoles 26 = .ok (.ishl, 1) := by decide +kernel
theorem dX7_readHoles_27 : decode cX7_readHoles 27 = .ok (.putfield 154, 3) := by decide +kernel
theorem dX7_readHoles_30 : decode cX7_readHoles 30 = .ok (.iload_n 1, 1) := by decide +kernel
theorem dX7_readHoles_31 : decode cX7_readHoles 31 = .ok (.bipush 55, 2) := by decide +kernel
theorem dX7_readHoles_33 : decode cX7_readHoles 33 = .ok (.if_icmp .ge 42, 3) := by decide +kernel
theorem dX7_readHoles_36 : decode cX7_readHoles 36 = .ok (.aload_n 0, 1) := by decide +kernel
theorem dX7_readHoles_37 : decode cX7_readHoles 37 = .ok (.iload_n 1, 1) := by decide +kernel
theorem dX7_readHoles_38 : decode cX7_readHoles 38 = .ok (.iconst 1, 1) := by decide +kernel
theorem dX7_readHoles_39 : decode cX7_readHoles 39 = .ok (.iadd, 1) := by decide +kernel
theorem dX7_readHoles_40 : decode cX7_readHoles 40 = .ok (.bipush 55, 2) := by decide +kernel
theorem dX7_readHoles_42 : decode cX7_readHoles 42 = .ok (.invokevirtual 151, 3) := by decide +kernel
theorem dX7_readHoles_45 : decode cX7_readHoles 45 = .ok (.ifCond .eq 30, 3) := by decide +kernel
theorem dX7_readHoles_48 : decode cX7_readHoles 48 = .ok (.aload_n 0, 1) := by decide +kernel
theorem dX7_readHoles_49 : decode cX7_readHoles 49 = .ok (.bipush 48, 2) := by decide +kernel
theorem dX7_readHoles_51 : decode cX7_readHoles 51 = .ok (.bipush 55, 2) := by decide +kernel
theorem dX7_readHoles_53 : decode cX7_readHoles 53 = .ok (.invokevirtual 148, 3) := by decide +kernel
theorem dX7_readHoles_56 : decode cX7_readHoles 56 = .ok (.istore_n 1, 1) := by decide +kernel
theorem dX7_readHoles_57 : decode cX7_readHoles 57 = .ok (.aload_n 0, 1) := by decide +kernel
theorem dX7_readHoles_58 : decode cX7_readHoles 58 = .ok (.dup, 1) := by decide +kernel
theorem dX7_readHoles_59 : decode cX7_readHoles 59 = .ok (.getfield 154, 3) := by decide +kernel
theorem dX7_readHoles_62 : decode cX7_readHoles 62 = .ok (.iconst 1, 1) := by decide +kernel
theorem dX7_readHoles_63 : decode cX7_readHoles 63 = .ok (.iload_n 1, 1) := by decide +kernel
theorem dX7_readHoles_64 : decode cX7_readHoles 64 = .ok (.bipush 48, 2) := by decide +kernel
theorem dX7_readHoles_66 : decode cX7_readHoles 66 = .ok (.isub, 1) := by decide +kernel
theorem dX7_readHoles_67 : decode cX7_readHoles 67 = .ok (.ishl, 1) := by decide +kernel
theorem dX7_readHoles_68 : decode cX7_readHoles 68 = .ok (.ior, 1) := by decide +kernel
theorem dX7_readHoles_69 : decode cX7_readHoles 69 = .ok (.putfield 154, 3) := by decide +kernel
theorem dX7_readHoles_72 : decode cX7_readHoles 72 = .ok (.goto (-42), 3) := by decide +kernel
theorem dX7_readHoles_75 : decode cX7_readHoles 75 = .ok (.return_, 1) := by decide +kernel
set_option maxRecDepth 20000 in
theorem ggX7_read_X7_readHoles : GoodIn wsX7_read wsX7_readHoles := goodIn_r _ [12, 4, 6, 13, 14, 15, 11, 16, 1, 2, 3, 17, 18, 19, 20, 21, 22, 23, 28, 29, 30, 31, 32, 33, 34, 35, 36, 37, 38, 39, 40, 41] (by decide +kernel) (by decide +kernel)
set_option maxRecDepth 20000 in
theorem gX7_read_X7_readHoles : GoodIn wsX7_read (wsV RX7 163 RX7 yX7_readHoles wsX7_readHoles) := goodIn_app (goodIn_of _ (by decide +kernel)) ggX7_read_X7_readHoles
set_option maxRecDepth 20000 in
theorem ggX7_read_X7_number : GoodIn wsX7_read wsX7_number := goodIn_r _ [27, 13, 14, 15, 11, 16, 1, 2, 3, 4, 17, 18, 19, 20, 21, 22, 23, 28, 29, 30, 31, 32, 33, 34, 35, 36, 37, 38, 39, 40, 41] (by decide +kernel) (by decide +kernel)
set_option maxRecDepth 20000 in
theorem gX7_read_X7_number : GoodIn wsX7_read (wsV RX7 166 RX7 yX7_number wsX7_number) := goodIn_app (goodIn_of _ (by decide +kernel)) ggX7_read_X7_number
set_option maxRecDepth 20000 in
theorem ggX7_read_X7_sign : GoodIn wsX7_read wsX7_sign := goodIn_r _ [16, 1, 2, 3, 4, 17, 18, 11, 19, 28, 29, 30, 31, 32, 33, 34, 35, 36, 37, 38, 39, 40, 41] (by decide +kernel) (by decide +kernel)
set_option maxRecDepth 20000 in
theorem gX7_read_X7_sign : GoodIn wsX7_read (wsV RX7 148 RX7 yX7_sign wsX7_sign) := goodIn_app (goodIn_of _ (by decide +kernel)) ggX7_read_X7_sign
theorem dX7_read_0 : decode cX7_read 0 = .ok (.aload_n 0, 1) := by decide +kernel
theorem dX7_read_1 : decode cX7_read 1 = .ok (.getfield 141, 3) := by decide +kernel
theorem dX7_read_4 : decode cX7_read 4 = .ok (.aload_n 0, 1) := by decide +kernel
theorem dX7_read_5 : decode cX7_read 5 = .ok (.getfield 138, 3) := by decide +kernel
theorem dX7_read_8 : decode cX7_read 8 = .ok (.if_icmp .ge 15, 3) := by decide +kernel
theorem dX7_read_11 : decode cX7_read 11 = .ok (.aload_n 0, 1) := by decide +kernel
theorem dX7_read_12 : decode cX7_read 12 = .ok (.getfield 19, 3) := by decide +kernel
theorem dX7_read_15 : decode cX7_read 15 = .ok (.aload_n 0, 1) := by decide +kernel
theorem dX7_read_16 : decode cX7_read 16 = .ok (.getfield 141, 3) := by decide +kernel
theorem dX7_read_19 : decode cX7_read 19 = .ok (.iaload, 1) := by decide +kernel
theorem dX7_read_20 : decode cX7_read 20 = .ok (.goto 4, 3) := by decide +kernel
theorem dX7_read_23 : decode cX7_read 23 = .ok (.iconst 0, 1) := by decide +kernel
theorem dX7_read_24 : decode cX7_read 24 = .ok (.istore_n 1, 1) := by decide +kernel
theorem dX7_read_25 : decode cX7_read 25 = .ok (.aload_n 0, 1) := by decide +kernel
theorem dX7_read_26 : decode cX7_read 26 = .ok (.iload_n 1, 1) := by decide +kernel
theorem dX7_read_27 : decode cX7_read 27 = .ok (.bipush 99, 2) := by decide +kernel
theorem dX7_read_29 : decode cX7_read 29 = .ok (.if_icmp .eq 31, 3) := by decide +kernel
theorem dX7_read_32 : decode cX7_read 32 = .ok (.iload_n 1, 1) := by decide +kernel
theorem dX7_read_33 : decode cX7_read 33 = .ok (.bipush 110, 2) := by decide +kernel
theorem dX7_read_35 : decode cX7_read 35 = .ok (.if_icmp .eq 25, 3) := by decide +kernel
theorem dX7_read_38 : decode cX7_read 38 = .ok (.iload_n 1, 1) := by decide +kernel
theorem dX7_read_39 : decode cX7_read 39 = .ok (.bipush 107, 2) := by decide +kernel
theorem dX7_read_41 : decode cX7_read 41 = .ok (.if_icmp .eq 19, 3) := by decide +kernel
theorem dX7_read_44 : decode cX7_read 44 = .ok (.iload_n 1, 1) := by decide +kernel
theorem dX7_read_45 : decode cX7_read 45 = .ok (.bipush 120, 2) := by decide +kernel
theorem dX7_read_47 : decode cX7_read 47 = .ok (.if_icmp .eq 13, 3) := by decide +kernel
theorem dX7_read_50 : decode cX7_read 50 = .ok (.iload_n 1, 1) := by decide +kernel
theorem dX7_read_51 : decode cX7_read 51 = .ok (.bipush 116, 2) := by decide +kernel
theorem dX7_read_53 : decode cX7_read 53 = .ok (.if_icmp .eq 7, 3) := by decide +kernel
theorem dX7_read_56 : decode cX7_read 56 = .ok (.iconst 1, 1) := by decide +kernel
theorem dX7_read_57 : decode cX7_read 57 = .ok (.goto 4, 3) := by decide +kernel
theorem dX7_read_60 : decode cX7_read 60 = .ok (.iconst 0, 1) := by decide +kernel
theorem dX7_read_61 : decode cX7_read 61 = .ok (.putfield 144, 3) := by decide +kernel
theorem dX7_read_64 : decode cX7_read 64 = .ok (.aload_n 0, 1) := by decide +kernel
theorem dX7_read_65 : decode cX7_read 65 = .ok (.dup, 1) := by decide +kernel
theorem dX7_read_66 : decode cX7_read 66 = .ok (.getfield 141, 3) := by decide +kernel
theorem dX7_read_69 : decode cX7_read 69 = .ok (.aload_n 0, 1) := by decide +kernel
theorem dX7_read_70 : decode cX7_read 70 = .ok (.getfield 144, 3) := by decide +kernel
theorem dX7_read_73 : decode cX7_read 73 = .ok (.ifCond .eq 7, 3) := by decide +kernel
theorem dX7_read_76 : decode cX7_read 76 = .ok (.iconst 0, 1) := by decide +kernel
theorem dX7_read_77 : decode cX7_read 77 = .ok (.goto 4, 3) := by decide +kernel
theorem dX7_read_80 : decode cX7_read 80 = .ok (.iconst 1, 1) := by decide +kernel
theorem dX7_read_81 : decode cX7_read 81 = .ok (.iadd, 1) := by decide +kernel
theorem dX7_read_82 : decode cX7_read 82 = .ok (.putfield 141, 3) := by decide +kernel
theorem dX7_read_85 : decode cX7_read 85 = .ok (.aload_n 0, 1) := by decide +kernel
theorem dX7_read_86 : decode cX7_read 86 = .ok (.iload_n 1, 1) := by decide +kernel
theorem dX7_read_87 : decode cX7_read 87 = .ok (.putfield 157, 3) := by decide +kernel
theorem dX7_read_90 : decode cX7_read 90 = .ok (.aload_n 0, 1) := by decide +kernel
theorem dX7_read_91 : decode cX7_read 91 = .ok (.iconst 0, 1) := by decide +kernel
theorem dX7_read_92 : decode cX7_read 92 = .ok (.putfield 154, 3) := by decide +kernel
theorem dX7_read_95 : decode cX7_read 95 = .ok (.aload_n 0, 1) := by decide +kernel
theorem dX7_read_96 : decode cX7_read 96 = .ok (.iconst 0, 1) := by decide +kernel
theorem dX7_read_97 : decode cX7_read 97 = .ok (.putfield 160, 3) := by decide +kernel
theorem dX7_read_100 : decode cX7_read 100 = .ok (.iload_n 1, 1) := by decide +kernel
theorem dX7_read_101 : decode cX7_read 101 = .ok (.bipush 99, 2) := by decide +kernel
theorem dX7_read_103 : decode cX7_read 103 = .ok (.if_icmp .ne 10, 3) := by decide +kernel
theorem dX7_read_106 : decode cX7_read 106 = .ok (.aload_n 0, 1) := by decide +kernel
theorem dX7_read_107 : decode cX7_read 107 = .ok (.invokevirtual 163, 3) := by decide +kernel
theorem dX7_read_110 : decode cX7_read 110 = .ok (.goto 68, 3) := by decide +kernel
theorem dX7_read_113 : decode cX7_read 113 = .ok (.aload_n 0, 1) := by decide +kernel
theorem dX7_read_114 : decode cX7_read 114 = .ok (.getfield 144, 3) := by decide +kernel
theorem dX7_read_117 : decode cX7_read 117 = .ok (.ifCond .ne 61, 3) := by decide +kernel
theorem dX7_read_120 : decode cX7_read 120 = .ok (.iload_n 1, 1) := by decide +kernel
theorem dX7_read_121 : decode cX7_read 121 = .ok (.bipush 116, 2) := by decide +kernel
theorem dX7_read_123 : decode cX7_read 123 = .ok (.if_icmp .eq 55, 3) := by decide +kernel
theorem dX7_read_126 : decode cX7_read 126 = .ok (.aload_n 0, 1) := by decide +kernel
theorem dX7_read_127 : decode cX7_read 127 = .ok (.aload_n 0, 1) := by decide +kernel
theorem dX7_read_128 : decode cX7_read 128 = .ok (.invokevirtual 166, 3) := by decide +kernel
theorem dX7_read_131 : decode cX7_read 131 = .ok (.putfield 154, 3) := by decide +kernel
theorem dX7_read_134 : decode cX7_read 134 = .ok (.iload_n 1, 1) := by decide +kernel
theorem dX7_read_135 : decode cX7_read 135 = .ok (.bipush 120, 2) := by decide +kernel
theorem dX7_read_137 : decode cX7_read 137 = .ok (.if_icmp .ne 7, 3) := by decide +kernel
theorem dX7_read_140 : decode cX7_read 140 = .ok (.iconst 0, 1) := by decide +kernel
theorem dX7_read_141 : decode cX7_read 141 = .ok (.goto 11, 3) := by decide +kernel
theorem dX7_read_144 : decode cX7_read 144 = .ok (.aload_n 0, 1) := by decide +kernel
theorem dX7_read_145 : decode cX7_read 145 = .ok (.bipush 44, 2) := by decide +kernel
theorem dX7_read_147 : decode cX7_read 147 = .ok (.bipush 44, 2) := by decide +kernel
theorem dX7_read_149 : decode cX7_read 149 = .ok (.invokevirtual 148, 3) := by decide +kernel
theorem dX7_read_152 : decode cX7_read 152 = .ok (.istore_n 2, 1) := by decide +kernel
theorem dX7_read_153 : decode cX7_read 153 = .ok (.aload_n 0, 1) := by decide +kernel
theorem dX7_read_154 : decode cX7_read 154 = .ok (.iload_n 1, 1) := by decide +kernel
theorem dX7_read_155 : decode cX7_read 155 = .ok (.bipush 120, 2) := by decide +kernel
theorem dX7_read_157 : decode cX7_read 157 = .ok (.if_icmp .eq 10, 3) := by decide +kernel
theorem dX7_read_160 : decode cX7_read 160 = .ok (.aload_n 0, 1) := by decide +kernel
theorem dX7_read_161 : decode cX7_read 161 = .ok (.getfield 144, 3) := by decide +kernel
theorem dX7_read_164 : decode cX7_read 164 = .ok (.ifCond .eq 7, 3) := by decide +kernel
theorem dX7_read_167 : decode cX7_read 167 = .ok (.iconst 0, 1) := by decide +kernel
theorem dX7_read_168 : decode cX7_read 168 = .ok (.goto 7, 3) := by decide +kernel
theorem dX7_read_171 : decode cX7_read 171 = .ok (.aload_n 0, 1) := by decide +kernel
theorem dX7_read_172 : decode cX7_read 172 = .ok (.invokevirtual 166, 3) := by decide +kernel
theorem dX7_read_175 : decode cX7_read 175 = .ok (.putfield 160, 3) := by decide +kernel
theorem dX7_read_178 : decode cX7_read 178 = .ok (.aload_n 0, 1) := by decide +kernel
theorem dX7_read_179 : decode cX7_read 179 = .ok (.bipush 59, 2) := by decide +kernel
theorem dX7_read_181 : decode cX7_read 181 = .ok (.bipush 59, 2) := by decide +kernel
theorem dX7_read_183 : decode cX7_read 183 = .ok (.invokevirtual 148, 3) := by decide +kernel
theorem dX7_read_186 : decode cX7_read 186 = .ok (.istore_n 2, 1) := by decide +kernel
theorem dX7_read_187 : decode cX7_read 187 = .ok (.return_, 1) := by decide +kernel
set_option maxRecDepth 20000 in
theorem ggX7_does_X7_in : GoodIn wsX7_does wsX7_in := goodIn_r _ [10] (by decide +kernel) (by decide +kernel)
set_option maxRecDepth 20000 in
theorem gX7_does_X7_in : GoodIn wsX7_does (va_wsS RX7 22 yX7_in wsX7_in) := goodIn_app (goodIn_of _ (by decide +kernel)) ggX7_does_X7_in
set_option maxRecDepth 20000 in
theorem ggX7_does_X7_bringFault : GoodIn wsX7_does wsX7_bringFault := goodIn_r _ [14, 6, 3, 15, 7, 8, 9, 10, 62, 63, 64, 65, 66, 67, 68, 69, 70, 71, 72, 73, 74, 75] (by decide +kernel) (by decide +kernel)
set_option maxRecDepth 20000 in
theorem gX7_does_X7_bringFault : GoodIn wsX7_does (wsV RX7 64 RX7 yX7_bringFault wsX7_bringFault) := goodIn_app (goodIn_of _ (by decide +kernel)) ggX7_does_X7_bringFault
set_option maxRecDepth 20000 in
theorem ggX7_does_X7_brings : GoodIn wsX7_does wsX7_brings := goodIn_r _ [19, 3, 20, 21, 22, 9, 23, 24, 25, 26, 27, 28, 29, 30, 31, 32, 33, 34, 35, 36, 37, 38, 39, 40, 41, 62, 63, 64, 65, 66, 67, 68, 69, 70, 71, 72, 73, 74, 75] (by decide +kernel) (by decide +kernel)
set_option maxRecDepth 20000 in
theorem gX7_does_X7_brings : GoodIn wsX7_does (wsV RX7 67 RX7 yX7_brings wsX7_brings) := goodIn_app (goodIn_of _ (by decide +kernel)) ggX7_does_X7_brings
set_option maxRecDepth 20000 in
theorem ggX7_does_X7_turns : GoodIn wsX7_does wsX7_turns := goodIn_r _ [45, 3, 46, 47, 48, 9, 49, 62, 63, 64, 65, 66, 67, 68, 69, 70, 71, 72, 73, 74, 75] (by decide +kernel) (by decide +kernel)
set_option maxRecDepth 20000 in
theorem gX7_does_X7_turns : GoodIn wsX7_does (wsV RX7 77 RX7 yX7_turns wsX7_turns) := goodIn_app (goodIn_of _ (by decide +kernel)) ggX7_does_X7_turns
set_option maxRecDepth 20000 in
theorem ggX7_does_X7_isCard : GoodIn wsX7_does wsX7_isCard := goodIn_r _ [53, 3, 7, 8, 9, 10, 62, 63, 64, 65, 66, 67, 68, 69, 70, 71, 72, 73, 74, 75] (by decide +kernel) (by decide +kernel)
set_option maxRecDepth 20000 in
theorem gX7_does_X7_isCard : GoodIn wsX7_does (wsV RX7 70 RX7 yX7_isCard wsX7_isCard) := goodIn_app (goodIn_of _ (by decide +kernel)) ggX7_does_X7_isCard
set_option maxRecDepth 20000 in
theorem ggX7_does_X7_tears : GoodIn wsX7_does wsX7_tears := goodIn_r _ [57, 3, 62, 63, 64, 65, 66, 67, 68, 69, 70, 71, 72, 73, 74, 75] (by decide +kernel) (by decide +kernel)
set_option maxRecDepth 20000 in
theorem gX7_does_X7_tears : GoodIn wsX7_does (wsV RX7 73 RX7 yX7_tears wsX7_tears) := goodIn_app (goodIn_of _ (by decide +kernel)) ggX7_does_X7_tears
set_option maxRecDepth 20000 in
theorem ggX7_does_X7_puts : GoodIn wsX7_does wsX7_puts := goodIn_r _ [61, 3, 62, 63, 64, 65, 66, 67, 68, 69, 70, 71, 72, 73, 74, 75] (by decide +kernel) (by decide +kernel)
set_option maxRecDepth 20000 in
theorem gX7_does_X7_puts : GoodIn wsX7_does (wsV RX7 60 RX7 yX7_puts wsX7_puts) := goodIn_app (goodIn_of _ (by decide +kernel)) ggX7_does_X7_puts
theorem dX7_does_0 : decode cX7_does 0 = .ok (.aload_n 0, 1) := by decide +kernel
theorem dX7_does_1 : decode cX7_does 1 = .ok (.getfield 154, 3) := by decide +kernel
theorem dX7_does_4 : decode cX7_does 4 = .ok (.iconst 0, 1) := by decide +kernel
theorem dX7_does_5 : decode cX7_does 5 = .ok (.bipush 7, 2) := by decide +kernel
theorem dX7_does_7 : decode cX7_does 7 = .ok (.invokestatic 22, 3) := by decide +kernel
theorem dX7_does_10 : decode cX7_does 10 = .ok (.istore_n 1, 1) := by decide +kernel
theorem dX7_does_11 : decode cX7_does 11 = .ok (.aload_n 0, 1) := by decide +kernel
theorem dX7_does_12 : decode cX7_does 12 = .ok (.getfield 157, 3) := by decide +kernel
theorem dX7_does_15 : decode cX7_does 15 = .ok (.bipush 99, 2) := by decide +kernel
theorem dX7_does_17 : decode cX7_does 17 = .ok (.if_icmp .ne 31, 3) := by decide +kernel
theorem dX7_does_20 : decode cX7_does 20 = .ok (.aload_n 0, 1) := by decide +kernel
theorem dX7_does_21 : decode cX7_does 21 = .ok (.aload_n 0, 1) := by decide +kernel
theorem dX7_does_22 : decode cX7_does 22 = .ok (.getfield 154, 3) := by decide +kernel
theorem dX7_does_25 : decode cX7_does 25 = .ok (.invokevirtual 64, 3) := by decide +kernel
theorem dX7_does_28 : decode cX7_does 28 = .ok (.istore_n 2, 1) := by decide +kernel
theorem dX7_does_29 : decode cX7_does 29 = .ok (.iload_n 2, 1) := by decide +kernel
theorem dX7_does_30 : decode cX7_does 30 = .ok (.ifCond .ge 7, 3) := by decide +kernel
theorem dX7_does_33 : decode cX7_does 33 = .ok (.iload_n 2, 1) := by decide +kernel
theorem dX7_does_34 : decode cX7_does 34 = .ok (.goto 11, 3) := by decide +kernel
theorem dX7_does_37 : decode cX7_does 37 = .ok (.aload_n 0, 1) := by decide +kernel
theorem dX7_does_38 : decode cX7_does 38 = .ok (.aload_n 0, 1) := by decide +kernel
theorem dX7_does_39 : decode cX7_does 39 = .ok (.getfield 154, 3) := by decide +kernel
theorem dX7_does_42 : decode cX7_does 42 = .ok (.invokevirtual 67, 3) := by decide +kernel
theorem dX7_does_45 : decode cX7_does 45 = .ok (.istore_n 3, 1) := by decide +kernel
theorem dX7_does_46 : decode cX7_does 46 = .ok (.iload_n 2, 1) := by decide +kernel
theorem dX7_does_47 : decode cX7_does 47 = .ok (.ireturn, 1) := by decide +kernel
theorem dX7_does_48 : decode cX7_does 48 = .ok (.aload_n 0, 1) := by decide +kernel
theorem dX7_does_49 : decode cX7_does 49 = .ok (.getfield 157, 3) := by decide +kernel
theorem dX7_does_52 : decode cX7_does 52 = .ok (.bipush 116, 2) := by decide +kernel
theorem dX7_does_54 : decode cX7_does 54 = .ok (.if_icmp .ne 34, 3) := by decide +kernel
theorem dX7_does_57 : decode cX7_does 57 = .ok (.aload_n 0, 1) := by decide +kernel
theorem dX7_does_58 : decode cX7_does 58 = .ok (.getfield 7, 3) := by decide +kernel
theorem dX7_does_61 : decode cX7_does 61 = .ok (.bipush 16, 2) := by decide +kernel
theorem dX7_does_63 : decode cX7_does 63 = .ok (.iaload, 1) := by decide +kernel
theorem dX7_does_64 : decode cX7_does 64 = .ok (.iconst 2, 1) := by decide +kernel
theorem dX7_does_65 : decode cX7_does 65 = .ok (.if_icmp .ge 7, 3) := by decide +kernel
theorem dX7_does_68 : decode cX7_does 68 = .ok (.iconst 0, 1) := by decide +kernel
theorem dX7_does_69 : decode cX7_does 69 = .ok (.goto 7, 3) := by decide +kernel
theorem dX7_does_72 : decode cX7_does 72 = .ok (.aload_n 0, 1) := by decide +kernel
theorem dX7_does_73 : decode cX7_does 73 = .ok (.invokevirtual 77, 3) := by decide +kernel
theorem dX7_does_76 : decode cX7_does 76 = .ok (.istore_n 2, 1) := by decide +kernel
theorem dX7_does_77 : decode cX7_does 77 = .ok (.iload_n 2, 1) := by decide +kernel
theorem dX7_does_78 : decode cX7_does 78 = .ok (.ifCond .ne 8, 3) := by decide +kernel
theorem dX7_does_81 : decode cX7_does 81 = .ok (.ldc 76, 2) := by decide +kernel
theorem dX7_does_83 : decode cX7_does 83 = .ok (.goto 4, 3) := by decide +kernel
theorem dX7_does_86 : decode cX7_does 86 = .ok (.iconst 0, 1) := by decide +kernel
theorem dX7_does_87 : decode cX7_does 87 = .ok (.ireturn, 1) := by decide +kernel
theorem dX7_does_88 : decode cX7_does 88 = .ok (.aload_n 0, 1) := by decide +kernel
theorem dX7_does_89 : decode cX7_does 89 = .ok (.getfield 157, 3) := by decide +kernel
theorem dX7_does_92 : decode cX7_does 92 = .ok (.bipush 120, 2) := by decide +kernel
theorem dX7_does_94 : decode cX7_does 94 = .ok (.if_icmp .ne 14, 3) := by decide +kernel
theorem dX7_does_97 : decode cX7_does 97 = .ok (.aload_n 0, 1) := by decide +kernel
theorem dX7_does_98 : decode cX7_does 98 = .ok (.aload_n 0, 1) := by decide +kernel
theorem dX7_does_99 : decode cX7_does 99 = .ok (.getfield 154, 3) := by decide +kernel
theorem dX7_does_102 : decode cX7_does 102 = .ok (.invokevirtual 70, 3) := by decide +kernel
theorem dX7_does_105 : decode cX7_does 105 = .ok (.goto 38, 3) := by decide +kernel
theorem dX7_does_108 : decode cX7_does 108 = .ok (.iload_n 1, 1) := by decide +kernel
theorem dX7_does_109 : decode cX7_does 109 = .ok (.ifCond .eq 33, 3) := by decide +kernel
theorem dX7_does_112 : decode cX7_does 112 = .ok (.aload_n 0, 1) := by decide +kernel
theorem dX7_does_113 : decode cX7_does 113 = .ok (.getfield 160, 3) := by decide +kernel
theorem dX7_does_116 : decode cX7_does 116 = .ok (.iconst 0, 1) := by decide +kernel
theorem dX7_does_117 : decode cX7_does 117 = .ok (.aload_n 0, 1) := by decide +kernel
theorem dX7_does_118 : decode cX7_does 118 = .ok (.getfield 157, 3) := by decide +kernel
theorem dX7_does_121 : decode cX7_does 121 = .ok (.bipush 110, 2) := by decide +kernel
theorem dX7_does_123 : decode cX7_does 123 = .ok (.if_icmp .ne 8, 3) := by decide +kernel
theorem dX7_does_126 : decode cX7_does 126 = .ok (.bipush 47, 2) := by decide +kernel
theorem dX7_does_128 : decode cX7_does 128 = .ok (.goto 4, 3) := by decide +kernel
theorem dX7_does_131 : decode cX7_does 131 = .ok (.iconst 3, 1) := by decide +kernel
theorem dX7_does_132 : decode cX7_does 132 = .ok (.invokestatic 22, 3) := by decide +kernel
theorem dX7_does_135 : decode cX7_does 135 = .ok (.ifCond .eq 7, 3) := by decide +kernel
theorem dX7_does_138 : decode cX7_does 138 = .ok (.iconst 1, 1) := by decide +kernel
theorem dX7_does_139 : decode cX7_does 139 = .ok (.goto 4, 3) := by decide +kernel
theorem dX7_does_142 : decode cX7_does 142 = .ok (.iconst 0, 1) := by decide +kernel
theorem dX7_does_143 : decode cX7_does 143 = .ok (.istore_n 2, 1) := by decide +kernel
theorem dX7_does_144 : decode cX7_does 144 = .ok (.iload_n 2, 1) := by decide +kernel
theorem dX7_does_145 : decode cX7_does 145 = .ok (.ifCond .eq 52, 3) := by decide +kernel
theorem dX7_does_148 : decode cX7_does 148 = .ok (.aload_n 0, 1) := by decide +kernel
theorem dX7_does_149 : decode cX7_does 149 = .ok (.getfield 157, 3) := by decide +kernel
theorem dX7_does_152 : decode cX7_does 152 = .ok (.bipush 120, 2) := by decide +kernel
theorem dX7_does_154 : decode cX7_does 154 = .ok (.if_icmp .ne 14, 3) := by decide +kernel
theorem dX7_does_157 : decode cX7_does 157 = .ok (.aload_n 0, 1) := by decide +kernel
theorem dX7_does_158 : decode cX7_does 158 = .ok (.aload_n 0, 1) := by decide +kernel
theorem dX7_does_159 : decode cX7_does 159 = .ok (.getfield 154, 3) := by decide +kernel
theorem dX7_does_162 : decode cX7_does 162 = .ok (.invokevirtual 73, 3) := by decide +kernel
theorem dX7_does_165 : decode cX7_does 165 = .ok (.goto 31, 3) := by decide +kernel
theorem dX7_does_168 : decode cX7_does 168 = .ok (.aload_n 0, 1) := by decide +kernel
theorem dX7_does_169 : decode cX7_does 169 = .ok (.aload_n 0, 1) := by decide +kernel
theorem dX7_does_170 : decode cX7_does 170 = .ok (.getfield 157, 3) := by decide +kernel
theorem dX7_does_173 : decode cX7_does 173 = .ok (.bipush 110, 2) := by decide +kernel
theorem dX7_does_175 : decode cX7_does 175 = .ok (.if_icmp .ne 7, 3) := by decide +kernel
theorem dX7_does_178 : decode cX7_does 178 = .ok (.iconst 0, 1) := by decide +kernel
theorem dX7_does_179 : decode cX7_does 179 = .ok (.goto 5, 3) := by decide +kernel
theorem dX7_does_182 : decode cX7_does 182 = .ok (.bipush 8, 2) := by decide +kernel
theorem dX7_does_184 : decode cX7_does 184 = .ok (.aload_n 0, 1) := by decide +kernel
theorem dX7_does_185 : decode cX7_does 185 = .ok (.getfield 154, 3) := by decide +kernel
theorem dX7_does_188 : decode cX7_does 188 = .ok (.iadd, 1) := by decide +kernel
theorem dX7_does_189 : decode cX7_does 189 = .ok (.aload_n 0, 1) := by decide +kernel
theorem dX7_does_190 : decode cX7_does 190 = .ok (.getfield 160, 3) := by decide +kernel
theorem dX7_does_193 : decode cX7_does 193 = .ok (.invokevirtual 60, 3) := by decide +kernel
theorem dX7_does_196 : decode cX7_does 196 = .ok (.istore_n 3, 1) := by decide +kernel
theorem dX7_does_197 : decode cX7_does 197 = .ok (.iload_n 2, 1) := by decide +kernel
theorem dX7_does_198 : decode cX7_does 198 = .ok (.ifCond .eq 7, 3) := by decide +kernel
theorem dX7_does_201 : decode cX7_does 201 = .ok (.iconst 0, 1) := by decide +kernel
theorem dX7_does_202 : decode cX7_does 202 = .ok (.goto 5, 3) := by decide +kernel
theorem dX7_does_205 : decode cX7_does 205 = .ok (.ldc 51, 2) := by decide +kernel
theorem dX7_does_207 : decode cX7_does 207 = .ok (.ireturn, 1) := by decide +kernel
set_option maxRecDepth 20000 in
theorem ggX7_go_X7_read : GoodIn wsX7_go wsX7_read := goodIn_r _ [11, 1, 3, 12, 5, 13, 14, 15, 16, 17, 18, 10, 19, 20, 21, 22, 23, 24, 25, 26, 27, 28, 29, 30, 31, 32, 33, 34, 93, 94, 95, 96, 97, 98, 99, 100, 101, 102, 103, 104, 105, 106] (by decide +kernel) (by decide +kernel)
set_option maxRecDepth 20000 in
theorem gX7_go_X7_read : GoodIn wsX7_go (wsV RX7 175 RX7 yX7_read wsX7_read) := goodIn_app (goodIn_of _ (by decide +kernel)) ggX7_go_X7_read
set_option maxRecDepth 20000 in
theorem ggX7_go_X7_does : GoodIn wsX7_go wsX7_does := goodIn_r _ [38, 14, 13, 39, 40, 15, 41, 24, 25, 10, 26, 42, 43, 44, 45, 46, 47, 48, 49, 50, 51, 52, 53, 54, 55, 56, 57, 58, 59, 60, 61, 62, 63, 64, 65, 66, 67, 68, 69, 70, 71, 72, 73, 74, 75, 76, 77, 78, 79, 80, 81, 82, 83, 84, 85, 86, 87, 88, 89, 90, 91, 92, 93, 94, 95, 96, 97, 98, 99, 100, 101, 102, 103, 104, 105, 106] (by decide +kernel) (by decide +kernel)
set_option maxRecDepth 20000 in
theorem gX7_go_X7_does : GoodIn wsX7_go (wsV RX7 178 RX7 yX7_does wsX7_does) := goodIn_app (goodIn_of _ (by decide +kernel)) ggX7_go_X7_does
theorem dX7_go_0 : decode cX7_go 0 = .ok (.iconst 0, 1) := by decide +kernel
theorem dX7_go_1 : decode cX7_go 1 = .ok (.istore_n 1, 1) := by decide +kernel
theorem dX7_go_2 : decode cX7_go 2 = .ok (.aload_n 0, 1) := by decide +kernel
theorem dX7_go_3 : decode cX7_go 3 = .ok (.iconst 0, 1) := by decide +kernel
theorem dX7_go_4 : decode cX7_go 4 = .ok (.putfield 141, 3) := by decide +kernel
theorem dX7_go_7 : decode cX7_go 7 = .ok (.aload_n 0, 1) := by decide +kernel
theorem dX7_go_8 : decode cX7_go 8 = .ok (.iconst 0, 1) := by decide +kernel
theorem dX7_go_9 : decode cX7_go 9 = .ok (.putfield 169, 3) := by decide +kernel
theorem dX7_go_12 : decode cX7_go 12 = .ok (.aload_n 0, 1) := by decide +kernel
theorem dX7_go_13 : decode cX7_go 13 = .ok (.getfield 141, 3) := by decide +kernel
theorem dX7_go_16 : decode cX7_go 16 = .ok (.aload_n 0, 1) := by decide +kernel
theorem dX7_go_17 : decode cX7_go 17 = .ok (.getfield 138, 3) := by decide +kernel
theorem dX7_go_20 : decode cX7_go 20 = .ok (.if_icmp .ge 82, 3) := by decide +kernel
theorem dX7_go_23 : decode cX7_go 23 = .ok (.aload_n 0, 1) := by decide +kernel
theorem dX7_go_24 : decode cX7_go 24 = .ok (.getfield 169, 3) := by decide +kernel
theorem dX7_go_27 : decode cX7_go 27 = .ok (.ifCond .ne 75, 3) := by decide +kernel
theorem dX7_go_30 : decode cX7_go 30 = .ok (.aload_n 0, 1) := by decide +kernel
theorem dX7_go_31 : decode cX7_go 31 = .ok (.aload_n 0, 1) := by decide +kernel
theorem dX7_go_32 : decode cX7_go 32 = .ok (.getfield 141, 3) := by decide +kernel
theorem dX7_go_35 : decode cX7_go 35 = .ok (.putfield 172, 3) := by decide +kernel
theorem dX7_go_38 : decode cX7_go 38 = .ok (.aload_n 0, 1) := by decide +kernel
theorem dX7_go_39 : decode cX7_go 39 = .ok (.invokevirtual 175, 3) := by decide +kernel
theorem dX7_go_42 : decode cX7_go 42 = .ok (.aload_n 0, 1) := by decide +kernel
theorem dX7_go_43 : decode cX7_go 43 = .ok (.aload_n 0, 1) := by decide +kernel
theorem dX7_go_44 : decode cX7_go 44 = .ok (.getfield 144, 3) := by decide +kernel
theorem dX7_go_47 : decode cX7_go 47 = .ok (.ifCond .eq 15, 3) := by decide +kernel
theorem dX7_go_50 : decode cX7_go 50 = .ok (.aload_n 0, 1) := by decide +kernel
theorem dX7_go_51 : decode cX7_go 51 = .ok (.getfield 141, 3) := by decide +kernel
theorem dX7_go_54 : decode cX7_go 54 = .ok (.aload_n 0, 1) := by decide +kernel
theorem dX7_go_55 : decode cX7_go 55 = .ok (.getfield 172, 3) := by decide +kernel
theorem dX7_go_58 : decode cX7_go 58 = .ok (.isub, 1) := by decide +kernel
theorem dX7_go_59 : decode cX7_go 59 = .ok (.goto 7, 3) := by decide +kernel
theorem dX7_go_62 : decode cX7_go 62 = .ok (.aload_n 0, 1) := by decide +kernel
theorem dX7_go_63 : decode cX7_go 63 = .ok (.invokevirtual 178, 3) := by decide +kernel
theorem dX7_go_66 : decode cX7_go 66 = .ok (.putfield 181, 3) := by decide +kernel
theorem dX7_go_69 : decode cX7_go 69 = .ok (.aload_n 0, 1) := by decide +kernel
theorem dX7_go_70 : decode cX7_go 70 = .ok (.aload_n 0, 1) := by decide +kernel
theorem dX7_go_71 : decode cX7_go 71 = .ok (.getfield 144, 3) := by decide +kernel
theorem dX7_go_74 : decode cX7_go 74 = .ok (.ifCond .eq 7, 3) := by decide +kernel
theorem dX7_go_77 : decode cX7_go 77 = .ok (.iconst 1, 1) := by decide +kernel
theorem dX7_go_78 : decode cX7_go 78 = .ok (.goto 15, 3) := by decide +kernel
theorem dX7_go_81 : decode cX7_go 81 = .ok (.aload_n 0, 1) := by decide +kernel
theorem dX7_go_82 : decode cX7_go 82 = .ok (.getfield 181, 3) := by decide +kernel
theorem dX7_go_85 : decode cX7_go 85 = .ok (.ifCond .ge 7, 3) := by decide +kernel
theorem dX7_go_88 : decode cX7_go 88 = .ok (.iconst 2, 1) := by decide +kernel
theorem dX7_go_89 : decode cX7_go 89 = .ok (.goto 4, 3) := by decide +kernel
theorem dX7_go_92 : decode cX7_go 92 = .ok (.iconst 0, 1) := by decide +kernel
theorem dX7_go_93 : decode cX7_go 93 = .ok (.putfield 169, 3) := by decide +kernel
theorem dX7_go_96 : decode cX7_go 96 = .ok (.iinc 1 1, 3) := by decide +kernel
theorem dX7_go_99 : decode cX7_go 99 = .ok (.goto (-87), 3) := by decide +kernel
theorem dX7_go_102 : decode cX7_go 102 = .ok (.iload_n 1, 1) := by decide +kernel
theorem dX7_go_103 : decode cX7_go 103 = .ok (.ireturn, 1) := by decide +kernel
set_option maxRecDepth 20000 in
theorem ggX7_look_X7_putAside : GoodIn wsX7_look wsX7_putAside := goodIn_r _ [5, 6, 7, 106, 107, 108, 109, 110, 111, 112, 113, 114, 115, 116, 117, 118, 119] (by decide +kernel) (by decide +kernel)
set_option maxRecDepth 20000 in
theorem gX7_look_X7_putAside : GoodIn wsX7_look (wsV RX7 184 RX7 yX7_putAside wsX7_putAside) := goodIn_app (goodIn_of _ (by decide +kernel)) ggX7_look_X7_putAside
set_option maxRecDepth 20000 in
theorem ggX7_look_X7_go : GoodIn wsX7_look wsX7_go := goodIn_r _ [11, 12, 13, 14, 15, 16, 17, 18, 19, 20, 4, 21, 22, 23, 24, 25, 26, 27, 28, 29, 30, 31, 32, 33, 34, 35, 36, 37, 38, 39, 40, 41, 42, 43, 44, 45, 46, 47, 48, 7, 49, 50, 51, 52, 53, 54, 55, 56, 57, 58, 59, 60, 61, 62, 63, 64, 65, 66, 67, 68, 69, 70, 71, 72, 73, 74, 75, 76, 77, 78, 79, 80, 81, 82, 83, 84, 85, 86, 87, 88, 89, 90, 91, 92, 93, 94, 95, 96, 97, 98, 99, 100, 101, 106, 107, 108, 109, 110, 111, 112, 113, 114, 115, 116, 117, 118, 119] (by decide +kernel) (by decide +kernel)
set_option maxRecDepth 20000 in
theorem gX7_look_X7_go : GoodIn wsX7_look (wsV RX7 187 RX7 yX7_go wsX7_go) := goodIn_app (goodIn_of _ (by decide +kernel)) ggX7_look_X7_go
set_option maxRecDepth 20000 in
theorem ggX7_look_X7_putBack : GoodIn wsX7_look wsX7_putBack := goodIn_r _ [105, 7, 6, 106, 107, 108, 109, 110, 111, 112, 113, 114, 115, 116, 117, 118, 119] (by decide +kernel) (by decide +kernel)
set_option maxRecDepth 20000 in
theorem gX7_look_X7_putBack : GoodIn wsX7_look (wsV RX7 190 RX7 yX7_putBack wsX7_putBack) := goodIn_app (goodIn_of _ (by decide +kernel)) ggX7_look_X7_putBack
theorem dX7_look_0 : decode cX7_look 0 = .ok (.aload_n 0, 1) := by decide +kernel
theorem dX7_look_1 : decode cX7_look 1 = .ok (.invokevirtual 184, 3) := by decide +kernel
theorem dX7_look_4 : decode cX7_look 4 = .ok (.aload_n 0, 1) := by decide +kernel
theorem dX7_look_5 : decode cX7_look 5 = .ok (.invokevirtual 187, 3) := by decide +kernel
theorem dX7_look_8 : decode cX7_look 8 = .ok (.istore_n 1, 1) := by decide +kernel
theorem dX7_look_9 : decode cX7_look 9 = .ok (.aload_n 0, 1) := by decide +kernel
theorem dX7_look_10 : decode cX7_look 10 = .ok (.invokevirtual 190, 3) := by decide +kernel
theorem dX7_look_13 : decode cX7_look 13 = .ok (.return_, 1) := by decide +kernel
set_option maxRecDepth 20000 in
theorem ggX7_fault_X7_in : GoodIn wsX7_fault wsX7_in := goodIn_r _ [9] (by decide +kernel) (by decide +kernel)
set_option maxRecDepth 20000 in
theorem gX7_fault_X7_in : GoodIn wsX7_fault (va_wsS RX7 22 yX7_in wsX7_in) := goodIn_app (goodIn_of _ (by decide +kernel)) ggX7_fault_X7_in
set_option maxRecDepth 20000 in
theorem ggX7_fault_X7_look : GoodIn wsX7_fault wsX7_look := goodIn_r _ [13, 14, 15, 16, 8, 17, 18, 19, 20, 21, 22, 23, 24, 2, 25, 4, 26, 5, 27, 28, 29, 30, 31, 32, 33, 34, 35, 36, 37, 38, 39, 40, 41, 42, 6, 7, 9, 43, 44, 45, 46, 47, 48, 49, 50, 51, 52, 53, 54, 55, 1, 56, 57, 58, 59, 60, 61, 62, 63, 64, 65, 66, 67, 68, 69, 70, 71, 72, 73, 74, 75, 76, 77, 78, 79, 80, 81, 82, 83, 84, 85, 86, 87, 88, 89, 90, 91, 92, 93, 94, 95, 96, 97, 98, 99, 100, 101, 102, 103, 104, 105, 106, 107, 108, 109, 110, 111, 112, 113, 114, 115, 116, 117, 118, 119, 120, 121, 122, 123, 124] (by decide +kernel) (by decide +kernel)
set_option maxRecDepth 20000 in
theorem gX7_fault_X7_look : GoodIn wsX7_fault (wsV RX7 193 RX7 yX7_look wsX7_look) := goodIn_app (goodIn_of _ (by decide +kernel)) ggX7_fault_X7_look
theorem dX7_fault_0 : decode cX7_fault 0 = .ok (.iload_n 1, 1) := by decide +kernel
theorem dX7_fault_1 : decode cX7_fault 1 = .ok (.iconst 0, 1) := by decide +kernel
theorem dX7_fault_2 : decode cX7_fault 2 = .ok (.iconst 2, 1) := by decide +kernel
theorem dX7_fault_3 : decode cX7_fault 3 = .ok (.invokestatic 22, 3) := by decide +kernel
theorem dX7_fault_6 : decode cX7_fault 6 = .ok (.ifCond .ne 6, 3) := by decide +kernel
theorem dX7_fault_9 : decode cX7_fault 9 = .ok (.ldc 51, 2) := by decide +kernel
theorem dX7_fault_11 : decode cX7_fault 11 = .ok (.ireturn, 1) := by decide +kernel
theorem dX7_fault_12 : decode cX7_fault 12 = .ok (.aload_n 0, 1) := by decide +kernel
theorem dX7_fault_13 : decode cX7_fault 13 = .ok (.invokevirtual 193, 3) := by decide +kernel
theorem dX7_fault_16 : decode cX7_fault 16 = .ok (.aload_n 0, 1) := by decide +kernel
theorem dX7_fault_17 : decode cX7_fault 17 = .ok (.getfield 169, 3) := by decide +kernel
theorem dX7_fault_20 : decode cX7_fault 20 = .ok (.ifCond .ne 8, 3) := by decide +kernel
theorem dX7_fault_23 : decode cX7_fault 23 = .ok (.ldc 93, 2) := by decide +kernel
theorem dX7_fault_25 : decode cX7_fault 25 = .ok (.goto 30, 3) := by decide +kernel
theorem dX7_fault_28 : decode cX7_fault 28 = .ok (.iload_n 1, 1) := by decide +kernel
theorem dX7_fault_29 : decode cX7_fault 29 = .ok (.ifCond .ne 10, 3) := by decide +kernel
theorem dX7_fault_32 : decode cX7_fault 32 = .ok (.aload_n 0, 1) := by decide +kernel
theorem dX7_fault_33 : decode cX7_fault 33 = .ok (.getfield 172, 3) := by decide +kernel
theorem dX7_fault_36 : decode cX7_fault 36 = .ok (.goto 19, 3) := by decide +kernel
theorem dX7_fault_39 : decode cX7_fault 39 = .ok (.iload_n 1, 1) := by decide +kernel
theorem dX7_fault_40 : decode cX7_fault 40 = .ok (.iconst 1, 1) := by decide +kernel
theorem dX7_fault_41 : decode cX7_fault 41 = .ok (.if_icmp .ne 10, 3) := by decide +kernel
theorem dX7_fault_44 : decode cX7_fault 44 = .ok (.aload_n 0, 1) := by decide +kernel
theorem dX7_fault_45 : decode cX7_fault 45 = .ok (.getfield 169, 3) := by decide +kernel
theorem dX7_fault_48 : decode cX7_fault 48 = .ok (.goto 7, 3) := by decide +kernel
theorem dX7_fault_51 : decode cX7_fault 51 = .ok (.aload_n 0, 1) := by decide +kernel
theorem dX7_fault_52 : decode cX7_fault 52 = .ok (.getfield 181, 3) := by decide +kernel
theorem dX7_fault_55 : decode cX7_fault 55 = .ok (.ireturn, 1) := by decide +kernel
set_option maxRecDepth 20000 in
theorem ggX7_play_X7_look : GoodIn wsX7_play wsX7_look := goodIn_r _ [7, 8, 9, 10, 6, 11, 12, 13, 14, 15, 16, 17, 18, 1, 19, 20, 21, 22, 23, 24, 25, 26, 27, 28, 29, 30, 31, 32, 33, 34, 35, 36, 37, 38, 39, 40, 41, 42, 43, 44, 45, 46, 47, 48, 49, 50, 51, 52, 53, 2, 54, 55, 56, 57, 58, 59, 60, 61, 62, 63, 64, 65, 66, 67, 68, 69, 70, 71, 72, 73, 74, 75, 76, 77, 78, 79, 80, 81, 82, 83, 84, 85, 86, 87, 88, 89, 90, 91, 92, 93, 94, 95, 96, 97, 98, 99, 100, 101, 102, 103, 104, 105, 106, 107, 108, 109, 116, 117, 118, 119, 120, 121, 122, 123, 124, 125, 126, 127, 128, 129] (by decide +kernel) (by decide +kernel)
set_option maxRecDepth 20000 in
theorem gX7_play_X7_look : GoodIn wsX7_play (wsV RX7 193 RX7 yX7_look wsX7_look) := goodIn_app (goodIn_of _ (by decide +kernel)) ggX7_play_X7_look
set_option maxRecDepth 20000 in
theorem ggX7_play_X7_know : GoodIn wsX7_play wsX7_know := goodIn_r _ [113, 114, 115, 13, 116, 117, 118, 119, 120, 121, 122, 123, 124, 125, 126, 127, 128, 129] (by decide +kernel) (by decide +kernel)
set_option maxRecDepth 20000 in
theorem gX7_play_X7_know : GoodIn wsX7_play (wsV RX7 57 RX7 yX7_know wsX7_know) := goodIn_app (goodIn_of _ (by decide +kernel)) ggX7_play_X7_know
set_option maxRecDepth 20000 in
theorem ggX7_play_X7_go : GoodIn wsX7_play wsX7_go := goodIn_r _ [17, 18, 1, 19, 20, 21, 22, 23, 24, 25, 6, 26, 27, 28, 29, 30, 31, 32, 33, 34, 35, 36, 37, 38, 39, 40, 41, 42, 43, 44, 45, 46, 47, 48, 49, 50, 51, 52, 53, 13, 2, 54, 55, 56, 57, 58, 59, 60, 61, 62, 63, 64, 65, 66, 67, 68, 69, 70, 71, 72, 73, 74, 75, 76, 77, 78, 79, 80, 81, 82, 83, 84, 85, 86, 87, 88, 89, 90, 91, 92, 93, 94, 95, 96, 97, 98, 99, 100, 101, 102, 103, 104, 105, 116, 117, 118, 119, 120, 121, 122, 123, 124, 125, 126, 127, 128, 129] (by decide +kernel) (by decide +kernel)
set_option maxRecDepth 20000 in
theorem gX7_play_X7_go : GoodIn wsX7_play (wsV RX7 187 RX7 yX7_go wsX7_go) := goodIn_app (goodIn_of _ (by decide +kernel)) ggX7_play_X7_go
theorem dX7_play_0 : decode cX7_play 0 = .ok (.aload_n 0, 1) := by decide +kernel
theorem dX7_play_1 : decode cX7_play 1 = .ok (.invokevirtual 193, 3) := by decide +kernel
theorem dX7_play_4 : decode cX7_play 4 = .ok (.aload_n 0, 1) := by decide +kernel
theorem dX7_play_5 : decode cX7_play 5 = .ok (.getfield 169, 3) := by decide +kernel
theorem dX7_play_8 : decode cX7_play 8 = .ok (.ifCond .le 6, 3) := by decide +kernel
theorem dX7_play_11 : decode cX7_play 11 = .ok (.ldc 76, 2) := by decide +kernel
theorem dX7_play_13 : decode cX7_play 13 = .ok (.ireturn, 1) := by decide +kernel
theorem dX7_play_14 : decode cX7_play 14 = .ok (.aload_n 0, 1) := by decide +kernel
theorem dX7_play_15 : decode cX7_play 15 = .ok (.invokevirtual 57, 3) := by decide +kernel
theorem dX7_play_18 : decode cX7_play 18 = .ok (.aload_n 0, 1) := by decide +kernel
theorem dX7_play_19 : decode cX7_play 19 = .ok (.invokevirtual 187, 3) := by decide +kernel
theorem dX7_play_22 : decode cX7_play 22 = .ok (.ireturn, 1) := by decide +kernel
