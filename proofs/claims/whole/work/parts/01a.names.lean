theorem dX0_init_0 : decode cX0_init 0 = .ok (.aload_n 0, 1) := by decide +kernel
theorem dX0_init_1 : decode cX0_init 1 = .ok (.invokespecial 3, 3) := by decide +kernel
theorem dX0_init_4 : decode cX0_init 4 = .ok (.aload_n 0, 1) := by decide +kernel
theorem dX0_init_5 : decode cX0_init 5 = .ok (.aload_n 1, 1) := by decide +kernel
theorem dX0_init_6 : decode cX0_init 6 = .ok (.putfield 9, 3) := by decide +kernel
theorem dX0_init_9 : decode cX0_init 9 = .ok (.return_, 1) := by decide +kernel
set_option maxRecDepth 20000 in
theorem ggX0_staysUpTo_X2_soundsAt : GoodIn wsX0_staysUpTo wsX2_soundsAt := goodIn_r _ [6, 7, 8, 9, 5, 10, 11, 12, 13, 14, 15, 17, 18, 19, 20, 21, 22, 23, 24] (by decide +kernel) (by decide +kernel)
set_option maxRecDepth 20000 in
theorem gX0_staysUpTo_X2_soundsAt : GoodIn wsX0_staysUpTo (wsV RX0 15 RX2 yX2_soundsAt wsX2_soundsAt) := goodIn_app (goodIn_of _ (by decide +kernel)) ggX0_staysUpTo_X2_soundsAt
theorem dX0_staysUpTo_0 : decode cX0_staysUpTo 0 = .ok (.aload_n 0, 1) := by decide +kernel
theorem dX0_staysUpTo_1 : decode cX0_staysUpTo 1 = .ok (.getfield 9, 3) := by decide +kernel
theorem dX0_staysUpTo_4 : decode cX0_staysUpTo 4 = .ok (.iload_n 1, 1) := by decide +kernel
theorem dX0_staysUpTo_5 : decode cX0_staysUpTo 5 = .ok (.iload_n 2, 1) := by decide +kernel
theorem dX0_staysUpTo_6 : decode cX0_staysUpTo 6 = .ok (.invokevirtual 15, 3) := by decide +kernel
theorem dX0_staysUpTo_9 : decode cX0_staysUpTo 9 = .ok (.istore_n 3, 1) := by decide +kernel
theorem dX0_staysUpTo_10 : decode cX0_staysUpTo 10 = .ok (.iconst 0, 1) := by decide +kernel
theorem dX0_staysUpTo_11 : decode cX0_staysUpTo 11 = .ok (.istore 4, 2) := by decide +kernel
theorem dX0_staysUpTo_13 : decode cX0_staysUpTo 13 = .ok (.iload_n 1, 1) := by decide +kernel
theorem dX0_staysUpTo_14 : decode cX0_staysUpTo 14 = .ok (.istore 5, 2) := by decide +kernel
theorem dX0_staysUpTo_16 : decode cX0_staysUpTo 16 = .ok (.iload 5, 2) := by decide +kernel
theorem dX0_staysUpTo_18 : decode cX0_staysUpTo 18 = .ok (.ifCond .lt 26, 3) := by decide +kernel
theorem dX0_staysUpTo_21 : decode cX0_staysUpTo 21 = .ok (.aload_n 0, 1) := by decide +kernel
theorem dX0_staysUpTo_22 : decode cX0_staysUpTo 22 = .ok (.getfield 9, 3) := by decide +kernel
theorem dX0_staysUpTo_25 : decode cX0_staysUpTo 25 = .ok (.iload 5, 2) := by decide +kernel
theorem dX0_staysUpTo_27 : decode cX0_staysUpTo 27 = .ok (.iload_n 2, 1) := by decide +kernel
theorem dX0_staysUpTo_28 : decode cX0_staysUpTo 28 = .ok (.invokevirtual 15, 3) := by decide +kernel
theorem dX0_staysUpTo_31 : decode cX0_staysUpTo 31 = .ok (.iload_n 3, 1) := by decide +kernel
theorem dX0_staysUpTo_32 : decode cX0_staysUpTo 32 = .ok (.if_icmp .ne 12, 3) := by decide +kernel
theorem dX0_staysUpTo_35 : decode cX0_staysUpTo 35 = .ok (.iinc 4 1, 3) := by decide +kernel
theorem dX0_staysUpTo_38 : decode cX0_staysUpTo 38 = .ok (.iinc 5 (-1), 3) := by decide +kernel
theorem dX0_staysUpTo_41 : decode cX0_staysUpTo 41 = .ok (.goto (-25), 3) := by decide +kernel
theorem dX0_staysUpTo_44 : decode cX0_staysUpTo 44 = .ok (.iload 4, 2) := by decide +kernel
theorem dX0_staysUpTo_46 : decode cX0_staysUpTo 46 = .ok (.ireturn, 1) := by decide +kernel
set_option maxRecDepth 20000 in
theorem ggX0_longestFloat_X0_staysUpTo : GoodIn wsX0_longestFloat wsX0_staysUpTo := goodIn_r _ [11, 1, 12, 13, 14, 15, 16, 17, 18, 19, 20, 21, 22, 23, 24, 25, 26, 27, 28, 29, 30, 31, 32, 33, 34] (by decide +kernel) (by decide +kernel)
set_option maxRecDepth 20000 in
theorem gX0_longestFloat_X0_staysUpTo : GoodIn wsX0_longestFloat (wsV RX0 25 RX0 yX0_staysUpTo wsX0_staysUpTo) := goodIn_app (goodIn_of _ (by decide +kernel)) ggX0_longestFloat_X0_staysUpTo
theorem dX0_longestFloat_0 : decode cX0_longestFloat 0 = .ok (.iconst 0, 1) := by decide +kernel
theorem dX0_longestFloat_1 : decode cX0_longestFloat 1 = .ok (.istore_n 2, 1) := by decide +kernel
theorem dX0_longestFloat_2 : decode cX0_longestFloat 2 = .ok (.iconst 0, 1) := by decide +kernel
theorem dX0_longestFloat_3 : decode cX0_longestFloat 3 = .ok (.istore_n 3, 1) := by decide +kernel
theorem dX0_longestFloat_4 : decode cX0_longestFloat 4 = .ok (.iload_n 3, 1) := by decide +kernel
theorem dX0_longestFloat_5 : decode cX0_longestFloat 5 = .ok (.aload_n 0, 1) := by decide +kernel
theorem dX0_longestFloat_6 : decode cX0_longestFloat 6 = .ok (.getfield 9, 3) := by decide +kernel
theorem dX0_longestFloat_9 : decode cX0_longestFloat 9 = .ok (.getfield 21, 3) := by decide +kernel
theorem dX0_longestFloat_12 : decode cX0_longestFloat 12 = .ok (.if_icmp .ge 20, 3) := by decide +kernel
theorem dX0_longestFloat_15 : decode cX0_longestFloat 15 = .ok (.iload_n 2, 1) := by decide +kernel
theorem dX0_longestFloat_16 : decode cX0_longestFloat 16 = .ok (.aload_n 0, 1) := by decide +kernel
theorem dX0_longestFloat_17 : decode cX0_longestFloat 17 = .ok (.iload_n 3, 1) := by decide +kernel
theorem dX0_longestFloat_18 : decode cX0_longestFloat 18 = .ok (.iload_n 1, 1) := by decide +kernel
theorem dX0_longestFloat_19 : decode cX0_longestFloat 19 = .ok (.invokevirtual 25, 3) := by decide +kernel
theorem dX0_longestFloat_22 : decode cX0_longestFloat 22 = .ok (.invokestatic 29, 3) := by decide +kernel
theorem dX0_longestFloat_25 : decode cX0_longestFloat 25 = .ok (.istore_n 2, 1) := by decide +kernel
theorem dX0_longestFloat_26 : decode cX0_longestFloat 26 = .ok (.iinc 3 1, 3) := by decide +kernel
theorem dX0_longestFloat_29 : decode cX0_longestFloat 29 = .ok (.goto (-25), 3) := by decide +kernel
theorem dX0_longestFloat_32 : decode cX0_longestFloat 32 = .ok (.iload_n 2, 1) := by decide +kernel
theorem dX0_longestFloat_33 : decode cX0_longestFloat 33 = .ok (.ireturn, 1) := by decide +kernel
set_option maxRecDepth 20000 in
theorem ggX0_longFloats_X0_staysUpTo : GoodIn wsX0_longFloats wsX0_staysUpTo := goodIn_r _ [7, 1, 8, 9, 10, 11, 12, 13, 14, 15, 16, 17, 18, 19, 20, 21, 27, 28, 29, 30, 31, 32, 33, 34, 35] (by decide +kernel) (by decide +kernel)
set_option maxRecDepth 20000 in
theorem gX0_longFloats_X0_staysUpTo : GoodIn wsX0_longFloats (wsV RX0 25 RX0 yX0_staysUpTo wsX0_staysUpTo) := goodIn_app (goodIn_of _ (by decide +kernel)) ggX0_longFloats_X0_staysUpTo
set_option maxRecDepth 20000 in
theorem ggX0_longFloats_X2_settingAt : GoodIn wsX0_longFloats wsX2_settingAt := goodIn_r _ [25, 26, 28, 29, 30, 31, 32, 33, 34, 35] (by decide +kernel) (by decide +kernel)
set_option maxRecDepth 20000 in
theorem gX0_longFloats_X2_settingAt : GoodIn wsX0_longFloats (wsV RX0 34 RX2 yX2_settingAt wsX2_settingAt) := goodIn_app (goodIn_of _ (by decide +kernel)) ggX0_longFloats_X2_settingAt
theorem dX0_longFloats_0 : decode cX0_longFloats 0 = .ok (.iconst 0, 1) := by decide +kernel
theorem dX0_longFloats_1 : decode cX0_longFloats 1 = .ok (.istore_n 2, 1) := by decide +kernel
theorem dX0_longFloats_2 : decode cX0_longFloats 2 = .ok (.iconst 0, 1) := by decide +kernel
theorem dX0_longFloats_3 : decode cX0_longFloats 3 = .ok (.istore_n 3, 1) := by decide +kernel
theorem dX0_longFloats_4 : decode cX0_longFloats 4 = .ok (.iload_n 3, 1) := by decide +kernel
theorem dX0_longFloats_5 : decode cX0_longFloats 5 = .ok (.aload_n 0, 1) := by decide +kernel
theorem dX0_longFloats_6 : decode cX0_longFloats 6 = .ok (.getfield 9, 3) := by decide +kernel
theorem dX0_longFloats_9 : decode cX0_longFloats 9 = .ok (.getfield 21, 3) := by decide +kernel
theorem dX0_longFloats_12 : decode cX0_longFloats 12 = .ok (.if_icmp .ge 31, 3) := by decide +kernel
theorem dX0_longFloats_15 : decode cX0_longFloats 15 = .ok (.aload_n 0, 1) := by decide +kernel
theorem dX0_longFloats_16 : decode cX0_longFloats 16 = .ok (.iload_n 3, 1) := by decide +kernel
theorem dX0_longFloats_17 : decode cX0_longFloats 17 = .ok (.iload_n 1, 1) := by decide +kernel
theorem dX0_longFloats_18 : decode cX0_longFloats 18 = .ok (.invokevirtual 25, 3) := by decide +kernel
theorem dX0_longFloats_21 : decode cX0_longFloats 21 = .ok (.aload_n 0, 1) := by decide +kernel
theorem dX0_longFloats_22 : decode cX0_longFloats 22 = .ok (.getfield 9, 3) := by decide +kernel
theorem dX0_longFloats_25 : decode cX0_longFloats 25 = .ok (.iconst 3, 1) := by decide +kernel
theorem dX0_longFloats_26 : decode cX0_longFloats 26 = .ok (.invokevirtual 34, 3) := by decide +kernel
theorem dX0_longFloats_29 : decode cX0_longFloats 29 = .ok (.iconst 1, 1) := by decide +kernel
theorem dX0_longFloats_30 : decode cX0_longFloats 30 = .ok (.iadd, 1) := by decide +kernel
theorem dX0_longFloats_31 : decode cX0_longFloats 31 = .ok (.if_icmp .ne 6, 3) := by decide +kernel
theorem dX0_longFloats_34 : decode cX0_longFloats 34 = .ok (.iinc 2 1, 3) := by decide +kernel
theorem dX0_longFloats_37 : decode cX0_longFloats 37 = .ok (.iinc 3 1, 3) := by decide +kernel
theorem dX0_longFloats_40 : decode cX0_longFloats 40 = .ok (.goto (-36), 3) := by decide +kernel
theorem dX0_longFloats_43 : decode cX0_longFloats 43 = .ok (.iload_n 2, 1) := by decide +kernel
theorem dX0_longFloats_44 : decode cX0_longFloats 44 = .ok (.ireturn, 1) := by decide +kernel
set_option maxRecDepth 20000 in
theorem ggX0_longFloatsInAll_X0_longFloats : GoodIn wsX0_longFloatsInAll wsX0_longFloats := goodIn_r _ [5, 6, 7, 8, 9, 10, 4, 11, 12, 13, 14, 15, 16, 17, 18, 19, 20, 21, 22, 23, 24, 25, 26, 27, 28, 29, 30, 31, 32, 33, 34, 35, 36, 37, 38, 39] (by decide +kernel) (by decide +kernel)
set_option maxRecDepth 20000 in
theorem gX0_longFloatsInAll_X0_longFloats : GoodIn wsX0_longFloatsInAll (wsV RX0 38 RX0 yX0_longFloats wsX0_longFloats) := goodIn_app (goodIn_of _ (by decide +kernel)) ggX0_longFloatsInAll_X0_longFloats
theorem dX0_longFloatsInAll_0 : decode cX0_longFloatsInAll 0 = .ok (.iconst 0, 1) := by decide +kernel
theorem dX0_longFloatsInAll_1 : decode cX0_longFloatsInAll 1 = .ok (.istore_n 1, 1) := by decide +kernel
theorem dX0_longFloatsInAll_2 : decode cX0_longFloatsInAll 2 = .ok (.iconst 0, 1) := by decide +kernel
theorem dX0_longFloatsInAll_3 : decode cX0_longFloatsInAll 3 = .ok (.istore_n 2, 1) := by decide +kernel
theorem dX0_longFloatsInAll_4 : decode cX0_longFloatsInAll 4 = .ok (.iload_n 2, 1) := by decide +kernel
theorem dX0_longFloatsInAll_5 : decode cX0_longFloatsInAll 5 = .ok (.bipush 8, 2) := by decide +kernel
theorem dX0_longFloatsInAll_7 : decode cX0_longFloatsInAll 7 = .ok (.if_icmp .ge 17, 3) := by decide +kernel
theorem dX0_longFloatsInAll_10 : decode cX0_longFloatsInAll 10 = .ok (.iload_n 1, 1) := by decide +kernel
theorem dX0_longFloatsInAll_11 : decode cX0_longFloatsInAll 11 = .ok (.aload_n 0, 1) := by decide +kernel
theorem dX0_longFloatsInAll_12 : decode cX0_longFloatsInAll 12 = .ok (.iload_n 2, 1) := by decide +kernel
theorem dX0_longFloatsInAll_13 : decode cX0_longFloatsInAll 13 = .ok (.invokevirtual 38, 3) := by decide +kernel
theorem dX0_longFloatsInAll_16 : decode cX0_longFloatsInAll 16 = .ok (.iadd, 1) := by decide +kernel
theorem dX0_longFloatsInAll_17 : decode cX0_longFloatsInAll 17 = .ok (.istore_n 1, 1) := by decide +kernel
theorem dX0_longFloatsInAll_18 : decode cX0_longFloatsInAll 18 = .ok (.iinc 2 1, 3) := by decide +kernel
theorem dX0_longFloatsInAll_21 : decode cX0_longFloatsInAll 21 = .ok (.goto (-17), 3) := by decide +kernel
theorem dX0_longFloatsInAll_24 : decode cX0_longFloatsInAll 24 = .ok (.iload_n 1, 1) := by decide +kernel
theorem dX0_longFloatsInAll_25 : decode cX0_longFloatsInAll 25 = .ok (.ireturn, 1) := by decide +kernel
theorem dX2_init_0 : decode cX2_init 0 = .ok (.aload_n 0, 1) := by decide +kernel
theorem dX2_init_1 : decode cX2_init 1 = .ok (.invokespecial 3, 3) := by decide +kernel
theorem dX2_init_4 : decode cX2_init 4 = .ok (.aload_n 0, 1) := by decide +kernel
theorem dX2_init_5 : decode cX2_init 5 = .ok (.bipush 8, 2) := by decide +kernel
theorem dX2_init_7 : decode cX2_init 7 = .ok (.newarray .int, 2) := by decide +kernel
theorem dX2_init_9 : decode cX2_init 9 = .ok (.dup, 1) := by decide +kernel
theorem dX2_init_10 : decode cX2_init 10 = .ok (.iconst 0, 1) := by decide +kernel
theorem dX2_init_11 : decode cX2_init 11 = .ok (.bipush 12, 2) := by decide +kernel
theorem dX2_init_13 : decode cX2_init 13 = .ok (.iastore, 1) := by decide +kernel
theorem dX2_init_14 : decode cX2_init 14 = .ok (.dup, 1) := by decide +kernel
theorem dX2_init_15 : decode cX2_init 15 = .ok (.iconst 1, 1) := by decide +kernel
theorem dX2_init_16 : decode cX2_init 16 = .ok (.bipush 14, 2) := by decide +kernel
theorem dX2_init_18 : decode cX2_init 18 = .ok (.iastore, 1) := by decide +kernel
theorem dX2_init_19 : decode cX2_init 19 = .ok (.dup, 1) := by decide +kernel
theorem dX2_init_20 : decode cX2_init 20 = .ok (.iconst 2, 1) := by decide +kernel
theorem dX2_init_21 : decode cX2_init 21 = .ok (.bipush 16, 2) := by decide +kernel
theorem dX2_init_23 : decode cX2_init 23 = .ok (.iastore, 1) := by decide +kernel
theorem dX2_init_24 : decode cX2_init 24 = .ok (.dup, 1) := by decide +kernel
theorem dX2_init_25 : decode cX2_init 25 = .ok (.iconst 3, 1) := by decide +kernel
theorem dX2_init_26 : decode cX2_init 26 = .ok (.bipush 18, 2) := by decide +kernel
theorem dX2_init_28 : decode cX2_init 28 = .ok (.iastore, 1) := by decide +kernel
theorem dX2_init_29 : decode cX2_init 29 = .ok (.dup, 1) := by decide +kernel
theorem dX2_init_30 : decode cX2_init 30 = .ok (.iconst 4, 1) := by decide +kernel
theorem dX2_init_31 : decode cX2_init 31 = .ok (.bipush 20, 2) := by decide +kernel
theorem dX2_init_33 : decode cX2_init 33 = .ok (.iastore, 1) := by decide +kernel
theorem dX2_init_34 : decode cX2_init 34 = .ok (.dup, 1) := by decide +kernel
theorem dX2_init_35 : decode cX2_init 35 = .ok (.iconst 5, 1) := by decide +kernel
theorem dX2_init_36 : decode cX2_init 36 = .ok (.bipush 22, 2) := by decide +kernel
theorem dX2_init_38 : decode cX2_init 38 = .ok (.iastore, 1) := by decide +kernel
theorem dX2_init_39 : decode cX2_init 39 = .ok (.dup, 1) := by decide +kernel
theorem dX2_init_40 : decode cX2_init 40 = .ok (.bipush 6, 2) := by decide +kernel
theorem dX2_init_42 : decode cX2_init 42 = .ok (.bipush 24, 2) := by decide +kernel
theorem dX2_init_44 : decode cX2_init 44 = .ok (.iastore, 1) := by decide +kernel
theorem dX2_init_45 : decode cX2_init 45 = .ok (.dup, 1) := by decide +kernel
theorem dX2_init_46 : decode cX2_init 46 = .ok (.bipush 7, 2) := by decide +kernel
theorem dX2_init_48 : decode cX2_init 48 = .ok (.bipush 26, 2) := by decide +kernel
theorem dX2_init_50 : decode cX2_init 50 = .ok (.iastore, 1) := by decide +kernel
theorem dX2_init_51 : decode cX2_init 51 = .ok (.putfield 9, 3) := by decide +kernel
theorem dX2_init_54 : decode cX2_init 54 = .ok (.aload_n 0, 1) := by decide +kernel
theorem dX2_init_55 : decode cX2_init 55 = .ok (.bipush 8, 2) := by decide +kernel
theorem dX2_init_57 : decode cX2_init 57 = .ok (.newarray .int, 2) := by decide +kernel
theorem dX2_init_59 : decode cX2_init 59 = .ok (.dup, 1) := by decide +kernel
theorem dX2_init_60 : decode cX2_init 60 = .ok (.iconst 0, 1) := by decide +kernel
theorem dX2_init_61 : decode cX2_init 61 = .ok (.iconst 0, 1) := by decide +kernel
theorem dX2_init_62 : decode cX2_init 62 = .ok (.iastore, 1) := by decide +kernel
theorem dX2_init_63 : decode cX2_init 63 = .ok (.dup, 1) := by decide +kernel
theorem dX2_init_64 : decode cX2_init 64 = .ok (.iconst 1, 1) := by decide +kernel
theorem dX2_init_65 : decode cX2_init 65 = .ok (.iconst 1, 1) := by decide +kernel
theorem dX2_init_66 : decode cX2_init 66 = .ok (.iastore, 1) := by decide +kernel
theorem dX2_init_67 : decode cX2_init 67 = .ok (.dup, 1) := by decide +kernel
theorem dX2_init_68 : decode cX2_init 68 = .ok (.iconst 2, 1) := by decide +kernel
theorem dX2_init_69 : decode cX2_init 69 = .ok (.iconst 2, 1) := by decide +kernel
theorem dX2_init_70 : decode cX2_init 70 = .ok (.iastore, 1) := by decide +kernel
theorem dX2_init_71 : decode cX2_init 71 = .ok (.dup, 1) := by decide +kernel
theorem dX2_init_72 : decode cX2_init 72 = .ok (.iconst 3, 1) := by decide +kernel
theorem dX2_init_73 : decode cX2_init 73 = .ok (.iconst 3, 1) := by decide +kernel
theorem dX2_init_74 : decode cX2_init 74 = .ok (.iastore, 1) := by decide +kernel
theorem dX2_init_75 : decode cX2_init 75 = .ok (.dup, 1) := by decide +kernel
theorem dX2_init_76 : decode cX2_init 76 = .ok (.iconst 4, 1) := by decide +kernel
theorem dX2_init_77 : decode cX2_init 77 = .ok (.iconst 0, 1) := by decide +kernel
theorem dX2_init_78 : decode cX2_init 78 = .ok (.iastore, 1) := by decide +kernel
theorem dX2_init_79 : decode cX2_init 79 = .ok (.dup, 1) := by decide +kernel
theorem dX2_init_80 : decode cX2_init 80 = .ok (.iconst 5, 1) := by decide +kernel
theorem dX2_init_81 : decode cX2_init 81 = .ok (.iconst 1, 1) := by decide +kernel
theorem dX2_init_82 : decode cX2_init 82 = .ok (.iastore, 1) := by decide +kernel
theorem dX2_init_83 : decode cX2_init 83 = .ok (.dup, 1) := by decide +kernel
theorem dX2_init_84 : decode cX2_init 84 = .ok (.bipush 6, 2) := by decide +kernel
theorem dX2_init_86 : decode cX2_init 86 = .ok (.iconst 2, 1) := by decide +kernel
theorem dX2_init_87 : decode cX2_init 87 = .ok (.iastore, 1) := by decide +kernel
theorem dX2_init_88 : decode cX2_init 88 = .ok (.dup, 1) := by decide +kernel
theorem dX2_init_89 : decode cX2_init 89 = .ok (.bipush 7, 2) := by decide +kernel
theorem dX2_init_91 : decode cX2_init 91 = .ok (.iconst 3, 1) := by decide +kernel
theorem dX2_init_92 : decode cX2_init 92 = .ok (.iastore, 1) := by decide +kernel
theorem dX2_init_93 : decode cX2_init 93 = .ok (.putfield 15, 3) := by decide +kernel
theorem dX2_init_96 : decode cX2_init 96 = .ok (.aload_n 0, 1) := by decide +kernel
theorem dX2_init_97 : decode cX2_init 97 = .ok (.bipush 24, 2) := by decide +kernel
theorem dX2_init_99 : decode cX2_init 99 = .ok (.newarray .int, 2) := by decide +kernel
theorem dX2_init_101 : decode cX2_init 101 = .ok (.putfield 18, 3) := by decide +kernel
theorem dX2_init_104 : decode cX2_init 104 = .ok (.aload_n 0, 1) := by decide +kernel
theorem dX2_init_105 : decode cX2_init 105 = .ok (.iconst 4, 1) := by decide +kernel
theorem dX2_init_106 : decode cX2_init 106 = .ok (.newarray .int, 2) := by decide +kernel
theorem dX2_init_108 : decode cX2_init 108 = .ok (.dup, 1) := by decide +kernel
theorem dX2_init_109 : decode cX2_init 109 = .ok (.iconst 0, 1) := by decide +kernel
theorem dX2_init_110 : decode cX2_init 110 = .ok (.iconst 4, 1) := by decide +kernel
theorem dX2_init_111 : decode cX2_init 111 = .ok (.iastore, 1) := by decide +kernel
theorem dX2_init_112 : decode cX2_init 112 = .ok (.dup, 1) := by decide +kernel
theorem dX2_init_113 : decode cX2_init 113 = .ok (.iconst 1, 1) := by decide +kernel
theorem dX2_init_114 : decode cX2_init 114 = .ok (.iconst 5, 1) := by decide +kernel
theorem dX2_init_115 : decode cX2_init 115 = .ok (.iastore, 1) := by decide +kernel
theorem dX2_init_116 : decode cX2_init 116 = .ok (.dup, 1) := by decide +kernel
theorem dX2_init_117 : decode cX2_init 117 = .ok (.iconst 2, 1) := by decide +kernel
theorem dX2_init_118 : decode cX2_init 118 = .ok (.iconst 3, 1) := by decide +kernel
theorem dX2_init_119 : decode cX2_init 119 = .ok (.iastore, 1) := by decide +kernel
theorem dX2_init_120 : decode cX2_init 120 = .ok (.dup, 1) := by decide +kernel
theorem dX2_init_121 : decode cX2_init 121 = .ok (.iconst 3, 1) := by decide +kernel
theorem dX2_init_122 : decode cX2_init 122 = .ok (.bipush 6, 2) := by decide +kernel
theorem dX2_init_124 : decode cX2_init 124 = .ok (.iastore, 1) := by decide +kernel
theorem dX2_init_125 : decode cX2_init 125 = .ok (.putfield 21, 3) := by decide +kernel
theorem dX2_init_128 : decode cX2_init 128 = .ok (.aload_n 0, 1) := by decide +kernel
theorem dX2_init_129 : decode cX2_init 129 = .ok (.iconst 0, 1) := by decide +kernel
theorem dX2_init_130 : decode cX2_init 130 = .ok (.putfield 24, 3) := by decide +kernel
theorem dX2_init_133 : decode cX2_init 133 = .ok (.aload_n 0, 1) := by decide +kernel
theorem dX2_init_134 : decode cX2_init 134 = .ok (.iconst 0, 1) := by decide +kernel
theorem dX2_init_135 : decode cX2_init 135 = .ok (.putfield 28, 3) := by decide +kernel
theorem dX2_init_138 : decode cX2_init 138 = .ok (.aload_n 0, 1) := by decide +kernel
theorem dX2_init_139 : decode cX2_init 139 = .ok (.iconst (-1), 1) := by decide +kernel
theorem dX2_init_140 : decode cX2_init 140 = .ok (.putfield 31, 3) := by decide +kernel
theorem dX2_init_143 : decode cX2_init 143 = .ok (.aload_n 0, 1) := by decide +kernel
theorem dX2_init_144 : decode cX2_init 144 = .ok (.iconst 0, 1) := by decide +kernel
theorem dX2_init_145 : decode cX2_init 145 = .ok (.putfield 34, 3) := by decide +kernel
theorem dX2_init_148 : decode cX2_init 148 = .ok (.return_, 1) := by decide +kernel
set_option maxRecDepth 20000 in
theorem ggX2_copyFrom_X2_copyRow : GoodIn wsX2_copyFrom wsX2_copyRow := goodIn_r _ [12] (by decide +kernel) (by decide +kernel)
set_option maxRecDepth 20000 in
theorem gX2_copyFrom_X2_copyRow : GoodIn wsX2_copyFrom (va_wsS RX2 37 yX2_copyRow wsX2_copyRow) := goodIn_app (goodIn_of _ (by decide +kernel)) ggX2_copyFrom_X2_copyRow
theorem dX2_copyFrom_0 : decode cX2_copyFrom 0 = .ok (.aload_n 1, 1) := by decide +kernel
theorem dX2_copyFrom_1 : decode cX2_copyFrom 1 = .ok (.getfield 9, 3) := by decide +kernel
theorem dX2_copyFrom_4 : decode cX2_copyFrom 4 = .ok (.aload_n 0, 1) := by decide +kernel
theorem dX2_copyFrom_5 : decode cX2_copyFrom 5 = .ok (.getfield 9, 3) := by decide +kernel
theorem dX2_copyFrom_8 : decode cX2_copyFrom 8 = .ok (.invokestatic 37, 3) := by decide +kernel
theorem dX2_copyFrom_11 : decode cX2_copyFrom 11 = .ok (.aload_n 1, 1) := by decide +kernel
theorem dX2_copyFrom_12 : decode cX2_copyFrom 12 = .ok (.getfield 15, 3) := by decide +kernel
theorem dX2_copyFrom_15 : decode cX2_copyFrom 15 = .ok (.aload_n 0, 1) := by decide +kernel
theorem dX2_copyFrom_16 : decode cX2_copyFrom 16 = .ok (.getfield 15, 3) := by decide +kernel
theorem dX2_copyFrom_19 : decode cX2_copyFrom 19 = .ok (.invokestatic 37, 3) := by decide +kernel
theorem dX2_copyFrom_22 : decode cX2_copyFrom 22 = .ok (.aload_n 1, 1) := by decide +kernel
theorem dX2_copyFrom_23 : decode cX2_copyFrom 23 = .ok (.getfield 18, 3) := by decide +kernel
theorem dX2_copyFrom_26 : decode cX2_copyFrom 26 = .ok (.aload_n 0, 1) := by decide +kernel
theorem dX2_copyFrom_27 : decode cX2_copyFrom 27 = .ok (.getfield 18, 3) := by decide +kernel
theorem dX2_copyFrom_30 : decode cX2_copyFrom 30 = .ok (.invokestatic 37, 3) := by decide +kernel
theorem dX2_copyFrom_33 : decode cX2_copyFrom 33 = .ok (.aload_n 1, 1) := by decide +kernel
theorem dX2_copyFrom_34 : decode cX2_copyFrom 34 = .ok (.getfield 21, 3) := by decide +kernel
theorem dX2_copyFrom_37 : decode cX2_copyFrom 37 = .ok (.aload_n 0, 1) := by decide +kernel
theorem dX2_copyFrom_38 : decode cX2_copyFrom 38 = .ok (.getfield 21, 3) := by decide +kernel
theorem dX2_copyFrom_41 : decode cX2_copyFrom 41 = .ok (.invokestatic 37, 3) := by decide +kernel
theorem dX2_copyFrom_44 : decode cX2_copyFrom 44 = .ok (.aload_n 0, 1) := by decide +kernel
theorem dX2_copyFrom_45 : decode cX2_copyFrom 45 = .ok (.aload_n 1, 1) := by decide +kernel
theorem dX2_copyFrom_46 : decode cX2_copyFrom 46 = .ok (.getfield 24, 3) := by decide +kernel
theorem dX2_copyFrom_49 : decode cX2_copyFrom 49 = .ok (.putfield 24, 3) := by decide +kernel
theorem dX2_copyFrom_52 : decode cX2_copyFrom 52 = .ok (.aload_n 0, 1) := by decide +kernel
theorem dX2_copyFrom_53 : decode cX2_copyFrom 53 = .ok (.aload_n 1, 1) := by decide +kernel
theorem dX2_copyFrom_54 : decode cX2_copyFrom 54 = .ok (.getfield 28, 3) := by decide +kernel
theorem dX2_copyFrom_57 : decode cX2_copyFrom 57 = .ok (.putfield 28, 3) := by decide +kernel
theorem dX2_copyFrom_60 : decode cX2_copyFrom 60 = .ok (.aload_n 0, 1) := by decide +kernel
theorem dX2_copyFrom_61 : decode cX2_copyFrom 61 = .ok (.aload_n 1, 1) := by decide +kernel
theorem dX2_copyFrom_62 : decode cX2_copyFrom 62 = .ok (.getfield 31, 3) := by decide +kernel
theorem dX2_copyFrom_65 : decode cX2_copyFrom 65 = .ok (.putfield 31, 3) := by decide +kernel
theorem dX2_copyFrom_68 : decode cX2_copyFrom 68 = .ok (.aload_n 0, 1) := by decide +kernel
theorem dX2_copyFrom_69 : decode cX2_copyFrom 69 = .ok (.aload_n 1, 1) := by decide +kernel
theorem dX2_copyFrom_70 : decode cX2_copyFrom 70 = .ok (.getfield 34, 3) := by decide +kernel
theorem dX2_copyFrom_73 : decode cX2_copyFrom 73 = .ok (.putfield 34, 3) := by decide +kernel
theorem dX2_copyFrom_76 : decode cX2_copyFrom 76 = .ok (.return_, 1) := by decide +kernel
theorem dX2_copyRow_0 : decode cX2_copyRow 0 = .ok (.iconst 0, 1) := by decide +kernel
theorem dX2_copyRow_1 : decode cX2_copyRow 1 = .ok (.istore_n 2, 1) := by decide +kernel
theorem dX2_copyRow_2 : decode cX2_copyRow 2 = .ok (.iload_n 2, 1) := by decide +kernel
theorem dX2_copyRow_3 : decode cX2_copyRow 3 = .ok (.aload_n 0, 1) := by decide +kernel
theorem dX2_copyRow_4 : decode cX2_copyRow 4 = .ok (.arraylength, 1) := by decide +kernel
theorem dX2_copyRow_5 : decode cX2_copyRow 5 = .ok (.if_icmp .ge 21, 3) := by decide +kernel
theorem dX2_copyRow_8 : decode cX2_copyRow 8 = .ok (.iload_n 2, 1) := by decide +kernel
theorem dX2_copyRow_9 : decode cX2_copyRow 9 = .ok (.aload_n 1, 1) := by decide +kernel
theorem dX2_copyRow_10 : decode cX2_copyRow 10 = .ok (.arraylength, 1) := by decide +kernel
theorem dX2_copyRow_11 : decode cX2_copyRow 11 = .ok (.if_icmp .ge 15, 3) := by decide +kernel
theorem dX2_copyRow_14 : decode cX2_copyRow 14 = .ok (.aload_n 1, 1) := by decide +kernel
theorem dX2_copyRow_15 : decode cX2_copyRow 15 = .ok (.iload_n 2, 1) := by decide +kernel
theorem dX2_copyRow_16 : decode cX2_copyRow 16 = .ok (.aload_n 0, 1) := by decide +kernel
theorem dX2_copyRow_17 : decode cX2_copyRow 17 = .ok (.iload_n 2, 1) := by decide +kernel
theorem dX2_copyRow_18 : decode cX2_copyRow 18 = .ok (.iaload, 1) := by decide +kernel
theorem dX2_copyRow_19 : decode cX2_copyRow 19 = .ok (.iastore, 1) := by decide +kernel
theorem dX2_copyRow_20 : decode cX2_copyRow 20 = .ok (.iinc 2 1, 3) := by decide +kernel
theorem dX2_copyRow_23 : decode cX2_copyRow 23 = .ok (.goto (-21), 3) := by decide +kernel
theorem dX2_copyRow_26 : decode cX2_copyRow 26 = .ok (.return_, 1) := by decide +kernel
theorem dX2_isFull_0 : decode cX2_isFull 0 = .ok (.aload_n 0, 1) := by decide +kernel
theorem dX2_isFull_1 : decode cX2_isFull 1 = .ok (.getfield 24, 3) := by decide +kernel
theorem dX2_isFull_4 : decode cX2_isFull 4 = .ok (.bipush 24, 2) := by decide +kernel
theorem dX2_isFull_6 : decode cX2_isFull 6 = .ok (.if_icmp .lt 7, 3) := by decide +kernel
theorem dX2_isFull_9 : decode cX2_isFull 9 = .ok (.iconst 1, 1) := by decide +kernel
theorem dX2_isFull_10 : decode cX2_isFull 10 = .ok (.goto 4, 3) := by decide +kernel
theorem dX2_isFull_13 : decode cX2_isFull 13 = .ok (.iconst 0, 1) := by decide +kernel
theorem dX2_isFull_14 : decode cX2_isFull 14 = .ok (.ireturn, 1) := by decide +kernel
theorem dX2_hasCard_0 : decode cX2_hasCard 0 = .ok (.iload_n 1, 1) := by decide +kernel
theorem dX2_hasCard_1 : decode cX2_hasCard 1 = .ok (.ifCond .lt 15, 3) := by decide +kernel
theorem dX2_hasCard_4 : decode cX2_hasCard 4 = .ok (.iload_n 1, 1) := by decide +kernel
theorem dX2_hasCard_5 : decode cX2_hasCard 5 = .ok (.aload_n 0, 1) := by decide +kernel
theorem dX2_hasCard_6 : decode cX2_hasCard 6 = .ok (.getfield 24, 3) := by decide +kernel
theorem dX2_hasCard_9 : decode cX2_hasCard 9 = .ok (.if_icmp .ge 7, 3) := by decide +kernel
theorem dX2_hasCard_12 : decode cX2_hasCard 12 = .ok (.iconst 1, 1) := by decide +kernel
theorem dX2_hasCard_13 : decode cX2_hasCard 13 = .ok (.goto 4, 3) := by decide +kernel
theorem dX2_hasCard_16 : decode cX2_hasCard 16 = .ok (.iconst 0, 1) := by decide +kernel
theorem dX2_hasCard_17 : decode cX2_hasCard 17 = .ok (.ireturn, 1) := by decide +kernel
theorem dX2_noteAt_0 : decode cX2_noteAt 0 = .ok (.iload_n 1, 1) := by decide +kernel
theorem dX2_noteAt_1 : decode cX2_noteAt 1 = .ok (.ifCond .lt 21, 3) := by decide +kernel
theorem dX2_noteAt_4 : decode cX2_noteAt 4 = .ok (.iload_n 1, 1) := by decide +kernel
theorem dX2_noteAt_5 : decode cX2_noteAt 5 = .ok (.aload_n 0, 1) := by decide +kernel
theorem dX2_noteAt_6 : decode cX2_noteAt 6 = .ok (.getfield 9, 3) := by decide +kernel
theorem dX2_noteAt_9 : decode cX2_noteAt 9 = .ok (.arraylength, 1) := by decide +kernel
theorem dX2_noteAt_10 : decode cX2_noteAt 10 = .ok (.if_icmp .ge 12, 3) := by decide +kernel
theorem dX2_noteAt_13 : decode cX2_noteAt 13 = .ok (.aload_n 0, 1) := by decide +kernel
theorem dX2_noteAt_14 : decode cX2_noteAt 14 = .ok (.getfield 9, 3) := by decide +kernel
theorem dX2_noteAt_17 : decode cX2_noteAt 17 = .ok (.iload_n 1, 1) := by decide +kernel
theorem dX2_noteAt_18 : decode cX2_noteAt 18 = .ok (.iaload, 1) := by decide +kernel
theorem dX2_noteAt_19 : decode cX2_noteAt 19 = .ok (.goto 4, 3) := by decide +kernel
theorem dX2_noteAt_22 : decode cX2_noteAt 22 = .ok (.iconst 0, 1) := by decide +kernel
theorem dX2_noteAt_23 : decode cX2_noteAt 23 = .ok (.ireturn, 1) := by decide +kernel
theorem dX2_colourAt_0 : decode cX2_colourAt 0 = .ok (.iload_n 1, 1) := by decide +kernel
theorem dX2_colourAt_1 : decode cX2_colourAt 1 = .ok (.ifCond .lt 21, 3) := by decide +kernel
theorem dX2_colourAt_4 : decode cX2_colourAt 4 = .ok (.iload_n 1, 1) := by decide +kernel
theorem dX2_colourAt_5 : decode cX2_colourAt 5 = .ok (.aload_n 0, 1) := by decide +kernel
theorem dX2_colourAt_6 : decode cX2_colourAt 6 = .ok (.getfield 15, 3) := by decide +kernel
theorem dX2_colourAt_9 : decode cX2_colourAt 9 = .ok (.arraylength, 1) := by decide +kernel
theorem dX2_colourAt_10 : decode cX2_colourAt 10 = .ok (.if_icmp .ge 12, 3) := by decide +kernel
theorem dX2_colourAt_13 : decode cX2_colourAt 13 = .ok (.aload_n 0, 1) := by decide +kernel
theorem dX2_colourAt_14 : decode cX2_colourAt 14 = .ok (.getfield 15, 3) := by decide +kernel
theorem dX2_colourAt_17 : decode cX2_colourAt 17 = .ok (.iload_n 1, 1) := by decide +kernel
theorem dX2_colourAt_18 : decode cX2_colourAt 18 = .ok (.iaload, 1) := by decide +kernel
theorem dX2_colourAt_19 : decode cX2_colourAt 19 = .ok (.goto 4, 3) := by decide +kernel
theorem dX2_colourAt_22 : decode cX2_colourAt 22 = .ok (.iconst 0, 1) := by decide +kernel
theorem dX2_colourAt_23 : decode cX2_colourAt 23 = .ok (.ireturn, 1) := by decide +kernel
theorem dX2_settingAt_0 : decode cX2_settingAt 0 = .ok (.iload_n 1, 1) := by decide +kernel
theorem dX2_settingAt_1 : decode cX2_settingAt 1 = .ok (.ifCond .lt 21, 3) := by decide +kernel
theorem dX2_settingAt_4 : decode cX2_settingAt 4 = .ok (.iload_n 1, 1) := by decide +kernel
theorem dX2_settingAt_5 : decode cX2_settingAt 5 = .ok (.aload_n 0, 1) := by decide +kernel
theorem dX2_settingAt_6 : decode cX2_settingAt 6 = .ok (.getfield 21, 3) := by decide +kernel
theorem dX2_settingAt_9 : decode cX2_settingAt 9 = .ok (.arraylength, 1) := by decide +kernel
theorem dX2_settingAt_10 : decode cX2_settingAt 10 = .ok (.if_icmp .ge 12, 3) := by decide +kernel
theorem dX2_settingAt_13 : decode cX2_settingAt 13 = .ok (.aload_n 0, 1) := by decide +kernel
theorem dX2_settingAt_14 : decode cX2_settingAt 14 = .ok (.getfield 21, 3) := by decide +kernel
theorem dX2_settingAt_17 : decode cX2_settingAt 17 = .ok (.iload_n 1, 1) := by decide +kernel
theorem dX2_settingAt_18 : decode cX2_settingAt 18 = .ok (.iaload, 1) := by decide +kernel
theorem dX2_settingAt_19 : decode cX2_settingAt 19 = .ok (.goto 4, 3) := by decide +kernel
theorem dX2_settingAt_22 : decode cX2_settingAt 22 = .ok (.iconst 0, 1) := by decide +kernel
theorem dX2_settingAt_23 : decode cX2_settingAt 23 = .ok (.ireturn, 1) := by decide +kernel
theorem dX2_holesAt_0 : decode cX2_holesAt 0 = .ok (.iload_n 1, 1) := by decide +kernel
theorem dX2_holesAt_1 : decode cX2_holesAt 1 = .ok (.ifCond .lt 33, 3) := by decide +kernel
theorem dX2_holesAt_4 : decode cX2_holesAt 4 = .ok (.iload_n 1, 1) := by decide +kernel
theorem dX2_holesAt_5 : decode cX2_holesAt 5 = .ok (.aload_n 0, 1) := by decide +kernel
theorem dX2_holesAt_6 : decode cX2_holesAt 6 = .ok (.getfield 24, 3) := by decide +kernel
theorem dX2_holesAt_9 : decode cX2_holesAt 9 = .ok (.if_icmp .ge 25, 3) := by decide +kernel
theorem dX2_holesAt_12 : decode cX2_holesAt 12 = .ok (.iload_n 1, 1) := by decide +kernel
theorem dX2_holesAt_13 : decode cX2_holesAt 13 = .ok (.aload_n 0, 1) := by decide +kernel
theorem dX2_holesAt_14 : decode cX2_holesAt 14 = .ok (.getfield 18, 3) := by decide +kernel
theorem dX2_holesAt_17 : decode cX2_holesAt 17 = .ok (.arraylength, 1) := by decide +kernel
theorem dX2_holesAt_18 : decode cX2_holesAt 18 = .ok (.if_icmp .ge 16, 3) := by decide +kernel
theorem dX2_holesAt_21 : decode cX2_holesAt 21 = .ok (.aload_n 0, 1) := by decide +kernel
theorem dX2_holesAt_22 : decode cX2_holesAt 22 = .ok (.getfield 18, 3) := by decide +kernel
theorem dX2_holesAt_25 : decode cX2_holesAt 25 = .ok (.iload_n 1, 1) := by decide +kernel
theorem dX2_holesAt_26 : decode cX2_holesAt 26 = .ok (.iaload, 1) := by decide +kernel
theorem dX2_holesAt_27 : decode cX2_holesAt 27 = .ok (.sipush 255, 3) := by decide +kernel
theorem dX2_holesAt_30 : decode cX2_holesAt 30 = .ok (.iand, 1) := by decide +kernel
theorem dX2_holesAt_31 : decode cX2_holesAt 31 = .ok (.goto 4, 3) := by decide +kernel
theorem dX2_holesAt_34 : decode cX2_holesAt 34 = .ok (.iconst 0, 1) := by decide +kernel
theorem dX2_holesAt_35 : decode cX2_holesAt 35 = .ok (.ireturn, 1) := by decide +kernel
set_option maxRecDepth 20000 in
theorem ggX2_stampsAt_X2_cardAt : GoodIn wsX2_stampsAt wsX2_cardAt := goodIn_r _ [5, 6, 7, 8, 9, 10, 11, 12, 13, 14, 15] (by decide +kernel) (by decide +kernel)
set_option maxRecDepth 20000 in
theorem gX2_stampsAt_X2_cardAt : GoodIn wsX2_stampsAt (wsV RX2 41 RX2 yX2_cardAt wsX2_cardAt) := goodIn_app (goodIn_of _ (by decide +kernel)) ggX2_stampsAt_X2_cardAt
theorem dX2_stampsAt_0 : decode cX2_stampsAt 0 = .ok (.aload_n 0, 1) := by decide +kernel
theorem dX2_stampsAt_1 : decode cX2_stampsAt 1 = .ok (.iload_n 1, 1) := by decide +kernel
theorem dX2_stampsAt_2 : decode cX2_stampsAt 2 = .ok (.invokevirtual 41, 3) := by decide +kernel
theorem dX2_stampsAt_5 : decode cX2_stampsAt 5 = .ok (.sipush 256, 3) := by decide +kernel
theorem dX2_stampsAt_8 : decode cX2_stampsAt 8 = .ok (.if_icmp .lt 7, 3) := by decide +kernel
theorem dX2_stampsAt_11 : decode cX2_stampsAt 11 = .ok (.iconst 1, 1) := by decide +kernel
theorem dX2_stampsAt_12 : decode cX2_stampsAt 12 = .ok (.goto 4, 3) := by decide +kernel
theorem dX2_stampsAt_15 : decode cX2_stampsAt 15 = .ok (.iconst 0, 1) := by decide +kernel
theorem dX2_stampsAt_16 : decode cX2_stampsAt 16 = .ok (.ireturn, 1) := by decide +kernel
theorem dX2_cardAt_0 : decode cX2_cardAt 0 = .ok (.iload_n 1, 1) := by decide +kernel
theorem dX2_cardAt_1 : decode cX2_cardAt 1 = .ok (.ifCond .lt 29, 3) := by decide +kernel
theorem dX2_cardAt_4 : decode cX2_cardAt 4 = .ok (.iload_n 1, 1) := by decide +kernel
theorem dX2_cardAt_5 : decode cX2_cardAt 5 = .ok (.aload_n 0, 1) := by decide +kernel
theorem dX2_cardAt_6 : decode cX2_cardAt 6 = .ok (.getfield 24, 3) := by decide +kernel
theorem dX2_cardAt_9 : decode cX2_cardAt 9 = .ok (.if_icmp .ge 21, 3) := by decide +kernel
theorem dX2_cardAt_12 : decode cX2_cardAt 12 = .ok (.iload_n 1, 1) := by decide +kernel
theorem dX2_cardAt_13 : decode cX2_cardAt 13 = .ok (.aload_n 0, 1) := by decide +kernel
theorem dX2_cardAt_14 : decode cX2_cardAt 14 = .ok (.getfield 18, 3) := by decide +kernel
theorem dX2_cardAt_17 : decode cX2_cardAt 17 = .ok (.arraylength, 1) := by decide +kernel
theorem dX2_cardAt_18 : decode cX2_cardAt 18 = .ok (.if_icmp .ge 12, 3) := by decide +kernel
theorem dX2_cardAt_21 : decode cX2_cardAt 21 = .ok (.aload_n 0, 1) := by decide +kernel
theorem dX2_cardAt_22 : decode cX2_cardAt 22 = .ok (.getfield 18, 3) := by decide +kernel
theorem dX2_cardAt_25 : decode cX2_cardAt 25 = .ok (.iload_n 1, 1) := by decide +kernel
theorem dX2_cardAt_26 : decode cX2_cardAt 26 = .ok (.iaload, 1) := by decide +kernel
theorem dX2_cardAt_27 : decode cX2_cardAt 27 = .ok (.goto 4, 3) := by decide +kernel
theorem dX2_cardAt_30 : decode cX2_cardAt 30 = .ok (.iconst 0, 1) := by decide +kernel
theorem dX2_cardAt_31 : decode cX2_cardAt 31 = .ok (.ireturn, 1) := by decide +kernel
set_option maxRecDepth 20000 in
theorem ggX2_soundsAt_X2_holesAt : GoodIn wsX2_soundsAt wsX2_holesAt := goodIn_r _ [5, 6, 7, 11, 12, 13, 14, 15, 16, 17, 18] (by decide +kernel) (by decide +kernel)
set_option maxRecDepth 20000 in
theorem gX2_soundsAt_X2_holesAt : GoodIn wsX2_soundsAt (wsV RX2 45 RX2 yX2_holesAt wsX2_holesAt) := goodIn_app (goodIn_of _ (by decide +kernel)) ggX2_soundsAt_X2_holesAt
set_option maxRecDepth 20000 in
theorem ggX2_soundsAt_X6_isIn : GoodIn wsX2_soundsAt wsX6_isIn := goodIn_r _ [10] (by decide +kernel) (by decide +kernel)
set_option maxRecDepth 20000 in
theorem gX2_soundsAt_X6_isIn_n48 : GoodIn wsX2_soundsAt (wsX6_isIn) := ggX2_soundsAt_X6_isIn
theorem dX2_soundsAt_0 : decode cX2_soundsAt 0 = .ok (.aload_n 0, 1) := by decide +kernel
theorem dX2_soundsAt_1 : decode cX2_soundsAt 1 = .ok (.iload_n 1, 1) := by decide +kernel
theorem dX2_soundsAt_2 : decode cX2_soundsAt 2 = .ok (.invokevirtual 45, 3) := by decide +kernel
theorem dX2_soundsAt_5 : decode cX2_soundsAt 5 = .ok (.iload_n 2, 1) := by decide +kernel
theorem dX2_soundsAt_6 : decode cX2_soundsAt 6 = .ok (.invokestatic 48, 3) := by decide +kernel
theorem dX2_soundsAt_9 : decode cX2_soundsAt 9 = .ok (.ireturn, 1) := by decide +kernel
theorem dX2_put_0 : decode cX2_put 0 = .ok (.iload_n 1, 1) := by decide +kernel
theorem dX2_put_1 : decode cX2_put 1 = .ok (.ifCond .lt 19, 3) := by decide +kernel
theorem dX2_put_4 : decode cX2_put 4 = .ok (.iload_n 1, 1) := by decide +kernel
theorem dX2_put_5 : decode cX2_put 5 = .ok (.aload_n 0, 1) := by decide +kernel
theorem dX2_put_6 : decode cX2_put 6 = .ok (.getfield 18, 3) := by decide +kernel
theorem dX2_put_9 : decode cX2_put 9 = .ok (.arraylength, 1) := by decide +kernel
theorem dX2_put_10 : decode cX2_put 10 = .ok (.if_icmp .ge 10, 3) := by decide +kernel
theorem dX2_put_13 : decode cX2_put 13 = .ok (.aload_n 0, 1) := by decide +kernel
theorem dX2_put_14 : decode cX2_put 14 = .ok (.getfield 18, 3) := by decide +kernel
theorem dX2_put_17 : decode cX2_put 17 = .ok (.iload_n 1, 1) := by decide +kernel
theorem dX2_put_18 : decode cX2_put 18 = .ok (.iload_n 2, 1) := by decide +kernel
theorem dX2_put_19 : decode cX2_put 19 = .ok (.iastore, 1) := by decide +kernel
theorem dX2_put_20 : decode cX2_put 20 = .ok (.return_, 1) := by decide +kernel
theorem dX2_tune_0 : decode cX2_tune 0 = .ok (.iload_n 1, 1) := by decide +kernel
theorem dX2_tune_1 : decode cX2_tune 1 = .ok (.ifCond .lt 22, 3) := by decide +kernel
theorem dX2_tune_4 : decode cX2_tune 4 = .ok (.iload_n 1, 1) := by decide +kernel
theorem dX2_tune_5 : decode cX2_tune 5 = .ok (.aload_n 0, 1) := by decide +kernel
theorem dX2_tune_6 : decode cX2_tune 6 = .ok (.getfield 9, 3) := by decide +kernel
theorem dX2_tune_9 : decode cX2_tune 9 = .ok (.arraylength, 1) := by decide +kernel
theorem dX2_tune_10 : decode cX2_tune 10 = .ok (.if_icmp .ge 13, 3) := by decide +kernel
theorem dX2_tune_13 : decode cX2_tune 13 = .ok (.iload_n 2, 1) := by decide +kernel
theorem dX2_tune_14 : decode cX2_tune 14 = .ok (.ifCond .lt 9, 3) := by decide +kernel
theorem dX2_tune_17 : decode cX2_tune 17 = .ok (.iload_n 2, 1) := by decide +kernel
theorem dX2_tune_18 : decode cX2_tune 18 = .ok (.bipush 48, 2) := by decide +kernel
theorem dX2_tune_20 : decode cX2_tune 20 = .ok (.if_icmp .lt 6, 3) := by decide +kernel
theorem dX2_tune_23 : decode cX2_tune 23 = .ok (.ldc 52, 2) := by decide +kernel
theorem dX2_tune_25 : decode cX2_tune 25 = .ok (.ireturn, 1) := by decide +kernel
theorem dX2_tune_26 : decode cX2_tune 26 = .ok (.aload_n 0, 1) := by decide +kernel
theorem dX2_tune_27 : decode cX2_tune 27 = .ok (.getfield 9, 3) := by decide +kernel
theorem dX2_tune_30 : decode cX2_tune 30 = .ok (.iload_n 1, 1) := by decide +kernel
theorem dX2_tune_31 : decode cX2_tune 31 = .ok (.iaload, 1) := by decide +kernel
theorem dX2_tune_32 : decode cX2_tune 32 = .ok (.istore_n 3, 1) := by decide +kernel
theorem dX2_tune_33 : decode cX2_tune 33 = .ok (.aload_n 0, 1) := by decide +kernel
theorem dX2_tune_34 : decode cX2_tune 34 = .ok (.getfield 9, 3) := by decide +kernel
theorem dX2_tune_37 : decode cX2_tune 37 = .ok (.iload_n 1, 1) := by decide +kernel
theorem dX2_tune_38 : decode cX2_tune 38 = .ok (.iload_n 2, 1) := by decide +kernel
theorem dX2_tune_39 : decode cX2_tune 39 = .ok (.iastore, 1) := by decide +kernel
theorem dX2_tune_40 : decode cX2_tune 40 = .ok (.iload_n 3, 1) := by decide +kernel
theorem dX2_tune_41 : decode cX2_tune 41 = .ok (.ireturn, 1) := by decide +kernel
theorem dX2_dye_0 : decode cX2_dye 0 = .ok (.iload_n 1, 1) := by decide +kernel
theorem dX2_dye_1 : decode cX2_dye 1 = .ok (.ifCond .lt 21, 3) := by decide +kernel
theorem dX2_dye_4 : decode cX2_dye 4 = .ok (.iload_n 1, 1) := by decide +kernel
theorem dX2_dye_5 : decode cX2_dye 5 = .ok (.aload_n 0, 1) := by decide +kernel
theorem dX2_dye_6 : decode cX2_dye 6 = .ok (.getfield 15, 3) := by decide +kernel
theorem dX2_dye_9 : decode cX2_dye 9 = .ok (.arraylength, 1) := by decide +kernel
theorem dX2_dye_10 : decode cX2_dye 10 = .ok (.if_icmp .ge 12, 3) := by decide +kernel
theorem dX2_dye_13 : decode cX2_dye 13 = .ok (.iload_n 2, 1) := by decide +kernel
theorem dX2_dye_14 : decode cX2_dye 14 = .ok (.ifCond .lt 8, 3) := by decide +kernel
theorem dX2_dye_17 : decode cX2_dye 17 = .ok (.iload_n 2, 1) := by decide +kernel
theorem dX2_dye_18 : decode cX2_dye 18 = .ok (.iconst 4, 1) := by decide +kernel
theorem dX2_dye_19 : decode cX2_dye 19 = .ok (.if_icmp .lt 6, 3) := by decide +kernel
theorem dX2_dye_22 : decode cX2_dye 22 = .ok (.ldc 52, 2) := by decide +kernel
theorem dX2_dye_24 : decode cX2_dye 24 = .ok (.ireturn, 1) := by decide +kernel
theorem dX2_dye_25 : decode cX2_dye 25 = .ok (.aload_n 0, 1) := by decide +kernel
theorem dX2_dye_26 : decode cX2_dye 26 = .ok (.getfield 15, 3) := by decide +kernel
theorem dX2_dye_29 : decode cX2_dye 29 = .ok (.iload_n 1, 1) := by decide +kernel
theorem dX2_dye_30 : decode cX2_dye 30 = .ok (.iaload, 1) := by decide +kernel
theorem dX2_dye_31 : decode cX2_dye 31 = .ok (.istore_n 3, 1) := by decide +kernel
theorem dX2_dye_32 : decode cX2_dye 32 = .ok (.aload_n 0, 1) := by decide +kernel
theorem dX2_dye_33 : decode cX2_dye 33 = .ok (.getfield 15, 3) := by decide +kernel
theorem dX2_dye_36 : decode cX2_dye 36 = .ok (.iload_n 1, 1) := by decide +kernel
theorem dX2_dye_37 : decode cX2_dye 37 = .ok (.iload_n 2, 1) := by decide +kernel
theorem dX2_dye_38 : decode cX2_dye 38 = .ok (.iastore, 1) := by decide +kernel
theorem dX2_dye_39 : decode cX2_dye 39 = .ok (.iload_n 3, 1) := by decide +kernel
theorem dX2_dye_40 : decode cX2_dye 40 = .ok (.ireturn, 1) := by decide +kernel
set_option maxRecDepth 20000 in
theorem ggX2_offer_X2_answerTo : GoodIn wsX2_offer wsX2_answerTo := goodIn_r _ [5, 6, 7, 8, 9, 10, 11, 12, 4, 13, 14, 15, 16, 17, 18, 19, 20, 21, 22, 23, 24, 25, 26, 27, 28, 29, 30, 31, 32, 33, 34, 35, 36, 37, 38, 39, 40, 54, 55, 56, 57, 58, 59, 60, 61] (by decide +kernel) (by decide +kernel)
set_option maxRecDepth 20000 in
theorem gX2_offer_X2_answerTo : GoodIn wsX2_offer (wsV RX2 53 RX2 yX2_answerTo wsX2_answerTo) := goodIn_app (goodIn_of _ (by decide +kernel)) ggX2_offer_X2_answerTo
set_option maxRecDepth 20000 in
theorem ggX2_offer_X2_take : GoodIn wsX2_offer wsX2_take := goodIn_r _ [44, 14, 8, 9, 45, 46, 47, 4, 48, 40, 54, 55, 56, 57, 58, 59, 60, 61] (by decide +kernel) (by decide +kernel)
set_option maxRecDepth 20000 in
theorem gX2_offer_X2_take : GoodIn wsX2_offer (wsV RX2 56 RX2 yX2_take wsX2_take) := goodIn_app (goodIn_of _ (by decide +kernel)) ggX2_offer_X2_take
set_option maxRecDepth 20000 in
theorem ggX2_offer_X2_refuse : GoodIn wsX2_offer wsX2_refuse := goodIn_r _ [52, 53, 8, 9, 54, 55, 56, 57, 58, 59, 60, 61] (by decide +kernel) (by decide +kernel)
set_option maxRecDepth 20000 in
theorem gX2_offer_X2_refuse : GoodIn wsX2_offer (wsV RX2 60 RX2 yX2_refuse wsX2_refuse) := goodIn_app (goodIn_of _ (by decide +kernel)) ggX2_offer_X2_refuse
theorem dX2_offer_0 : decode cX2_offer 0 = .ok (.aload_n 0, 1) := by decide +kernel
theorem dX2_offer_1 : decode cX2_offer 1 = .ok (.iload_n 1, 1) := by decide +kernel
theorem dX2_offer_2 : decode cX2_offer 2 = .ok (.invokevirtual 53, 3) := by decide +kernel
theorem dX2_offer_5 : decode cX2_offer 5 = .ok (.istore_n 2, 1) := by decide +kernel
theorem dX2_offer_6 : decode cX2_offer 6 = .ok (.iload_n 2, 1) := by decide +kernel
theorem dX2_offer_7 : decode cX2_offer 7 = .ok (.ifCond .ne 11, 3) := by decide +kernel
theorem dX2_offer_10 : decode cX2_offer 10 = .ok (.aload_n 0, 1) := by decide +kernel
theorem dX2_offer_11 : decode cX2_offer 11 = .ok (.iload_n 1, 1) := by decide +kernel
theorem dX2_offer_12 : decode cX2_offer 12 = .ok (.invokevirtual 56, 3) := by decide +kernel
theorem dX2_offer_15 : decode cX2_offer 15 = .ok (.goto 30, 3) := by decide +kernel
theorem dX2_offer_18 : decode cX2_offer 18 = .ok (.iload_n 2, 1) := by decide +kernel
theorem dX2_offer_19 : decode cX2_offer 19 = .ok (.bipush 10, 2) := by decide +kernel
theorem dX2_offer_21 : decode cX2_offer 21 = .ok (.if_icmp .le 15, 3) := by decide +kernel
theorem dX2_offer_24 : decode cX2_offer 24 = .ok (.aload_n 0, 1) := by decide +kernel
theorem dX2_offer_25 : decode cX2_offer 25 = .ok (.iload_n 1, 1) := by decide +kernel
theorem dX2_offer_26 : decode cX2_offer 26 = .ok (.sipush 256, 3) := by decide +kernel
theorem dX2_offer_29 : decode cX2_offer 29 = .ok (.iadd, 1) := by decide +kernel
theorem dX2_offer_30 : decode cX2_offer 30 = .ok (.invokevirtual 56, 3) := by decide +kernel
theorem dX2_offer_33 : decode cX2_offer 33 = .ok (.goto 12, 3) := by decide +kernel
theorem dX2_offer_36 : decode cX2_offer 36 = .ok (.iload_n 2, 1) := by decide +kernel
theorem dX2_offer_37 : decode cX2_offer 37 = .ok (.ifCond .le 8, 3) := by decide +kernel
theorem dX2_offer_40 : decode cX2_offer 40 = .ok (.aload_n 0, 1) := by decide +kernel
theorem dX2_offer_41 : decode cX2_offer 41 = .ok (.iload_n 1, 1) := by decide +kernel
theorem dX2_offer_42 : decode cX2_offer 42 = .ok (.invokevirtual 60, 3) := by decide +kernel
theorem dX2_offer_45 : decode cX2_offer 45 = .ok (.iload_n 2, 1) := by decide +kernel
theorem dX2_offer_46 : decode cX2_offer 46 = .ok (.ireturn, 1) := by decide +kernel
set_option maxRecDepth 20000 in
theorem ggX2_take_X2_put : GoodIn wsX2_take wsX2_put := goodIn_r _ [8, 9, 10, 11, 12, 13, 14, 15, 16, 17] (by decide +kernel) (by decide +kernel)
set_option maxRecDepth 20000 in
theorem gX2_take_X2_put : GoodIn wsX2_take (wsV RX2 63 RX2 yX2_put wsX2_put) := goodIn_app (goodIn_of _ (by decide +kernel)) ggX2_take_X2_put
theorem dX2_take_0 : decode cX2_take 0 = .ok (.aload_n 0, 1) := by decide +kernel
theorem dX2_take_1 : decode cX2_take 1 = .ok (.aload_n 0, 1) := by decide +kernel
theorem dX2_take_2 : decode cX2_take 2 = .ok (.getfield 24, 3) := by decide +kernel
theorem dX2_take_5 : decode cX2_take 5 = .ok (.iload_n 1, 1) := by decide +kernel
theorem dX2_take_6 : decode cX2_take 6 = .ok (.invokevirtual 63, 3) := by decide +kernel
theorem dX2_take_9 : decode cX2_take 9 = .ok (.aload_n 0, 1) := by decide +kernel
theorem dX2_take_10 : decode cX2_take 10 = .ok (.dup, 1) := by decide +kernel
theorem dX2_take_11 : decode cX2_take 11 = .ok (.getfield 24, 3) := by decide +kernel
theorem dX2_take_14 : decode cX2_take 14 = .ok (.iconst 1, 1) := by decide +kernel
theorem dX2_take_15 : decode cX2_take 15 = .ok (.iadd, 1) := by decide +kernel
theorem dX2_take_16 : decode cX2_take 16 = .ok (.putfield 24, 3) := by decide +kernel
theorem dX2_take_19 : decode cX2_take 19 = .ok (.aload_n 0, 1) := by decide +kernel
theorem dX2_take_20 : decode cX2_take 20 = .ok (.iconst (-1), 1) := by decide +kernel
theorem dX2_take_21 : decode cX2_take 21 = .ok (.putfield 31, 3) := by decide +kernel
theorem dX2_take_24 : decode cX2_take 24 = .ok (.aload_n 0, 1) := by decide +kernel
theorem dX2_take_25 : decode cX2_take 25 = .ok (.iconst 0, 1) := by decide +kernel
theorem dX2_take_26 : decode cX2_take 26 = .ok (.putfield 34, 3) := by decide +kernel
theorem dX2_take_29 : decode cX2_take 29 = .ok (.return_, 1) := by decide +kernel
theorem dX2_refuse_0 : decode cX2_refuse 0 = .ok (.aload_n 0, 1) := by decide +kernel
theorem dX2_refuse_1 : decode cX2_refuse 1 = .ok (.dup, 1) := by decide +kernel
theorem dX2_refuse_2 : decode cX2_refuse 2 = .ok (.getfield 28, 3) := by decide +kernel
theorem dX2_refuse_5 : decode cX2_refuse 5 = .ok (.iconst 1, 1) := by decide +kernel
theorem dX2_refuse_6 : decode cX2_refuse 6 = .ok (.iadd, 1) := by decide +kernel
theorem dX2_refuse_7 : decode cX2_refuse 7 = .ok (.putfield 28, 3) := by decide +kernel
theorem dX2_refuse_10 : decode cX2_refuse 10 = .ok (.aload_n 0, 1) := by decide +kernel
theorem dX2_refuse_11 : decode cX2_refuse 11 = .ok (.aload_n 0, 1) := by decide +kernel
theorem dX2_refuse_12 : decode cX2_refuse 12 = .ok (.getfield 31, 3) := by decide +kernel
theorem dX2_refuse_15 : decode cX2_refuse 15 = .ok (.iload_n 1, 1) := by decide +kernel
theorem dX2_refuse_16 : decode cX2_refuse 16 = .ok (.if_icmp .ne 12, 3) := by decide +kernel
theorem dX2_refuse_19 : decode cX2_refuse 19 = .ok (.aload_n 0, 1) := by decide +kernel
theorem dX2_refuse_20 : decode cX2_refuse 20 = .ok (.getfield 34, 3) := by decide +kernel
theorem dX2_refuse_23 : decode cX2_refuse 23 = .ok (.iconst 1, 1) := by decide +kernel
theorem dX2_refuse_24 : decode cX2_refuse 24 = .ok (.iadd, 1) := by decide +kernel
theorem dX2_refuse_25 : decode cX2_refuse 25 = .ok (.goto 4, 3) := by decide +kernel
theorem dX2_refuse_28 : decode cX2_refuse 28 = .ok (.iconst 1, 1) := by decide +kernel
theorem dX2_refuse_29 : decode cX2_refuse 29 = .ok (.putfield 34, 3) := by decide +kernel
theorem dX2_refuse_32 : decode cX2_refuse 32 = .ok (.aload_n 0, 1) := by decide +kernel
theorem dX2_refuse_33 : decode cX2_refuse 33 = .ok (.iload_n 1, 1) := by decide +kernel
theorem dX2_refuse_34 : decode cX2_refuse 34 = .ok (.putfield 31, 3) := by decide +kernel
theorem dX2_refuse_37 : decode cX2_refuse 37 = .ok (.return_, 1) := by decide +kernel
set_option maxRecDepth 20000 in
theorem ggX2_tearOut_X2_hasCard : GoodIn wsX2_tearOut wsX2_hasCard := goodIn_r _ [7, 2, 21, 22, 23, 24, 25, 26, 27, 28] (by decide +kernel) (by decide +kernel)
set_option maxRecDepth 20000 in
theorem gX2_tearOut_X2_hasCard : GoodIn wsX2_tearOut (wsV RX2 67 RX2 yX2_hasCard wsX2_hasCard) := goodIn_app (goodIn_of _ (by decide +kernel)) ggX2_tearOut_X2_hasCard
set_option maxRecDepth 20000 in
theorem ggX2_tearOut_X2_holesAt : GoodIn wsX2_tearOut wsX2_holesAt := goodIn_r _ [11, 2, 12, 21, 22, 23, 24, 25, 26, 27, 28] (by decide +kernel) (by decide +kernel)
set_option maxRecDepth 20000 in
theorem gX2_tearOut_X2_holesAt : GoodIn wsX2_tearOut (wsV RX2 45 RX2 yX2_holesAt wsX2_holesAt) := goodIn_app (goodIn_of _ (by decide +kernel)) ggX2_tearOut_X2_holesAt
set_option maxRecDepth 20000 in
theorem ggX2_tearOut_X2_cardAt : GoodIn wsX2_tearOut wsX2_cardAt := goodIn_r _ [16, 2, 12, 21, 22, 23, 24, 25, 26, 27, 28] (by decide +kernel) (by decide +kernel)
set_option maxRecDepth 20000 in
theorem gX2_tearOut_X2_cardAt : GoodIn wsX2_tearOut (wsV RX2 41 RX2 yX2_cardAt wsX2_cardAt) := goodIn_app (goodIn_of _ (by decide +kernel)) ggX2_tearOut_X2_cardAt
set_option maxRecDepth 20000 in
theorem ggX2_tearOut_X2_put : GoodIn wsX2_tearOut wsX2_put := goodIn_r _ [20, 12, 21, 22, 23, 24, 25, 26, 27, 28] (by decide +kernel) (by decide +kernel)
set_option maxRecDepth 20000 in
theorem gX2_tearOut_X2_put : GoodIn wsX2_tearOut (wsV RX2 63 RX2 yX2_put wsX2_put) := goodIn_app (goodIn_of _ (by decide +kernel)) ggX2_tearOut_X2_put
theorem dX2_tearOut_0 : decode cX2_tearOut 0 = .ok (.aload_n 0, 1) := by decide +kernel
theorem dX2_tearOut_1 : decode cX2_tearOut 1 = .ok (.iload_n 1, 1) := by decide +kernel
theorem dX2_tearOut_2 : decode cX2_tearOut 2 = .ok (.invokevirtual 67, 3) := by decide +kernel
theorem dX2_tearOut_5 : decode cX2_tearOut 5 = .ok (.ifCond .ne 6, 3) := by decide +kernel
theorem dX2_tearOut_8 : decode cX2_tearOut 8 = .ok (.ldc 52, 2) := by decide +kernel
theorem dX2_tearOut_10 : decode cX2_tearOut 10 = .ok (.ireturn, 1) := by decide +kernel
theorem dX2_tearOut_11 : decode cX2_tearOut 11 = .ok (.aload_n 0, 1) := by decide +kernel
theorem dX2_tearOut_12 : decode cX2_tearOut 12 = .ok (.iload_n 1, 1) := by decide +kernel
theorem dX2_tearOut_13 : decode cX2_tearOut 13 = .ok (.invokevirtual 45, 3) := by decide +kernel
theorem dX2_tearOut_16 : decode cX2_tearOut 16 = .ok (.istore_n 2, 1) := by decide +kernel
theorem dX2_tearOut_17 : decode cX2_tearOut 17 = .ok (.iload_n 1, 1) := by decide +kernel
theorem dX2_tearOut_18 : decode cX2_tearOut 18 = .ok (.istore_n 3, 1) := by decide +kernel
theorem dX2_tearOut_19 : decode cX2_tearOut 19 = .ok (.iload_n 3, 1) := by decide +kernel
theorem dX2_tearOut_20 : decode cX2_tearOut 20 = .ok (.aload_n 0, 1) := by decide +kernel
theorem dX2_tearOut_21 : decode cX2_tearOut 21 = .ok (.getfield 24, 3) := by decide +kernel
theorem dX2_tearOut_24 : decode cX2_tearOut 24 = .ok (.iconst 1, 1) := by decide +kernel
theorem dX2_tearOut_25 : decode cX2_tearOut 25 = .ok (.isub, 1) := by decide +kernel
theorem dX2_tearOut_26 : decode cX2_tearOut 26 = .ok (.if_icmp .ge 21, 3) := by decide +kernel
theorem dX2_tearOut_29 : decode cX2_tearOut 29 = .ok (.aload_n 0, 1) := by decide +kernel
theorem dX2_tearOut_30 : decode cX2_tearOut 30 = .ok (.iload_n 3, 1) := by decide +kernel
theorem dX2_tearOut_31 : decode cX2_tearOut 31 = .ok (.aload_n 0, 1) := by decide +kernel
theorem dX2_tearOut_32 : decode cX2_tearOut 32 = .ok (.iload_n 3, 1) := by decide +kernel
theorem dX2_tearOut_33 : decode cX2_tearOut 33 = .ok (.iconst 1, 1) := by decide +kernel
theorem dX2_tearOut_34 : decode cX2_tearOut 34 = .ok (.iadd, 1) := by decide +kernel
theorem dX2_tearOut_35 : decode cX2_tearOut 35 = .ok (.invokevirtual 41, 3) := by decide +kernel
theorem dX2_tearOut_38 : decode cX2_tearOut 38 = .ok (.invokevirtual 63, 3) := by decide +kernel
theorem dX2_tearOut_41 : decode cX2_tearOut 41 = .ok (.iinc 3 1, 3) := by decide +kernel
theorem dX2_tearOut_44 : decode cX2_tearOut 44 = .ok (.goto (-25), 3) := by decide +kernel
theorem dX2_tearOut_47 : decode cX2_tearOut 47 = .ok (.aload_n 0, 1) := by decide +kernel
theorem dX2_tearOut_48 : decode cX2_tearOut 48 = .ok (.dup, 1) := by decide +kernel
theorem dX2_tearOut_49 : decode cX2_tearOut 49 = .ok (.getfield 24, 3) := by decide +kernel
theorem dX2_tearOut_52 : decode cX2_tearOut 52 = .ok (.iconst 1, 1) := by decide +kernel
theorem dX2_tearOut_53 : decode cX2_tearOut 53 = .ok (.isub, 1) := by decide +kernel
theorem dX2_tearOut_54 : decode cX2_tearOut 54 = .ok (.putfield 24, 3) := by decide +kernel
theorem dX2_tearOut_57 : decode cX2_tearOut 57 = .ok (.iload_n 2, 1) := by decide +kernel
theorem dX2_tearOut_58 : decode cX2_tearOut 58 = .ok (.ireturn, 1) := by decide +kernel
set_option maxRecDepth 20000 in
theorem ggX2_exchange_X2_hasCard : GoodIn wsX2_exchange wsX2_hasCard := goodIn_r _ [6, 7, 25, 26, 27, 28, 29, 30, 31, 32] (by decide +kernel) (by decide +kernel)
set_option maxRecDepth 20000 in
theorem gX2_exchange_X2_hasCard : GoodIn wsX2_exchange (wsV RX2 67 RX2 yX2_hasCard wsX2_hasCard) := goodIn_app (goodIn_of _ (by decide +kernel)) ggX2_exchange_X2_hasCard
set_option maxRecDepth 20000 in
theorem ggX2_exchange_X2_exchangeCards : GoodIn wsX2_exchange wsX2_exchangeCards := goodIn_r _ [11, 12, 13, 14, 5, 15, 7, 16, 17, 18, 19, 20, 25, 26, 27, 28, 29, 30, 31, 32] (by decide +kernel) (by decide +kernel)
set_option maxRecDepth 20000 in
theorem gX2_exchange_X2_exchangeCards : GoodIn wsX2_exchange (wsV RX2 71 RX2 yX2_exchangeCards wsX2_exchangeCards) := goodIn_app (goodIn_of _ (by decide +kernel)) ggX2_exchange_X2_exchangeCards
set_option maxRecDepth 20000 in
theorem ggX2_exchange_X2_holesAt : GoodIn wsX2_exchange wsX2_holesAt := goodIn_r _ [24, 7, 16, 25, 26, 27, 28, 29, 30, 31, 32] (by decide +kernel) (by decide +kernel)
set_option maxRecDepth 20000 in
theorem gX2_exchange_X2_holesAt : GoodIn wsX2_exchange (wsV RX2 45 RX2 yX2_holesAt wsX2_holesAt) := goodIn_app (goodIn_of _ (by decide +kernel)) ggX2_exchange_X2_holesAt
theorem dX2_exchange_0 : decode cX2_exchange 0 = .ok (.aload_n 0, 1) := by decide +kernel
theorem dX2_exchange_1 : decode cX2_exchange 1 = .ok (.iload_n 1, 1) := by decide +kernel
theorem dX2_exchange_2 : decode cX2_exchange 2 = .ok (.invokevirtual 67, 3) := by decide +kernel
theorem dX2_exchange_5 : decode cX2_exchange 5 = .ok (.ifCond .eq 16, 3) := by decide +kernel
theorem dX2_exchange_8 : decode cX2_exchange 8 = .ok (.aload_n 0, 1) := by decide +kernel
theorem dX2_exchange_9 : decode cX2_exchange 9 = .ok (.iload_n 2, 1) := by decide +kernel
theorem dX2_exchange_10 : decode cX2_exchange 10 = .ok (.invokevirtual 67, 3) := by decide +kernel
theorem dX2_exchange_13 : decode cX2_exchange 13 = .ok (.ifCond .eq 8, 3) := by decide +kernel
theorem dX2_exchange_16 : decode cX2_exchange 16 = .ok (.iload_n 1, 1) := by decide +kernel
theorem dX2_exchange_17 : decode cX2_exchange 17 = .ok (.iload_n 2, 1) := by decide +kernel
theorem dX2_exchange_18 : decode cX2_exchange 18 = .ok (.if_icmp .ne 6, 3) := by decide +kernel
theorem dX2_exchange_21 : decode cX2_exchange 21 = .ok (.ldc 52, 2) := by decide +kernel
theorem dX2_exchange_23 : decode cX2_exchange 23 = .ok (.ireturn, 1) := by decide +kernel
theorem dX2_exchange_24 : decode cX2_exchange 24 = .ok (.aload_n 0, 1) := by decide +kernel
theorem dX2_exchange_25 : decode cX2_exchange 25 = .ok (.iload_n 1, 1) := by decide +kernel
theorem dX2_exchange_26 : decode cX2_exchange 26 = .ok (.iload_n 2, 1) := by decide +kernel
theorem dX2_exchange_27 : decode cX2_exchange 27 = .ok (.invokevirtual 71, 3) := by decide +kernel
theorem dX2_exchange_30 : decode cX2_exchange 30 = .ok (.aload_n 0, 1) := by decide +kernel
theorem dX2_exchange_31 : decode cX2_exchange 31 = .ok (.iload_n 1, 1) := by decide +kernel
theorem dX2_exchange_32 : decode cX2_exchange 32 = .ok (.invokevirtual 45, 3) := by decide +kernel
theorem dX2_exchange_35 : decode cX2_exchange 35 = .ok (.ireturn, 1) := by decide +kernel
set_option maxRecDepth 20000 in
theorem ggX2_exchangeCards_X2_cardAt : GoodIn wsX2_exchangeCards wsX2_cardAt := goodIn_r _ [5, 6, 7, 12, 13, 14, 15, 16, 17, 18, 19] (by decide +kernel) (by decide +kernel)
set_option maxRecDepth 20000 in
theorem gX2_exchangeCards_X2_cardAt : GoodIn wsX2_exchangeCards (wsV RX2 41 RX2 yX2_cardAt wsX2_cardAt) := goodIn_app (goodIn_of _ (by decide +kernel)) ggX2_exchangeCards_X2_cardAt
set_option maxRecDepth 20000 in
theorem ggX2_exchangeCards_X2_put : GoodIn wsX2_exchangeCards wsX2_put := goodIn_r _ [11, 7, 12, 13, 14, 15, 16, 17, 18, 19] (by decide +kernel) (by decide +kernel)
set_option maxRecDepth 20000 in
theorem gX2_exchangeCards_X2_put : GoodIn wsX2_exchangeCards (wsV RX2 63 RX2 yX2_put wsX2_put) := goodIn_app (goodIn_of _ (by decide +kernel)) ggX2_exchangeCards_X2_put
theorem dX2_exchangeCards_0 : decode cX2_exchangeCards 0 = .ok (.aload_n 0, 1) := by decide +kernel
theorem dX2_exchangeCards_1 : decode cX2_exchangeCards 1 = .ok (.iload_n 1, 1) := by decide +kernel
theorem dX2_exchangeCards_2 : decode cX2_exchangeCards 2 = .ok (.invokevirtual 41, 3) := by decide +kernel
theorem dX2_exchangeCards_5 : decode cX2_exchangeCards 5 = .ok (.istore_n 3, 1) := by decide +kernel
theorem dX2_exchangeCards_6 : decode cX2_exchangeCards 6 = .ok (.aload_n 0, 1) := by decide +kernel
theorem dX2_exchangeCards_7 : decode cX2_exchangeCards 7 = .ok (.iload_n 1, 1) := by decide +kernel
theorem dX2_exchangeCards_8 : decode cX2_exchangeCards 8 = .ok (.aload_n 0, 1) := by decide +kernel
theorem dX2_exchangeCards_9 : decode cX2_exchangeCards 9 = .ok (.iload_n 2, 1) := by decide +kernel
theorem dX2_exchangeCards_10 : decode cX2_exchangeCards 10 = .ok (.invokevirtual 41, 3) := by decide +kernel
theorem dX2_exchangeCards_13 : decode cX2_exchangeCards 13 = .ok (.invokevirtual 63, 3) := by decide +kernel
theorem dX2_exchangeCards_16 : decode cX2_exchangeCards 16 = .ok (.aload_n 0, 1) := by decide +kernel
theorem dX2_exchangeCards_17 : decode cX2_exchangeCards 17 = .ok (.iload_n 2, 1) := by decide +kernel
theorem dX2_exchangeCards_18 : decode cX2_exchangeCards 18 = .ok (.iload_n 3, 1) := by decide +kernel
theorem dX2_exchangeCards_19 : decode cX2_exchangeCards 19 = .ok (.invokevirtual 63, 3) := by decide +kernel
theorem dX2_exchangeCards_22 : decode cX2_exchangeCards 22 = .ok (.return_, 1) := by decide +kernel
set_option maxRecDepth 20000 in
theorem ggX2_reverse_X2_exchangeCards : GoodIn wsX2_reverse wsX2_exchangeCards := goodIn_r _ [7, 8, 9, 10, 6, 11, 1, 12, 13, 14, 15, 16, 17, 18, 19, 20, 21, 22, 23, 24] (by decide +kernel) (by decide +kernel)
set_option maxRecDepth 20000 in
theorem gX2_reverse_X2_exchangeCards : GoodIn wsX2_reverse (wsV RX2 71 RX2 yX2_exchangeCards wsX2_exchangeCards) := goodIn_app (goodIn_of _ (by decide +kernel)) ggX2_reverse_X2_exchangeCards
theorem dX2_reverse_0 : decode cX2_reverse 0 = .ok (.aload_n 0, 1) := by decide +kernel
theorem dX2_reverse_1 : decode cX2_reverse 1 = .ok (.getfield 24, 3) := by decide +kernel
theorem dX2_reverse_4 : decode cX2_reverse 4 = .ok (.iconst 2, 1) := by decide +kernel
theorem dX2_reverse_5 : decode cX2_reverse 5 = .ok (.if_icmp .ge 6, 3) := by decide +kernel
theorem dX2_reverse_8 : decode cX2_reverse 8 = .ok (.ldc 74, 2) := by decide +kernel
theorem dX2_reverse_10 : decode cX2_reverse 10 = .ok (.ireturn, 1) := by decide +kernel
theorem dX2_reverse_11 : decode cX2_reverse 11 = .ok (.iconst 0, 1) := by decide +kernel
theorem dX2_reverse_12 : decode cX2_reverse 12 = .ok (.istore_n 1, 1) := by decide +kernel
theorem dX2_reverse_13 : decode cX2_reverse 13 = .ok (.iload_n 1, 1) := by decide +kernel
theorem dX2_reverse_14 : decode cX2_reverse 14 = .ok (.aload_n 0, 1) := by decide +kernel
theorem dX2_reverse_15 : decode cX2_reverse 15 = .ok (.getfield 24, 3) := by decide +kernel
theorem dX2_reverse_18 : decode cX2_reverse 18 = .ok (.iconst 2, 1) := by decide +kernel
theorem dX2_reverse_19 : decode cX2_reverse 19 = .ok (.idiv, 1) := by decide +kernel
theorem dX2_reverse_20 : decode cX2_reverse 20 = .ok (.if_icmp .ge 22, 3) := by decide +kernel
theorem dX2_reverse_23 : decode cX2_reverse 23 = .ok (.aload_n 0, 1) := by decide +kernel
theorem dX2_reverse_24 : decode cX2_reverse 24 = .ok (.iload_n 1, 1) := by decide +kernel
theorem dX2_reverse_25 : decode cX2_reverse 25 = .ok (.aload_n 0, 1) := by decide +kernel
theorem dX2_reverse_26 : decode cX2_reverse 26 = .ok (.getfield 24, 3) := by decide +kernel
theorem dX2_reverse_29 : decode cX2_reverse 29 = .ok (.iconst 1, 1) := by decide +kernel
theorem dX2_reverse_30 : decode cX2_reverse 30 = .ok (.isub, 1) := by decide +kernel
theorem dX2_reverse_31 : decode cX2_reverse 31 = .ok (.iload_n 1, 1) := by decide +kernel
theorem dX2_reverse_32 : decode cX2_reverse 32 = .ok (.isub, 1) := by decide +kernel
theorem dX2_reverse_33 : decode cX2_reverse 33 = .ok (.invokevirtual 71, 3) := by decide +kernel
theorem dX2_reverse_36 : decode cX2_reverse 36 = .ok (.iinc 1 1, 3) := by decide +kernel
theorem dX2_reverse_39 : decode cX2_reverse 39 = .ok (.goto (-26), 3) := by decide +kernel
theorem dX2_reverse_42 : decode cX2_reverse 42 = .ok (.aload_n 0, 1) := by decide +kernel
theorem dX2_reverse_43 : decode cX2_reverse 43 = .ok (.getfield 24, 3) := by decide +kernel
theorem dX2_reverse_46 : decode cX2_reverse 46 = .ok (.ireturn, 1) := by decide +kernel
set_option maxRecDepth 20000 in
theorem ggX2_flip_X2_holesAt : GoodIn wsX2_flip wsX2_holesAt := goodIn_r _ [7, 1, 8, 23, 24, 25, 26, 27, 28, 29, 30] (by decide +kernel) (by decide +kernel)
set_option maxRecDepth 20000 in
theorem gX2_flip_X2_holesAt : GoodIn wsX2_flip (wsV RX2 45 RX2 yX2_holesAt wsX2_holesAt) := goodIn_app (goodIn_of _ (by decide +kernel)) ggX2_flip_X2_holesAt
set_option maxRecDepth 20000 in
theorem ggX2_flip_X6_mirrored : GoodIn wsX2_flip wsX6_mirrored := goodIn_r _ [11, 12, 13, 10, 14] (by decide +kernel) (by decide +kernel)
set_option maxRecDepth 20000 in
theorem gX2_flip_X6_mirrored_n75 : GoodIn wsX2_flip (wsX6_mirrored) := ggX2_flip_X6_mirrored
set_option maxRecDepth 20000 in
theorem ggX2_flip_X2_cardAt : GoodIn wsX2_flip wsX2_cardAt := goodIn_r _ [18, 1, 8, 23, 24, 25, 26, 27, 28, 29, 30] (by decide +kernel) (by decide +kernel)
set_option maxRecDepth 20000 in
theorem gX2_flip_X2_cardAt : GoodIn wsX2_flip (wsV RX2 41 RX2 yX2_cardAt wsX2_cardAt) := goodIn_app (goodIn_of _ (by decide +kernel)) ggX2_flip_X2_cardAt
set_option maxRecDepth 20000 in
theorem ggX2_flip_X2_put : GoodIn wsX2_flip wsX2_put := goodIn_r _ [22, 8, 23, 24, 25, 26, 27, 28, 29, 30] (by decide +kernel) (by decide +kernel)
set_option maxRecDepth 20000 in
theorem gX2_flip_X2_put : GoodIn wsX2_flip (wsV RX2 63 RX2 yX2_put wsX2_put) := goodIn_app (goodIn_of _ (by decide +kernel)) ggX2_flip_X2_put
theorem dX2_flip_0 : decode cX2_flip 0 = .ok (.aload_n 0, 1) := by decide +kernel
theorem dX2_flip_1 : decode cX2_flip 1 = .ok (.getfield 24, 3) := by decide +kernel
theorem dX2_flip_4 : decode cX2_flip 4 = .ok (.ifCond .ne 6, 3) := by decide +kernel
theorem dX2_flip_7 : decode cX2_flip 7 = .ok (.ldc 74, 2) := by decide +kernel
theorem dX2_flip_9 : decode cX2_flip 9 = .ok (.ireturn, 1) := by decide +kernel
theorem dX2_flip_10 : decode cX2_flip 10 = .ok (.iconst 0, 1) := by decide +kernel
theorem dX2_flip_11 : decode cX2_flip 11 = .ok (.istore_n 1, 1) := by decide +kernel
theorem dX2_flip_12 : decode cX2_flip 12 = .ok (.iconst 0, 1) := by decide +kernel
theorem dX2_flip_13 : decode cX2_flip 13 = .ok (.istore_n 2, 1) := by decide +kernel
theorem dX2_flip_14 : decode cX2_flip 14 = .ok (.iload_n 2, 1) := by decide +kernel
theorem dX2_flip_15 : decode cX2_flip 15 = .ok (.aload_n 0, 1) := by decide +kernel
theorem dX2_flip_16 : decode cX2_flip 16 = .ok (.getfield 24, 3) := by decide +kernel
theorem dX2_flip_19 : decode cX2_flip 19 = .ok (.if_icmp .ge 45, 3) := by decide +kernel
theorem dX2_flip_22 : decode cX2_flip 22 = .ok (.aload_n 0, 1) := by decide +kernel
theorem dX2_flip_23 : decode cX2_flip 23 = .ok (.iload_n 2, 1) := by decide +kernel
theorem dX2_flip_24 : decode cX2_flip 24 = .ok (.invokevirtual 45, 3) := by decide +kernel
theorem dX2_flip_27 : decode cX2_flip 27 = .ok (.istore_n 3, 1) := by decide +kernel
theorem dX2_flip_28 : decode cX2_flip 28 = .ok (.iload_n 3, 1) := by decide +kernel
theorem dX2_flip_29 : decode cX2_flip 29 = .ok (.invokestatic 75, 3) := by decide +kernel
theorem dX2_flip_32 : decode cX2_flip 32 = .ok (.istore 4, 2) := by decide +kernel
theorem dX2_flip_34 : decode cX2_flip 34 = .ok (.iload 4, 2) := by decide +kernel
theorem dX2_flip_36 : decode cX2_flip 36 = .ok (.iload_n 3, 1) := by decide +kernel
theorem dX2_flip_37 : decode cX2_flip 37 = .ok (.if_icmp .eq 6, 3) := by decide +kernel
theorem dX2_flip_40 : decode cX2_flip 40 = .ok (.iinc 1 1, 3) := by decide +kernel
theorem dX2_flip_43 : decode cX2_flip 43 = .ok (.aload_n 0, 1) := by decide +kernel
theorem dX2_flip_44 : decode cX2_flip 44 = .ok (.iload_n 2, 1) := by decide +kernel
theorem dX2_flip_45 : decode cX2_flip 45 = .ok (.aload_n 0, 1) := by decide +kernel
theorem dX2_flip_46 : decode cX2_flip 46 = .ok (.iload_n 2, 1) := by decide +kernel
theorem dX2_flip_47 : decode cX2_flip 47 = .ok (.invokevirtual 41, 3) := by decide +kernel
theorem dX2_flip_50 : decode cX2_flip 50 = .ok (.iload_n 3, 1) := by decide +kernel
theorem dX2_flip_51 : decode cX2_flip 51 = .ok (.isub, 1) := by decide +kernel
theorem dX2_flip_52 : decode cX2_flip 52 = .ok (.iload 4, 2) := by decide +kernel
theorem dX2_flip_54 : decode cX2_flip 54 = .ok (.iadd, 1) := by decide +kernel
theorem dX2_flip_55 : decode cX2_flip 55 = .ok (.invokevirtual 63, 3) := by decide +kernel
theorem dX2_flip_58 : decode cX2_flip 58 = .ok (.iinc 2 1, 3) := by decide +kernel
theorem dX2_flip_61 : decode cX2_flip 61 = .ok (.goto (-47), 3) := by decide +kernel
theorem dX2_flip_64 : decode cX2_flip 64 = .ok (.iload_n 1, 1) := by decide +kernel
theorem dX2_flip_65 : decode cX2_flip 65 = .ok (.ireturn, 1) := by decide +kernel
theorem dX2_adjust_0 : decode cX2_adjust 0 = .ok (.iload_n 1, 1) := by decide +kernel
theorem dX2_adjust_1 : decode cX2_adjust 1 = .ok (.ifCond .lt 28, 3) := by decide +kernel
theorem dX2_adjust_4 : decode cX2_adjust 4 = .ok (.iload_n 1, 1) := by decide +kernel
theorem dX2_adjust_5 : decode cX2_adjust 5 = .ok (.aload_n 0, 1) := by decide +kernel
theorem dX2_adjust_6 : decode cX2_adjust 6 = .ok (.getfield 21, 3) := by decide +kernel
theorem dX2_adjust_9 : decode cX2_adjust 9 = .ok (.arraylength, 1) := by decide +kernel
theorem dX2_adjust_10 : decode cX2_adjust 10 = .ok (.if_icmp .ge 19, 3) := by decide +kernel
theorem dX2_adjust_13 : decode cX2_adjust 13 = .ok (.iload_n 1, 1) := by decide +kernel
theorem dX2_adjust_14 : decode cX2_adjust 14 = .ok (.getstatic 78, 3) := by decide +kernel
theorem dX2_adjust_17 : decode cX2_adjust 17 = .ok (.arraylength, 1) := by decide +kernel
theorem dX2_adjust_18 : decode cX2_adjust 18 = .ok (.if_icmp .ge 11, 3) := by decide +kernel
theorem dX2_adjust_21 : decode cX2_adjust 21 = .ok (.iload_n 1, 1) := by decide +kernel
theorem dX2_adjust_22 : decode cX2_adjust 22 = .ok (.getstatic 81, 3) := by decide +kernel
theorem dX2_adjust_25 : decode cX2_adjust 25 = .ok (.arraylength, 1) := by decide +kernel
theorem dX2_adjust_26 : decode cX2_adjust 26 = .ok (.if_icmp .lt 6, 3) := by decide +kernel
theorem dX2_adjust_29 : decode cX2_adjust 29 = .ok (.ldc 52, 2) := by decide +kernel
theorem dX2_adjust_31 : decode cX2_adjust 31 = .ok (.ireturn, 1) := by decide +kernel
theorem dX2_adjust_32 : decode cX2_adjust 32 = .ok (.iload_n 2, 1) := by decide +kernel
theorem dX2_adjust_33 : decode cX2_adjust 33 = .ok (.getstatic 78, 3) := by decide +kernel
theorem dX2_adjust_36 : decode cX2_adjust 36 = .ok (.iload_n 1, 1) := by decide +kernel
theorem dX2_adjust_37 : decode cX2_adjust 37 = .ok (.iaload, 1) := by decide +kernel
theorem dX2_adjust_38 : decode cX2_adjust 38 = .ok (.if_icmp .lt 12, 3) := by decide +kernel
theorem dX2_adjust_41 : decode cX2_adjust 41 = .ok (.iload_n 2, 1) := by decide +kernel
theorem dX2_adjust_42 : decode cX2_adjust 42 = .ok (.getstatic 81, 3) := by decide +kernel
theorem dX2_adjust_45 : decode cX2_adjust 45 = .ok (.iload_n 1, 1) := by decide +kernel
theorem dX2_adjust_46 : decode cX2_adjust 46 = .ok (.iaload, 1) := by decide +kernel
theorem dX2_adjust_47 : decode cX2_adjust 47 = .ok (.if_icmp .le 6, 3) := by decide +kernel
theorem dX2_adjust_50 : decode cX2_adjust 50 = .ok (.ldc 52, 2) := by decide +kernel
theorem dX2_adjust_52 : decode cX2_adjust 52 = .ok (.ireturn, 1) := by decide +kernel
theorem dX2_adjust_53 : decode cX2_adjust 53 = .ok (.aload_n 0, 1) := by decide +kernel
theorem dX2_adjust_54 : decode cX2_adjust 54 = .ok (.getfield 21, 3) := by decide +kernel
theorem dX2_adjust_57 : decode cX2_adjust 57 = .ok (.iload_n 1, 1) := by decide +kernel
theorem dX2_adjust_58 : decode cX2_adjust 58 = .ok (.iaload, 1) := by decide +kernel
theorem dX2_adjust_59 : decode cX2_adjust 59 = .ok (.istore_n 3, 1) := by decide +kernel
theorem dX2_adjust_60 : decode cX2_adjust 60 = .ok (.aload_n 0, 1) := by decide +kernel
theorem dX2_adjust_61 : decode cX2_adjust 61 = .ok (.getfield 21, 3) := by decide +kernel
theorem dX2_adjust_64 : decode cX2_adjust 64 = .ok (.iload_n 1, 1) := by decide +kernel
theorem dX2_adjust_65 : decode cX2_adjust 65 = .ok (.iload_n 2, 1) := by decide +kernel
theorem dX2_adjust_66 : decode cX2_adjust 66 = .ok (.iastore, 1) := by decide +kernel
theorem dX2_adjust_67 : decode cX2_adjust 67 = .ok (.iload_n 3, 1) := by decide +kernel
theorem dX2_adjust_68 : decode cX2_adjust 68 = .ok (.ireturn, 1) := by decide +kernel
set_option maxRecDepth 20000 in
theorem ggX2_answerTo_X2_isFull : GoodIn wsX2_answerTo wsX2_isFull := goodIn_r _ [9, 10, 37, 38, 39, 40, 41, 42, 43, 44] (by decide +kernel) (by decide +kernel)
set_option maxRecDepth 20000 in
theorem gX2_answerTo_X2_isFull : GoodIn wsX2_answerTo (wsV RX2 84 RX2 yX2_isFull wsX2_isFull) := goodIn_app (goodIn_of _ (by decide +kernel)) ggX2_answerTo_X2_isFull
set_option maxRecDepth 20000 in
theorem ggX2_answerTo_X2_reasonAgainst : GoodIn wsX2_answerTo wsX2_reasonAgainst := goodIn_r _ [14, 10, 15, 16, 17, 18, 19, 20, 21, 22, 23, 24, 8, 25, 26, 27, 28, 29, 30, 31, 32, 33, 34, 35, 36, 37, 38, 39, 40, 41, 42, 43, 44] (by decide +kernel) (by decide +kernel)
set_option maxRecDepth 20000 in
theorem gX2_answerTo_X2_reasonAgainst : GoodIn wsX2_answerTo (wsV RX2 89 RX2 yX2_reasonAgainst wsX2_reasonAgainst) := goodIn_app (goodIn_of _ (by decide +kernel)) ggX2_answerTo_X2_reasonAgainst
theorem dX2_answerTo_0 : decode cX2_answerTo 0 = .ok (.iload_n 1, 1) := by decide +kernel
theorem dX2_answerTo_1 : decode cX2_answerTo 1 = .ok (.ifCond .lt 10, 3) := by decide +kernel
theorem dX2_answerTo_4 : decode cX2_answerTo 4 = .ok (.iload_n 1, 1) := by decide +kernel
theorem dX2_answerTo_5 : decode cX2_answerTo 5 = .ok (.sipush 255, 3) := by decide +kernel
theorem dX2_answerTo_8 : decode cX2_answerTo 8 = .ok (.if_icmp .le 6, 3) := by decide +kernel
theorem dX2_answerTo_11 : decode cX2_answerTo 11 = .ok (.ldc 52, 2) := by decide +kernel
theorem dX2_answerTo_13 : decode cX2_answerTo 13 = .ok (.ireturn, 1) := by decide +kernel
theorem dX2_answerTo_14 : decode cX2_answerTo 14 = .ok (.aload_n 0, 1) := by decide +kernel
theorem dX2_answerTo_15 : decode cX2_answerTo 15 = .ok (.invokevirtual 84, 3) := by decide +kernel
theorem dX2_answerTo_18 : decode cX2_answerTo 18 = .ok (.ifCond .eq 6, 3) := by decide +kernel
theorem dX2_answerTo_21 : decode cX2_answerTo 21 = .ok (.ldc 88, 2) := by decide +kernel
theorem dX2_answerTo_23 : decode cX2_answerTo 23 = .ok (.ireturn, 1) := by decide +kernel
theorem dX2_answerTo_24 : decode cX2_answerTo 24 = .ok (.aload_n 0, 1) := by decide +kernel
theorem dX2_answerTo_25 : decode cX2_answerTo 25 = .ok (.iload_n 1, 1) := by decide +kernel
theorem dX2_answerTo_26 : decode cX2_answerTo 26 = .ok (.invokevirtual 89, 3) := by decide +kernel
theorem dX2_answerTo_29 : decode cX2_answerTo 29 = .ok (.istore_n 2, 1) := by decide +kernel
theorem dX2_answerTo_30 : decode cX2_answerTo 30 = .ok (.aload_n 0, 1) := by decide +kernel
theorem dX2_answerTo_31 : decode cX2_answerTo 31 = .ok (.getfield 31, 3) := by decide +kernel
theorem dX2_answerTo_34 : decode cX2_answerTo 34 = .ok (.iload_n 1, 1) := by decide +kernel
theorem dX2_answerTo_35 : decode cX2_answerTo 35 = .ok (.if_icmp .ne 15, 3) := by decide +kernel
theorem dX2_answerTo_38 : decode cX2_answerTo 38 = .ok (.aload_n 0, 1) := by decide +kernel
theorem dX2_answerTo_39 : decode cX2_answerTo 39 = .ok (.getfield 34, 3) := by decide +kernel
theorem dX2_answerTo_42 : decode cX2_answerTo 42 = .ok (.iconst 2, 1) := by decide +kernel
theorem dX2_answerTo_43 : decode cX2_answerTo 43 = .ok (.if_icmp .lt 7, 3) := by decide +kernel
theorem dX2_answerTo_46 : decode cX2_answerTo 46 = .ok (.iconst 1, 1) := by decide +kernel
theorem dX2_answerTo_47 : decode cX2_answerTo 47 = .ok (.goto 4, 3) := by decide +kernel
theorem dX2_answerTo_50 : decode cX2_answerTo 50 = .ok (.iconst 0, 1) := by decide +kernel
theorem dX2_answerTo_51 : decode cX2_answerTo 51 = .ok (.istore_n 3, 1) := by decide +kernel
theorem dX2_answerTo_52 : decode cX2_answerTo 52 = .ok (.iload_n 2, 1) := by decide +kernel
theorem dX2_answerTo_53 : decode cX2_answerTo 53 = .ok (.ifCond .eq 14, 3) := by decide +kernel
theorem dX2_answerTo_56 : decode cX2_answerTo 56 = .ok (.iload_n 3, 1) := by decide +kernel
theorem dX2_answerTo_57 : decode cX2_answerTo 57 = .ok (.ifCond .eq 10, 3) := by decide +kernel
theorem dX2_answerTo_60 : decode cX2_answerTo 60 = .ok (.bipush 10, 2) := by decide +kernel
theorem dX2_answerTo_62 : decode cX2_answerTo 62 = .ok (.iload_n 2, 1) := by decide +kernel
theorem dX2_answerTo_63 : decode cX2_answerTo 63 = .ok (.iadd, 1) := by decide +kernel
theorem dX2_answerTo_64 : decode cX2_answerTo 64 = .ok (.goto 4, 3) := by decide +kernel
theorem dX2_answerTo_67 : decode cX2_answerTo 67 = .ok (.iload_n 2, 1) := by decide +kernel
theorem dX2_answerTo_68 : decode cX2_answerTo 68 = .ok (.ireturn, 1) := by decide +kernel
set_option maxRecDepth 20000 in
theorem ggX2_reasonAgainst_J6_bitCount_0f7a4 : GoodIn wsX2_reasonAgainst wsJ6_bitCount_0f7a4 := goodIn_r _ [5, 6, 7, 8] (by decide +kernel) (by decide +kernel)
set_option maxRecDepth 20000 in
theorem gX2_reasonAgainst_J6_bitCount_0f7a4 : GoodIn wsX2_reasonAgainst (va_wsS RX2 92 yJ6_bitCount_0f7a4 wsJ6_bitCount_0f7a4) := goodIn_app (goodIn_of _ (by decide +kernel)) ggX2_reasonAgainst_J6_bitCount_0f7a4
set_option maxRecDepth 20000 in
theorem ggX2_reasonAgainst_X2_settingAt : GoodIn wsX2_reasonAgainst wsX2_settingAt := goodIn_r _ [13, 14, 25, 26, 27, 28, 29, 30, 31, 32] (by decide +kernel) (by decide +kernel)
set_option maxRecDepth 20000 in
theorem gX2_reasonAgainst_X2_settingAt : GoodIn wsX2_reasonAgainst (wsV RX2 97 RX2 yX2_settingAt wsX2_settingAt) := goodIn_app (goodIn_of _ (by decide +kernel)) ggX2_reasonAgainst_X2_settingAt
set_option maxRecDepth 20000 in
theorem ggX2_reasonAgainst_X2_clashesOf : GoodIn wsX2_reasonAgainst wsX2_clashesOf := goodIn_r _ [18, 19, 25, 26, 27, 28, 29, 30, 31, 32] (by decide +kernel) (by decide +kernel)
set_option maxRecDepth 20000 in
theorem gX2_reasonAgainst_X2_clashesOf : GoodIn wsX2_reasonAgainst (wsV RX2 100 RX2 yX2_clashesOf wsX2_clashesOf) := goodIn_app (goodIn_of _ (by decide +kernel)) ggX2_reasonAgainst_X2_clashesOf
set_option maxRecDepth 20000 in
theorem ggX2_reasonAgainst_X2_holesAt : GoodIn wsX2_reasonAgainst wsX2_holesAt := goodIn_r _ [23, 1, 24, 25, 26, 27, 28, 29, 30, 31, 32] (by decide +kernel) (by decide +kernel)
set_option maxRecDepth 20000 in
theorem gX2_reasonAgainst_X2_holesAt : GoodIn wsX2_reasonAgainst (wsV RX2 45 RX2 yX2_holesAt wsX2_holesAt) := goodIn_app (goodIn_of _ (by decide +kernel)) ggX2_reasonAgainst_X2_holesAt
theorem dX2_reasonAgainst_0 : decode cX2_reasonAgainst 0 = .ok (.iload_n 1, 1) := by decide +kernel
theorem dX2_reasonAgainst_1 : decode cX2_reasonAgainst 1 = .ok (.invokestatic 92, 3) := by decide +kernel
theorem dX2_reasonAgainst_4 : decode cX2_reasonAgainst 4 = .ok (.aload_n 0, 1) := by decide +kernel
theorem dX2_reasonAgainst_5 : decode cX2_reasonAgainst 5 = .ok (.iconst 1, 1) := by decide +kernel
theorem dX2_reasonAgainst_6 : decode cX2_reasonAgainst 6 = .ok (.invokevirtual 97, 3) := by decide +kernel
theorem dX2_reasonAgainst_9 : decode cX2_reasonAgainst 9 = .ok (.if_icmp .le 5, 3) := by decide +kernel
theorem dX2_reasonAgainst_12 : decode cX2_reasonAgainst 12 = .ok (.iconst 1, 1) := by decide +kernel
theorem dX2_reasonAgainst_13 : decode cX2_reasonAgainst 13 = .ok (.ireturn, 1) := by decide +kernel
theorem dX2_reasonAgainst_14 : decode cX2_reasonAgainst 14 = .ok (.aload_n 0, 1) := by decide +kernel
theorem dX2_reasonAgainst_15 : decode cX2_reasonAgainst 15 = .ok (.iload_n 1, 1) := by decide +kernel
theorem dX2_reasonAgainst_16 : decode cX2_reasonAgainst 16 = .ok (.invokevirtual 100, 3) := by decide +kernel
theorem dX2_reasonAgainst_19 : decode cX2_reasonAgainst 19 = .ok (.aload_n 0, 1) := by decide +kernel
theorem dX2_reasonAgainst_20 : decode cX2_reasonAgainst 20 = .ok (.iconst 2, 1) := by decide +kernel
theorem dX2_reasonAgainst_21 : decode cX2_reasonAgainst 21 = .ok (.invokevirtual 97, 3) := by decide +kernel
theorem dX2_reasonAgainst_24 : decode cX2_reasonAgainst 24 = .ok (.if_icmp .le 5, 3) := by decide +kernel
theorem dX2_reasonAgainst_27 : decode cX2_reasonAgainst 27 = .ok (.iconst 2, 1) := by decide +kernel
theorem dX2_reasonAgainst_28 : decode cX2_reasonAgainst 28 = .ok (.ireturn, 1) := by decide +kernel
theorem dX2_reasonAgainst_29 : decode cX2_reasonAgainst 29 = .ok (.aload_n 0, 1) := by decide +kernel
theorem dX2_reasonAgainst_30 : decode cX2_reasonAgainst 30 = .ok (.getfield 24, 3) := by decide +kernel
theorem dX2_reasonAgainst_33 : decode cX2_reasonAgainst 33 = .ok (.ifCond .le 21, 3) := by decide +kernel
theorem dX2_reasonAgainst_36 : decode cX2_reasonAgainst 36 = .ok (.aload_n 0, 1) := by decide +kernel
theorem dX2_reasonAgainst_37 : decode cX2_reasonAgainst 37 = .ok (.aload_n 0, 1) := by decide +kernel
theorem dX2_reasonAgainst_38 : decode cX2_reasonAgainst 38 = .ok (.getfield 24, 3) := by decide +kernel
theorem dX2_reasonAgainst_41 : decode cX2_reasonAgainst 41 = .ok (.iconst 1, 1) := by decide +kernel
theorem dX2_reasonAgainst_42 : decode cX2_reasonAgainst 42 = .ok (.isub, 1) := by decide +kernel
theorem dX2_reasonAgainst_43 : decode cX2_reasonAgainst 43 = .ok (.invokevirtual 45, 3) := by decide +kernel
theorem dX2_reasonAgainst_46 : decode cX2_reasonAgainst 46 = .ok (.iload_n 1, 1) := by decide +kernel
theorem dX2_reasonAgainst_47 : decode cX2_reasonAgainst 47 = .ok (.if_icmp .ne 7, 3) := by decide +kernel
theorem dX2_reasonAgainst_50 : decode cX2_reasonAgainst 50 = .ok (.iconst 3, 1) := by decide +kernel
theorem dX2_reasonAgainst_51 : decode cX2_reasonAgainst 51 = .ok (.goto 4, 3) := by decide +kernel
theorem dX2_reasonAgainst_54 : decode cX2_reasonAgainst 54 = .ok (.iconst 0, 1) := by decide +kernel
theorem dX2_reasonAgainst_55 : decode cX2_reasonAgainst 55 = .ok (.ireturn, 1) := by decide +kernel
theorem dX2_clashesOf_0 : decode cX2_clashesOf 0 = .ok (.iconst 0, 1) := by decide +kernel
theorem dX2_clashesOf_1 : decode cX2_clashesOf 1 = .ok (.istore_n 2, 1) := by decide +kernel
theorem dX2_clashesOf_2 : decode cX2_clashesOf 2 = .ok (.iconst 0, 1) := by decide +kernel
theorem dX2_clashesOf_3 : decode cX2_clashesOf 3 = .ok (.istore_n 3, 1) := by decide +kernel
theorem dX2_clashesOf_4 : decode cX2_clashesOf 4 = .ok (.iload_n 3, 1) := by decide +kernel
theorem dX2_clashesOf_5 : decode cX2_clashesOf 5 = .ok (.aload_n 0, 1) := by decide +kernel
theorem dX2_clashesOf_6 : decode cX2_clashesOf 6 = .ok (.getfield 9, 3) := by decide +kernel
theorem dX2_clashesOf_9 : decode cX2_clashesOf 9 = .ok (.arraylength, 1) := by decide +kernel
theorem dX2_clashesOf_10 : decode cX2_clashesOf 10 = .ok (.if_icmp .ge 66, 3) := by decide +kernel
theorem dX2_clashesOf_13 : decode cX2_clashesOf 13 = .ok (.iconst 0, 1) := by decide +kernel
theorem dX2_clashesOf_14 : decode cX2_clashesOf 14 = .ok (.istore 4, 2) := by decide +kernel
theorem dX2_clashesOf_16 : decode cX2_clashesOf 16 = .ok (.iload 4, 2) := by decide +kernel
theorem dX2_clashesOf_18 : decode cX2_clashesOf 18 = .ok (.iload_n 3, 1) := by decide +kernel
theorem dX2_clashesOf_19 : decode cX2_clashesOf 19 = .ok (.if_icmp .ge 51, 3) := by decide +kernel
theorem dX2_clashesOf_22 : decode cX2_clashesOf 22 = .ok (.aload_n 0, 1) := by decide +kernel
theorem dX2_clashesOf_23 : decode cX2_clashesOf 23 = .ok (.getfield 9, 3) := by decide +kernel
theorem dX2_clashesOf_26 : decode cX2_clashesOf 26 = .ok (.iload_n 3, 1) := by decide +kernel
theorem dX2_clashesOf_27 : decode cX2_clashesOf 27 = .ok (.iaload, 1) := by decide +kernel
theorem dX2_clashesOf_28 : decode cX2_clashesOf 28 = .ok (.bipush 48, 2) := by decide +kernel
theorem dX2_clashesOf_30 : decode cX2_clashesOf 30 = .ok (.iadd, 1) := by decide +kernel
theorem dX2_clashesOf_31 : decode cX2_clashesOf 31 = .ok (.aload_n 0, 1) := by decide +kernel
theorem dX2_clashesOf_32 : decode cX2_clashesOf 32 = .ok (.getfield 9, 3) := by decide +kernel
theorem dX2_clashesOf_35 : decode cX2_clashesOf 35 = .ok (.iload 4, 2) := by decide +kernel
theorem dX2_clashesOf_37 : decode cX2_clashesOf 37 = .ok (.iaload, 1) := by decide +kernel
theorem dX2_clashesOf_38 : decode cX2_clashesOf 38 = .ok (.isub, 1) := by decide +kernel
theorem dX2_clashesOf_39 : decode cX2_clashesOf 39 = .ok (.bipush 12, 2) := by decide +kernel
theorem dX2_clashesOf_41 : decode cX2_clashesOf 41 = .ok (.irem, 1) := by decide +kernel
theorem dX2_clashesOf_42 : decode cX2_clashesOf 42 = .ok (.istore 5, 2) := by decide +kernel
theorem dX2_clashesOf_44 : decode cX2_clashesOf 44 = .ok (.iload_n 2, 1) := by decide +kernel
theorem dX2_clashesOf_45 : decode cX2_clashesOf 45 = .ok (.iload_n 1, 1) := by decide +kernel
theorem dX2_clashesOf_46 : decode cX2_clashesOf 46 = .ok (.iload_n 3, 1) := by decide +kernel
theorem dX2_clashesOf_47 : decode cX2_clashesOf 47 = .ok (.ishr, 1) := by decide +kernel
theorem dX2_clashesOf_48 : decode cX2_clashesOf 48 = .ok (.iload_n 1, 1) := by decide +kernel
theorem dX2_clashesOf_49 : decode cX2_clashesOf 49 = .ok (.iload 4, 2) := by decide +kernel
theorem dX2_clashesOf_51 : decode cX2_clashesOf 51 = .ok (.ishr, 1) := by decide +kernel
theorem dX2_clashesOf_52 : decode cX2_clashesOf 52 = .ok (.iand, 1) := by decide +kernel
theorem dX2_clashesOf_53 : decode cX2_clashesOf 53 = .ok (.sipush 3142, 3) := by decide +kernel
theorem dX2_clashesOf_56 : decode cX2_clashesOf 56 = .ok (.iload 5, 2) := by decide +kernel
theorem dX2_clashesOf_58 : decode cX2_clashesOf 58 = .ok (.ishr, 1) := by decide +kernel
theorem dX2_clashesOf_59 : decode cX2_clashesOf 59 = .ok (.iand, 1) := by decide +kernel
theorem dX2_clashesOf_60 : decode cX2_clashesOf 60 = .ok (.iconst 1, 1) := by decide +kernel
theorem dX2_clashesOf_61 : decode cX2_clashesOf 61 = .ok (.iand, 1) := by decide +kernel
theorem dX2_clashesOf_62 : decode cX2_clashesOf 62 = .ok (.iadd, 1) := by decide +kernel
theorem dX2_clashesOf_63 : decode cX2_clashesOf 63 = .ok (.istore_n 2, 1) := by decide +kernel
theorem dX2_clashesOf_64 : decode cX2_clashesOf 64 = .ok (.iinc 4 1, 3) := by decide +kernel
theorem dX2_clashesOf_67 : decode cX2_clashesOf 67 = .ok (.goto (-51), 3) := by decide +kernel
theorem dX2_clashesOf_70 : decode cX2_clashesOf 70 = .ok (.iinc 3 1, 3) := by decide +kernel
theorem dX2_clashesOf_73 : decode cX2_clashesOf 73 = .ok (.goto (-69), 3) := by decide +kernel
theorem dX2_clashesOf_76 : decode cX2_clashesOf 76 = .ok (.iload_n 2, 1) := by decide +kernel
theorem dX2_clashesOf_77 : decode cX2_clashesOf 77 = .ok (.ireturn, 1) := by decide +kernel
set_option maxRecDepth 20000 in
theorem ggX2_inCommonWithLast_X2_holesAt : GoodIn wsX2_inCommonWithLast wsX2_holesAt := goodIn_r _ [6, 1, 7, 15, 16, 17, 18, 19, 20, 21, 22] (by decide +kernel) (by decide +kernel)
set_option maxRecDepth 20000 in
theorem gX2_inCommonWithLast_X2_holesAt : GoodIn wsX2_inCommonWithLast (wsV RX2 45 RX2 yX2_holesAt wsX2_holesAt) := goodIn_app (goodIn_of _ (by decide +kernel)) ggX2_inCommonWithLast_X2_holesAt
set_option maxRecDepth 20000 in
theorem ggX2_inCommonWithLast_J6_bitCount_0f7a4 : GoodIn wsX2_inCommonWithLast wsJ6_bitCount_0f7a4 := goodIn_r _ [11, 12, 13, 14] (by decide +kernel) (by decide +kernel)
set_option maxRecDepth 20000 in
theorem gX2_inCommonWithLast_J6_bitCount_0f7a4 : GoodIn wsX2_inCommonWithLast (va_wsS RX2 92 yJ6_bitCount_0f7a4 wsJ6_bitCount_0f7a4) := goodIn_app (goodIn_of _ (by decide +kernel)) ggX2_inCommonWithLast_J6_bitCount_0f7a4
theorem dX2_inCommonWithLast_0 : decode cX2_inCommonWithLast 0 = .ok (.iload_n 1, 1) := by decide +kernel
theorem dX2_inCommonWithLast_1 : decode cX2_inCommonWithLast 1 = .ok (.aload_n 0, 1) := by decide +kernel
theorem dX2_inCommonWithLast_2 : decode cX2_inCommonWithLast 2 = .ok (.aload_n 0, 1) := by decide +kernel
theorem dX2_inCommonWithLast_3 : decode cX2_inCommonWithLast 3 = .ok (.getfield 24, 3) := by decide +kernel
theorem dX2_inCommonWithLast_6 : decode cX2_inCommonWithLast 6 = .ok (.iconst 1, 1) := by decide +kernel
theorem dX2_inCommonWithLast_7 : decode cX2_inCommonWithLast 7 = .ok (.isub, 1) := by decide +kernel
theorem dX2_inCommonWithLast_8 : decode cX2_inCommonWithLast 8 = .ok (.invokevirtual 45, 3) := by decide +kernel
theorem dX2_inCommonWithLast_11 : decode cX2_inCommonWithLast 11 = .ok (.iand, 1) := by decide +kernel
theorem dX2_inCommonWithLast_12 : decode cX2_inCommonWithLast 12 = .ok (.invokestatic 92, 3) := by decide +kernel
theorem dX2_inCommonWithLast_15 : decode cX2_inCommonWithLast 15 = .ok (.ireturn, 1) := by decide +kernel
set_option maxRecDepth 20000 in
theorem ggX2_bestCard_X2_reasonAgainst : GoodIn wsX2_bestCard wsX2_reasonAgainst := goodIn_r _ [5, 6, 7, 8, 9, 10, 11, 12, 13, 14, 15, 16, 4, 17, 18, 19, 20, 21, 22, 23, 24, 25, 26, 27, 28, 37, 38, 39, 40, 41, 42, 43, 44] (by decide +kernel) (by decide +kernel)
set_option maxRecDepth 20000 in
theorem gX2_bestCard_X2_reasonAgainst : GoodIn wsX2_bestCard (wsV RX2 89 RX2 yX2_reasonAgainst wsX2_reasonAgainst) := goodIn_app (goodIn_of _ (by decide +kernel)) ggX2_bestCard_X2_reasonAgainst
set_option maxRecDepth 20000 in
theorem ggX2_bestCard_X2_isBetter : GoodIn wsX2_bestCard wsX2_isBetter := goodIn_r _ [32, 19, 20, 21, 4, 22, 23, 33, 34, 35, 36, 6, 24, 25, 26, 27, 28, 7, 8, 9, 10, 11, 12, 13, 37, 38, 39, 40, 41, 42, 43, 44] (by decide +kernel) (by decide +kernel)
set_option maxRecDepth 20000 in
theorem gX2_bestCard_X2_isBetter : GoodIn wsX2_bestCard (wsV RX2 103 RX2 yX2_isBetter wsX2_isBetter) := goodIn_app (goodIn_of _ (by decide +kernel)) ggX2_bestCard_X2_isBetter
theorem dX2_bestCard_0 : decode cX2_bestCard 0 = .ok (.iconst (-1), 1) := by decide +kernel
theorem dX2_bestCard_1 : decode cX2_bestCard 1 = .ok (.istore_n 1, 1) := by decide +kernel
theorem dX2_bestCard_2 : decode cX2_bestCard 2 = .ok (.iconst 1, 1) := by decide +kernel
theorem dX2_bestCard_3 : decode cX2_bestCard 3 = .ok (.istore_n 2, 1) := by decide +kernel
theorem dX2_bestCard_4 : decode cX2_bestCard 4 = .ok (.iload_n 2, 1) := by decide +kernel
theorem dX2_bestCard_5 : decode cX2_bestCard 5 = .ok (.sipush 255, 3) := by decide +kernel
theorem dX2_bestCard_8 : decode cX2_bestCard 8 = .ok (.if_icmp .gt 33, 3) := by decide +kernel
theorem dX2_bestCard_11 : decode cX2_bestCard 11 = .ok (.aload_n 0, 1) := by decide +kernel
theorem dX2_bestCard_12 : decode cX2_bestCard 12 = .ok (.iload_n 2, 1) := by decide +kernel
theorem dX2_bestCard_13 : decode cX2_bestCard 13 = .ok (.invokevirtual 89, 3) := by decide +kernel
theorem dX2_bestCard_16 : decode cX2_bestCard 16 = .ok (.ifCond .ne 19, 3) := by decide +kernel
theorem dX2_bestCard_19 : decode cX2_bestCard 19 = .ok (.iload_n 1, 1) := by decide +kernel
theorem dX2_bestCard_20 : decode cX2_bestCard 20 = .ok (.iconst (-1), 1) := by decide +kernel
theorem dX2_bestCard_21 : decode cX2_bestCard 21 = .ok (.if_icmp .eq 12, 3) := by decide +kernel
theorem dX2_bestCard_24 : decode cX2_bestCard 24 = .ok (.aload_n 0, 1) := by decide +kernel
theorem dX2_bestCard_25 : decode cX2_bestCard 25 = .ok (.iload_n 2, 1) := by decide +kernel
theorem dX2_bestCard_26 : decode cX2_bestCard 26 = .ok (.iload_n 1, 1) := by decide +kernel
theorem dX2_bestCard_27 : decode cX2_bestCard 27 = .ok (.invokevirtual 103, 3) := by decide +kernel
theorem dX2_bestCard_30 : decode cX2_bestCard 30 = .ok (.ifCond .eq 5, 3) := by decide +kernel
theorem dX2_bestCard_33 : decode cX2_bestCard 33 = .ok (.iload_n 2, 1) := by decide +kernel
theorem dX2_bestCard_34 : decode cX2_bestCard 34 = .ok (.istore_n 1, 1) := by decide +kernel
theorem dX2_bestCard_35 : decode cX2_bestCard 35 = .ok (.iinc 2 1, 3) := by decide +kernel
theorem dX2_bestCard_38 : decode cX2_bestCard 38 = .ok (.goto (-34), 3) := by decide +kernel
theorem dX2_bestCard_41 : decode cX2_bestCard 41 = .ok (.iload_n 1, 1) := by decide +kernel
theorem dX2_bestCard_42 : decode cX2_bestCard 42 = .ok (.ireturn, 1) := by decide +kernel
set_option maxRecDepth 20000 in
theorem ggX2_isBetter_X2_clashesOf : GoodIn wsX2_isBetter wsX2_clashesOf := goodIn_r _ [5, 6, 24, 25, 26, 27, 28, 29, 30, 31] (by decide +kernel) (by decide +kernel)
set_option maxRecDepth 20000 in
theorem gX2_isBetter_X2_clashesOf : GoodIn wsX2_isBetter (wsV RX2 100 RX2 yX2_clashesOf wsX2_clashesOf) := goodIn_app (goodIn_of _ (by decide +kernel)) ggX2_isBetter_X2_clashesOf
set_option maxRecDepth 20000 in
theorem ggX2_isBetter_X2_inCommonWithLast : GoodIn wsX2_isBetter wsX2_inCommonWithLast := goodIn_r _ [10, 11, 12, 13, 14, 4, 15, 16, 17, 18, 19, 20, 21, 22, 23, 24, 25, 26, 27, 28, 29, 30, 31] (by decide +kernel) (by decide +kernel)
set_option maxRecDepth 20000 in
theorem gX2_isBetter_X2_inCommonWithLast : GoodIn wsX2_isBetter (wsV RX2 106 RX2 yX2_inCommonWithLast wsX2_inCommonWithLast) := goodIn_app (goodIn_of _ (by decide +kernel)) ggX2_isBetter_X2_inCommonWithLast
theorem dX2_isBetter_0 : decode cX2_isBetter 0 = .ok (.aload_n 0, 1) := by decide +kernel
theorem dX2_isBetter_1 : decode cX2_isBetter 1 = .ok (.iload_n 1, 1) := by decide +kernel
theorem dX2_isBetter_2 : decode cX2_isBetter 2 = .ok (.invokevirtual 100, 3) := by decide +kernel
theorem dX2_isBetter_5 : decode cX2_isBetter 5 = .ok (.istore_n 3, 1) := by decide +kernel
theorem dX2_isBetter_6 : decode cX2_isBetter 6 = .ok (.aload_n 0, 1) := by decide +kernel
theorem dX2_isBetter_7 : decode cX2_isBetter 7 = .ok (.iload_n 2, 1) := by decide +kernel
theorem dX2_isBetter_8 : decode cX2_isBetter 8 = .ok (.invokevirtual 100, 3) := by decide +kernel
theorem dX2_isBetter_11 : decode cX2_isBetter 11 = .ok (.istore 4, 2) := by decide +kernel
theorem dX2_isBetter_13 : decode cX2_isBetter 13 = .ok (.iload_n 3, 1) := by decide +kernel
theorem dX2_isBetter_14 : decode cX2_isBetter 14 = .ok (.iload 4, 2) := by decide +kernel
theorem dX2_isBetter_16 : decode cX2_isBetter 16 = .ok (.if_icmp .eq 17, 3) := by decide +kernel
theorem dX2_isBetter_19 : decode cX2_isBetter 19 = .ok (.iload_n 3, 1) := by decide +kernel
theorem dX2_isBetter_20 : decode cX2_isBetter 20 = .ok (.iload 4, 2) := by decide +kernel
theorem dX2_isBetter_22 : decode cX2_isBetter 22 = .ok (.if_icmp .ge 7, 3) := by decide +kernel
theorem dX2_isBetter_25 : decode cX2_isBetter 25 = .ok (.iconst 1, 1) := by decide +kernel
theorem dX2_isBetter_26 : decode cX2_isBetter 26 = .ok (.goto 25, 3) := by decide +kernel
theorem dX2_isBetter_29 : decode cX2_isBetter 29 = .ok (.iconst 0, 1) := by decide +kernel
theorem dX2_isBetter_30 : decode cX2_isBetter 30 = .ok (.goto 21, 3) := by decide +kernel
theorem dX2_isBetter_33 : decode cX2_isBetter 33 = .ok (.aload_n 0, 1) := by decide +kernel
theorem dX2_isBetter_34 : decode cX2_isBetter 34 = .ok (.iload_n 1, 1) := by decide +kernel
theorem dX2_isBetter_35 : decode cX2_isBetter 35 = .ok (.invokevirtual 106, 3) := by decide +kernel
theorem dX2_isBetter_38 : decode cX2_isBetter 38 = .ok (.aload_n 0, 1) := by decide +kernel
theorem dX2_isBetter_39 : decode cX2_isBetter 39 = .ok (.iload_n 2, 1) := by decide +kernel
theorem dX2_isBetter_40 : decode cX2_isBetter 40 = .ok (.invokevirtual 106, 3) := by decide +kernel
theorem dX2_isBetter_43 : decode cX2_isBetter 43 = .ok (.if_icmp .le 7, 3) := by decide +kernel
theorem dX2_isBetter_46 : decode cX2_isBetter 46 = .ok (.iconst 1, 1) := by decide +kernel
theorem dX2_isBetter_47 : decode cX2_isBetter 47 = .ok (.goto 4, 3) := by decide +kernel
theorem dX2_isBetter_50 : decode cX2_isBetter 50 = .ok (.iconst 0, 1) := by decide +kernel
theorem dX2_isBetter_51 : decode cX2_isBetter 51 = .ok (.ireturn, 1) := by decide +kernel
theorem dX3_init_0 : decode cX3_init 0 = .ok (.aload_n 0, 1) := by decide +kernel
theorem dX3_init_1 : decode cX3_init 1 = .ok (.invokespecial 3, 3) := by decide +kernel
theorem dX3_init_4 : decode cX3_init 4 = .ok (.aload_n 0, 1) := by decide +kernel
theorem dX3_init_5 : decode cX3_init 5 = .ok (.aload_n 1, 1) := by decide +kernel
theorem dX3_init_6 : decode cX3_init 6 = .ok (.putfield 9, 3) := by decide +kernel
theorem dX3_init_9 : decode cX3_init 9 = .ok (.return_, 1) := by decide +kernel
set_option maxRecDepth 20000 in
theorem ggX3_barAt_X2_settingAt : GoodIn wsX3_barAt wsX2_settingAt := goodIn_r _ [6, 7, 9, 10, 11, 12, 13, 14, 15, 16] (by decide +kernel) (by decide +kernel)
set_option maxRecDepth 20000 in
theorem gX3_barAt_X2_settingAt : GoodIn wsX3_barAt (wsV RX3 15 RX2 yX2_settingAt wsX2_settingAt) := goodIn_app (goodIn_of _ (by decide +kernel)) ggX3_barAt_X2_settingAt
theorem dX3_barAt_0 : decode cX3_barAt 0 = .ok (.aload_n 0, 1) := by decide +kernel
theorem dX3_barAt_1 : decode cX3_barAt 1 = .ok (.getfield 9, 3) := by decide +kernel
theorem dX3_barAt_4 : decode cX3_barAt 4 = .ok (.iconst 0, 1) := by decide +kernel
theorem dX3_barAt_5 : decode cX3_barAt 5 = .ok (.invokevirtual 15, 3) := by decide +kernel
theorem dX3_barAt_8 : decode cX3_barAt 8 = .ok (.istore_n 2, 1) := by decide +kernel
theorem dX3_barAt_9 : decode cX3_barAt 9 = .ok (.iload_n 2, 1) := by decide +kernel
theorem dX3_barAt_10 : decode cX3_barAt 10 = .ok (.ifCond .le 9, 3) := by decide +kernel
theorem dX3_barAt_13 : decode cX3_barAt 13 = .ok (.iload_n 1, 1) := by decide +kernel
theorem dX3_barAt_14 : decode cX3_barAt 14 = .ok (.iload_n 2, 1) := by decide +kernel
theorem dX3_barAt_15 : decode cX3_barAt 15 = .ok (.idiv, 1) := by decide +kernel
theorem dX3_barAt_16 : decode cX3_barAt 16 = .ok (.goto 4, 3) := by decide +kernel
theorem dX3_barAt_19 : decode cX3_barAt 19 = .ok (.iconst 0, 1) := by decide +kernel
theorem dX3_barAt_20 : decode cX3_barAt 20 = .ok (.ireturn, 1) := by decide +kernel
set_option maxRecDepth 20000 in
theorem ggX3_bars_X3_barAt : GoodIn wsX3_bars wsX3_barAt := goodIn_r _ [7, 1, 8, 9, 10, 11, 12, 13, 14, 15, 16, 17, 18, 19, 20, 21, 22] (by decide +kernel) (by decide +kernel)
set_option maxRecDepth 20000 in
theorem gX3_bars_X3_barAt : GoodIn wsX3_bars (wsV RX3 25 RX3 yX3_barAt wsX3_barAt) := goodIn_app (goodIn_of _ (by decide +kernel)) ggX3_bars_X3_barAt
theorem dX3_bars_0 : decode cX3_bars 0 = .ok (.aload_n 0, 1) := by decide +kernel
theorem dX3_bars_1 : decode cX3_bars 1 = .ok (.getfield 9, 3) := by decide +kernel
theorem dX3_bars_4 : decode cX3_bars 4 = .ok (.getfield 21, 3) := by decide +kernel
theorem dX3_bars_7 : decode cX3_bars 7 = .ok (.ifCond .ne 7, 3) := by decide +kernel
theorem dX3_bars_10 : decode cX3_bars 10 = .ok (.iconst 0, 1) := by decide +kernel
theorem dX3_bars_11 : decode cX3_bars 11 = .ok (.goto 18, 3) := by decide +kernel
theorem dX3_bars_14 : decode cX3_bars 14 = .ok (.aload_n 0, 1) := by decide +kernel
theorem dX3_bars_15 : decode cX3_bars 15 = .ok (.aload_n 0, 1) := by decide +kernel
theorem dX3_bars_16 : decode cX3_bars 16 = .ok (.getfield 9, 3) := by decide +kernel
theorem dX3_bars_19 : decode cX3_bars 19 = .ok (.getfield 21, 3) := by decide +kernel
theorem dX3_bars_22 : decode cX3_bars 22 = .ok (.iconst 1, 1) := by decide +kernel
theorem dX3_bars_23 : decode cX3_bars 23 = .ok (.isub, 1) := by decide +kernel
theorem dX3_bars_24 : decode cX3_bars 24 = .ok (.invokevirtual 25, 3) := by decide +kernel
theorem dX3_bars_27 : decode cX3_bars 27 = .ok (.iconst 1, 1) := by decide +kernel
theorem dX3_bars_28 : decode cX3_bars 28 = .ok (.iadd, 1) := by decide +kernel
theorem dX3_bars_29 : decode cX3_bars 29 = .ok (.ireturn, 1) := by decide +kernel
set_option maxRecDepth 20000 in
theorem ggX3_noteSet_X2_soundsAt : GoodIn wsX3_noteSet wsX2_soundsAt := goodIn_r _ [6, 7, 8, 9, 5, 10, 11, 12, 13, 14, 15, 22, 23, 24, 25, 26, 27, 28, 29] (by decide +kernel) (by decide +kernel)
set_option maxRecDepth 20000 in
theorem gX3_noteSet_X2_soundsAt : GoodIn wsX3_noteSet (wsV RX3 28 RX2 yX2_soundsAt wsX2_soundsAt) := goodIn_app (goodIn_of _ (by decide +kernel)) ggX3_noteSet_X2_soundsAt
set_option maxRecDepth 20000 in
theorem ggX3_noteSet_X2_noteAt : GoodIn wsX3_noteSet wsX2_noteAt := goodIn_r _ [19, 20, 22, 23, 24, 25, 26, 27, 28, 29] (by decide +kernel) (by decide +kernel)
set_option maxRecDepth 20000 in
theorem gX3_noteSet_X2_noteAt : GoodIn wsX3_noteSet (wsV RX3 32 RX2 yX2_noteAt wsX2_noteAt) := goodIn_app (goodIn_of _ (by decide +kernel)) ggX3_noteSet_X2_noteAt
theorem dX3_noteSet_0 : decode cX3_noteSet 0 = .ok (.iconst 0, 1) := by decide +kernel
theorem dX3_noteSet_1 : decode cX3_noteSet 1 = .ok (.istore_n 2, 1) := by decide +kernel
theorem dX3_noteSet_2 : decode cX3_noteSet 2 = .ok (.iconst 0, 1) := by decide +kernel
theorem dX3_noteSet_3 : decode cX3_noteSet 3 = .ok (.istore_n 3, 1) := by decide +kernel
