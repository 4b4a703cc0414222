theorem dX7_init_0 : decode cX7_init 0 = .ok (.aload_n 0, 1) := by decide +kernel
theorem dX7_init_1 : decode cX7_init 1 = .ok (.invokespecial 1, 3) := by decide +kernel
theorem dX7_init_4 : decode cX7_init 4 = .ok (.aload_n 0, 1) := by decide +kernel
theorem dX7_init_5 : decode cX7_init 5 = .ok (.bipush 72, 2) := by decide +kernel
theorem dX7_init_7 : decode cX7_init 7 = .ok (.newarray .int, 2) := by decide +kernel
theorem dX7_init_9 : decode cX7_init 9 = .ok (.putfield 7, 3) := by decide +kernel
theorem dX7_init_12 : decode cX7_init 12 = .ok (.aload_n 0, 1) := by decide +kernel
theorem dX7_init_13 : decode cX7_init 13 = .ok (.bipush 72, 2) := by decide +kernel
theorem dX7_init_15 : decode cX7_init 15 = .ok (.newarray .int, 2) := by decide +kernel
theorem dX7_init_17 : decode cX7_init 17 = .ok (.putfield 13, 3) := by decide +kernel
theorem dX7_init_20 : decode cX7_init 20 = .ok (.aload_n 0, 1) := by decide +kernel
theorem dX7_init_21 : decode cX7_init 21 = .ok (.sipush 288, 3) := by decide +kernel
theorem dX7_init_24 : decode cX7_init 24 = .ok (.newarray .int, 2) := by decide +kernel
theorem dX7_init_26 : decode cX7_init 26 = .ok (.putfield 16, 3) := by decide +kernel
theorem dX7_init_29 : decode cX7_init 29 = .ok (.aload_n 0, 1) := by decide +kernel
theorem dX7_init_30 : decode cX7_init 30 = .ok (.bipush 60, 2) := by decide +kernel
theorem dX7_init_32 : decode cX7_init 32 = .ok (.newarray .int, 2) := by decide +kernel
theorem dX7_init_34 : decode cX7_init 34 = .ok (.putfield 19, 3) := by decide +kernel
theorem dX7_init_37 : decode cX7_init 37 = .ok (.iconst 0, 1) := by decide +kernel
theorem dX7_init_38 : decode cX7_init 38 = .ok (.istore_n 1, 1) := by decide +kernel
theorem dX7_init_39 : decode cX7_init 39 = .ok (.iload_n 1, 1) := by decide +kernel
theorem dX7_init_40 : decode cX7_init 40 = .ok (.bipush 8, 2) := by decide +kernel
theorem dX7_init_42 : decode cX7_init 42 = .ok (.if_icmp .ge 35, 3) := by decide +kernel
theorem dX7_init_45 : decode cX7_init 45 = .ok (.aload_n 0, 1) := by decide +kernel
theorem dX7_init_46 : decode cX7_init 46 = .ok (.getfield 7, 3) := by decide +kernel
theorem dX7_init_49 : decode cX7_init 49 = .ok (.iconst 0, 1) := by decide +kernel
theorem dX7_init_50 : decode cX7_init 50 = .ok (.iload_n 1, 1) := by decide +kernel
theorem dX7_init_51 : decode cX7_init 51 = .ok (.iadd, 1) := by decide +kernel
theorem dX7_init_52 : decode cX7_init 52 = .ok (.bipush 12, 2) := by decide +kernel
theorem dX7_init_54 : decode cX7_init 54 = .ok (.iconst 2, 1) := by decide +kernel
theorem dX7_init_55 : decode cX7_init 55 = .ok (.iload_n 1, 1) := by decide +kernel
theorem dX7_init_56 : decode cX7_init 56 = .ok (.imul, 1) := by decide +kernel
theorem dX7_init_57 : decode cX7_init 57 = .ok (.iadd, 1) := by decide +kernel
theorem dX7_init_58 : decode cX7_init 58 = .ok (.iastore, 1) := by decide +kernel
theorem dX7_init_59 : decode cX7_init 59 = .ok (.aload_n 0, 1) := by decide +kernel
theorem dX7_init_60 : decode cX7_init 60 = .ok (.getfield 7, 3) := by decide +kernel
theorem dX7_init_63 : decode cX7_init 63 = .ok (.bipush 8, 2) := by decide +kernel
theorem dX7_init_65 : decode cX7_init 65 = .ok (.iload_n 1, 1) := by decide +kernel
theorem dX7_init_66 : decode cX7_init 66 = .ok (.iadd, 1) := by decide +kernel
theorem dX7_init_67 : decode cX7_init 67 = .ok (.iload_n 1, 1) := by decide +kernel
theorem dX7_init_68 : decode cX7_init 68 = .ok (.iconst 4, 1) := by decide +kernel
theorem dX7_init_69 : decode cX7_init 69 = .ok (.irem, 1) := by decide +kernel
theorem dX7_init_70 : decode cX7_init 70 = .ok (.iastore, 1) := by decide +kernel
theorem dX7_init_71 : decode cX7_init 71 = .ok (.iinc 1 1, 3) := by decide +kernel
theorem dX7_init_74 : decode cX7_init 74 = .ok (.goto (-35), 3) := by decide +kernel
theorem dX7_init_77 : decode cX7_init 77 = .ok (.aload_n 0, 1) := by decide +kernel
theorem dX7_init_78 : decode cX7_init 78 = .ok (.getfield 7, 3) := by decide +kernel
theorem dX7_init_81 : decode cX7_init 81 = .ok (.bipush 68, 2) := by decide +kernel
theorem dX7_init_83 : decode cX7_init 83 = .ok (.iconst 4, 1) := by decide +kernel
theorem dX7_init_84 : decode cX7_init 84 = .ok (.iastore, 1) := by decide +kernel
theorem dX7_init_85 : decode cX7_init 85 = .ok (.aload_n 0, 1) := by decide +kernel
theorem dX7_init_86 : decode cX7_init 86 = .ok (.getfield 7, 3) := by decide +kernel
theorem dX7_init_89 : decode cX7_init 89 = .ok (.bipush 69, 2) := by decide +kernel
theorem dX7_init_91 : decode cX7_init 91 = .ok (.iconst 5, 1) := by decide +kernel
theorem dX7_init_92 : decode cX7_init 92 = .ok (.iastore, 1) := by decide +kernel
theorem dX7_init_93 : decode cX7_init 93 = .ok (.aload_n 0, 1) := by decide +kernel
theorem dX7_init_94 : decode cX7_init 94 = .ok (.getfield 7, 3) := by decide +kernel
theorem dX7_init_97 : decode cX7_init 97 = .ok (.bipush 70, 2) := by decide +kernel
theorem dX7_init_99 : decode cX7_init 99 = .ok (.iconst 3, 1) := by decide +kernel
theorem dX7_init_100 : decode cX7_init 100 = .ok (.iastore, 1) := by decide +kernel
theorem dX7_init_101 : decode cX7_init 101 = .ok (.aload_n 0, 1) := by decide +kernel
theorem dX7_init_102 : decode cX7_init 102 = .ok (.getfield 7, 3) := by decide +kernel
theorem dX7_init_105 : decode cX7_init 105 = .ok (.bipush 71, 2) := by decide +kernel
theorem dX7_init_107 : decode cX7_init 107 = .ok (.bipush 6, 2) := by decide +kernel
theorem dX7_init_109 : decode cX7_init 109 = .ok (.iastore, 1) := by decide +kernel
theorem dX7_init_110 : decode cX7_init 110 = .ok (.return_, 1) := by decide +kernel
theorem dX7_in_0 : decode cX7_in 0 = .ok (.iload_n 0, 1) := by decide +kernel
theorem dX7_in_1 : decode cX7_in 1 = .ok (.iload_n 1, 1) := by decide +kernel
theorem dX7_in_2 : decode cX7_in 2 = .ok (.if_icmp .lt 12, 3) := by decide +kernel
theorem dX7_in_5 : decode cX7_in 5 = .ok (.iload_n 0, 1) := by decide +kernel
theorem dX7_in_6 : decode cX7_in 6 = .ok (.iload_n 2, 1) := by decide +kernel
theorem dX7_in_7 : decode cX7_in 7 = .ok (.if_icmp .gt 7, 3) := by decide +kernel
theorem dX7_in_10 : decode cX7_in 10 = .ok (.iconst 1, 1) := by decide +kernel
theorem dX7_in_11 : decode cX7_in 11 = .ok (.goto 4, 3) := by decide +kernel
theorem dX7_in_14 : decode cX7_in 14 = .ok (.iconst 0, 1) := by decide +kernel
theorem dX7_in_15 : decode cX7_in 15 = .ok (.ireturn, 1) := by decide +kernel
theorem dX7_has_0 : decode cX7_has 0 = .ok (.iload_n 0, 1) := by decide +kernel
theorem dX7_has_1 : decode cX7_has 1 = .ok (.iload_n 1, 1) := by decide +kernel
theorem dX7_has_2 : decode cX7_has 2 = .ok (.ishr, 1) := by decide +kernel
theorem dX7_has_3 : decode cX7_has 3 = .ok (.iconst 1, 1) := by decide +kernel
theorem dX7_has_4 : decode cX7_has 4 = .ok (.iand, 1) := by decide +kernel
theorem dX7_has_5 : decode cX7_has 5 = .ok (.iconst 1, 1) := by decide +kernel
theorem dX7_has_6 : decode cX7_has 6 = .ok (.if_icmp .ne 7, 3) := by decide +kernel
theorem dX7_has_9 : decode cX7_has 9 = .ok (.iconst 1, 1) := by decide +kernel
theorem dX7_has_10 : decode cX7_has 10 = .ok (.goto 4, 3) := by decide +kernel
theorem dX7_has_13 : decode cX7_has 13 = .ok (.iconst 0, 1) := by decide +kernel
theorem dX7_has_14 : decode cX7_has 14 = .ok (.ireturn, 1) := by decide +kernel
theorem dX7_bits_0 : decode cX7_bits 0 = .ok (.iconst 0, 1) := by decide +kernel
theorem dX7_bits_1 : decode cX7_bits 1 = .ok (.istore_n 1, 1) := by decide +kernel
theorem dX7_bits_2 : decode cX7_bits 2 = .ok (.iconst 0, 1) := by decide +kernel
theorem dX7_bits_3 : decode cX7_bits 3 = .ok (.istore_n 2, 1) := by decide +kernel
theorem dX7_bits_4 : decode cX7_bits 4 = .ok (.iload_n 2, 1) := by decide +kernel
theorem dX7_bits_5 : decode cX7_bits 5 = .ok (.bipush 12, 2) := by decide +kernel
theorem dX7_bits_7 : decode cX7_bits 7 = .ok (.if_icmp .ge 17, 3) := by decide +kernel
theorem dX7_bits_10 : decode cX7_bits 10 = .ok (.iload_n 1, 1) := by decide +kernel
theorem dX7_bits_11 : decode cX7_bits 11 = .ok (.iload_n 0, 1) := by decide +kernel
theorem dX7_bits_12 : decode cX7_bits 12 = .ok (.iload_n 2, 1) := by decide +kernel
theorem dX7_bits_13 : decode cX7_bits 13 = .ok (.ishr, 1) := by decide +kernel
theorem dX7_bits_14 : decode cX7_bits 14 = .ok (.iconst 1, 1) := by decide +kernel
theorem dX7_bits_15 : decode cX7_bits 15 = .ok (.iand, 1) := by decide +kernel
theorem dX7_bits_16 : decode cX7_bits 16 = .ok (.iadd, 1) := by decide +kernel
theorem dX7_bits_17 : decode cX7_bits 17 = .ok (.istore_n 1, 1) := by decide +kernel
theorem dX7_bits_18 : decode cX7_bits 18 = .ok (.iinc 2 1, 3) := by decide +kernel
theorem dX7_bits_21 : decode cX7_bits 21 = .ok (.goto (-17), 3) := by decide +kernel
theorem dX7_bits_24 : decode cX7_bits 24 = .ok (.iload_n 1, 1) := by decide +kernel
theorem dX7_bits_25 : decode cX7_bits 25 = .ok (.ireturn, 1) := by decide +kernel
set_option maxRecDepth 20000 in
theorem ggX7_isCard_X7_in : GoodIn wsX7_isCard wsX7_in := goodIn_r _ [5] (by decide +kernel) (by decide +kernel)
set_option maxRecDepth 20000 in
theorem gX7_isCard_X7_in : GoodIn wsX7_isCard (va_wsS RX7 22 yX7_in wsX7_in) := goodIn_app (goodIn_of _ (by decide +kernel)) ggX7_isCard_X7_in
theorem dX7_isCard_0 : decode cX7_isCard 0 = .ok (.iload_n 1, 1) := by decide +kernel
theorem dX7_isCard_1 : decode cX7_isCard 1 = .ok (.iconst 0, 1) := by decide +kernel
theorem dX7_isCard_2 : decode cX7_isCard 2 = .ok (.aload_n 0, 1) := by decide +kernel
theorem dX7_isCard_3 : decode cX7_isCard 3 = .ok (.getfield 7, 3) := by decide +kernel
theorem dX7_isCard_6 : decode cX7_isCard 6 = .ok (.bipush 16, 2) := by decide +kernel
theorem dX7_isCard_8 : decode cX7_isCard 8 = .ok (.iaload, 1) := by decide +kernel
theorem dX7_isCard_9 : decode cX7_isCard 9 = .ok (.iconst 1, 1) := by decide +kernel
theorem dX7_isCard_10 : decode cX7_isCard 10 = .ok (.isub, 1) := by decide +kernel
theorem dX7_isCard_11 : decode cX7_isCard 11 = .ok (.invokestatic 22, 3) := by decide +kernel
theorem dX7_isCard_14 : decode cX7_isCard 14 = .ok (.ireturn, 1) := by decide +kernel
theorem dX7_know_0 : decode cX7_know 0 = .ok (.aload_n 0, 1) := by decide +kernel
theorem dX7_know_1 : decode cX7_know 1 = .ok (.getfield 26, 3) := by decide +kernel
theorem dX7_know_4 : decode cX7_know 4 = .ok (.iconst 4, 1) := by decide +kernel
theorem dX7_know_5 : decode cX7_know 5 = .ok (.if_icmp .ne 43, 3) := by decide +kernel
theorem dX7_know_8 : decode cX7_know 8 = .ok (.iconst 0, 1) := by decide +kernel
theorem dX7_know_9 : decode cX7_know 9 = .ok (.istore_n 1, 1) := by decide +kernel
theorem dX7_know_10 : decode cX7_know 10 = .ok (.iload_n 1, 1) := by decide +kernel
theorem dX7_know_11 : decode cX7_know 11 = .ok (.sipush 216, 3) := by decide +kernel
theorem dX7_know_14 : decode cX7_know 14 = .ok (.if_icmp .ge 24, 3) := by decide +kernel
theorem dX7_know_17 : decode cX7_know 17 = .ok (.aload_n 0, 1) := by decide +kernel
theorem dX7_know_18 : decode cX7_know 18 = .ok (.getfield 16, 3) := by decide +kernel
theorem dX7_know_21 : decode cX7_know 21 = .ok (.iload_n 1, 1) := by decide +kernel
theorem dX7_know_22 : decode cX7_know 22 = .ok (.aload_n 0, 1) := by decide +kernel
theorem dX7_know_23 : decode cX7_know 23 = .ok (.getfield 16, 3) := by decide +kernel
theorem dX7_know_26 : decode cX7_know 26 = .ok (.bipush 72, 2) := by decide +kernel
theorem dX7_know_28 : decode cX7_know 28 = .ok (.iload_n 1, 1) := by decide +kernel
theorem dX7_know_29 : decode cX7_know 29 = .ok (.iadd, 1) := by decide +kernel
theorem dX7_know_30 : decode cX7_know 30 = .ok (.iaload, 1) := by decide +kernel
theorem dX7_know_31 : decode cX7_know 31 = .ok (.iastore, 1) := by decide +kernel
theorem dX7_know_32 : decode cX7_know 32 = .ok (.iinc 1 1, 3) := by decide +kernel
theorem dX7_know_35 : decode cX7_know 35 = .ok (.goto (-25), 3) := by decide +kernel
theorem dX7_know_38 : decode cX7_know 38 = .ok (.aload_n 0, 1) := by decide +kernel
theorem dX7_know_39 : decode cX7_know 39 = .ok (.dup, 1) := by decide +kernel
theorem dX7_know_40 : decode cX7_know 40 = .ok (.getfield 26, 3) := by decide +kernel
theorem dX7_know_43 : decode cX7_know 43 = .ok (.iconst 1, 1) := by decide +kernel
theorem dX7_know_44 : decode cX7_know 44 = .ok (.isub, 1) := by decide +kernel
theorem dX7_know_45 : decode cX7_know 45 = .ok (.putfield 26, 3) := by decide +kernel
theorem dX7_know_48 : decode cX7_know 48 = .ok (.iconst 0, 1) := by decide +kernel
theorem dX7_know_49 : decode cX7_know 49 = .ok (.istore_n 1, 1) := by decide +kernel
theorem dX7_know_50 : decode cX7_know 50 = .ok (.iload_n 1, 1) := by decide +kernel
theorem dX7_know_51 : decode cX7_know 51 = .ok (.bipush 72, 2) := by decide +kernel
theorem dX7_know_53 : decode cX7_know 53 = .ok (.if_icmp .ge 29, 3) := by decide +kernel
theorem dX7_know_56 : decode cX7_know 56 = .ok (.aload_n 0, 1) := by decide +kernel
theorem dX7_know_57 : decode cX7_know 57 = .ok (.getfield 16, 3) := by decide +kernel
theorem dX7_know_60 : decode cX7_know 60 = .ok (.bipush 72, 2) := by decide +kernel
theorem dX7_know_62 : decode cX7_know 62 = .ok (.aload_n 0, 1) := by decide +kernel
theorem dX7_know_63 : decode cX7_know 63 = .ok (.getfield 26, 3) := by decide +kernel
theorem dX7_know_66 : decode cX7_know 66 = .ok (.imul, 1) := by decide +kernel
theorem dX7_know_67 : decode cX7_know 67 = .ok (.iload_n 1, 1) := by decide +kernel
theorem dX7_know_68 : decode cX7_know 68 = .ok (.iadd, 1) := by decide +kernel
theorem dX7_know_69 : decode cX7_know 69 = .ok (.aload_n 0, 1) := by decide +kernel
theorem dX7_know_70 : decode cX7_know 70 = .ok (.getfield 7, 3) := by decide +kernel
theorem dX7_know_73 : decode cX7_know 73 = .ok (.iload_n 1, 1) := by decide +kernel
theorem dX7_know_74 : decode cX7_know 74 = .ok (.iaload, 1) := by decide +kernel
theorem dX7_know_75 : decode cX7_know 75 = .ok (.iastore, 1) := by decide +kernel
theorem dX7_know_76 : decode cX7_know 76 = .ok (.iinc 1 1, 3) := by decide +kernel
theorem dX7_know_79 : decode cX7_know 79 = .ok (.goto (-29), 3) := by decide +kernel
theorem dX7_know_82 : decode cX7_know 82 = .ok (.aload_n 0, 1) := by decide +kernel
theorem dX7_know_83 : decode cX7_know 83 = .ok (.dup, 1) := by decide +kernel
theorem dX7_know_84 : decode cX7_know 84 = .ok (.getfield 26, 3) := by decide +kernel
theorem dX7_know_87 : decode cX7_know 87 = .ok (.iconst 1, 1) := by decide +kernel
theorem dX7_know_88 : decode cX7_know 88 = .ok (.iadd, 1) := by decide +kernel
theorem dX7_know_89 : decode cX7_know 89 = .ok (.putfield 26, 3) := by decide +kernel
theorem dX7_know_92 : decode cX7_know 92 = .ok (.return_, 1) := by decide +kernel
theorem dX7_putAside_0 : decode cX7_putAside 0 = .ok (.iconst 0, 1) := by decide +kernel
theorem dX7_putAside_1 : decode cX7_putAside 1 = .ok (.istore_n 1, 1) := by decide +kernel
theorem dX7_putAside_2 : decode cX7_putAside 2 = .ok (.iload_n 1, 1) := by decide +kernel
theorem dX7_putAside_3 : decode cX7_putAside 3 = .ok (.bipush 72, 2) := by decide +kernel
theorem dX7_putAside_5 : decode cX7_putAside 5 = .ok (.if_icmp .ge 21, 3) := by decide +kernel
theorem dX7_putAside_8 : decode cX7_putAside 8 = .ok (.aload_n 0, 1) := by decide +kernel
theorem dX7_putAside_9 : decode cX7_putAside 9 = .ok (.getfield 13, 3) := by decide +kernel
theorem dX7_putAside_12 : decode cX7_putAside 12 = .ok (.iload_n 1, 1) := by decide +kernel
theorem dX7_putAside_13 : decode cX7_putAside 13 = .ok (.aload_n 0, 1) := by decide +kernel
theorem dX7_putAside_14 : decode cX7_putAside 14 = .ok (.getfield 7, 3) := by decide +kernel
theorem dX7_putAside_17 : decode cX7_putAside 17 = .ok (.iload_n 1, 1) := by decide +kernel
theorem dX7_putAside_18 : decode cX7_putAside 18 = .ok (.iaload, 1) := by decide +kernel
theorem dX7_putAside_19 : decode cX7_putAside 19 = .ok (.iastore, 1) := by decide +kernel
theorem dX7_putAside_20 : decode cX7_putAside 20 = .ok (.iinc 1 1, 3) := by decide +kernel
theorem dX7_putAside_23 : decode cX7_putAside 23 = .ok (.goto (-21), 3) := by decide +kernel
theorem dX7_putAside_26 : decode cX7_putAside 26 = .ok (.return_, 1) := by decide +kernel
theorem dX7_putBack_0 : decode cX7_putBack 0 = .ok (.iconst 0, 1) := by decide +kernel
theorem dX7_putBack_1 : decode cX7_putBack 1 = .ok (.istore_n 1, 1) := by decide +kernel
theorem dX7_putBack_2 : decode cX7_putBack 2 = .ok (.iload_n 1, 1) := by decide +kernel
theorem dX7_putBack_3 : decode cX7_putBack 3 = .ok (.bipush 72, 2) := by decide +kernel
theorem dX7_putBack_5 : decode cX7_putBack 5 = .ok (.if_icmp .ge 21, 3) := by decide +kernel
theorem dX7_putBack_8 : decode cX7_putBack 8 = .ok (.aload_n 0, 1) := by decide +kernel
theorem dX7_putBack_9 : decode cX7_putBack 9 = .ok (.getfield 7, 3) := by decide +kernel
theorem dX7_putBack_12 : decode cX7_putBack 12 = .ok (.iload_n 1, 1) := by decide +kernel
theorem dX7_putBack_13 : decode cX7_putBack 13 = .ok (.aload_n 0, 1) := by decide +kernel
theorem dX7_putBack_14 : decode cX7_putBack 14 = .ok (.getfield 13, 3) := by decide +kernel
theorem dX7_putBack_17 : decode cX7_putBack 17 = .ok (.iload_n 1, 1) := by decide +kernel
theorem dX7_putBack_18 : decode cX7_putBack 18 = .ok (.iaload, 1) := by decide +kernel
theorem dX7_putBack_19 : decode cX7_putBack 19 = .ok (.iastore, 1) := by decide +kernel
theorem dX7_putBack_20 : decode cX7_putBack 20 = .ok (.iinc 1 1, 3) := by decide +kernel
theorem dX7_putBack_23 : decode cX7_putBack 23 = .ok (.goto (-21), 3) := by decide +kernel
theorem dX7_putBack_26 : decode cX7_putBack 26 = .ok (.return_, 1) := by decide +kernel
set_option maxRecDepth 20000 in
theorem ggX7_clashes_X7_has : GoodIn wsX7_clashes wsX7_has := goodIn_r _ [5] (by decide +kernel) (by decide +kernel)
set_option maxRecDepth 20000 in
theorem gX7_clashes_X7_has : GoodIn wsX7_clashes (va_wsS RX7 30 yX7_has wsX7_has) := goodIn_app (goodIn_of _ (by decide +kernel)) ggX7_clashes_X7_has
theorem dX7_clashes_0 : decode cX7_clashes 0 = .ok (.iconst 0, 1) := by decide +kernel
theorem dX7_clashes_1 : decode cX7_clashes 1 = .ok (.istore_n 2, 1) := by decide +kernel
theorem dX7_clashes_2 : decode cX7_clashes 2 = .ok (.iconst 0, 1) := by decide +kernel
theorem dX7_clashes_3 : decode cX7_clashes 3 = .ok (.istore_n 3, 1) := by decide +kernel
theorem dX7_clashes_4 : decode cX7_clashes 4 = .ok (.iload_n 3, 1) := by decide +kernel
theorem dX7_clashes_5 : decode cX7_clashes 5 = .ok (.bipush 8, 2) := by decide +kernel
theorem dX7_clashes_7 : decode cX7_clashes 7 = .ok (.if_icmp .ge 132, 3) := by decide +kernel
theorem dX7_clashes_10 : decode cX7_clashes 10 = .ok (.iconst 0, 1) := by decide +kernel
theorem dX7_clashes_11 : decode cX7_clashes 11 = .ok (.istore 4, 2) := by decide +kernel
theorem dX7_clashes_13 : decode cX7_clashes 13 = .ok (.iload 4, 2) := by decide +kernel
theorem dX7_clashes_15 : decode cX7_clashes 15 = .ok (.iload_n 3, 1) := by decide +kernel
theorem dX7_clashes_16 : decode cX7_clashes 16 = .ok (.if_icmp .ge 117, 3) := by decide +kernel
theorem dX7_clashes_19 : decode cX7_clashes 19 = .ok (.aload_n 0, 1) := by decide +kernel
theorem dX7_clashes_20 : decode cX7_clashes 20 = .ok (.getfield 7, 3) := by decide +kernel
theorem dX7_clashes_23 : decode cX7_clashes 23 = .ok (.iconst 0, 1) := by decide +kernel
theorem dX7_clashes_24 : decode cX7_clashes 24 = .ok (.iload_n 3, 1) := by decide +kernel
theorem dX7_clashes_25 : decode cX7_clashes 25 = .ok (.iadd, 1) := by decide +kernel
theorem dX7_clashes_26 : decode cX7_clashes 26 = .ok (.iaload, 1) := by decide +kernel
theorem dX7_clashes_27 : decode cX7_clashes 27 = .ok (.aload_n 0, 1) := by decide +kernel
theorem dX7_clashes_28 : decode cX7_clashes 28 = .ok (.getfield 7, 3) := by decide +kernel
theorem dX7_clashes_31 : decode cX7_clashes 31 = .ok (.iconst 0, 1) := by decide +kernel
theorem dX7_clashes_32 : decode cX7_clashes 32 = .ok (.iload 4, 2) := by decide +kernel
theorem dX7_clashes_34 : decode cX7_clashes 34 = .ok (.iadd, 1) := by decide +kernel
theorem dX7_clashes_35 : decode cX7_clashes 35 = .ok (.iaload, 1) := by decide +kernel
theorem dX7_clashes_36 : decode cX7_clashes 36 = .ok (.isub, 1) := by decide +kernel
theorem dX7_clashes_37 : decode cX7_clashes 37 = .ok (.istore 5, 2) := by decide +kernel
theorem dX7_clashes_39 : decode cX7_clashes 39 = .ok (.iload 5, 2) := by decide +kernel
theorem dX7_clashes_41 : decode cX7_clashes 41 = .ok (.ifCond .ge 9, 3) := by decide +kernel
theorem dX7_clashes_44 : decode cX7_clashes 44 = .ok (.iload 5, 2) := by decide +kernel
theorem dX7_clashes_46 : decode cX7_clashes 46 = .ok (.ineg, 1) := by decide +kernel
theorem dX7_clashes_47 : decode cX7_clashes 47 = .ok (.goto 5, 3) := by decide +kernel
theorem dX7_clashes_50 : decode cX7_clashes 50 = .ok (.iload 5, 2) := by decide +kernel
theorem dX7_clashes_52 : decode cX7_clashes 52 = .ok (.bipush 12, 2) := by decide +kernel
theorem dX7_clashes_54 : decode cX7_clashes 54 = .ok (.irem, 1) := by decide +kernel
theorem dX7_clashes_55 : decode cX7_clashes 55 = .ok (.istore 6, 2) := by decide +kernel
theorem dX7_clashes_57 : decode cX7_clashes 57 = .ok (.iload 6, 2) := by decide +kernel
theorem dX7_clashes_59 : decode cX7_clashes 59 = .ok (.iconst 1, 1) := by decide +kernel
theorem dX7_clashes_60 : decode cX7_clashes 60 = .ok (.if_icmp .eq 30, 3) := by decide +kernel
theorem dX7_clashes_63 : decode cX7_clashes 63 = .ok (.iload 6, 2) := by decide +kernel
theorem dX7_clashes_65 : decode cX7_clashes 65 = .ok (.iconst 2, 1) := by decide +kernel
theorem dX7_clashes_66 : decode cX7_clashes 66 = .ok (.if_icmp .eq 24, 3) := by decide +kernel
theorem dX7_clashes_69 : decode cX7_clashes 69 = .ok (.iload 6, 2) := by decide +kernel
theorem dX7_clashes_71 : decode cX7_clashes 71 = .ok (.bipush 6, 2) := by decide +kernel
theorem dX7_clashes_73 : decode cX7_clashes 73 = .ok (.if_icmp .eq 17, 3) := by decide +kernel
theorem dX7_clashes_76 : decode cX7_clashes 76 = .ok (.iload 6, 2) := by decide +kernel
theorem dX7_clashes_78 : decode cX7_clashes 78 = .ok (.bipush 10, 2) := by decide +kernel
theorem dX7_clashes_80 : decode cX7_clashes 80 = .ok (.if_icmp .eq 10, 3) := by decide +kernel
theorem dX7_clashes_83 : decode cX7_clashes 83 = .ok (.iload 6, 2) := by decide +kernel
theorem dX7_clashes_85 : decode cX7_clashes 85 = .ok (.bipush 11, 2) := by decide +kernel
theorem dX7_clashes_87 : decode cX7_clashes 87 = .ok (.if_icmp .ne 7, 3) := by decide +kernel
theorem dX7_clashes_90 : decode cX7_clashes 90 = .ok (.iconst 1, 1) := by decide +kernel
theorem dX7_clashes_91 : decode cX7_clashes 91 = .ok (.goto 4, 3) := by decide +kernel
theorem dX7_clashes_94 : decode cX7_clashes 94 = .ok (.iconst 0, 1) := by decide +kernel
theorem dX7_clashes_95 : decode cX7_clashes 95 = .ok (.istore 7, 2) := by decide +kernel
theorem dX7_clashes_97 : decode cX7_clashes 97 = .ok (.iload_n 2, 1) := by decide +kernel
theorem dX7_clashes_98 : decode cX7_clashes 98 = .ok (.iload_n 1, 1) := by decide +kernel
theorem dX7_clashes_99 : decode cX7_clashes 99 = .ok (.iload_n 3, 1) := by decide +kernel
theorem dX7_clashes_100 : decode cX7_clashes 100 = .ok (.invokestatic 30, 3) := by decide +kernel
theorem dX7_clashes_103 : decode cX7_clashes 103 = .ok (.ifCond .eq 21, 3) := by decide +kernel
theorem dX7_clashes_106 : decode cX7_clashes 106 = .ok (.iload_n 1, 1) := by decide +kernel
theorem dX7_clashes_107 : decode cX7_clashes 107 = .ok (.iload 4, 2) := by decide +kernel
theorem dX7_clashes_109 : decode cX7_clashes 109 = .ok (.invokestatic 30, 3) := by decide +kernel
theorem dX7_clashes_112 : decode cX7_clashes 112 = .ok (.ifCond .eq 12, 3) := by decide +kernel
theorem dX7_clashes_115 : decode cX7_clashes 115 = .ok (.iload 7, 2) := by decide +kernel
theorem dX7_clashes_117 : decode cX7_clashes 117 = .ok (.ifCond .eq 7, 3) := by decide +kernel
theorem dX7_clashes_120 : decode cX7_clashes 120 = .ok (.iconst 1, 1) := by decide +kernel
theorem dX7_clashes_121 : decode cX7_clashes 121 = .ok (.goto 4, 3) := by decide +kernel
theorem dX7_clashes_124 : decode cX7_clashes 124 = .ok (.iconst 0, 1) := by decide +kernel
theorem dX7_clashes_125 : decode cX7_clashes 125 = .ok (.iadd, 1) := by decide +kernel
theorem dX7_clashes_126 : decode cX7_clashes 126 = .ok (.istore_n 2, 1) := by decide +kernel
theorem dX7_clashes_127 : decode cX7_clashes 127 = .ok (.iinc 4 1, 3) := by decide +kernel
theorem dX7_clashes_130 : decode cX7_clashes 130 = .ok (.goto (-117), 3) := by decide +kernel
theorem dX7_clashes_133 : decode cX7_clashes 133 = .ok (.iinc 3 1, 3) := by decide +kernel
theorem dX7_clashes_136 : decode cX7_clashes 136 = .ok (.goto (-132), 3) := by decide +kernel
theorem dX7_clashes_139 : decode cX7_clashes 139 = .ok (.iload_n 2, 1) := by decide +kernel
theorem dX7_clashes_140 : decode cX7_clashes 140 = .ok (.ireturn, 1) := by decide +kernel
set_option maxRecDepth 20000 in
theorem ggX7_whyNot_X7_bits : GoodIn wsX7_whyNot wsX7_bits := goodIn_r _ [5] (by decide +kernel) (by decide +kernel)
set_option maxRecDepth 20000 in
theorem gX7_whyNot_X7_bits : GoodIn wsX7_whyNot (va_wsS RX7 34 yX7_bits wsX7_bits) := goodIn_app (goodIn_of _ (by decide +kernel)) ggX7_whyNot_X7_bits
set_option maxRecDepth 20000 in
theorem ggX7_whyNot_X7_clashes : GoodIn wsX7_whyNot wsX7_clashes := goodIn_r _ [9, 1, 10, 11, 4, 12, 13, 14, 15, 16, 17, 18, 19, 20, 21, 22, 23, 24, 25, 26] (by decide +kernel) (by decide +kernel)
set_option maxRecDepth 20000 in
theorem gX7_whyNot_X7_clashes : GoodIn wsX7_whyNot (wsV RX7 38 RX7 yX7_clashes wsX7_clashes) := goodIn_app (goodIn_of _ (by decide +kernel)) ggX7_whyNot_X7_clashes
theorem dX7_whyNot_0 : decode cX7_whyNot 0 = .ok (.aload_n 0, 1) := by decide +kernel
theorem dX7_whyNot_1 : decode cX7_whyNot 1 = .ok (.getfield 7, 3) := by decide +kernel
theorem dX7_whyNot_4 : decode cX7_whyNot 4 = .ok (.bipush 16, 2) := by decide +kernel
theorem dX7_whyNot_6 : decode cX7_whyNot 6 = .ok (.iaload, 1) := by decide +kernel
theorem dX7_whyNot_7 : decode cX7_whyNot 7 = .ok (.istore_n 2, 1) := by decide +kernel
theorem dX7_whyNot_8 : decode cX7_whyNot 8 = .ok (.iload_n 1, 1) := by decide +kernel
theorem dX7_whyNot_9 : decode cX7_whyNot 9 = .ok (.invokestatic 34, 3) := by decide +kernel
theorem dX7_whyNot_12 : decode cX7_whyNot 12 = .ok (.aload_n 0, 1) := by decide +kernel
theorem dX7_whyNot_13 : decode cX7_whyNot 13 = .ok (.getfield 7, 3) := by decide +kernel
theorem dX7_whyNot_16 : decode cX7_whyNot 16 = .ok (.bipush 69, 2) := by decide +kernel
theorem dX7_whyNot_18 : decode cX7_whyNot 18 = .ok (.iaload, 1) := by decide +kernel
theorem dX7_whyNot_19 : decode cX7_whyNot 19 = .ok (.if_icmp .le 7, 3) := by decide +kernel
theorem dX7_whyNot_22 : decode cX7_whyNot 22 = .ok (.iconst 1, 1) := by decide +kernel
theorem dX7_whyNot_23 : decode cX7_whyNot 23 = .ok (.goto 46, 3) := by decide +kernel
theorem dX7_whyNot_26 : decode cX7_whyNot 26 = .ok (.aload_n 0, 1) := by decide +kernel
theorem dX7_whyNot_27 : decode cX7_whyNot 27 = .ok (.iload_n 1, 1) := by decide +kernel
theorem dX7_whyNot_28 : decode cX7_whyNot 28 = .ok (.invokevirtual 38, 3) := by decide +kernel
theorem dX7_whyNot_31 : decode cX7_whyNot 31 = .ok (.aload_n 0, 1) := by decide +kernel
theorem dX7_whyNot_32 : decode cX7_whyNot 32 = .ok (.getfield 7, 3) := by decide +kernel
theorem dX7_whyNot_35 : decode cX7_whyNot 35 = .ok (.bipush 70, 2) := by decide +kernel
theorem dX7_whyNot_37 : decode cX7_whyNot 37 = .ok (.iaload, 1) := by decide +kernel
theorem dX7_whyNot_38 : decode cX7_whyNot 38 = .ok (.if_icmp .le 7, 3) := by decide +kernel
theorem dX7_whyNot_41 : decode cX7_whyNot 41 = .ok (.iconst 2, 1) := by decide +kernel
theorem dX7_whyNot_42 : decode cX7_whyNot 42 = .ok (.goto 27, 3) := by decide +kernel
theorem dX7_whyNot_45 : decode cX7_whyNot 45 = .ok (.iload_n 2, 1) := by decide +kernel
theorem dX7_whyNot_46 : decode cX7_whyNot 46 = .ok (.ifCond .le 22, 3) := by decide +kernel
theorem dX7_whyNot_49 : decode cX7_whyNot 49 = .ok (.aload_n 0, 1) := by decide +kernel
theorem dX7_whyNot_50 : decode cX7_whyNot 50 = .ok (.getfield 7, 3) := by decide +kernel
theorem dX7_whyNot_53 : decode cX7_whyNot 53 = .ok (.bipush 17, 2) := by decide +kernel
theorem dX7_whyNot_55 : decode cX7_whyNot 55 = .ok (.iload_n 2, 1) := by decide +kernel
theorem dX7_whyNot_56 : decode cX7_whyNot 56 = .ok (.iadd, 1) := by decide +kernel
theorem dX7_whyNot_57 : decode cX7_whyNot 57 = .ok (.iconst 1, 1) := by decide +kernel
theorem dX7_whyNot_58 : decode cX7_whyNot 58 = .ok (.isub, 1) := by decide +kernel
theorem dX7_whyNot_59 : decode cX7_whyNot 59 = .ok (.iaload, 1) := by decide +kernel
theorem dX7_whyNot_60 : decode cX7_whyNot 60 = .ok (.iload_n 1, 1) := by decide +kernel
theorem dX7_whyNot_61 : decode cX7_whyNot 61 = .ok (.if_icmp .ne 7, 3) := by decide +kernel
theorem dX7_whyNot_64 : decode cX7_whyNot 64 = .ok (.iconst 3, 1) := by decide +kernel
theorem dX7_whyNot_65 : decode cX7_whyNot 65 = .ok (.goto 4, 3) := by decide +kernel
theorem dX7_whyNot_68 : decode cX7_whyNot 68 = .ok (.iconst 0, 1) := by decide +kernel
theorem dX7_whyNot_69 : decode cX7_whyNot 69 = .ok (.ireturn, 1) := by decide +kernel
theorem dX7_isThird_0 : decode cX7_isThird 0 = .ok (.aload_n 0, 1) := by decide +kernel
theorem dX7_isThird_1 : decode cX7_isThird 1 = .ok (.getfield 7, 3) := by decide +kernel
theorem dX7_isThird_4 : decode cX7_isThird 4 = .ok (.bipush 66, 2) := by decide +kernel
theorem dX7_isThird_6 : decode cX7_isThird 6 = .ok (.iaload, 1) := by decide +kernel
theorem dX7_isThird_7 : decode cX7_isThird 7 = .ok (.iconst 2, 1) := by decide +kernel
theorem dX7_isThird_8 : decode cX7_isThird 8 = .ok (.if_icmp .ne 18, 3) := by decide +kernel
theorem dX7_isThird_11 : decode cX7_isThird 11 = .ok (.aload_n 0, 1) := by decide +kernel
theorem dX7_isThird_12 : decode cX7_isThird 12 = .ok (.getfield 7, 3) := by decide +kernel
theorem dX7_isThird_15 : decode cX7_isThird 15 = .ok (.bipush 65, 2) := by decide +kernel
theorem dX7_isThird_17 : decode cX7_isThird 17 = .ok (.iaload, 1) := by decide +kernel
theorem dX7_isThird_18 : decode cX7_isThird 18 = .ok (.iload_n 1, 1) := by decide +kernel
theorem dX7_isThird_19 : decode cX7_isThird 19 = .ok (.if_icmp .ne 7, 3) := by decide +kernel
theorem dX7_isThird_22 : decode cX7_isThird 22 = .ok (.iconst 1, 1) := by decide +kernel
theorem dX7_isThird_23 : decode cX7_isThird 23 = .ok (.goto 4, 3) := by decide +kernel
theorem dX7_isThird_26 : decode cX7_isThird 26 = .ok (.iconst 0, 1) := by decide +kernel
theorem dX7_isThird_27 : decode cX7_isThird 27 = .ok (.ireturn, 1) := by decide +kernel
set_option maxRecDepth 20000 in
theorem ggX7_says_X7_whyNot : GoodIn wsX7_says wsX7_whyNot := goodIn_r _ [5, 6, 7, 8, 4, 9, 10, 11, 12, 13, 14, 15, 16, 21, 22, 23, 24, 25, 26, 27, 28, 29, 30, 31, 32, 33, 34] (by decide +kernel) (by decide +kernel)
set_option maxRecDepth 20000 in
theorem gX7_says_X7_whyNot : GoodIn wsX7_says (wsV RX7 41 RX7 yX7_whyNot wsX7_whyNot) := goodIn_app (goodIn_of _ (by decide +kernel)) ggX7_says_X7_whyNot
set_option maxRecDepth 20000 in
theorem ggX7_says_X7_isThird : GoodIn wsX7_says wsX7_isThird := goodIn_r _ [20, 6, 21, 22, 23, 24, 25, 26, 27, 28, 29, 30, 31, 32, 33, 34] (by decide +kernel) (by decide +kernel)
set_option maxRecDepth 20000 in
theorem gX7_says_X7_isThird : GoodIn wsX7_says (wsV RX7 44 RX7 yX7_isThird wsX7_isThird) := goodIn_app (goodIn_of _ (by decide +kernel)) ggX7_says_X7_isThird
theorem dX7_says_0 : decode cX7_says 0 = .ok (.aload_n 0, 1) := by decide +kernel
theorem dX7_says_1 : decode cX7_says 1 = .ok (.iload_n 1, 1) := by decide +kernel
theorem dX7_says_2 : decode cX7_says 2 = .ok (.invokevirtual 41, 3) := by decide +kernel
theorem dX7_says_5 : decode cX7_says 5 = .ok (.istore_n 2, 1) := by decide +kernel
theorem dX7_says_6 : decode cX7_says 6 = .ok (.iload_n 2, 1) := by decide +kernel
theorem dX7_says_7 : decode cX7_says 7 = .ok (.ifCond .le 18, 3) := by decide +kernel
theorem dX7_says_10 : decode cX7_says 10 = .ok (.aload_n 0, 1) := by decide +kernel
theorem dX7_says_11 : decode cX7_says 11 = .ok (.iload_n 1, 1) := by decide +kernel
theorem dX7_says_12 : decode cX7_says 12 = .ok (.invokevirtual 44, 3) := by decide +kernel
theorem dX7_says_15 : decode cX7_says 15 = .ok (.ifCond .eq 10, 3) := by decide +kernel
theorem dX7_says_18 : decode cX7_says 18 = .ok (.bipush 10, 2) := by decide +kernel
theorem dX7_says_20 : decode cX7_says 20 = .ok (.iload_n 2, 1) := by decide +kernel
theorem dX7_says_21 : decode cX7_says 21 = .ok (.iadd, 1) := by decide +kernel
theorem dX7_says_22 : decode cX7_says 22 = .ok (.goto 4, 3) := by decide +kernel
theorem dX7_says_25 : decode cX7_says 25 = .ok (.iload_n 2, 1) := by decide +kernel
theorem dX7_says_26 : decode cX7_says 26 = .ok (.ireturn, 1) := by decide +kernel
set_option maxRecDepth 20000 in
theorem ggX7_brings_X7_says : GoodIn wsX7_brings wsX7_says := goodIn_r _ [6, 7, 8, 9, 5, 10, 1, 11, 12, 13, 14, 15, 16, 17, 18, 19, 20, 21, 22, 23, 24, 25, 26, 27, 28, 29, 30, 31, 32, 33, 34, 35, 36, 37, 38] (by decide +kernel) (by decide +kernel)
set_option maxRecDepth 20000 in
theorem gX7_brings_X7_says : GoodIn wsX7_brings (wsV RX7 48 RX7 yX7_says wsX7_says) := goodIn_app (goodIn_of _ (by decide +kernel)) ggX7_brings_X7_says
theorem dX7_brings_0 : decode cX7_brings 0 = .ok (.aload_n 0, 1) := by decide +kernel
theorem dX7_brings_1 : decode cX7_brings 1 = .ok (.iload_n 1, 1) := by decide +kernel
theorem dX7_brings_2 : decode cX7_brings 2 = .ok (.invokevirtual 48, 3) := by decide +kernel
theorem dX7_brings_5 : decode cX7_brings 5 = .ok (.istore_n 2, 1) := by decide +kernel
theorem dX7_brings_6 : decode cX7_brings 6 = .ok (.iload_n 2, 1) := by decide +kernel
theorem dX7_brings_7 : decode cX7_brings 7 = .ok (.ifCond .eq 9, 3) := by decide +kernel
theorem dX7_brings_10 : decode cX7_brings 10 = .ok (.iload_n 2, 1) := by decide +kernel
theorem dX7_brings_11 : decode cX7_brings 11 = .ok (.bipush 9, 2) := by decide +kernel
theorem dX7_brings_13 : decode cX7_brings 13 = .ok (.if_icmp .le 67, 3) := by decide +kernel
theorem dX7_brings_16 : decode cX7_brings 16 = .ok (.aload_n 0, 1) := by decide +kernel
theorem dX7_brings_17 : decode cX7_brings 17 = .ok (.getfield 7, 3) := by decide +kernel
theorem dX7_brings_20 : decode cX7_brings 20 = .ok (.bipush 17, 2) := by decide +kernel
theorem dX7_brings_22 : decode cX7_brings 22 = .ok (.aload_n 0, 1) := by decide +kernel
theorem dX7_brings_23 : decode cX7_brings 23 = .ok (.getfield 7, 3) := by decide +kernel
theorem dX7_brings_26 : decode cX7_brings 26 = .ok (.bipush 16, 2) := by decide +kernel
theorem dX7_brings_28 : decode cX7_brings 28 = .ok (.iaload, 1) := by decide +kernel
theorem dX7_brings_29 : decode cX7_brings 29 = .ok (.iadd, 1) := by decide +kernel
theorem dX7_brings_30 : decode cX7_brings 30 = .ok (.iload_n 1, 1) := by decide +kernel
theorem dX7_brings_31 : decode cX7_brings 31 = .ok (.iastore, 1) := by decide +kernel
theorem dX7_brings_32 : decode cX7_brings 32 = .ok (.aload_n 0, 1) := by decide +kernel
theorem dX7_brings_33 : decode cX7_brings 33 = .ok (.getfield 7, 3) := by decide +kernel
theorem dX7_brings_36 : decode cX7_brings 36 = .ok (.bipush 41, 2) := by decide +kernel
theorem dX7_brings_38 : decode cX7_brings 38 = .ok (.aload_n 0, 1) := by decide +kernel
theorem dX7_brings_39 : decode cX7_brings 39 = .ok (.getfield 7, 3) := by decide +kernel
theorem dX7_brings_42 : decode cX7_brings 42 = .ok (.bipush 16, 2) := by decide +kernel
theorem dX7_brings_44 : decode cX7_brings 44 = .ok (.iaload, 1) := by decide +kernel
theorem dX7_brings_45 : decode cX7_brings 45 = .ok (.iadd, 1) := by decide +kernel
theorem dX7_brings_46 : decode cX7_brings 46 = .ok (.iload_n 2, 1) := by decide +kernel
theorem dX7_brings_47 : decode cX7_brings 47 = .ok (.bipush 9, 2) := by decide +kernel
theorem dX7_brings_49 : decode cX7_brings 49 = .ok (.if_icmp .le 7, 3) := by decide +kernel
theorem dX7_brings_52 : decode cX7_brings 52 = .ok (.iconst 1, 1) := by decide +kernel
theorem dX7_brings_53 : decode cX7_brings 53 = .ok (.goto 4, 3) := by decide +kernel
theorem dX7_brings_56 : decode cX7_brings 56 = .ok (.iconst 0, 1) := by decide +kernel
theorem dX7_brings_57 : decode cX7_brings 57 = .ok (.iastore, 1) := by decide +kernel
theorem dX7_brings_58 : decode cX7_brings 58 = .ok (.aload_n 0, 1) := by decide +kernel
theorem dX7_brings_59 : decode cX7_brings 59 = .ok (.getfield 7, 3) := by decide +kernel
theorem dX7_brings_62 : decode cX7_brings 62 = .ok (.bipush 16, 2) := by decide +kernel
theorem dX7_brings_64 : decode cX7_brings 64 = .ok (.dup2, 1) := by decide +kernel
theorem dX7_brings_65 : decode cX7_brings 65 = .ok (.iaload, 1) := by decide +kernel
theorem dX7_brings_66 : decode cX7_brings 66 = .ok (.iconst 1, 1) := by decide +kernel
theorem dX7_brings_67 : decode cX7_brings 67 = .ok (.iadd, 1) := by decide +kernel
theorem dX7_brings_68 : decode cX7_brings 68 = .ok (.iastore, 1) := by decide +kernel
theorem dX7_brings_69 : decode cX7_brings 69 = .ok (.aload_n 0, 1) := by decide +kernel
theorem dX7_brings_70 : decode cX7_brings 70 = .ok (.getfield 7, 3) := by decide +kernel
theorem dX7_brings_73 : decode cX7_brings 73 = .ok (.bipush 66, 2) := by decide +kernel
theorem dX7_brings_75 : decode cX7_brings 75 = .ok (.iconst 0, 1) := by decide +kernel
theorem dX7_brings_76 : decode cX7_brings 76 = .ok (.iastore, 1) := by decide +kernel
theorem dX7_brings_77 : decode cX7_brings 77 = .ok (.goto 63, 3) := by decide +kernel
theorem dX7_brings_80 : decode cX7_brings 80 = .ok (.aload_n 0, 1) := by decide +kernel
theorem dX7_brings_81 : decode cX7_brings 81 = .ok (.getfield 7, 3) := by decide +kernel
theorem dX7_brings_84 : decode cX7_brings 84 = .ok (.bipush 66, 2) := by decide +kernel
theorem dX7_brings_86 : decode cX7_brings 86 = .ok (.aload_n 0, 1) := by decide +kernel
theorem dX7_brings_87 : decode cX7_brings 87 = .ok (.getfield 7, 3) := by decide +kernel
theorem dX7_brings_90 : decode cX7_brings 90 = .ok (.bipush 66, 2) := by decide +kernel
theorem dX7_brings_92 : decode cX7_brings 92 = .ok (.iaload, 1) := by decide +kernel
theorem dX7_brings_93 : decode cX7_brings 93 = .ok (.ifCond .le 26, 3) := by decide +kernel
theorem dX7_brings_96 : decode cX7_brings 96 = .ok (.aload_n 0, 1) := by decide +kernel
theorem dX7_brings_97 : decode cX7_brings 97 = .ok (.getfield 7, 3) := by decide +kernel
theorem dX7_brings_100 : decode cX7_brings 100 = .ok (.bipush 65, 2) := by decide +kernel
theorem dX7_brings_102 : decode cX7_brings 102 = .ok (.iaload, 1) := by decide +kernel
theorem dX7_brings_103 : decode cX7_brings 103 = .ok (.iload_n 1, 1) := by decide +kernel
theorem dX7_brings_104 : decode cX7_brings 104 = .ok (.if_icmp .ne 15, 3) := by decide +kernel
theorem dX7_brings_107 : decode cX7_brings 107 = .ok (.aload_n 0, 1) := by decide +kernel
theorem dX7_brings_108 : decode cX7_brings 108 = .ok (.getfield 7, 3) := by decide +kernel
theorem dX7_brings_111 : decode cX7_brings 111 = .ok (.bipush 66, 2) := by decide +kernel
theorem dX7_brings_113 : decode cX7_brings 113 = .ok (.iaload, 1) := by decide +kernel
theorem dX7_brings_114 : decode cX7_brings 114 = .ok (.iconst 1, 1) := by decide +kernel
theorem dX7_brings_115 : decode cX7_brings 115 = .ok (.iadd, 1) := by decide +kernel
theorem dX7_brings_116 : decode cX7_brings 116 = .ok (.goto 4, 3) := by decide +kernel
theorem dX7_brings_119 : decode cX7_brings 119 = .ok (.iconst 1, 1) := by decide +kernel
theorem dX7_brings_120 : decode cX7_brings 120 = .ok (.iastore, 1) := by decide +kernel
theorem dX7_brings_121 : decode cX7_brings 121 = .ok (.aload_n 0, 1) := by decide +kernel
theorem dX7_brings_122 : decode cX7_brings 122 = .ok (.getfield 7, 3) := by decide +kernel
theorem dX7_brings_125 : decode cX7_brings 125 = .ok (.bipush 65, 2) := by decide +kernel
theorem dX7_brings_127 : decode cX7_brings 127 = .ok (.iload_n 1, 1) := by decide +kernel
theorem dX7_brings_128 : decode cX7_brings 128 = .ok (.iastore, 1) := by decide +kernel
theorem dX7_brings_129 : decode cX7_brings 129 = .ok (.aload_n 0, 1) := by decide +kernel
theorem dX7_brings_130 : decode cX7_brings 130 = .ok (.getfield 7, 3) := by decide +kernel
theorem dX7_brings_133 : decode cX7_brings 133 = .ok (.bipush 67, 2) := by decide +kernel
theorem dX7_brings_135 : decode cX7_brings 135 = .ok (.dup2, 1) := by decide +kernel
theorem dX7_brings_136 : decode cX7_brings 136 = .ok (.iaload, 1) := by decide +kernel
theorem dX7_brings_137 : decode cX7_brings 137 = .ok (.iconst 1, 1) := by decide +kernel
theorem dX7_brings_138 : decode cX7_brings 138 = .ok (.iadd, 1) := by decide +kernel
theorem dX7_brings_139 : decode cX7_brings 139 = .ok (.iastore, 1) := by decide +kernel
theorem dX7_brings_140 : decode cX7_brings 140 = .ok (.iload_n 2, 1) := by decide +kernel
theorem dX7_brings_141 : decode cX7_brings 141 = .ok (.ireturn, 1) := by decide +kernel
set_option maxRecDepth 20000 in
theorem ggX7_bringFault_X7_in : GoodIn wsX7_bringFault wsX7_in := goodIn_r _ [7] (by decide +kernel) (by decide +kernel)
set_option maxRecDepth 20000 in
theorem gX7_bringFault_X7_in : GoodIn wsX7_bringFault (va_wsS RX7 22 yX7_in wsX7_in) := goodIn_app (goodIn_of _ (by decide +kernel)) ggX7_bringFault_X7_in
theorem dX7_bringFault_0 : decode cX7_bringFault 0 = .ok (.iload_n 1, 1) := by decide +kernel
theorem dX7_bringFault_1 : decode cX7_bringFault 1 = .ok (.iconst 0, 1) := by decide +kernel
theorem dX7_bringFault_2 : decode cX7_bringFault 2 = .ok (.sipush 255, 3) := by decide +kernel
theorem dX7_bringFault_5 : decode cX7_bringFault 5 = .ok (.invokestatic 22, 3) := by decide +kernel
theorem dX7_bringFault_8 : decode cX7_bringFault 8 = .ok (.ifCond .ne 8, 3) := by decide +kernel
theorem dX7_bringFault_11 : decode cX7_bringFault 11 = .ok (.ldc 51, 2) := by decide +kernel
theorem dX7_bringFault_13 : decode cX7_bringFault 13 = .ok (.goto 21, 3) := by decide +kernel
theorem dX7_bringFault_16 : decode cX7_bringFault 16 = .ok (.aload_n 0, 1) := by decide +kernel
theorem dX7_bringFault_17 : decode cX7_bringFault 17 = .ok (.getfield 7, 3) := by decide +kernel
theorem dX7_bringFault_20 : decode cX7_bringFault 20 = .ok (.bipush 16, 2) := by decide +kernel
theorem dX7_bringFault_22 : decode cX7_bringFault 22 = .ok (.iaload, 1) := by decide +kernel
theorem dX7_bringFault_23 : decode cX7_bringFault 23 = .ok (.bipush 24, 2) := by decide +kernel
theorem dX7_bringFault_25 : decode cX7_bringFault 25 = .ok (.if_icmp .ne 8, 3) := by decide +kernel
theorem dX7_bringFault_28 : decode cX7_bringFault 28 = .ok (.ldc 52, 2) := by decide +kernel
theorem dX7_bringFault_30 : decode cX7_bringFault 30 = .ok (.goto 4, 3) := by decide +kernel
theorem dX7_bringFault_33 : decode cX7_bringFault 33 = .ok (.iconst 0, 1) := by decide +kernel
theorem dX7_bringFault_34 : decode cX7_bringFault 34 = .ok (.ireturn, 1) := by decide +kernel
theorem dX7_tears_0 : decode cX7_tears 0 = .ok (.aload_n 0, 1) := by decide +kernel
theorem dX7_tears_1 : decode cX7_tears 1 = .ok (.getfield 7, 3) := by decide +kernel
theorem dX7_tears_4 : decode cX7_tears 4 = .ok (.bipush 17, 2) := by decide +kernel
theorem dX7_tears_6 : decode cX7_tears 6 = .ok (.iload_n 1, 1) := by decide +kernel
theorem dX7_tears_7 : decode cX7_tears 7 = .ok (.iadd, 1) := by decide +kernel
theorem dX7_tears_8 : decode cX7_tears 8 = .ok (.iaload, 1) := by decide +kernel
theorem dX7_tears_9 : decode cX7_tears 9 = .ok (.istore_n 2, 1) := by decide +kernel
theorem dX7_tears_10 : decode cX7_tears 10 = .ok (.aload_n 0, 1) := by decide +kernel
theorem dX7_tears_11 : decode cX7_tears 11 = .ok (.getfield 7, 3) := by decide +kernel
theorem dX7_tears_14 : decode cX7_tears 14 = .ok (.bipush 16, 2) := by decide +kernel
theorem dX7_tears_16 : decode cX7_tears 16 = .ok (.dup2, 1) := by decide +kernel
theorem dX7_tears_17 : decode cX7_tears 17 = .ok (.iaload, 1) := by decide +kernel
theorem dX7_tears_18 : decode cX7_tears 18 = .ok (.iconst 1, 1) := by decide +kernel
theorem dX7_tears_19 : decode cX7_tears 19 = .ok (.isub, 1) := by decide +kernel
theorem dX7_tears_20 : decode cX7_tears 20 = .ok (.iastore, 1) := by decide +kernel
theorem dX7_tears_21 : decode cX7_tears 21 = .ok (.iload_n 1, 1) := by decide +kernel
theorem dX7_tears_22 : decode cX7_tears 22 = .ok (.istore_n 3, 1) := by decide +kernel
theorem dX7_tears_23 : decode cX7_tears 23 = .ok (.iload_n 3, 1) := by decide +kernel
theorem dX7_tears_24 : decode cX7_tears 24 = .ok (.aload_n 0, 1) := by decide +kernel
theorem dX7_tears_25 : decode cX7_tears 25 = .ok (.getfield 7, 3) := by decide +kernel
theorem dX7_tears_28 : decode cX7_tears 28 = .ok (.bipush 16, 2) := by decide +kernel
theorem dX7_tears_30 : decode cX7_tears 30 = .ok (.iaload, 1) := by decide +kernel
theorem dX7_tears_31 : decode cX7_tears 31 = .ok (.if_icmp .ge 49, 3) := by decide +kernel
theorem dX7_tears_34 : decode cX7_tears 34 = .ok (.aload_n 0, 1) := by decide +kernel
theorem dX7_tears_35 : decode cX7_tears 35 = .ok (.getfield 7, 3) := by decide +kernel
theorem dX7_tears_38 : decode cX7_tears 38 = .ok (.bipush 17, 2) := by decide +kernel
theorem dX7_tears_40 : decode cX7_tears 40 = .ok (.iload_n 3, 1) := by decide +kernel
theorem dX7_tears_41 : decode cX7_tears 41 = .ok (.iadd, 1) := by decide +kernel
theorem dX7_tears_42 : decode cX7_tears 42 = .ok (.aload_n 0, 1) := by decide +kernel
theorem dX7_tears_43 : decode cX7_tears 43 = .ok (.getfield 7, 3) := by decide +kernel
theorem dX7_tears_46 : decode cX7_tears 46 = .ok (.bipush 17, 2) := by decide +kernel
theorem dX7_tears_48 : decode cX7_tears 48 = .ok (.iload_n 3, 1) := by decide +kernel
theorem dX7_tears_49 : decode cX7_tears 49 = .ok (.iadd, 1) := by decide +kernel
theorem dX7_tears_50 : decode cX7_tears 50 = .ok (.iconst 1, 1) := by decide +kernel
theorem dX7_tears_51 : decode cX7_tears 51 = .ok (.iadd, 1) := by decide +kernel
theorem dX7_tears_52 : decode cX7_tears 52 = .ok (.iaload, 1) := by decide +kernel
theorem dX7_tears_53 : decode cX7_tears 53 = .ok (.iastore, 1) := by decide +kernel
theorem dX7_tears_54 : decode cX7_tears 54 = .ok (.aload_n 0, 1) := by decide +kernel
theorem dX7_tears_55 : decode cX7_tears 55 = .ok (.getfield 7, 3) := by decide +kernel
theorem dX7_tears_58 : decode cX7_tears 58 = .ok (.bipush 41, 2) := by decide +kernel
theorem dX7_tears_60 : decode cX7_tears 60 = .ok (.iload_n 3, 1) := by decide +kernel
theorem dX7_tears_61 : decode cX7_tears 61 = .ok (.iadd, 1) := by decide +kernel
theorem dX7_tears_62 : decode cX7_tears 62 = .ok (.aload_n 0, 1) := by decide +kernel
theorem dX7_tears_63 : decode cX7_tears 63 = .ok (.getfield 7, 3) := by decide +kernel
theorem dX7_tears_66 : decode cX7_tears 66 = .ok (.bipush 41, 2) := by decide +kernel
theorem dX7_tears_68 : decode cX7_tears 68 = .ok (.iload_n 3, 1) := by decide +kernel
theorem dX7_tears_69 : decode cX7_tears 69 = .ok (.iadd, 1) := by decide +kernel
theorem dX7_tears_70 : decode cX7_tears 70 = .ok (.iconst 1, 1) := by decide +kernel
theorem dX7_tears_71 : decode cX7_tears 71 = .ok (.iadd, 1) := by decide +kernel
theorem dX7_tears_72 : decode cX7_tears 72 = .ok (.iaload, 1) := by decide +kernel
theorem dX7_tears_73 : decode cX7_tears 73 = .ok (.iastore, 1) := by decide +kernel
theorem dX7_tears_74 : decode cX7_tears 74 = .ok (.iinc 3 1, 3) := by decide +kernel
theorem dX7_tears_77 : decode cX7_tears 77 = .ok (.goto (-54), 3) := by decide +kernel
theorem dX7_tears_80 : decode cX7_tears 80 = .ok (.iload_n 2, 1) := by decide +kernel
theorem dX7_tears_81 : decode cX7_tears 81 = .ok (.ireturn, 1) := by decide +kernel
theorem dX7_exchange_0 : decode cX7_exchange 0 = .ok (.aload_n 0, 1) := by decide +kernel
theorem dX7_exchange_1 : decode cX7_exchange 1 = .ok (.getfield 7, 3) := by decide +kernel
theorem dX7_exchange_4 : decode cX7_exchange 4 = .ok (.bipush 17, 2) := by decide +kernel
theorem dX7_exchange_6 : decode cX7_exchange 6 = .ok (.iload_n 1, 1) := by decide +kernel
theorem dX7_exchange_7 : decode cX7_exchange 7 = .ok (.iadd, 1) := by decide +kernel
theorem dX7_exchange_8 : decode cX7_exchange 8 = .ok (.iaload, 1) := by decide +kernel
theorem dX7_exchange_9 : decode cX7_exchange 9 = .ok (.istore_n 3, 1) := by decide +kernel
theorem dX7_exchange_10 : decode cX7_exchange 10 = .ok (.aload_n 0, 1) := by decide +kernel
theorem dX7_exchange_11 : decode cX7_exchange 11 = .ok (.getfield 7, 3) := by decide +kernel
theorem dX7_exchange_14 : decode cX7_exchange 14 = .ok (.bipush 41, 2) := by decide +kernel
theorem dX7_exchange_16 : decode cX7_exchange 16 = .ok (.iload_n 1, 1) := by decide +kernel
theorem dX7_exchange_17 : decode cX7_exchange 17 = .ok (.iadd, 1) := by decide +kernel
theorem dX7_exchange_18 : decode cX7_exchange 18 = .ok (.iaload, 1) := by decide +kernel
theorem dX7_exchange_19 : decode cX7_exchange 19 = .ok (.istore 4, 2) := by decide +kernel
theorem dX7_exchange_21 : decode cX7_exchange 21 = .ok (.aload_n 0, 1) := by decide +kernel
theorem dX7_exchange_22 : decode cX7_exchange 22 = .ok (.getfield 7, 3) := by decide +kernel
theorem dX7_exchange_25 : decode cX7_exchange 25 = .ok (.bipush 17, 2) := by decide +kernel
theorem dX7_exchange_27 : decode cX7_exchange 27 = .ok (.iload_n 1, 1) := by decide +kernel
theorem dX7_exchange_28 : decode cX7_exchange 28 = .ok (.iadd, 1) := by decide +kernel
theorem dX7_exchange_29 : decode cX7_exchange 29 = .ok (.aload_n 0, 1) := by decide +kernel
theorem dX7_exchange_30 : decode cX7_exchange 30 = .ok (.getfield 7, 3) := by decide +kernel
theorem dX7_exchange_33 : decode cX7_exchange 33 = .ok (.bipush 17, 2) := by decide +kernel
theorem dX7_exchange_35 : decode cX7_exchange 35 = .ok (.iload_n 2, 1) := by decide +kernel
theorem dX7_exchange_36 : decode cX7_exchange 36 = .ok (.iadd, 1) := by decide +kernel
theorem dX7_exchange_37 : decode cX7_exchange 37 = .ok (.iaload, 1) := by decide +kernel
theorem dX7_exchange_38 : decode cX7_exchange 38 = .ok (.iastore, 1) := by decide +kernel
theorem dX7_exchange_39 : decode cX7_exchange 39 = .ok (.aload_n 0, 1) := by decide +kernel
theorem dX7_exchange_40 : decode cX7_exchange 40 = .ok (.getfield 7, 3) := by decide +kernel
theorem dX7_exchange_43 : decode cX7_exchange 43 = .ok (.bipush 41, 2) := by decide +kernel
theorem dX7_exchange_45 : decode cX7_exchange 45 = .ok (.iload_n 1, 1) := by decide +kernel
theorem dX7_exchange_46 : decode cX7_exchange 46 = .ok (.iadd, 1) := by decide +kernel
theorem dX7_exchange_47 : decode cX7_exchange 47 = .ok (.aload_n 0, 1) := by decide +kernel
theorem dX7_exchange_48 : decode cX7_exchange 48 = .ok (.getfield 7, 3) := by decide +kernel
theorem dX7_exchange_51 : decode cX7_exchange 51 = .ok (.bipush 41, 2) := by decide +kernel
theorem dX7_exchange_53 : decode cX7_exchange 53 = .ok (.iload_n 2, 1) := by decide +kernel
theorem dX7_exchange_54 : decode cX7_exchange 54 = .ok (.iadd, 1) := by decide +kernel
theorem dX7_exchange_55 : decode cX7_exchange 55 = .ok (.iaload, 1) := by decide +kernel
theorem dX7_exchange_56 : decode cX7_exchange 56 = .ok (.iastore, 1) := by decide +kernel
theorem dX7_exchange_57 : decode cX7_exchange 57 = .ok (.aload_n 0, 1) := by decide +kernel
theorem dX7_exchange_58 : decode cX7_exchange 58 = .ok (.getfield 7, 3) := by decide +kernel
theorem dX7_exchange_61 : decode cX7_exchange 61 = .ok (.bipush 17, 2) := by decide +kernel
theorem dX7_exchange_63 : decode cX7_exchange 63 = .ok (.iload_n 2, 1) := by decide +kernel
theorem dX7_exchange_64 : decode cX7_exchange 64 = .ok (.iadd, 1) := by decide +kernel
theorem dX7_exchange_65 : decode cX7_exchange 65 = .ok (.iload_n 3, 1) := by decide +kernel
theorem dX7_exchange_66 : decode cX7_exchange 66 = .ok (.iastore, 1) := by decide +kernel
theorem dX7_exchange_67 : decode cX7_exchange 67 = .ok (.aload_n 0, 1) := by decide +kernel
theorem dX7_exchange_68 : decode cX7_exchange 68 = .ok (.getfield 7, 3) := by decide +kernel
theorem dX7_exchange_71 : decode cX7_exchange 71 = .ok (.bipush 41, 2) := by decide +kernel
theorem dX7_exchange_73 : decode cX7_exchange 73 = .ok (.iload_n 2, 1) := by decide +kernel
theorem dX7_exchange_74 : decode cX7_exchange 74 = .ok (.iadd, 1) := by decide +kernel
theorem dX7_exchange_75 : decode cX7_exchange 75 = .ok (.iload 4, 2) := by decide +kernel
theorem dX7_exchange_77 : decode cX7_exchange 77 = .ok (.iastore, 1) := by decide +kernel
theorem dX7_exchange_78 : decode cX7_exchange 78 = .ok (.return_, 1) := by decide +kernel
set_option maxRecDepth 20000 in
theorem ggX7_turns_X7_exchange : GoodIn wsX7_turns wsX7_exchange := goodIn_r _ [6, 1, 7, 8, 9, 10, 11, 12, 13, 14, 15, 16, 17, 18, 19, 20] (by decide +kernel) (by decide +kernel)
set_option maxRecDepth 20000 in
theorem gX7_turns_X7_exchange : GoodIn wsX7_turns (wsV RX7 53 RX7 yX7_exchange wsX7_exchange) := goodIn_app (goodIn_of _ (by decide +kernel)) ggX7_turns_X7_exchange
theorem dX7_turns_0 : decode cX7_turns 0 = .ok (.iconst 0, 1) := by decide +kernel
theorem dX7_turns_1 : decode cX7_turns 1 = .ok (.istore_n 1, 1) := by decide +kernel
theorem dX7_turns_2 : decode cX7_turns 2 = .ok (.iload_n 1, 1) := by decide +kernel
theorem dX7_turns_3 : decode cX7_turns 3 = .ok (.aload_n 0, 1) := by decide +kernel
theorem dX7_turns_4 : decode cX7_turns 4 = .ok (.getfield 7, 3) := by decide +kernel
theorem dX7_turns_7 : decode cX7_turns 7 = .ok (.bipush 16, 2) := by decide +kernel
theorem dX7_turns_9 : decode cX7_turns 9 = .ok (.iaload, 1) := by decide +kernel
theorem dX7_turns_10 : decode cX7_turns 10 = .ok (.iconst 2, 1) := by decide +kernel
theorem dX7_turns_11 : decode cX7_turns 11 = .ok (.idiv, 1) := by decide +kernel
theorem dX7_turns_12 : decode cX7_turns 12 = .ok (.if_icmp .ge 25, 3) := by decide +kernel
theorem dX7_turns_15 : decode cX7_turns 15 = .ok (.aload_n 0, 1) := by decide +kernel
theorem dX7_turns_16 : decode cX7_turns 16 = .ok (.iload_n 1, 1) := by decide +kernel
theorem dX7_turns_17 : decode cX7_turns 17 = .ok (.aload_n 0, 1) := by decide +kernel
theorem dX7_turns_18 : decode cX7_turns 18 = .ok (.getfield 7, 3) := by decide +kernel
theorem dX7_turns_21 : decode cX7_turns 21 = .ok (.bipush 16, 2) := by decide +kernel
theorem dX7_turns_23 : decode cX7_turns 23 = .ok (.iaload, 1) := by decide +kernel
theorem dX7_turns_24 : decode cX7_turns 24 = .ok (.iconst 1, 1) := by decide +kernel
theorem dX7_turns_25 : decode cX7_turns 25 = .ok (.isub, 1) := by decide +kernel
theorem dX7_turns_26 : decode cX7_turns 26 = .ok (.iload_n 1, 1) := by decide +kernel
theorem dX7_turns_27 : decode cX7_turns 27 = .ok (.isub, 1) := by decide +kernel
theorem dX7_turns_28 : decode cX7_turns 28 = .ok (.invokevirtual 53, 3) := by decide +kernel
theorem dX7_turns_31 : decode cX7_turns 31 = .ok (.iinc 1 1, 3) := by decide +kernel
theorem dX7_turns_34 : decode cX7_turns 34 = .ok (.goto (-32), 3) := by decide +kernel
theorem dX7_turns_37 : decode cX7_turns 37 = .ok (.aload_n 0, 1) := by decide +kernel
theorem dX7_turns_38 : decode cX7_turns 38 = .ok (.getfield 7, 3) := by decide +kernel
theorem dX7_turns_41 : decode cX7_turns 41 = .ok (.bipush 16, 2) := by decide +kernel
theorem dX7_turns_43 : decode cX7_turns 43 = .ok (.iaload, 1) := by decide +kernel
theorem dX7_turns_44 : decode cX7_turns 44 = .ok (.ireturn, 1) := by decide +kernel
set_option maxRecDepth 20000 in
theorem ggX7_mirrored_X7_has : GoodIn wsX7_mirrored wsX7_has := goodIn_r _ [4] (by decide +kernel) (by decide +kernel)
set_option maxRecDepth 20000 in
theorem gX7_mirrored_X7_has : GoodIn wsX7_mirrored (va_wsS RX7 30 yX7_has wsX7_has) := goodIn_app (goodIn_of _ (by decide +kernel)) ggX7_mirrored_X7_has
theorem dX7_mirrored_0 : decode cX7_mirrored 0 = .ok (.iconst 0, 1) := by decide +kernel
theorem dX7_mirrored_1 : decode cX7_mirrored 1 = .ok (.istore_n 1, 1) := by decide +kernel
theorem dX7_mirrored_2 : decode cX7_mirrored 2 = .ok (.iconst 0, 1) := by decide +kernel
theorem dX7_mirrored_3 : decode cX7_mirrored 3 = .ok (.istore_n 2, 1) := by decide +kernel
theorem dX7_mirrored_4 : decode cX7_mirrored 4 = .ok (.iload_n 2, 1) := by decide +kernel
theorem dX7_mirrored_5 : decode cX7_mirrored 5 = .ok (.bipush 8, 2) := by decide +kernel
theorem dX7_mirrored_7 : decode cX7_mirrored 7 = .ok (.if_icmp .ge 30, 3) := by decide +kernel
theorem dX7_mirrored_10 : decode cX7_mirrored 10 = .ok (.iload_n 1, 1) := by decide +kernel
theorem dX7_mirrored_11 : decode cX7_mirrored 11 = .ok (.iload_n 0, 1) := by decide +kernel
theorem dX7_mirrored_12 : decode cX7_mirrored 12 = .ok (.iload_n 2, 1) := by decide +kernel
theorem dX7_mirrored_13 : decode cX7_mirrored 13 = .ok (.invokestatic 30, 3) := by decide +kernel
theorem dX7_mirrored_16 : decode cX7_mirrored 16 = .ok (.ifCond .eq 12, 3) := by decide +kernel
theorem dX7_mirrored_19 : decode cX7_mirrored 19 = .ok (.iconst 1, 1) := by decide +kernel
theorem dX7_mirrored_20 : decode cX7_mirrored 20 = .ok (.bipush 7, 2) := by decide +kernel
theorem dX7_mirrored_22 : decode cX7_mirrored 22 = .ok (.iload_n 2, 1) := by decide +kernel
theorem dX7_mirrored_23 : decode cX7_mirrored 23 = .ok (.isub, 1) := by decide +kernel
theorem dX7_mirrored_24 : decode cX7_mirrored 24 = .ok (.ishl, 1) := by decide +kernel
theorem dX7_mirrored_25 : decode cX7_mirrored 25 = .ok (.goto 4, 3) := by decide +kernel
theorem dX7_mirrored_28 : decode cX7_mirrored 28 = .ok (.iconst 0, 1) := by decide +kernel
theorem dX7_mirrored_29 : decode cX7_mirrored 29 = .ok (.ior, 1) := by decide +kernel
theorem dX7_mirrored_30 : decode cX7_mirrored 30 = .ok (.istore_n 1, 1) := by decide +kernel
theorem dX7_mirrored_31 : decode cX7_mirrored 31 = .ok (.iinc 2 1, 3) := by decide +kernel
theorem dX7_mirrored_34 : decode cX7_mirrored 34 = .ok (.goto (-30), 3) := by decide +kernel
theorem dX7_mirrored_37 : decode cX7_mirrored 37 = .ok (.iload_n 1, 1) := by decide +kernel
theorem dX7_mirrored_38 : decode cX7_mirrored 38 = .ok (.ireturn, 1) := by decide +kernel
theorem dX7_puts_0 : decode cX7_puts 0 = .ok (.aload_n 0, 1) := by decide +kernel
theorem dX7_puts_1 : decode cX7_puts 1 = .ok (.getfield 7, 3) := by decide +kernel
theorem dX7_puts_4 : decode cX7_puts 4 = .ok (.iload_n 1, 1) := by decide +kernel
theorem dX7_puts_5 : decode cX7_puts 5 = .ok (.iaload, 1) := by decide +kernel
theorem dX7_puts_6 : decode cX7_puts 6 = .ok (.istore_n 3, 1) := by decide +kernel
theorem dX7_puts_7 : decode cX7_puts 7 = .ok (.aload_n 0, 1) := by decide +kernel
theorem dX7_puts_8 : decode cX7_puts 8 = .ok (.getfield 7, 3) := by decide +kernel
theorem dX7_puts_11 : decode cX7_puts 11 = .ok (.iload_n 1, 1) := by decide +kernel
theorem dX7_puts_12 : decode cX7_puts 12 = .ok (.iload_n 2, 1) := by decide +kernel
theorem dX7_puts_13 : decode cX7_puts 13 = .ok (.iastore, 1) := by decide +kernel
theorem dX7_puts_14 : decode cX7_puts 14 = .ok (.iload_n 3, 1) := by decide +kernel
theorem dX7_puts_15 : decode cX7_puts 15 = .ok (.ireturn, 1) := by decide +kernel
set_option maxRecDepth 20000 in
theorem ggX7_note_X7_in : GoodIn wsX7_note wsX7_in := goodIn_r _ [5] (by decide +kernel) (by decide +kernel)
set_option maxRecDepth 20000 in
theorem gX7_note_X7_in : GoodIn wsX7_note (va_wsS RX7 22 yX7_in wsX7_in) := goodIn_app (goodIn_of _ (by decide +kernel)) ggX7_note_X7_in
set_option maxRecDepth 20000 in
theorem ggX7_note_X7_know : GoodIn wsX7_note wsX7_know := goodIn_r _ [9, 10, 11, 12, 17, 18, 19, 20, 21, 22, 23, 24, 25, 26, 27, 28, 29, 30] (by decide +kernel) (by decide +kernel)
set_option maxRecDepth 20000 in
theorem gX7_note_X7_know : GoodIn wsX7_note (wsV RX7 57 RX7 yX7_know wsX7_know) := goodIn_app (goodIn_of _ (by decide +kernel)) ggX7_note_X7_know
set_option maxRecDepth 20000 in
theorem ggX7_note_X7_puts : GoodIn wsX7_note wsX7_puts := goodIn_r _ [16, 12, 17, 18, 19, 20, 21, 22, 23, 24, 25, 26, 27, 28, 29, 30] (by decide +kernel) (by decide +kernel)
set_option maxRecDepth 20000 in
theorem gX7_note_X7_puts : GoodIn wsX7_note (wsV RX7 60 RX7 yX7_puts wsX7_puts) := goodIn_app (goodIn_of _ (by decide +kernel)) ggX7_note_X7_puts
theorem dX7_note_0 : decode cX7_note 0 = .ok (.iload_n 1, 1) := by decide +kernel
theorem dX7_note_1 : decode cX7_note 1 = .ok (.iconst 0, 1) := by decide +kernel
theorem dX7_note_2 : decode cX7_note 2 = .ok (.bipush 7, 2) := by decide +kernel
theorem dX7_note_4 : decode cX7_note 4 = .ok (.invokestatic 22, 3) := by decide +kernel
theorem dX7_note_7 : decode cX7_note 7 = .ok (.ifCond .eq 13, 3) := by decide +kernel
theorem dX7_note_10 : decode cX7_note 10 = .ok (.iload_n 2, 1) := by decide +kernel
theorem dX7_note_11 : decode cX7_note 11 = .ok (.iconst 0, 1) := by decide +kernel
theorem dX7_note_12 : decode cX7_note 12 = .ok (.bipush 47, 2) := by decide +kernel
theorem dX7_note_14 : decode cX7_note 14 = .ok (.invokestatic 22, 3) := by decide +kernel
theorem dX7_note_17 : decode cX7_note 17 = .ok (.ifCond .ne 6, 3) := by decide +kernel
theorem dX7_note_20 : decode cX7_note 20 = .ok (.ldc 51, 2) := by decide +kernel
theorem dX7_note_22 : decode cX7_note 22 = .ok (.ireturn, 1) := by decide +kernel
theorem dX7_note_23 : decode cX7_note 23 = .ok (.aload_n 0, 1) := by decide +kernel
theorem dX7_note_24 : decode cX7_note 24 = .ok (.invokevirtual 57, 3) := by decide +kernel
theorem dX7_note_27 : decode cX7_note 27 = .ok (.aload_n 0, 1) := by decide +kernel
theorem dX7_note_28 : decode cX7_note 28 = .ok (.iconst 0, 1) := by decide +kernel
theorem dX7_note_29 : decode cX7_note 29 = .ok (.iload_n 1, 1) := by decide +kernel
theorem dX7_note_30 : decode cX7_note 30 = .ok (.iadd, 1) := by decide +kernel
theorem dX7_note_31 : decode cX7_note 31 = .ok (.iload_n 2, 1) := by decide +kernel
theorem dX7_note_32 : decode cX7_note 32 = .ok (.invokevirtual 60, 3) := by decide +kernel
theorem dX7_note_35 : decode cX7_note 35 = .ok (.ireturn, 1) := by decide +kernel
set_option maxRecDepth 20000 in
theorem ggX7_colour_X7_in : GoodIn wsX7_colour wsX7_in := goodIn_r _ [5] (by decide +kernel) (by decide +kernel)
set_option maxRecDepth 20000 in
theorem gX7_colour_X7_in : GoodIn wsX7_colour (va_wsS RX7 22 yX7_in wsX7_in) := goodIn_app (goodIn_of _ (by decide +kernel)) ggX7_colour_X7_in
set_option maxRecDepth 20000 in
theorem ggX7_colour_X7_know : GoodIn wsX7_colour wsX7_know := goodIn_r _ [9, 10, 11, 12, 17, 18, 19, 20, 21, 22, 23, 24, 25, 26, 27, 28, 29, 30] (by decide +kernel) (by decide +kernel)
set_option maxRecDepth 20000 in
theorem gX7_colour_X7_know : GoodIn wsX7_colour (wsV RX7 57 RX7 yX7_know wsX7_know) := goodIn_app (goodIn_of _ (by decide +kernel)) ggX7_colour_X7_know
set_option maxRecDepth 20000 in
theorem ggX7_colour_X7_puts : GoodIn wsX7_colour wsX7_puts := goodIn_r _ [16, 12, 17, 18, 19, 20, 21, 22, 23, 24, 25, 26, 27, 28, 29, 30] (by decide +kernel) (by decide +kernel)
set_option maxRecDepth 20000 in
theorem gX7_colour_X7_puts : GoodIn wsX7_colour (wsV RX7 60 RX7 yX7_puts wsX7_puts) := goodIn_app (goodIn_of _ (by decide +kernel)) ggX7_colour_X7_puts
theorem dX7_colour_0 : decode cX7_colour 0 = .ok (.iload_n 1, 1) := by decide +kernel
theorem dX7_colour_1 : decode cX7_colour 1 = .ok (.iconst 0, 1) := by decide +kernel
theorem dX7_colour_2 : decode cX7_colour 2 = .ok (.bipush 7, 2) := by decide +kernel
theorem dX7_colour_4 : decode cX7_colour 4 = .ok (.invokestatic 22, 3) := by decide +kernel
theorem dX7_colour_7 : decode cX7_colour 7 = .ok (.ifCond .eq 12, 3) := by decide +kernel
theorem dX7_colour_10 : decode cX7_colour 10 = .ok (.iload_n 2, 1) := by decide +kernel
theorem dX7_colour_11 : decode cX7_colour 11 = .ok (.iconst 0, 1) := by decide +kernel
theorem dX7_colour_12 : decode cX7_colour 12 = .ok (.iconst 3, 1) := by decide +kernel
theorem dX7_colour_13 : decode cX7_colour 13 = .ok (.invokestatic 22, 3) := by decide +kernel
theorem dX7_colour_16 : decode cX7_colour 16 = .ok (.ifCond .ne 6, 3) := by decide +kernel
theorem dX7_colour_19 : decode cX7_colour 19 = .ok (.ldc 51, 2) := by decide +kernel
theorem dX7_colour_21 : decode cX7_colour 21 = .ok (.ireturn, 1) := by decide +kernel
theorem dX7_colour_22 : decode cX7_colour 22 = .ok (.aload_n 0, 1) := by decide +kernel
theorem dX7_colour_23 : decode cX7_colour 23 = .ok (.invokevirtual 57, 3) := by decide +kernel
theorem dX7_colour_26 : decode cX7_colour 26 = .ok (.aload_n 0, 1) := by decide +kernel
theorem dX7_colour_27 : decode cX7_colour 27 = .ok (.bipush 8, 2) := by decide +kernel
theorem dX7_colour_29 : decode cX7_colour 29 = .ok (.iload_n 1, 1) := by decide +kernel
theorem dX7_colour_30 : decode cX7_colour 30 = .ok (.iadd, 1) := by decide +kernel
theorem dX7_colour_31 : decode cX7_colour 31 = .ok (.iload_n 2, 1) := by decide +kernel
theorem dX7_colour_32 : decode cX7_colour 32 = .ok (.invokevirtual 60, 3) := by decide +kernel
theorem dX7_colour_35 : decode cX7_colour 35 = .ok (.ireturn, 1) := by decide +kernel
set_option maxRecDepth 20000 in
theorem ggX7_bring_X7_bringFault : GoodIn wsX7_bring wsX7_bringFault := goodIn_r _ [5, 6, 7, 8, 9, 10, 4, 11, 44, 45, 46, 47, 48, 49, 50, 51, 52, 53, 54, 55, 56, 57] (by decide +kernel) (by decide +kernel)
set_option maxRecDepth 20000 in
theorem gX7_bring_X7_bringFault : GoodIn wsX7_bring (wsV RX7 64 RX7 yX7_bringFault wsX7_bringFault) := goodIn_app (goodIn_of _ (by decide +kernel)) ggX7_bring_X7_bringFault
set_option maxRecDepth 20000 in
theorem ggX7_bring_X7_know : GoodIn wsX7_bring wsX7_know := goodIn_r _ [15, 16, 17, 7, 44, 45, 46, 47, 48, 49, 50, 51, 52, 53, 54, 55, 56, 57] (by decide +kernel) (by decide +kernel)
set_option maxRecDepth 20000 in
theorem gX7_bring_X7_know : GoodIn wsX7_bring (wsV RX7 57 RX7 yX7_know wsX7_know) := goodIn_app (goodIn_of _ (by decide +kernel)) ggX7_bring_X7_know
set_option maxRecDepth 20000 in
theorem ggX7_bring_X7_brings : GoodIn wsX7_bring wsX7_brings := goodIn_r _ [21, 7, 22, 23, 24, 4, 25, 26, 27, 28, 29, 30, 31, 32, 33, 34, 35, 36, 37, 38, 39, 40, 41, 42, 43, 44, 45, 46, 47, 48, 49, 50, 51, 52, 53, 54, 55, 56, 57] (by decide +kernel) (by decide +kernel)
set_option maxRecDepth 20000 in
theorem gX7_bring_X7_brings : GoodIn wsX7_bring (wsV RX7 67 RX7 yX7_brings wsX7_brings) := goodIn_app (goodIn_of _ (by decide +kernel)) ggX7_bring_X7_brings
theorem dX7_bring_0 : decode cX7_bring 0 = .ok (.aload_n 0, 1) := by decide +kernel
theorem dX7_bring_1 : decode cX7_bring 1 = .ok (.iload_n 1, 1) := by decide +kernel
theorem dX7_bring_2 : decode cX7_bring 2 = .ok (.invokevirtual 64, 3) := by decide +kernel
theorem dX7_bring_5 : decode cX7_bring 5 = .ok (.istore_n 2, 1) := by decide +kernel
theorem dX7_bring_6 : decode cX7_bring 6 = .ok (.iload_n 2, 1) := by decide +kernel
theorem dX7_bring_7 : decode cX7_bring 7 = .ok (.ifCond .ge 5, 3) := by decide +kernel
theorem dX7_bring_10 : decode cX7_bring 10 = .ok (.iload_n 2, 1) := by decide +kernel
theorem dX7_bring_11 : decode cX7_bring 11 = .ok (.ireturn, 1) := by decide +kernel
theorem dX7_bring_12 : decode cX7_bring 12 = .ok (.aload_n 0, 1) := by decide +kernel
theorem dX7_bring_13 : decode cX7_bring 13 = .ok (.invokevirtual 57, 3) := by decide +kernel
theorem dX7_bring_16 : decode cX7_bring 16 = .ok (.aload_n 0, 1) := by decide +kernel
theorem dX7_bring_17 : decode cX7_bring 17 = .ok (.iload_n 1, 1) := by decide +kernel
theorem dX7_bring_18 : decode cX7_bring 18 = .ok (.invokevirtual 67, 3) := by decide +kernel
theorem dX7_bring_21 : decode cX7_bring 21 = .ok (.ireturn, 1) := by decide +kernel
set_option maxRecDepth 20000 in
theorem ggX7_tear_X7_isCard : GoodIn wsX7_tear wsX7_isCard := goodIn_r _ [6, 7, 8, 9, 5, 10, 21, 22, 23, 24, 25, 26, 27, 28, 29, 30, 31, 32, 33, 34] (by decide +kernel) (by decide +kernel)
set_option maxRecDepth 20000 in
theorem gX7_tear_X7_isCard : GoodIn wsX7_tear (wsV RX7 70 RX7 yX7_isCard wsX7_isCard) := goodIn_app (goodIn_of _ (by decide +kernel)) ggX7_tear_X7_isCard
set_option maxRecDepth 20000 in
theorem ggX7_tear_X7_know : GoodIn wsX7_tear wsX7_know := goodIn_r _ [14, 15, 16, 7, 21, 22, 23, 24, 25, 26, 27, 28, 29, 30, 31, 32, 33, 34] (by decide +kernel) (by decide +kernel)
set_option maxRecDepth 20000 in
theorem gX7_tear_X7_know : GoodIn wsX7_tear (wsV RX7 57 RX7 yX7_know wsX7_know) := goodIn_app (goodIn_of _ (by decide +kernel)) ggX7_tear_X7_know
set_option maxRecDepth 20000 in
theorem ggX7_tear_X7_tears : GoodIn wsX7_tear wsX7_tears := goodIn_r _ [20, 7, 21, 22, 23, 24, 25, 26, 27, 28, 29, 30, 31, 32, 33, 34] (by decide +kernel) (by decide +kernel)
set_option maxRecDepth 20000 in
theorem gX7_tear_X7_tears : GoodIn wsX7_tear (wsV RX7 73 RX7 yX7_tears wsX7_tears) := goodIn_app (goodIn_of _ (by decide +kernel)) ggX7_tear_X7_tears
theorem dX7_tear_0 : decode cX7_tear 0 = .ok (.aload_n 0, 1) := by decide +kernel
theorem dX7_tear_1 : decode cX7_tear 1 = .ok (.iload_n 1, 1) := by decide +kernel
theorem dX7_tear_2 : decode cX7_tear 2 = .ok (.invokevirtual 70, 3) := by decide +kernel
theorem dX7_tear_5 : decode cX7_tear 5 = .ok (.ifCond .ne 6, 3) := by decide +kernel
theorem dX7_tear_8 : decode cX7_tear 8 = .ok (.ldc 51, 2) := by decide +kernel
theorem dX7_tear_10 : decode cX7_tear 10 = .ok (.ireturn, 1) := by decide +kernel
theorem dX7_tear_11 : decode cX7_tear 11 = .ok (.aload_n 0, 1) := by decide +kernel
theorem dX7_tear_12 : decode cX7_tear 12 = .ok (.invokevirtual 57, 3) := by decide +kernel
theorem dX7_tear_15 : decode cX7_tear 15 = .ok (.aload_n 0, 1) := by decide +kernel
theorem dX7_tear_16 : decode cX7_tear 16 = .ok (.iload_n 1, 1) := by decide +kernel
theorem dX7_tear_17 : decode cX7_tear 17 = .ok (.invokevirtual 73, 3) := by decide +kernel
theorem dX7_tear_20 : decode cX7_tear 20 = .ok (.ireturn, 1) := by decide +kernel
set_option maxRecDepth 20000 in
theorem ggX7_swap_X7_isCard : GoodIn wsX7_swap wsX7_isCard := goodIn_r _ [7, 2, 8, 9, 6, 10, 21, 22, 23, 24, 25, 26, 27, 28, 29, 30, 31, 32, 33, 34] (by decide +kernel) (by decide +kernel)
set_option maxRecDepth 20000 in
theorem gX7_swap_X7_isCard : GoodIn wsX7_swap (wsV RX7 70 RX7 yX7_isCard wsX7_isCard) := goodIn_app (goodIn_of _ (by decide +kernel)) ggX7_swap_X7_isCard
set_option maxRecDepth 20000 in
theorem ggX7_swap_X7_know : GoodIn wsX7_swap wsX7_know := goodIn_r _ [14, 15, 16, 2, 21, 22, 23, 24, 25, 26, 27, 28, 29, 30, 31, 32, 33, 34] (by decide +kernel) (by decide +kernel)
set_option maxRecDepth 20000 in
theorem gX7_swap_X7_know : GoodIn wsX7_swap (wsV RX7 57 RX7 yX7_know wsX7_know) := goodIn_app (goodIn_of _ (by decide +kernel)) ggX7_swap_X7_know
set_option maxRecDepth 20000 in
theorem ggX7_swap_X7_exchange : GoodIn wsX7_swap wsX7_exchange := goodIn_r _ [20, 2, 21, 22, 23, 24, 25, 26, 27, 28, 29, 30, 31, 32, 33, 34] (by decide +kernel) (by decide +kernel)
set_option maxRecDepth 20000 in
theorem gX7_swap_X7_exchange : GoodIn wsX7_swap (wsV RX7 53 RX7 yX7_exchange wsX7_exchange) := goodIn_app (goodIn_of _ (by decide +kernel)) ggX7_swap_X7_exchange
theorem dX7_swap_0 : decode cX7_swap 0 = .ok (.aload_n 0, 1) := by decide +kernel
theorem dX7_swap_1 : decode cX7_swap 1 = .ok (.iload_n 1, 1) := by decide +kernel
theorem dX7_swap_2 : decode cX7_swap 2 = .ok (.invokevirtual 70, 3) := by decide +kernel
theorem dX7_swap_5 : decode cX7_swap 5 = .ok (.ifCond .eq 16, 3) := by decide +kernel
theorem dX7_swap_8 : decode cX7_swap 8 = .ok (.aload_n 0, 1) := by decide +kernel
theorem dX7_swap_9 : decode cX7_swap 9 = .ok (.iload_n 2, 1) := by decide +kernel
theorem dX7_swap_10 : decode cX7_swap 10 = .ok (.invokevirtual 70, 3) := by decide +kernel
theorem dX7_swap_13 : decode cX7_swap 13 = .ok (.ifCond .eq 8, 3) := by decide +kernel
theorem dX7_swap_16 : decode cX7_swap 16 = .ok (.iload_n 1, 1) := by decide +kernel
theorem dX7_swap_17 : decode cX7_swap 17 = .ok (.iload_n 2, 1) := by decide +kernel
theorem dX7_swap_18 : decode cX7_swap 18 = .ok (.if_icmp .ne 6, 3) := by decide +kernel
theorem dX7_swap_21 : decode cX7_swap 21 = .ok (.ldc 51, 2) := by decide +kernel
theorem dX7_swap_23 : decode cX7_swap 23 = .ok (.ireturn, 1) := by decide +kernel
theorem dX7_swap_24 : decode cX7_swap 24 = .ok (.aload_n 0, 1) := by decide +kernel
theorem dX7_swap_25 : decode cX7_swap 25 = .ok (.invokevirtual 57, 3) := by decide +kernel
theorem dX7_swap_28 : decode cX7_swap 28 = .ok (.aload_n 0, 1) := by decide +kernel
theorem dX7_swap_29 : decode cX7_swap 29 = .ok (.iload_n 1, 1) := by decide +kernel
theorem dX7_swap_30 : decode cX7_swap 30 = .ok (.iload_n 2, 1) := by decide +kernel
theorem dX7_swap_31 : decode cX7_swap 31 = .ok (.invokevirtual 53, 3) := by decide +kernel
theorem dX7_swap_34 : decode cX7_swap 34 = .ok (.aload_n 0, 1) := by decide +kernel
theorem dX7_swap_35 : decode cX7_swap 35 = .ok (.getfield 7, 3) := by decide +kernel
theorem dX7_swap_38 : decode cX7_swap 38 = .ok (.bipush 17, 2) := by decide +kernel
theorem dX7_swap_40 : decode cX7_swap 40 = .ok (.iload_n 1, 1) := by decide +kernel
theorem dX7_swap_41 : decode cX7_swap 41 = .ok (.iadd, 1) := by decide +kernel
theorem dX7_swap_42 : decode cX7_swap 42 = .ok (.iaload, 1) := by decide +kernel
theorem dX7_swap_43 : decode cX7_swap 43 = .ok (.ireturn, 1) := by decide +kernel
set_option maxRecDepth 20000 in
theorem ggX7_turn_X7_know : GoodIn wsX7_turn wsX7_know := goodIn_r _ [7, 8, 9, 1, 18, 19, 20, 21, 22, 23, 24, 25, 26, 27, 28, 29, 30, 31] (by decide +kernel) (by decide +kernel)
set_option maxRecDepth 20000 in
theorem gX7_turn_X7_know : GoodIn wsX7_turn (wsV RX7 57 RX7 yX7_know wsX7_know) := goodIn_app (goodIn_of _ (by decide +kernel)) ggX7_turn_X7_know
set_option maxRecDepth 20000 in
theorem ggX7_turn_X7_turns : GoodIn wsX7_turn wsX7_turns := goodIn_r _ [13, 1, 14, 15, 16, 6, 17, 18, 19, 20, 21, 22, 23, 24, 25, 26, 27, 28, 29, 30, 31] (by decide +kernel) (by decide +kernel)
set_option maxRecDepth 20000 in
theorem gX7_turn_X7_turns : GoodIn wsX7_turn (wsV RX7 77 RX7 yX7_turns wsX7_turns) := goodIn_app (goodIn_of _ (by decide +kernel)) ggX7_turn_X7_turns
theorem dX7_turn_0 : decode cX7_turn 0 = .ok (.aload_n 0, 1) := by decide +kernel
theorem dX7_turn_1 : decode cX7_turn 1 = .ok (.getfield 7, 3) := by decide +kernel
theorem dX7_turn_4 : decode cX7_turn 4 = .ok (.bipush 16, 2) := by decide +kernel
theorem dX7_turn_6 : decode cX7_turn 6 = .ok (.iaload, 1) := by decide +kernel
theorem dX7_turn_7 : decode cX7_turn 7 = .ok (.iconst 2, 1) := by decide +kernel
theorem dX7_turn_8 : decode cX7_turn 8 = .ok (.if_icmp .ge 6, 3) := by decide +kernel
theorem dX7_turn_11 : decode cX7_turn 11 = .ok (.ldc 76, 2) := by decide +kernel
theorem dX7_turn_13 : decode cX7_turn 13 = .ok (.ireturn, 1) := by decide +kernel
theorem dX7_turn_14 : decode cX7_turn 14 = .ok (.aload_n 0, 1) := by decide +kernel
theorem dX7_turn_15 : decode cX7_turn 15 = .ok (.invokevirtual 57, 3) := by decide +kernel
theorem dX7_turn_18 : decode cX7_turn 18 = .ok (.aload_n 0, 1) := by decide +kernel
theorem dX7_turn_19 : decode cX7_turn 19 = .ok (.invokevirtual 77, 3) := by decide +kernel
theorem dX7_turn_22 : decode cX7_turn 22 = .ok (.ireturn, 1) := by decide +kernel
set_option maxRecDepth 20000 in
theorem ggX7_mirror_X7_know : GoodIn wsX7_mirror wsX7_know := goodIn_r _ [7, 8, 9, 1, 20, 21, 22, 23, 24, 25, 26, 27, 28, 29, 30, 31, 32, 33] (by decide +kernel) (by decide +kernel)
set_option maxRecDepth 20000 in
theorem gX7_mirror_X7_know : GoodIn wsX7_mirror (wsV RX7 57 RX7 yX7_know wsX7_know) := goodIn_app (goodIn_of _ (by decide +kernel)) ggX7_mirror_X7_know
set_option maxRecDepth 20000 in
theorem ggX7_mirror_X7_mirrored : GoodIn wsX7_mirror wsX7_mirrored := goodIn_r _ [12, 13, 14, 6, 15] (by decide +kernel) (by decide +kernel)
set_option maxRecDepth 20000 in
theorem gX7_mirror_X7_mirrored : GoodIn wsX7_mirror (va_wsS RX7 81 yX7_mirrored wsX7_mirrored) := goodIn_app (goodIn_of _ (by decide +kernel)) ggX7_mirror_X7_mirrored
set_option maxRecDepth 20000 in
theorem ggX7_mirror_X7_puts : GoodIn wsX7_mirror wsX7_puts := goodIn_r _ [19, 1, 20, 21, 22, 23, 24, 25, 26, 27, 28, 29, 30, 31, 32, 33] (by decide +kernel) (by decide +kernel)
set_option maxRecDepth 20000 in
theorem gX7_mirror_X7_puts : GoodIn wsX7_mirror (wsV RX7 60 RX7 yX7_puts wsX7_puts) := goodIn_app (goodIn_of _ (by decide +kernel)) ggX7_mirror_X7_puts
theorem dX7_mirror_0 : decode cX7_mirror 0 = .ok (.aload_n 0, 1) := by decide +kernel
theorem dX7_mirror_1 : decode cX7_mirror 1 = .ok (.getfield 7, 3) := by decide +kernel
theorem dX7_mirror_4 : decode cX7_mirror 4 = .ok (.bipush 16, 2) := by decide +kernel
theorem dX7_mirror_6 : decode cX7_mirror 6 = .ok (.iaload, 1) := by decide +kernel
theorem dX7_mirror_7 : decode cX7_mirror 7 = .ok (.ifCond .ne 6, 3) := by decide +kernel
theorem dX7_mirror_10 : decode cX7_mirror 10 = .ok (.ldc 76, 2) := by decide +kernel
theorem dX7_mirror_12 : decode cX7_mirror 12 = .ok (.ireturn, 1) := by decide +kernel
theorem dX7_mirror_13 : decode cX7_mirror 13 = .ok (.aload_n 0, 1) := by decide +kernel
theorem dX7_mirror_14 : decode cX7_mirror 14 = .ok (.invokevirtual 57, 3) := by decide +kernel
theorem dX7_mirror_17 : decode cX7_mirror 17 = .ok (.iconst 0, 1) := by decide +kernel
theorem dX7_mirror_18 : decode cX7_mirror 18 = .ok (.istore_n 1, 1) := by decide +kernel
theorem dX7_mirror_19 : decode cX7_mirror 19 = .ok (.iconst 0, 1) := by decide +kernel
theorem dX7_mirror_20 : decode cX7_mirror 20 = .ok (.istore_n 2, 1) := by decide +kernel
theorem dX7_mirror_21 : decode cX7_mirror 21 = .ok (.iload_n 2, 1) := by decide +kernel
theorem dX7_mirror_22 : decode cX7_mirror 22 = .ok (.aload_n 0, 1) := by decide +kernel
theorem dX7_mirror_23 : decode cX7_mirror 23 = .ok (.getfield 7, 3) := by decide +kernel
theorem dX7_mirror_26 : decode cX7_mirror 26 = .ok (.bipush 16, 2) := by decide +kernel
theorem dX7_mirror_28 : decode cX7_mirror 28 = .ok (.iaload, 1) := by decide +kernel
theorem dX7_mirror_29 : decode cX7_mirror 29 = .ok (.if_icmp .ge 51, 3) := by decide +kernel
theorem dX7_mirror_32 : decode cX7_mirror 32 = .ok (.aload_n 0, 1) := by decide +kernel
theorem dX7_mirror_33 : decode cX7_mirror 33 = .ok (.bipush 17, 2) := by decide +kernel
theorem dX7_mirror_35 : decode cX7_mirror 35 = .ok (.iload_n 2, 1) := by decide +kernel
theorem dX7_mirror_36 : decode cX7_mirror 36 = .ok (.iadd, 1) := by decide +kernel
theorem dX7_mirror_37 : decode cX7_mirror 37 = .ok (.aload_n 0, 1) := by decide +kernel
theorem dX7_mirror_38 : decode cX7_mirror 38 = .ok (.getfield 7, 3) := by decide +kernel
theorem dX7_mirror_41 : decode cX7_mirror 41 = .ok (.bipush 17, 2) := by decide +kernel
theorem dX7_mirror_43 : decode cX7_mirror 43 = .ok (.iload_n 2, 1) := by decide +kernel
theorem dX7_mirror_44 : decode cX7_mirror 44 = .ok (.iadd, 1) := by decide +kernel
theorem dX7_mirror_45 : decode cX7_mirror 45 = .ok (.iaload, 1) := by decide +kernel
theorem dX7_mirror_46 : decode cX7_mirror 46 = .ok (.invokestatic 81, 3) := by decide +kernel
theorem dX7_mirror_49 : decode cX7_mirror 49 = .ok (.invokevirtual 60, 3) := by decide +kernel
theorem dX7_mirror_52 : decode cX7_mirror 52 = .ok (.istore_n 3, 1) := by decide +kernel
theorem dX7_mirror_53 : decode cX7_mirror 53 = .ok (.iload_n 1, 1) := by decide +kernel
theorem dX7_mirror_54 : decode cX7_mirror 54 = .ok (.iload_n 3, 1) := by decide +kernel
theorem dX7_mirror_55 : decode cX7_mirror 55 = .ok (.aload_n 0, 1) := by decide +kernel
theorem dX7_mirror_56 : decode cX7_mirror 56 = .ok (.getfield 7, 3) := by decide +kernel
theorem dX7_mirror_59 : decode cX7_mirror 59 = .ok (.bipush 17, 2) := by decide +kernel
theorem dX7_mirror_61 : decode cX7_mirror 61 = .ok (.iload_n 2, 1) := by decide +kernel
theorem dX7_mirror_62 : decode cX7_mirror 62 = .ok (.iadd, 1) := by decide +kernel
theorem dX7_mirror_63 : decode cX7_mirror 63 = .ok (.iaload, 1) := by decide +kernel
theorem dX7_mirror_64 : decode cX7_mirror 64 = .ok (.if_icmp .ne 7, 3) := by decide +kernel
theorem dX7_mirror_67 : decode cX7_mirror 67 = .ok (.iconst 0, 1) := by decide +kernel
theorem dX7_mirror_68 : decode cX7_mirror 68 = .ok (.goto 4, 3) := by decide +kernel
theorem dX7_mirror_71 : decode cX7_mirror 71 = .ok (.iconst 1, 1) := by decide +kernel
theorem dX7_mirror_72 : decode cX7_mirror 72 = .ok (.iadd, 1) := by decide +kernel
theorem dX7_mirror_73 : decode cX7_mirror 73 = .ok (.istore_n 1, 1) := by decide +kernel
theorem dX7_mirror_74 : decode cX7_mirror 74 = .ok (.iinc 2 1, 3) := by decide +kernel
theorem dX7_mirror_77 : decode cX7_mirror 77 = .ok (.goto (-56), 3) := by decide +kernel
theorem dX7_mirror_80 : decode cX7_mirror 80 = .ok (.iload_n 1, 1) := by decide +kernel
theorem dX7_mirror_81 : decode cX7_mirror 81 = .ok (.ireturn, 1) := by decide +kernel
set_option maxRecDepth 20000 in
theorem ggX7_set_X7_in : GoodIn wsX7_set wsX7_in := goodIn_r _ [5] (by decide +kernel) (by decide +kernel)
set_option maxRecDepth 20000 in
theorem gX7_set_X7_in : GoodIn wsX7_set (va_wsS RX7 22 yX7_in wsX7_in) := goodIn_app (goodIn_of _ (by decide +kernel)) ggX7_set_X7_in
set_option maxRecDepth 20000 in
theorem ggX7_set_X7_know : GoodIn wsX7_set wsX7_know := goodIn_r _ [9, 10, 11, 12, 17, 18, 19, 20, 21, 22, 23, 24, 25, 26, 27, 28, 29, 30] (by decide +kernel) (by decide +kernel)
set_option maxRecDepth 20000 in
theorem gX7_set_X7_know : GoodIn wsX7_set (wsV RX7 57 RX7 yX7_know wsX7_know) := goodIn_app (goodIn_of _ (by decide +kernel)) ggX7_set_X7_know
set_option maxRecDepth 20000 in
theorem ggX7_set_X7_puts : GoodIn wsX7_set wsX7_puts := goodIn_r _ [16, 12, 17, 18, 19, 20, 21, 22, 23, 24, 25, 26, 27, 28, 29, 30] (by decide +kernel) (by decide +kernel)
set_option maxRecDepth 20000 in
theorem gX7_set_X7_puts : GoodIn wsX7_set (wsV RX7 60 RX7 yX7_puts wsX7_puts) := goodIn_app (goodIn_of _ (by decide +kernel)) ggX7_set_X7_puts
theorem dX7_set_0 : decode cX7_set 0 = .ok (.iload_n 1, 1) := by decide +kernel
theorem dX7_set_1 : decode cX7_set 1 = .ok (.ifCond .ne 7, 3) := by decide +kernel
theorem dX7_set_4 : decode cX7_set 4 = .ok (.iconst 2, 1) := by decide +kernel
theorem dX7_set_5 : decode cX7_set 5 = .ok (.goto 13, 3) := by decide +kernel
theorem dX7_set_8 : decode cX7_set 8 = .ok (.iload_n 1, 1) := by decide +kernel
theorem dX7_set_9 : decode cX7_set 9 = .ok (.iconst 2, 1) := by decide +kernel
theorem dX7_set_10 : decode cX7_set 10 = .ok (.if_icmp .ne 7, 3) := by decide +kernel
theorem dX7_set_13 : decode cX7_set 13 = .ok (.iconst 0, 1) := by decide +kernel
theorem dX7_set_14 : decode cX7_set 14 = .ok (.goto 4, 3) := by decide +kernel
theorem dX7_set_17 : decode cX7_set 17 = .ok (.iconst 1, 1) := by decide +kernel
theorem dX7_set_18 : decode cX7_set 18 = .ok (.istore_n 3, 1) := by decide +kernel
theorem dX7_set_19 : decode cX7_set 19 = .ok (.iload_n 1, 1) := by decide +kernel
theorem dX7_set_20 : decode cX7_set 20 = .ok (.iconst 2, 1) := by decide +kernel
theorem dX7_set_21 : decode cX7_set 21 = .ok (.if_icmp .ne 8, 3) := by decide +kernel
theorem dX7_set_24 : decode cX7_set 24 = .ok (.bipush 28, 2) := by decide +kernel
theorem dX7_set_26 : decode cX7_set 26 = .ok (.goto 15, 3) := by decide +kernel
theorem dX7_set_29 : decode cX7_set 29 = .ok (.iload_n 1, 1) := by decide +kernel
theorem dX7_set_30 : decode cX7_set 30 = .ok (.iconst 3, 1) := by decide +kernel
theorem dX7_set_31 : decode cX7_set 31 = .ok (.if_icmp .ne 8, 3) := by decide +kernel
theorem dX7_set_34 : decode cX7_set 34 = .ok (.bipush 24, 2) := by decide +kernel
theorem dX7_set_36 : decode cX7_set 36 = .ok (.goto 5, 3) := by decide +kernel
theorem dX7_set_39 : decode cX7_set 39 = .ok (.bipush 8, 2) := by decide +kernel
theorem dX7_set_41 : decode cX7_set 41 = .ok (.istore 4, 2) := by decide +kernel
theorem dX7_set_43 : decode cX7_set 43 = .ok (.iload_n 1, 1) := by decide +kernel
theorem dX7_set_44 : decode cX7_set 44 = .ok (.iconst 0, 1) := by decide +kernel
theorem dX7_set_45 : decode cX7_set 45 = .ok (.iconst 3, 1) := by decide +kernel
theorem dX7_set_46 : decode cX7_set 46 = .ok (.invokestatic 22, 3) := by decide +kernel
theorem dX7_set_49 : decode cX7_set 49 = .ok (.ifCond .eq 13, 3) := by decide +kernel
theorem dX7_set_52 : decode cX7_set 52 = .ok (.iload_n 2, 1) := by decide +kernel
theorem dX7_set_53 : decode cX7_set 53 = .ok (.iload_n 3, 1) := by decide +kernel
theorem dX7_set_54 : decode cX7_set 54 = .ok (.iload 4, 2) := by decide +kernel
theorem dX7_set_56 : decode cX7_set 56 = .ok (.invokestatic 22, 3) := by decide +kernel
theorem dX7_set_59 : decode cX7_set 59 = .ok (.ifCond .ne 6, 3) := by decide +kernel
theorem dX7_set_62 : decode cX7_set 62 = .ok (.ldc 51, 2) := by decide +kernel
theorem dX7_set_64 : decode cX7_set 64 = .ok (.ireturn, 1) := by decide +kernel
theorem dX7_set_65 : decode cX7_set 65 = .ok (.aload_n 0, 1) := by decide +kernel
theorem dX7_set_66 : decode cX7_set 66 = .ok (.invokevirtual 57, 3) := by decide +kernel
theorem dX7_set_69 : decode cX7_set 69 = .ok (.aload_n 0, 1) := by decide +kernel
theorem dX7_set_70 : decode cX7_set 70 = .ok (.bipush 68, 2) := by decide +kernel
theorem dX7_set_72 : decode cX7_set 72 = .ok (.iload_n 1, 1) := by decide +kernel
theorem dX7_set_73 : decode cX7_set 73 = .ok (.iadd, 1) := by decide +kernel
theorem dX7_set_74 : decode cX7_set 74 = .ok (.iload_n 2, 1) := by decide +kernel
theorem dX7_set_75 : decode cX7_set 75 = .ok (.invokevirtual 60, 3) := by decide +kernel
theorem dX7_set_78 : decode cX7_set 78 = .ok (.ireturn, 1) := by decide +kernel
set_option maxRecDepth 20000 in
theorem ggX7_sounds_X7_has : GoodIn wsX7_sounds wsX7_has := goodIn_r _ [5] (by decide +kernel) (by decide +kernel)
set_option maxRecDepth 20000 in
theorem gX7_sounds_X7_has : GoodIn wsX7_sounds (va_wsS RX7 30 yX7_has wsX7_has) := goodIn_app (goodIn_of _ (by decide +kernel)) ggX7_sounds_X7_has
theorem dX7_sounds_0 : decode cX7_sounds 0 = .ok (.iload_n 1, 1) := by decide +kernel
theorem dX7_sounds_1 : decode cX7_sounds 1 = .ok (.ifCond .lt 34, 3) := by decide +kernel
theorem dX7_sounds_4 : decode cX7_sounds 4 = .ok (.iload_n 1, 1) := by decide +kernel
theorem dX7_sounds_5 : decode cX7_sounds 5 = .ok (.aload_n 0, 1) := by decide +kernel
theorem dX7_sounds_6 : decode cX7_sounds 6 = .ok (.getfield 7, 3) := by decide +kernel
theorem dX7_sounds_9 : decode cX7_sounds 9 = .ok (.bipush 16, 2) := by decide +kernel
theorem dX7_sounds_11 : decode cX7_sounds 11 = .ok (.iaload, 1) := by decide +kernel
theorem dX7_sounds_12 : decode cX7_sounds 12 = .ok (.if_icmp .ge 23, 3) := by decide +kernel
theorem dX7_sounds_15 : decode cX7_sounds 15 = .ok (.aload_n 0, 1) := by decide +kernel
theorem dX7_sounds_16 : decode cX7_sounds 16 = .ok (.getfield 7, 3) := by decide +kernel
theorem dX7_sounds_19 : decode cX7_sounds 19 = .ok (.bipush 17, 2) := by decide +kernel
theorem dX7_sounds_21 : decode cX7_sounds 21 = .ok (.iload_n 1, 1) := by decide +kernel
theorem dX7_sounds_22 : decode cX7_sounds 22 = .ok (.iadd, 1) := by decide +kernel
theorem dX7_sounds_23 : decode cX7_sounds 23 = .ok (.iaload, 1) := by decide +kernel
theorem dX7_sounds_24 : decode cX7_sounds 24 = .ok (.iload_n 2, 1) := by decide +kernel
theorem dX7_sounds_25 : decode cX7_sounds 25 = .ok (.invokestatic 30, 3) := by decide +kernel
theorem dX7_sounds_28 : decode cX7_sounds 28 = .ok (.ifCond .eq 7, 3) := by decide +kernel
theorem dX7_sounds_31 : decode cX7_sounds 31 = .ok (.iconst 1, 1) := by decide +kernel
theorem dX7_sounds_32 : decode cX7_sounds 32 = .ok (.goto 4, 3) := by decide +kernel
theorem dX7_sounds_35 : decode cX7_sounds 35 = .ok (.iconst 0, 1) := by decide +kernel
theorem dX7_sounds_36 : decode cX7_sounds 36 = .ok (.ireturn, 1) := by decide +kernel
set_option maxRecDepth 20000 in
theorem ggX7_begins_X7_sounds : GoodIn wsX7_begins wsX7_sounds := goodIn_r _ [5, 6, 7, 8, 4, 9, 10, 11, 12, 13, 14, 15, 16, 17, 18, 19, 20, 21, 22, 23] (by decide +kernel) (by decide +kernel)
set_option maxRecDepth 20000 in
theorem gX7_begins_X7_sounds : GoodIn wsX7_begins (wsV RX7 84 RX7 yX7_sounds wsX7_sounds) := goodIn_app (goodIn_of _ (by decide +kernel)) ggX7_begins_X7_sounds
theorem dX7_begins_0 : decode cX7_begins 0 = .ok (.aload_n 0, 1) := by decide +kernel
theorem dX7_begins_1 : decode cX7_begins 1 = .ok (.iload_n 1, 1) := by decide +kernel
theorem dX7_begins_2 : decode cX7_begins 2 = .ok (.iload_n 2, 1) := by decide +kernel
theorem dX7_begins_3 : decode cX7_begins 3 = .ok (.invokevirtual 84, 3) := by decide +kernel
theorem dX7_begins_6 : decode cX7_begins 6 = .ok (.ifCond .eq 18, 3) := by decide +kernel
theorem dX7_begins_9 : decode cX7_begins 9 = .ok (.aload_n 0, 1) := by decide +kernel
theorem dX7_begins_10 : decode cX7_begins 10 = .ok (.iload_n 1, 1) := by decide +kernel
theorem dX7_begins_11 : decode cX7_begins 11 = .ok (.iconst 1, 1) := by decide +kernel
theorem dX7_begins_12 : decode cX7_begins 12 = .ok (.isub, 1) := by decide +kernel
theorem dX7_begins_13 : decode cX7_begins 13 = .ok (.iload_n 2, 1) := by decide +kernel
theorem dX7_begins_14 : decode cX7_begins 14 = .ok (.invokevirtual 84, 3) := by decide +kernel
theorem dX7_begins_17 : decode cX7_begins 17 = .ok (.ifCond .ne 7, 3) := by decide +kernel
theorem dX7_begins_20 : decode cX7_begins 20 = .ok (.iconst 1, 1) := by decide +kernel
theorem dX7_begins_21 : decode cX7_begins 21 = .ok (.goto 4, 3) := by decide +kernel
theorem dX7_begins_24 : decode cX7_begins 24 = .ok (.iconst 0, 1) := by decide +kernel
theorem dX7_begins_25 : decode cX7_begins 25 = .ok (.ireturn, 1) := by decide +kernel
set_option maxRecDepth 20000 in
theorem ggX7_tonesOf_X7_begins : GoodIn wsX7_tonesOf wsX7_begins := goodIn_r _ [5, 6, 7, 8, 4, 9, 10, 11, 12, 13, 14, 15, 16, 17, 18, 19, 20, 21, 22, 23, 24, 25, 26, 27] (by decide +kernel) (by decide +kernel)
set_option maxRecDepth 20000 in
theorem gX7_tonesOf_X7_begins : GoodIn wsX7_tonesOf (wsV RX7 87 RX7 yX7_begins wsX7_begins) := goodIn_app (goodIn_of _ (by decide +kernel)) ggX7_tonesOf_X7_begins
theorem dX7_tonesOf_0 : decode cX7_tonesOf 0 = .ok (.iconst 0, 1) := by decide +kernel
theorem dX7_tonesOf_1 : decode cX7_tonesOf 1 = .ok (.istore_n 2, 1) := by decide +kernel
theorem dX7_tonesOf_2 : decode cX7_tonesOf 2 = .ok (.iconst 0, 1) := by decide +kernel
theorem dX7_tonesOf_3 : decode cX7_tonesOf 3 = .ok (.istore_n 3, 1) := by decide +kernel
theorem dX7_tonesOf_4 : decode cX7_tonesOf 4 = .ok (.iload_n 3, 1) := by decide +kernel
theorem dX7_tonesOf_5 : decode cX7_tonesOf 5 = .ok (.bipush 8, 2) := by decide +kernel
theorem dX7_tonesOf_7 : decode cX7_tonesOf 7 = .ok (.if_icmp .ge 26, 3) := by decide +kernel
theorem dX7_tonesOf_10 : decode cX7_tonesOf 10 = .ok (.iload_n 2, 1) := by decide +kernel
theorem dX7_tonesOf_11 : decode cX7_tonesOf 11 = .ok (.aload_n 0, 1) := by decide +kernel
theorem dX7_tonesOf_12 : decode cX7_tonesOf 12 = .ok (.iload_n 1, 1) := by decide +kernel
theorem dX7_tonesOf_13 : decode cX7_tonesOf 13 = .ok (.iload_n 3, 1) := by decide +kernel
theorem dX7_tonesOf_14 : decode cX7_tonesOf 14 = .ok (.invokevirtual 87, 3) := by decide +kernel
theorem dX7_tonesOf_17 : decode cX7_tonesOf 17 = .ok (.ifCond .eq 7, 3) := by decide +kernel
theorem dX7_tonesOf_20 : decode cX7_tonesOf 20 = .ok (.iconst 1, 1) := by decide +kernel
theorem dX7_tonesOf_21 : decode cX7_tonesOf 21 = .ok (.goto 4, 3) := by decide +kernel
theorem dX7_tonesOf_24 : decode cX7_tonesOf 24 = .ok (.iconst 0, 1) := by decide +kernel
theorem dX7_tonesOf_25 : decode cX7_tonesOf 25 = .ok (.iadd, 1) := by decide +kernel
theorem dX7_tonesOf_26 : decode cX7_tonesOf 26 = .ok (.istore_n 2, 1) := by decide +kernel
theorem dX7_tonesOf_27 : decode cX7_tonesOf 27 = .ok (.iinc 3 1, 3) := by decide +kernel
theorem dX7_tonesOf_30 : decode cX7_tonesOf 30 = .ok (.goto (-26), 3) := by decide +kernel
theorem dX7_tonesOf_33 : decode cX7_tonesOf 33 = .ok (.iload_n 2, 1) := by decide +kernel
theorem dX7_tonesOf_34 : decode cX7_tonesOf 34 = .ok (.ireturn, 1) := by decide +kernel
set_option maxRecDepth 20000 in
theorem ggX7_tones_X7_tonesOf : GoodIn wsX7_tones wsX7_tonesOf := goodIn_r _ [6, 7, 8, 9, 5, 10, 11, 12, 13, 14, 1, 15, 16, 17, 18, 19, 20, 21, 22, 23, 24, 25, 26, 27, 28, 29, 30, 31] (by decide +kernel) (by decide +kernel)
set_option maxRecDepth 20000 in
theorem gX7_tones_X7_tonesOf : GoodIn wsX7_tones (wsV RX7 90 RX7 yX7_tonesOf wsX7_tonesOf) := goodIn_app (goodIn_of _ (by decide +kernel)) ggX7_tones_X7_tonesOf
theorem dX7_tones_0 : decode cX7_tones 0 = .ok (.iconst 0, 1) := by decide +kernel
theorem dX7_tones_1 : decode cX7_tones 1 = .ok (.istore_n 1, 1) := by decide +kernel
theorem dX7_tones_2 : decode cX7_tones 2 = .ok (.iconst 0, 1) := by decide +kernel
theorem dX7_tones_3 : decode cX7_tones 3 = .ok (.istore_n 2, 1) := by decide +kernel
theorem dX7_tones_4 : decode cX7_tones 4 = .ok (.iload_n 2, 1) := by decide +kernel
theorem dX7_tones_5 : decode cX7_tones 5 = .ok (.aload_n 0, 1) := by decide +kernel
theorem dX7_tones_6 : decode cX7_tones 6 = .ok (.getfield 7, 3) := by decide +kernel
theorem dX7_tones_9 : decode cX7_tones 9 = .ok (.bipush 16, 2) := by decide +kernel
theorem dX7_tones_11 : decode cX7_tones 11 = .ok (.iaload, 1) := by decide +kernel
theorem dX7_tones_12 : decode cX7_tones 12 = .ok (.if_icmp .ge 17, 3) := by decide +kernel
theorem dX7_tones_15 : decode cX7_tones 15 = .ok (.iload_n 1, 1) := by decide +kernel
theorem dX7_tones_16 : decode cX7_tones 16 = .ok (.aload_n 0, 1) := by decide +kernel
theorem dX7_tones_17 : decode cX7_tones 17 = .ok (.iload_n 2, 1) := by decide +kernel
theorem dX7_tones_18 : decode cX7_tones 18 = .ok (.invokevirtual 90, 3) := by decide +kernel
theorem dX7_tones_21 : decode cX7_tones 21 = .ok (.iadd, 1) := by decide +kernel
theorem dX7_tones_22 : decode cX7_tones 22 = .ok (.istore_n 1, 1) := by decide +kernel
theorem dX7_tones_23 : decode cX7_tones 23 = .ok (.iinc 2 1, 3) := by decide +kernel
theorem dX7_tones_26 : decode cX7_tones 26 = .ok (.goto (-22), 3) := by decide +kernel
theorem dX7_tones_29 : decode cX7_tones 29 = .ok (.iload_n 1, 1) := by decide +kernel
theorem dX7_tones_30 : decode cX7_tones 30 = .ok (.ireturn, 1) := by decide +kernel
set_option maxRecDepth 20000 in
theorem ggX7_lengthOf_X7_sounds : GoodIn wsX7_lengthOf wsX7_sounds := goodIn_r _ [5, 6, 7, 8, 4, 9, 10, 11, 12, 13, 14, 15, 16, 17, 18, 19, 20, 21, 22, 23] (by decide +kernel) (by decide +kernel)
set_option maxRecDepth 20000 in
theorem gX7_lengthOf_X7_sounds : GoodIn wsX7_lengthOf (wsV RX7 84 RX7 yX7_sounds wsX7_sounds) := goodIn_app (goodIn_of _ (by decide +kernel)) ggX7_lengthOf_X7_sounds
theorem dX7_lengthOf_0 : decode cX7_lengthOf 0 = .ok (.iconst 0, 1) := by decide +kernel
theorem dX7_lengthOf_1 : decode cX7_lengthOf 1 = .ok (.istore_n 3, 1) := by decide +kernel
theorem dX7_lengthOf_2 : decode cX7_lengthOf 2 = .ok (.aload_n 0, 1) := by decide +kernel
theorem dX7_lengthOf_3 : decode cX7_lengthOf 3 = .ok (.iload_n 1, 1) := by decide +kernel
theorem dX7_lengthOf_4 : decode cX7_lengthOf 4 = .ok (.iload_n 3, 1) := by decide +kernel
theorem dX7_lengthOf_5 : decode cX7_lengthOf 5 = .ok (.iadd, 1) := by decide +kernel
theorem dX7_lengthOf_6 : decode cX7_lengthOf 6 = .ok (.iload_n 2, 1) := by decide +kernel
theorem dX7_lengthOf_7 : decode cX7_lengthOf 7 = .ok (.invokevirtual 84, 3) := by decide +kernel
theorem dX7_lengthOf_10 : decode cX7_lengthOf 10 = .ok (.ifCond .eq 9, 3) := by decide +kernel
theorem dX7_lengthOf_13 : decode cX7_lengthOf 13 = .ok (.iinc 3 1, 3) := by decide +kernel
theorem dX7_lengthOf_16 : decode cX7_lengthOf 16 = .ok (.goto (-14), 3) := by decide +kernel
theorem dX7_lengthOf_19 : decode cX7_lengthOf 19 = .ok (.iload_n 3, 1) := by decide +kernel
theorem dX7_lengthOf_20 : decode cX7_lengthOf 20 = .ok (.ireturn, 1) := by decide +kernel
set_option maxRecDepth 20000 in
theorem ggX7_notes_X7_has : GoodIn wsX7_notes wsX7_has := goodIn_r _ [5] (by decide +kernel) (by decide +kernel)
set_option maxRecDepth 20000 in
theorem gX7_notes_X7_has : GoodIn wsX7_notes (va_wsS RX7 30 yX7_has wsX7_has) := goodIn_app (goodIn_of _ (by decide +kernel)) ggX7_notes_X7_has
theorem dX7_notes_0 : decode cX7_notes 0 = .ok (.iconst 0, 1) := by decide +kernel
theorem dX7_notes_1 : decode cX7_notes 1 = .ok (.istore_n 2, 1) := by decide +kernel
theorem dX7_notes_2 : decode cX7_notes 2 = .ok (.iconst 0, 1) := by decide +kernel
theorem dX7_notes_3 : decode cX7_notes 3 = .ok (.istore_n 3, 1) := by decide +kernel
theorem dX7_notes_4 : decode cX7_notes 4 = .ok (.iload_n 3, 1) := by decide +kernel
theorem dX7_notes_5 : decode cX7_notes 5 = .ok (.bipush 8, 2) := by decide +kernel
theorem dX7_notes_7 : decode cX7_notes 7 = .ok (.if_icmp .ge 37, 3) := by decide +kernel
theorem dX7_notes_10 : decode cX7_notes 10 = .ok (.iload_n 2, 1) := by decide +kernel
theorem dX7_notes_11 : decode cX7_notes 11 = .ok (.iload_n 1, 1) := by decide +kernel
theorem dX7_notes_12 : decode cX7_notes 12 = .ok (.iload_n 3, 1) := by decide +kernel
theorem dX7_notes_13 : decode cX7_notes 13 = .ok (.invokestatic 30, 3) := by decide +kernel
theorem dX7_notes_16 : decode cX7_notes 16 = .ok (.ifCond .eq 19, 3) := by decide +kernel
theorem dX7_notes_19 : decode cX7_notes 19 = .ok (.iconst 1, 1) := by decide +kernel
theorem dX7_notes_20 : decode cX7_notes 20 = .ok (.aload_n 0, 1) := by decide +kernel
theorem dX7_notes_21 : decode cX7_notes 21 = .ok (.getfield 7, 3) := by decide +kernel
theorem dX7_notes_24 : decode cX7_notes 24 = .ok (.iconst 0, 1) := by decide +kernel
theorem dX7_notes_25 : decode cX7_notes 25 = .ok (.iload_n 3, 1) := by decide +kernel
theorem dX7_notes_26 : decode cX7_notes 26 = .ok (.iadd, 1) := by decide +kernel
theorem dX7_notes_27 : decode cX7_notes 27 = .ok (.iaload, 1) := by decide +kernel
theorem dX7_notes_28 : decode cX7_notes 28 = .ok (.bipush 12, 2) := by decide +kernel
theorem dX7_notes_30 : decode cX7_notes 30 = .ok (.irem, 1) := by decide +kernel
theorem dX7_notes_31 : decode cX7_notes 31 = .ok (.ishl, 1) := by decide +kernel
theorem dX7_notes_32 : decode cX7_notes 32 = .ok (.goto 4, 3) := by decide +kernel
theorem dX7_notes_35 : decode cX7_notes 35 = .ok (.iconst 0, 1) := by decide +kernel
theorem dX7_notes_36 : decode cX7_notes 36 = .ok (.ior, 1) := by decide +kernel
theorem dX7_notes_37 : decode cX7_notes 37 = .ok (.istore_n 2, 1) := by decide +kernel
theorem dX7_notes_38 : decode cX7_notes 38 = .ok (.iinc 3 1, 3) := by decide +kernel
theorem dX7_notes_41 : decode cX7_notes 41 = .ok (.goto (-37), 3) := by decide +kernel
theorem dX7_notes_44 : decode cX7_notes 44 = .ok (.iload_n 2, 1) := by decide +kernel
theorem dX7_notes_45 : decode cX7_notes 45 = .ok (.ireturn, 1) := by decide +kernel
set_option maxRecDepth 20000 in
theorem ggX7_outermost_X7_sounds : GoodIn wsX7_outermost wsX7_sounds := goodIn_r _ [7, 2, 8, 9, 6, 10, 11, 12, 13, 14, 15, 16, 17, 18, 19, 20, 21, 22, 23, 24] (by decide +kernel) (by decide +kernel)
set_option maxRecDepth 20000 in
theorem gX7_outermost_X7_sounds : GoodIn wsX7_outermost (wsV RX7 84 RX7 yX7_sounds wsX7_sounds) := goodIn_app (goodIn_of _ (by decide +kernel)) ggX7_outermost_X7_sounds
theorem dX7_outermost_0 : decode cX7_outermost 0 = .ok (.ldc 93, 2) := by decide +kernel
theorem dX7_outermost_2 : decode cX7_outermost 2 = .ok (.istore_n 3, 1) := by decide +kernel
theorem dX7_outermost_3 : decode cX7_outermost 3 = .ok (.iconst 0, 1) := by decide +kernel
theorem dX7_outermost_4 : decode cX7_outermost 4 = .ok (.istore 4, 2) := by decide +kernel
theorem dX7_outermost_6 : decode cX7_outermost 6 = .ok (.iload 4, 2) := by decide +kernel
theorem dX7_outermost_8 : decode cX7_outermost 8 = .ok (.bipush 8, 2) := by decide +kernel
theorem dX7_outermost_10 : decode cX7_outermost 10 = .ok (.if_icmp .ge 74, 3) := by decide +kernel
theorem dX7_outermost_13 : decode cX7_outermost 13 = .ok (.aload_n 0, 1) := by decide +kernel
theorem dX7_outermost_14 : decode cX7_outermost 14 = .ok (.getfield 7, 3) := by decide +kernel
theorem dX7_outermost_17 : decode cX7_outermost 17 = .ok (.iconst 0, 1) := by decide +kernel
theorem dX7_outermost_18 : decode cX7_outermost 18 = .ok (.iload 4, 2) := by decide +kernel
theorem dX7_outermost_20 : decode cX7_outermost 20 = .ok (.iadd, 1) := by decide +kernel
theorem dX7_outermost_21 : decode cX7_outermost 21 = .ok (.iaload, 1) := by decide +kernel
theorem dX7_outermost_22 : decode cX7_outermost 22 = .ok (.istore 5, 2) := by decide +kernel
theorem dX7_outermost_24 : decode cX7_outermost 24 = .ok (.aload_n 0, 1) := by decide +kernel
theorem dX7_outermost_25 : decode cX7_outermost 25 = .ok (.iload_n 1, 1) := by decide +kernel
theorem dX7_outermost_26 : decode cX7_outermost 26 = .ok (.iload 4, 2) := by decide +kernel
theorem dX7_outermost_28 : decode cX7_outermost 28 = .ok (.invokevirtual 84, 3) := by decide +kernel
theorem dX7_outermost_31 : decode cX7_outermost 31 = .ok (.ifCond .eq 32, 3) := by decide +kernel
theorem dX7_outermost_34 : decode cX7_outermost 34 = .ok (.iload_n 3, 1) := by decide +kernel
theorem dX7_outermost_35 : decode cX7_outermost 35 = .ok (.ldc 93, 2) := by decide +kernel
theorem dX7_outermost_37 : decode cX7_outermost 37 = .ok (.if_icmp .eq 22, 3) := by decide +kernel
theorem dX7_outermost_40 : decode cX7_outermost 40 = .ok (.iload_n 2, 1) := by decide +kernel
theorem dX7_outermost_41 : decode cX7_outermost 41 = .ok (.ifCond .eq 12, 3) := by decide +kernel
theorem dX7_outermost_44 : decode cX7_outermost 44 = .ok (.iload 5, 2) := by decide +kernel
theorem dX7_outermost_46 : decode cX7_outermost 46 = .ok (.iload_n 3, 1) := by decide +kernel
theorem dX7_outermost_47 : decode cX7_outermost 47 = .ok (.if_icmp .le 16, 3) := by decide +kernel
theorem dX7_outermost_50 : decode cX7_outermost 50 = .ok (.goto 9, 3) := by decide +kernel
theorem dX7_outermost_53 : decode cX7_outermost 53 = .ok (.iload 5, 2) := by decide +kernel
theorem dX7_outermost_55 : decode cX7_outermost 55 = .ok (.iload_n 3, 1) := by decide +kernel
theorem dX7_outermost_56 : decode cX7_outermost 56 = .ok (.if_icmp .ge 7, 3) := by decide +kernel
theorem dX7_outermost_59 : decode cX7_outermost 59 = .ok (.iconst 1, 1) := by decide +kernel
theorem dX7_outermost_60 : decode cX7_outermost 60 = .ok (.goto 4, 3) := by decide +kernel
theorem dX7_outermost_63 : decode cX7_outermost 63 = .ok (.iconst 0, 1) := by decide +kernel
theorem dX7_outermost_64 : decode cX7_outermost 64 = .ok (.istore 6, 2) := by decide +kernel
theorem dX7_outermost_66 : decode cX7_outermost 66 = .ok (.iload 6, 2) := by decide +kernel
theorem dX7_outermost_68 : decode cX7_outermost 68 = .ok (.ifCond .eq 8, 3) := by decide +kernel
theorem dX7_outermost_71 : decode cX7_outermost 71 = .ok (.iload 5, 2) := by decide +kernel
theorem dX7_outermost_73 : decode cX7_outermost 73 = .ok (.goto 4, 3) := by decide +kernel
theorem dX7_outermost_76 : decode cX7_outermost 76 = .ok (.iload_n 3, 1) := by decide +kernel
theorem dX7_outermost_77 : decode cX7_outermost 77 = .ok (.istore_n 3, 1) := by decide +kernel
theorem dX7_outermost_78 : decode cX7_outermost 78 = .ok (.iinc 4 1, 3) := by decide +kernel
theorem dX7_outermost_81 : decode cX7_outermost 81 = .ok (.goto (-75), 3) := by decide +kernel
theorem dX7_outermost_84 : decode cX7_outermost 84 = .ok (.iload_n 3, 1) := by decide +kernel
theorem dX7_outermost_85 : decode cX7_outermost 85 = .ok (.ireturn, 1) := by decide +kernel
set_option maxRecDepth 20000 in
theorem ggX7_colours_X7_sounds : GoodIn wsX7_colours wsX7_sounds := goodIn_r _ [6, 1, 7, 8, 5, 9, 10, 11, 12, 13, 14, 15, 16, 17, 18, 19, 20, 21, 22, 23] (by decide +kernel) (by decide +kernel)
set_option maxRecDepth 20000 in
theorem gX7_colours_X7_sounds : GoodIn wsX7_colours (wsV RX7 84 RX7 yX7_sounds wsX7_sounds) := goodIn_app (goodIn_of _ (by decide +kernel)) ggX7_colours_X7_sounds
theorem dX7_colours_0 : decode cX7_colours 0 = .ok (.iconst 0, 1) := by decide +kernel
theorem dX7_colours_1 : decode cX7_colours 1 = .ok (.istore_n 2, 1) := by decide +kernel
theorem dX7_colours_2 : decode cX7_colours 2 = .ok (.iconst 0, 1) := by decide +kernel
theorem dX7_colours_3 : decode cX7_colours 3 = .ok (.istore_n 3, 1) := by decide +kernel
theorem dX7_colours_4 : decode cX7_colours 4 = .ok (.iload_n 3, 1) := by decide +kernel
theorem dX7_colours_5 : decode cX7_colours 5 = .ok (.bipush 8, 2) := by decide +kernel
theorem dX7_colours_7 : decode cX7_colours 7 = .ok (.if_icmp .ge 70, 3) := by decide +kernel
theorem dX7_colours_10 : decode cX7_colours 10 = .ok (.aload_n 0, 1) := by decide +kernel
theorem dX7_colours_11 : decode cX7_colours 11 = .ok (.getfield 7, 3) := by decide +kernel
theorem dX7_colours_14 : decode cX7_colours 14 = .ok (.bipush 8, 2) := by decide +kernel
theorem dX7_colours_16 : decode cX7_colours 16 = .ok (.iload_n 3, 1) := by decide +kernel
theorem dX7_colours_17 : decode cX7_colours 17 = .ok (.iadd, 1) := by decide +kernel
theorem dX7_colours_18 : decode cX7_colours 18 = .ok (.iaload, 1) := by decide +kernel
theorem dX7_colours_19 : decode cX7_colours 19 = .ok (.istore 4, 2) := by decide +kernel
theorem dX7_colours_21 : decode cX7_colours 21 = .ok (.iload_n 2, 1) := by decide +kernel
theorem dX7_colours_22 : decode cX7_colours 22 = .ok (.aload_n 0, 1) := by decide +kernel
theorem dX7_colours_23 : decode cX7_colours 23 = .ok (.iload_n 1, 1) := by decide +kernel
theorem dX7_colours_24 : decode cX7_colours 24 = .ok (.iload_n 3, 1) := by decide +kernel
theorem dX7_colours_25 : decode cX7_colours 25 = .ok (.invokevirtual 84, 3) := by decide +kernel
theorem dX7_colours_28 : decode cX7_colours 28 = .ok (.ifCond .ne 7, 3) := by decide +kernel
theorem dX7_colours_31 : decode cX7_colours 31 = .ok (.iconst 0, 1) := by decide +kernel
theorem dX7_colours_32 : decode cX7_colours 32 = .ok (.goto 37, 3) := by decide +kernel
theorem dX7_colours_35 : decode cX7_colours 35 = .ok (.iload 4, 2) := by decide +kernel
theorem dX7_colours_37 : decode cX7_colours 37 = .ok (.ifCond .ne 9, 3) := by decide +kernel
theorem dX7_colours_40 : decode cX7_colours 40 = .ok (.sipush 1000, 3) := by decide +kernel
theorem dX7_colours_43 : decode cX7_colours 43 = .ok (.goto 26, 3) := by decide +kernel
theorem dX7_colours_46 : decode cX7_colours 46 = .ok (.iload 4, 2) := by decide +kernel
theorem dX7_colours_48 : decode cX7_colours 48 = .ok (.iconst 1, 1) := by decide +kernel
theorem dX7_colours_49 : decode cX7_colours 49 = .ok (.if_icmp .ne 8, 3) := by decide +kernel
theorem dX7_colours_52 : decode cX7_colours 52 = .ok (.bipush 100, 2) := by decide +kernel
theorem dX7_colours_54 : decode cX7_colours 54 = .ok (.goto 15, 3) := by decide +kernel
theorem dX7_colours_57 : decode cX7_colours 57 = .ok (.iload 4, 2) := by decide +kernel
theorem dX7_colours_59 : decode cX7_colours 59 = .ok (.iconst 2, 1) := by decide +kernel
theorem dX7_colours_60 : decode cX7_colours 60 = .ok (.if_icmp .ne 8, 3) := by decide +kernel
theorem dX7_colours_63 : decode cX7_colours 63 = .ok (.bipush 10, 2) := by decide +kernel
theorem dX7_colours_65 : decode cX7_colours 65 = .ok (.goto 4, 3) := by decide +kernel
theorem dX7_colours_68 : decode cX7_colours 68 = .ok (.iconst 1, 1) := by decide +kernel
theorem dX7_colours_69 : decode cX7_colours 69 = .ok (.iadd, 1) := by decide +kernel
theorem dX7_colours_70 : decode cX7_colours 70 = .ok (.istore_n 2, 1) := by decide +kernel
theorem dX7_colours_71 : decode cX7_colours 71 = .ok (.iinc 3 1, 3) := by decide +kernel
theorem dX7_colours_74 : decode cX7_colours 74 = .ok (.goto (-70), 3) := by decide +kernel
theorem dX7_colours_77 : decode cX7_colours 77 = .ok (.iload_n 2, 1) := by decide +kernel
theorem dX7_colours_78 : decode cX7_colours 78 = .ok (.ireturn, 1) := by decide +kernel
set_option maxRecDepth 20000 in
theorem ggX7_cardOf_X7_isCard : GoodIn wsX7_cardOf wsX7_isCard := goodIn_r _ [7, 2, 8, 9, 6, 10, 46, 47, 48, 49, 50, 51, 52, 53, 54, 55, 56, 57, 58, 59] (by decide +kernel) (by decide +kernel)
set_option maxRecDepth 20000 in
theorem gX7_cardOf_X7_isCard : GoodIn wsX7_cardOf (wsV RX7 70 RX7 yX7_isCard wsX7_isCard) := goodIn_app (goodIn_of _ (by decide +kernel)) ggX7_cardOf_X7_isCard
set_option maxRecDepth 20000 in
theorem ggX7_cardOf_X7_bits : GoodIn wsX7_cardOf wsX7_bits := goodIn_r _ [13] (by decide +kernel) (by decide +kernel)
set_option maxRecDepth 20000 in
theorem gX7_cardOf_X7_bits : GoodIn wsX7_cardOf (va_wsS RX7 34 yX7_bits wsX7_bits) := goodIn_app (goodIn_of _ (by decide +kernel)) ggX7_cardOf_X7_bits
set_option maxRecDepth 20000 in
theorem ggX7_cardOf_X7_clashes : GoodIn wsX7_cardOf wsX7_clashes := goodIn_r _ [17, 2, 18, 19, 6, 20, 46, 47, 48, 49, 50, 51, 52, 53, 54, 55, 56, 57, 58, 59] (by decide +kernel) (by decide +kernel)
set_option maxRecDepth 20000 in
theorem gX7_cardOf_X7_clashes : GoodIn wsX7_cardOf (wsV RX7 38 RX7 yX7_clashes wsX7_clashes) := goodIn_app (goodIn_of _ (by decide +kernel)) ggX7_cardOf_X7_clashes
set_option maxRecDepth 20000 in
theorem ggX7_cardOf_X7_notes : GoodIn wsX7_cardOf wsX7_notes := goodIn_r _ [24, 2, 18, 19, 6, 20, 46, 47, 48, 49, 50, 51, 52, 53, 54, 55, 56, 57, 58, 59] (by decide +kernel) (by decide +kernel)
set_option maxRecDepth 20000 in
theorem gX7_cardOf_X7_notes : GoodIn wsX7_cardOf (wsV RX7 94 RX7 yX7_notes wsX7_notes) := goodIn_app (goodIn_of _ (by decide +kernel)) ggX7_cardOf_X7_notes
set_option maxRecDepth 20000 in
theorem ggX7_cardOf_X7_outermost : GoodIn wsX7_cardOf wsX7_outermost := goodIn_r _ [28, 29, 2, 30, 31, 32, 6, 33, 18, 19, 20, 46, 47, 48, 49, 50, 51, 52, 53, 54, 55, 56, 57, 58, 59] (by decide +kernel) (by decide +kernel)
set_option maxRecDepth 20000 in
theorem gX7_cardOf_X7_outermost : GoodIn wsX7_cardOf (wsV RX7 97 RX7 yX7_outermost wsX7_outermost) := goodIn_app (goodIn_of _ (by decide +kernel)) ggX7_cardOf_X7_outermost
set_option maxRecDepth 20000 in
theorem ggX7_cardOf_X7_tonesOf : GoodIn wsX7_cardOf wsX7_tonesOf := goodIn_r _ [37, 38, 39, 40, 6, 41, 30, 31, 32, 33, 2, 18, 19, 20, 46, 47, 48, 49, 50, 51, 52, 53, 54, 55, 56, 57, 58, 59] (by decide +kernel) (by decide +kernel)
set_option maxRecDepth 20000 in
theorem gX7_cardOf_X7_tonesOf : GoodIn wsX7_cardOf (wsV RX7 90 RX7 yX7_tonesOf wsX7_tonesOf) := goodIn_app (goodIn_of _ (by decide +kernel)) ggX7_cardOf_X7_tonesOf
set_option maxRecDepth 20000 in
theorem ggX7_cardOf_X7_colours : GoodIn wsX7_cardOf wsX7_colours := goodIn_r _ [45, 2, 30, 31, 32, 6, 33, 18, 19, 20, 46, 47, 48, 49, 50, 51, 52, 53, 54, 55, 56, 57, 58, 59] (by decide +kernel) (by decide +kernel)
set_option maxRecDepth 20000 in
theorem gX7_cardOf_X7_colours : GoodIn wsX7_cardOf (wsV RX7 101 RX7 yX7_colours wsX7_colours) := goodIn_app (goodIn_of _ (by decide +kernel)) ggX7_cardOf_X7_colours
theorem dX7_cardOf_0 : decode cX7_cardOf 0 = .ok (.aload_n 0, 1) := by decide +kernel
theorem dX7_cardOf_1 : decode cX7_cardOf 1 = .ok (.iload_n 1, 1) := by decide +kernel
theorem dX7_cardOf_2 : decode cX7_cardOf 2 = .ok (.invokevirtual 70, 3) := by decide +kernel
theorem dX7_cardOf_5 : decode cX7_cardOf 5 = .ok (.ifCond .ne 6, 3) := by decide +kernel
theorem dX7_cardOf_8 : decode cX7_cardOf 8 = .ok (.ldc 51, 2) := by decide +kernel
theorem dX7_cardOf_10 : decode cX7_cardOf 10 = .ok (.ireturn, 1) := by decide +kernel
theorem dX7_cardOf_11 : decode cX7_cardOf 11 = .ok (.aload_n 0, 1) := by decide +kernel
theorem dX7_cardOf_12 : decode cX7_cardOf 12 = .ok (.getfield 7, 3) := by decide +kernel
theorem dX7_cardOf_15 : decode cX7_cardOf 15 = .ok (.bipush 17, 2) := by decide +kernel
theorem dX7_cardOf_17 : decode cX7_cardOf 17 = .ok (.iload_n 1, 1) := by decide +kernel
theorem dX7_cardOf_18 : decode cX7_cardOf 18 = .ok (.iadd, 1) := by decide +kernel
theorem dX7_cardOf_19 : decode cX7_cardOf 19 = .ok (.iaload, 1) := by decide +kernel
theorem dX7_cardOf_20 : decode cX7_cardOf 20 = .ok (.istore_n 3, 1) := by decide +kernel
theorem dX7_cardOf_21 : decode cX7_cardOf 21 = .ok (.iload_n 2, 1) := by decide +kernel
theorem dX7_cardOf_22 : decode cX7_cardOf 22 = .ok (.tableswitch 121 0 9 #[54, 56, 61, 71, 77, 83, 83, 99, 105, 115], 54) := by decide +kernel
theorem dX7_cardOf_76 : decode cX7_cardOf 76 = .ok (.iload_n 3, 1) := by decide +kernel
theorem dX7_cardOf_77 : decode cX7_cardOf 77 = .ok (.ireturn, 1) := by decide +kernel
theorem dX7_cardOf_78 : decode cX7_cardOf 78 = .ok (.iload_n 3, 1) := by decide +kernel
theorem dX7_cardOf_79 : decode cX7_cardOf 79 = .ok (.invokestatic 34, 3) := by decide +kernel
theorem dX7_cardOf_82 : decode cX7_cardOf 82 = .ok (.ireturn, 1) := by decide +kernel
theorem dX7_cardOf_83 : decode cX7_cardOf 83 = .ok (.aload_n 0, 1) := by decide +kernel
theorem dX7_cardOf_84 : decode cX7_cardOf 84 = .ok (.getfield 7, 3) := by decide +kernel
theorem dX7_cardOf_87 : decode cX7_cardOf 87 = .ok (.bipush 41, 2) := by decide +kernel
theorem dX7_cardOf_89 : decode cX7_cardOf 89 = .ok (.iload_n 1, 1) := by decide +kernel
theorem dX7_cardOf_90 : decode cX7_cardOf 90 = .ok (.iadd, 1) := by decide +kernel
theorem dX7_cardOf_91 : decode cX7_cardOf 91 = .ok (.iaload, 1) := by decide +kernel
theorem dX7_cardOf_92 : decode cX7_cardOf 92 = .ok (.ireturn, 1) := by decide +kernel
theorem dX7_cardOf_93 : decode cX7_cardOf 93 = .ok (.aload_n 0, 1) := by decide +kernel
theorem dX7_cardOf_94 : decode cX7_cardOf 94 = .ok (.iload_n 3, 1) := by decide +kernel
theorem dX7_cardOf_95 : decode cX7_cardOf 95 = .ok (.invokevirtual 38, 3) := by decide +kernel
theorem dX7_cardOf_98 : decode cX7_cardOf 98 = .ok (.ireturn, 1) := by decide +kernel
theorem dX7_cardOf_99 : decode cX7_cardOf 99 = .ok (.aload_n 0, 1) := by decide +kernel
theorem dX7_cardOf_100 : decode cX7_cardOf 100 = .ok (.iload_n 3, 1) := by decide +kernel
theorem dX7_cardOf_101 : decode cX7_cardOf 101 = .ok (.invokevirtual 94, 3) := by decide +kernel
theorem dX7_cardOf_104 : decode cX7_cardOf 104 = .ok (.ireturn, 1) := by decide +kernel
theorem dX7_cardOf_105 : decode cX7_cardOf 105 = .ok (.aload_n 0, 1) := by decide +kernel
theorem dX7_cardOf_106 : decode cX7_cardOf 106 = .ok (.iload_n 1, 1) := by decide +kernel
theorem dX7_cardOf_107 : decode cX7_cardOf 107 = .ok (.iload_n 2, 1) := by decide +kernel
theorem dX7_cardOf_108 : decode cX7_cardOf 108 = .ok (.iconst 5, 1) := by decide +kernel
theorem dX7_cardOf_109 : decode cX7_cardOf 109 = .ok (.if_icmp .ne 7, 3) := by decide +kernel
theorem dX7_cardOf_112 : decode cX7_cardOf 112 = .ok (.iconst 1, 1) := by decide +kernel
theorem dX7_cardOf_113 : decode cX7_cardOf 113 = .ok (.goto 4, 3) := by decide +kernel
theorem dX7_cardOf_116 : decode cX7_cardOf 116 = .ok (.iconst 0, 1) := by decide +kernel
theorem dX7_cardOf_117 : decode cX7_cardOf 117 = .ok (.invokevirtual 97, 3) := by decide +kernel
theorem dX7_cardOf_120 : decode cX7_cardOf 120 = .ok (.ireturn, 1) := by decide +kernel
theorem dX7_cardOf_121 : decode cX7_cardOf 121 = .ok (.aload_n 0, 1) := by decide +kernel
theorem dX7_cardOf_122 : decode cX7_cardOf 122 = .ok (.iload_n 1, 1) := by decide +kernel
theorem dX7_cardOf_123 : decode cX7_cardOf 123 = .ok (.invokevirtual 90, 3) := by decide +kernel
theorem dX7_cardOf_126 : decode cX7_cardOf 126 = .ok (.ireturn, 1) := by decide +kernel
theorem dX7_cardOf_127 : decode cX7_cardOf 127 = .ok (.iload_n 1, 1) := by decide +kernel
theorem dX7_cardOf_128 : decode cX7_cardOf 128 = .ok (.aload_n 0, 1) := by decide +kernel
theorem dX7_cardOf_129 : decode cX7_cardOf 129 = .ok (.getfield 7, 3) := by decide +kernel
theorem dX7_cardOf_132 : decode cX7_cardOf 132 = .ok (.bipush 68, 2) := by decide +kernel
theorem dX7_cardOf_134 : decode cX7_cardOf 134 = .ok (.iaload, 1) := by decide +kernel
theorem dX7_cardOf_135 : decode cX7_cardOf 135 = .ok (.idiv, 1) := by decide +kernel
theorem dX7_cardOf_136 : decode cX7_cardOf 136 = .ok (.ireturn, 1) := by decide +kernel
theorem dX7_cardOf_137 : decode cX7_cardOf 137 = .ok (.aload_n 0, 1) := by decide +kernel
theorem dX7_cardOf_138 : decode cX7_cardOf 138 = .ok (.iload_n 1, 1) := by decide +kernel
theorem dX7_cardOf_139 : decode cX7_cardOf 139 = .ok (.invokevirtual 101, 3) := by decide +kernel
theorem dX7_cardOf_142 : decode cX7_cardOf 142 = .ok (.ireturn, 1) := by decide +kernel
theorem dX7_cardOf_143 : decode cX7_cardOf 143 = .ok (.ldc 51, 2) := by decide +kernel
theorem dX7_cardOf_145 : decode cX7_cardOf 145 = .ok (.ireturn, 1) := by decide +kernel
set_option maxRecDepth 20000 in
theorem ggX7_floats_X7_sounds : GoodIn wsX7_floats wsX7_sounds := goodIn_r _ [6, 1, 7, 8, 5, 9, 10, 11, 12, 13, 14, 15, 16, 17, 18, 19, 20, 21, 22, 23] (by decide +kernel) (by decide +kernel)
set_option maxRecDepth 20000 in
theorem gX7_floats_X7_sounds : GoodIn wsX7_floats (wsV RX7 84 RX7 yX7_sounds wsX7_sounds) := goodIn_app (goodIn_of _ (by decide +kernel)) ggX7_floats_X7_sounds
theorem dX7_floats_0 : decode cX7_floats 0 = .ok (.iconst 0, 1) := by decide +kernel
theorem dX7_floats_1 : decode cX7_floats 1 = .ok (.istore_n 3, 1) := by decide +kernel
theorem dX7_floats_2 : decode cX7_floats 2 = .ok (.iconst 0, 1) := by decide +kernel
theorem dX7_floats_3 : decode cX7_floats 3 = .ok (.istore 4, 2) := by decide +kernel
theorem dX7_floats_5 : decode cX7_floats 5 = .ok (.iconst 0, 1) := by decide +kernel
theorem dX7_floats_6 : decode cX7_floats 6 = .ok (.istore 5, 2) := by decide +kernel
theorem dX7_floats_8 : decode cX7_floats 8 = .ok (.iconst 0, 1) := by decide +kernel
theorem dX7_floats_9 : decode cX7_floats 9 = .ok (.istore 6, 2) := by decide +kernel
theorem dX7_floats_11 : decode cX7_floats 11 = .ok (.iload 6, 2) := by decide +kernel
theorem dX7_floats_13 : decode cX7_floats 13 = .ok (.aload_n 0, 1) := by decide +kernel
theorem dX7_floats_14 : decode cX7_floats 14 = .ok (.getfield 7, 3) := by decide +kernel
theorem dX7_floats_17 : decode cX7_floats 17 = .ok (.bipush 16, 2) := by decide +kernel
theorem dX7_floats_19 : decode cX7_floats 19 = .ok (.iaload, 1) := by decide +kernel
theorem dX7_floats_20 : decode cX7_floats 20 = .ok (.if_icmp .ge 80, 3) := by decide +kernel
theorem dX7_floats_23 : decode cX7_floats 23 = .ok (.iload 6, 2) := by decide +kernel
theorem dX7_floats_25 : decode cX7_floats 25 = .ok (.ifCond .le 29, 3) := by decide +kernel
theorem dX7_floats_28 : decode cX7_floats 28 = .ok (.aload_n 0, 1) := by decide +kernel
theorem dX7_floats_29 : decode cX7_floats 29 = .ok (.iload 6, 2) := by decide +kernel
theorem dX7_floats_31 : decode cX7_floats 31 = .ok (.iload_n 1, 1) := by decide +kernel
theorem dX7_floats_32 : decode cX7_floats 32 = .ok (.invokevirtual 84, 3) := by decide +kernel
theorem dX7_floats_35 : decode cX7_floats 35 = .ok (.aload_n 0, 1) := by decide +kernel
theorem dX7_floats_36 : decode cX7_floats 36 = .ok (.iload 6, 2) := by decide +kernel
theorem dX7_floats_38 : decode cX7_floats 38 = .ok (.iconst 1, 1) := by decide +kernel
theorem dX7_floats_39 : decode cX7_floats 39 = .ok (.isub, 1) := by decide +kernel
theorem dX7_floats_40 : decode cX7_floats 40 = .ok (.iload_n 1, 1) := by decide +kernel
theorem dX7_floats_41 : decode cX7_floats 41 = .ok (.invokevirtual 84, 3) := by decide +kernel
theorem dX7_floats_44 : decode cX7_floats 44 = .ok (.if_icmp .ne 10, 3) := by decide +kernel
theorem dX7_floats_47 : decode cX7_floats 47 = .ok (.iload 5, 2) := by decide +kernel
theorem dX7_floats_49 : decode cX7_floats 49 = .ok (.iconst 1, 1) := by decide +kernel
theorem dX7_floats_50 : decode cX7_floats 50 = .ok (.iadd, 1) := by decide +kernel
theorem dX7_floats_51 : decode cX7_floats 51 = .ok (.goto 4, 3) := by decide +kernel
theorem dX7_floats_54 : decode cX7_floats 54 = .ok (.iconst 1, 1) := by decide +kernel
theorem dX7_floats_55 : decode cX7_floats 55 = .ok (.istore 5, 2) := by decide +kernel
theorem dX7_floats_57 : decode cX7_floats 57 = .ok (.iload 5, 2) := by decide +kernel
theorem dX7_floats_59 : decode cX7_floats 59 = .ok (.iload_n 3, 1) := by decide +kernel
theorem dX7_floats_60 : decode cX7_floats 60 = .ok (.if_icmp .le 8, 3) := by decide +kernel
theorem dX7_floats_63 : decode cX7_floats 63 = .ok (.iload 5, 2) := by decide +kernel
theorem dX7_floats_65 : decode cX7_floats 65 = .ok (.goto 4, 3) := by decide +kernel
theorem dX7_floats_68 : decode cX7_floats 68 = .ok (.iload_n 3, 1) := by decide +kernel
theorem dX7_floats_69 : decode cX7_floats 69 = .ok (.istore_n 3, 1) := by decide +kernel
theorem dX7_floats_70 : decode cX7_floats 70 = .ok (.iload 4, 2) := by decide +kernel
theorem dX7_floats_72 : decode cX7_floats 72 = .ok (.iload 5, 2) := by decide +kernel
theorem dX7_floats_74 : decode cX7_floats 74 = .ok (.aload_n 0, 1) := by decide +kernel
theorem dX7_floats_75 : decode cX7_floats 75 = .ok (.getfield 7, 3) := by decide +kernel
theorem dX7_floats_78 : decode cX7_floats 78 = .ok (.bipush 71, 2) := by decide +kernel
theorem dX7_floats_80 : decode cX7_floats 80 = .ok (.iaload, 1) := by decide +kernel
theorem dX7_floats_81 : decode cX7_floats 81 = .ok (.iconst 1, 1) := by decide +kernel
theorem dX7_floats_82 : decode cX7_floats 82 = .ok (.iadd, 1) := by decide +kernel
theorem dX7_floats_83 : decode cX7_floats 83 = .ok (.if_icmp .ne 7, 3) := by decide +kernel
theorem dX7_floats_86 : decode cX7_floats 86 = .ok (.iconst 1, 1) := by decide +kernel
theorem dX7_floats_87 : decode cX7_floats 87 = .ok (.goto 4, 3) := by decide +kernel
theorem dX7_floats_90 : decode cX7_floats 90 = .ok (.iconst 0, 1) := by decide +kernel
theorem dX7_floats_91 : decode cX7_floats 91 = .ok (.iadd, 1) := by decide +kernel
theorem dX7_floats_92 : decode cX7_floats 92 = .ok (.istore 4, 2) := by decide +kernel
theorem dX7_floats_94 : decode cX7_floats 94 = .ok (.iinc 6 1, 3) := by decide +kernel
theorem dX7_floats_97 : decode cX7_floats 97 = .ok (.goto (-86), 3) := by decide +kernel
theorem dX7_floats_100 : decode cX7_floats 100 = .ok (.iload_n 2, 1) := by decide +kernel
theorem dX7_floats_101 : decode cX7_floats 101 = .ok (.iconst 4, 1) := by decide +kernel
theorem dX7_floats_102 : decode cX7_floats 102 = .ok (.if_icmp .ne 7, 3) := by decide +kernel
theorem dX7_floats_105 : decode cX7_floats 105 = .ok (.iload_n 3, 1) := by decide +kernel
theorem dX7_floats_106 : decode cX7_floats 106 = .ok (.goto 5, 3) := by decide +kernel
theorem dX7_floats_109 : decode cX7_floats 109 = .ok (.iload 4, 2) := by decide +kernel
theorem dX7_floats_111 : decode cX7_floats 111 = .ok (.ireturn, 1) := by decide +kernel
set_option maxRecDepth 20000 in
theorem ggX7_rows_X7_begins : GoodIn wsX7_rows wsX7_begins := goodIn_r _ [6, 7, 8, 9, 5, 10, 1, 11, 12, 13, 14, 15, 16, 17, 18, 19, 20, 21, 22, 23, 24, 25, 26, 27] (by decide +kernel) (by decide +kernel)
set_option maxRecDepth 20000 in
theorem gX7_rows_X7_begins : GoodIn wsX7_rows (wsV RX7 87 RX7 yX7_begins wsX7_begins) := goodIn_app (goodIn_of _ (by decide +kernel)) ggX7_rows_X7_begins
set_option maxRecDepth 20000 in
theorem ggX7_rows_X7_sounds : GoodIn wsX7_rows wsX7_sounds := goodIn_r _ [10, 1, 11, 12, 5, 13, 14, 15, 16, 17, 18, 19, 20, 21, 22, 23, 24, 25, 26, 27] (by decide +kernel) (by decide +kernel)
set_option maxRecDepth 20000 in
theorem gX7_rows_X7_sounds : GoodIn wsX7_rows (wsV RX7 84 RX7 yX7_sounds wsX7_sounds) := goodIn_app (goodIn_of _ (by decide +kernel)) ggX7_rows_X7_sounds
theorem dX7_rows_0 : decode cX7_rows 0 = .ok (.iconst 0, 1) := by decide +kernel
theorem dX7_rows_1 : decode cX7_rows 1 = .ok (.istore_n 3, 1) := by decide +kernel
theorem dX7_rows_2 : decode cX7_rows 2 = .ok (.iconst 0, 1) := by decide +kernel
theorem dX7_rows_3 : decode cX7_rows 3 = .ok (.istore 4, 2) := by decide +kernel
theorem dX7_rows_5 : decode cX7_rows 5 = .ok (.iload 4, 2) := by decide +kernel
theorem dX7_rows_7 : decode cX7_rows 7 = .ok (.aload_n 0, 1) := by decide +kernel
theorem dX7_rows_8 : decode cX7_rows 8 = .ok (.getfield 7, 3) := by decide +kernel
theorem dX7_rows_11 : decode cX7_rows 11 = .ok (.bipush 16, 2) := by decide +kernel
theorem dX7_rows_13 : decode cX7_rows 13 = .ok (.iaload, 1) := by decide +kernel
theorem dX7_rows_14 : decode cX7_rows 14 = .ok (.if_icmp .ge 45, 3) := by decide +kernel
theorem dX7_rows_17 : decode cX7_rows 17 = .ok (.iload_n 3, 1) := by decide +kernel
theorem dX7_rows_18 : decode cX7_rows 18 = .ok (.iload_n 2, 1) := by decide +kernel
theorem dX7_rows_19 : decode cX7_rows 19 = .ok (.iconst 2, 1) := by decide +kernel
theorem dX7_rows_20 : decode cX7_rows 20 = .ok (.if_icmp .ne 16, 3) := by decide +kernel
theorem dX7_rows_23 : decode cX7_rows 23 = .ok (.aload_n 0, 1) := by decide +kernel
theorem dX7_rows_24 : decode cX7_rows 24 = .ok (.iload 4, 2) := by decide +kernel
theorem dX7_rows_26 : decode cX7_rows 26 = .ok (.iload_n 1, 1) := by decide +kernel
theorem dX7_rows_27 : decode cX7_rows 27 = .ok (.invokevirtual 87, 3) := by decide +kernel
theorem dX7_rows_30 : decode cX7_rows 30 = .ok (.ifCond .eq 20, 3) := by decide +kernel
theorem dX7_rows_33 : decode cX7_rows 33 = .ok (.goto 13, 3) := by decide +kernel
theorem dX7_rows_36 : decode cX7_rows 36 = .ok (.aload_n 0, 1) := by decide +kernel
theorem dX7_rows_37 : decode cX7_rows 37 = .ok (.iload 4, 2) := by decide +kernel
theorem dX7_rows_39 : decode cX7_rows 39 = .ok (.iload_n 1, 1) := by decide +kernel
theorem dX7_rows_40 : decode cX7_rows 40 = .ok (.invokevirtual 84, 3) := by decide +kernel
theorem dX7_rows_43 : decode cX7_rows 43 = .ok (.ifCond .eq 7, 3) := by decide +kernel
theorem dX7_rows_46 : decode cX7_rows 46 = .ok (.iconst 1, 1) := by decide +kernel
theorem dX7_rows_47 : decode cX7_rows 47 = .ok (.goto 4, 3) := by decide +kernel
theorem dX7_rows_50 : decode cX7_rows 50 = .ok (.iconst 0, 1) := by decide +kernel
theorem dX7_rows_51 : decode cX7_rows 51 = .ok (.iadd, 1) := by decide +kernel
theorem dX7_rows_52 : decode cX7_rows 52 = .ok (.istore_n 3, 1) := by decide +kernel
theorem dX7_rows_53 : decode cX7_rows 53 = .ok (.iinc 4 1, 3) := by decide +kernel
theorem dX7_rows_56 : decode cX7_rows 56 = .ok (.goto (-51), 3) := by decide +kernel
theorem dX7_rows_59 : decode cX7_rows 59 = .ok (.iload_n 3, 1) := by decide +kernel
theorem dX7_rows_60 : decode cX7_rows 60 = .ok (.ireturn, 1) := by decide +kernel
set_option maxRecDepth 20000 in
theorem ggX7_threadOf_X7_in : GoodIn wsX7_threadOf wsX7_in := goodIn_r _ [6] (by decide +kernel) (by decide +kernel)
set_option maxRecDepth 20000 in
theorem gX7_threadOf_X7_in : GoodIn wsX7_threadOf (va_wsS RX7 22 yX7_in wsX7_in) := goodIn_app (goodIn_of _ (by decide +kernel)) ggX7_threadOf_X7_in
set_option maxRecDepth 20000 in
theorem ggX7_threadOf_X7_rows : GoodIn wsX7_threadOf wsX7_rows := goodIn_r _ [10, 2, 11, 12, 13, 5, 14, 15, 16, 17, 18, 19, 20, 21, 26, 27, 28, 29, 30, 31, 32, 33, 34, 35, 36, 37, 38, 39] (by decide +kernel) (by decide +kernel)
set_option maxRecDepth 20000 in
theorem gX7_threadOf_X7_rows : GoodIn wsX7_threadOf (wsV RX7 104 RX7 yX7_rows wsX7_rows) := goodIn_app (goodIn_of _ (by decide +kernel)) ggX7_threadOf_X7_rows
set_option maxRecDepth 20000 in
theorem ggX7_threadOf_X7_floats : GoodIn wsX7_threadOf wsX7_floats := goodIn_r _ [25, 2, 15, 16, 17, 5, 18, 19, 20, 21, 26, 27, 28, 29, 30, 31, 32, 33, 34, 35, 36, 37, 38, 39] (by decide +kernel) (by decide +kernel)
set_option maxRecDepth 20000 in
theorem gX7_threadOf_X7_floats : GoodIn wsX7_threadOf (wsV RX7 107 RX7 yX7_floats wsX7_floats) := goodIn_app (goodIn_of _ (by decide +kernel)) ggX7_threadOf_X7_floats
theorem dX7_threadOf_0 : decode cX7_threadOf 0 = .ok (.iload_n 1, 1) := by decide +kernel
theorem dX7_threadOf_1 : decode cX7_threadOf 1 = .ok (.iconst 0, 1) := by decide +kernel
theorem dX7_threadOf_2 : decode cX7_threadOf 2 = .ok (.bipush 7, 2) := by decide +kernel
theorem dX7_threadOf_4 : decode cX7_threadOf 4 = .ok (.invokestatic 22, 3) := by decide +kernel
theorem dX7_threadOf_7 : decode cX7_threadOf 7 = .ok (.ifCond .ne 6, 3) := by decide +kernel
theorem dX7_threadOf_10 : decode cX7_threadOf 10 = .ok (.ldc 51, 2) := by decide +kernel
theorem dX7_threadOf_12 : decode cX7_threadOf 12 = .ok (.ireturn, 1) := by decide +kernel
theorem dX7_threadOf_13 : decode cX7_threadOf 13 = .ok (.iload_n 2, 1) := by decide +kernel
theorem dX7_threadOf_14 : decode cX7_threadOf 14 = .ok (.tableswitch 71 0 5 #[38, 47, 57, 57, 64, 64], 38) := by decide +kernel
theorem dX7_threadOf_52 : decode cX7_threadOf 52 = .ok (.aload_n 0, 1) := by decide +kernel
theorem dX7_threadOf_53 : decode cX7_threadOf 53 = .ok (.getfield 7, 3) := by decide +kernel
theorem dX7_threadOf_56 : decode cX7_threadOf 56 = .ok (.iconst 0, 1) := by decide +kernel
theorem dX7_threadOf_57 : decode cX7_threadOf 57 = .ok (.iload_n 1, 1) := by decide +kernel
theorem dX7_threadOf_58 : decode cX7_threadOf 58 = .ok (.iadd, 1) := by decide +kernel
theorem dX7_threadOf_59 : decode cX7_threadOf 59 = .ok (.iaload, 1) := by decide +kernel
theorem dX7_threadOf_60 : decode cX7_threadOf 60 = .ok (.ireturn, 1) := by decide +kernel
theorem dX7_threadOf_61 : decode cX7_threadOf 61 = .ok (.aload_n 0, 1) := by decide +kernel
theorem dX7_threadOf_62 : decode cX7_threadOf 62 = .ok (.getfield 7, 3) := by decide +kernel
theorem dX7_threadOf_65 : decode cX7_threadOf 65 = .ok (.bipush 8, 2) := by decide +kernel
theorem dX7_threadOf_67 : decode cX7_threadOf 67 = .ok (.iload_n 1, 1) := by decide +kernel
theorem dX7_threadOf_68 : decode cX7_threadOf 68 = .ok (.iadd, 1) := by decide +kernel
theorem dX7_threadOf_69 : decode cX7_threadOf 69 = .ok (.iaload, 1) := by decide +kernel
theorem dX7_threadOf_70 : decode cX7_threadOf 70 = .ok (.ireturn, 1) := by decide +kernel
