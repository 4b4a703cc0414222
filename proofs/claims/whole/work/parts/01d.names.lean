theorem dX6_like_31 : decode cX6_like 31 = .ok (.if_icmp .ne 7, 3) := by decide +kernel
theorem dX6_like_34 : decode cX6_like 34 = .ok (.iload_n 2, 1) := by decide +kernel
theorem dX6_like_35 : decode cX6_like 35 = .ok (.goto 14, 3) := by decide +kernel
theorem dX6_like_38 : decode cX6_like 38 = .ok (.aload_n 0, 1) := by decide +kernel
theorem dX6_like_39 : decode cX6_like 39 = .ok (.getfield 10, 3) := by decide +kernel
theorem dX6_like_42 : decode cX6_like 42 = .ok (.getfield 151, 3) := by decide +kernel
theorem dX6_like_45 : decode cX6_like 45 = .ok (.iconst 1, 1) := by decide +kernel
theorem dX6_like_46 : decode cX6_like 46 = .ok (.isub, 1) := by decide +kernel
theorem dX6_like_47 : decode cX6_like 47 = .ok (.iload_n 2, 1) := by decide +kernel
theorem dX6_like_48 : decode cX6_like 48 = .ok (.isub, 1) := by decide +kernel
theorem dX6_like_49 : decode cX6_like 49 = .ok (.invokevirtual 94, 3) := by decide +kernel
theorem dX6_like_52 : decode cX6_like 52 = .ok (.istore_n 3, 1) := by decide +kernel
theorem dX6_like_53 : decode cX6_like 53 = .ok (.aload_n 0, 1) := by decide +kernel
theorem dX6_like_54 : decode cX6_like 54 = .ok (.getfield 10, 3) := by decide +kernel
theorem dX6_like_57 : decode cX6_like 57 = .ok (.iload_n 2, 1) := by decide +kernel
theorem dX6_like_58 : decode cX6_like 58 = .ok (.invokevirtual 94, 3) := by decide +kernel
theorem dX6_like_61 : decode cX6_like 61 = .ok (.iload_n 1, 1) := by decide +kernel
theorem dX6_like_62 : decode cX6_like 62 = .ok (.ifCond .ne 7, 3) := by decide +kernel
theorem dX6_like_65 : decode cX6_like 65 = .ok (.iload_n 3, 1) := by decide +kernel
theorem dX6_like_66 : decode cX6_like 66 = .ok (.goto 7, 3) := by decide +kernel
theorem dX6_like_69 : decode cX6_like 69 = .ok (.iload_n 3, 1) := by decide +kernel
theorem dX6_like_70 : decode cX6_like 70 = .ok (.invokestatic 182, 3) := by decide +kernel
theorem dX6_like_73 : decode cX6_like 73 = .ok (.if_icmp .eq 5, 3) := by decide +kernel
theorem dX6_like_76 : decode cX6_like 76 = .ok (.iconst 0, 1) := by decide +kernel
theorem dX6_like_77 : decode cX6_like 77 = .ok (.ireturn, 1) := by decide +kernel
theorem dX6_like_78 : decode cX6_like 78 = .ok (.iinc 2 1, 3) := by decide +kernel
theorem dX6_like_81 : decode cX6_like 81 = .ok (.goto (-67), 3) := by decide +kernel
theorem dX6_like_84 : decode cX6_like 84 = .ok (.iconst 1, 1) := by decide +kernel
theorem dX6_like_85 : decode cX6_like 85 = .ok (.ireturn, 1) := by decide +kernel
set_option maxRecDepth 20000 in
theorem ggX6_mean_X5_inAll : GoodIn wsX6_mean wsX5_inAll := goodIn_r _ [8, 9, 10, 11, 12, 13, 7, 14, 15, 16, 17, 18, 19, 20, 21, 22, 23, 24, 25, 26, 27, 28, 50, 51, 52, 53, 54, 55, 56, 57, 58] (by decide +kernel) (by decide +kernel)
set_option maxRecDepth 20000 in
theorem gX6_mean_X5_inAll : GoodIn wsX6_mean (wsV RX6 176 RX5 yX5_inAll wsX5_inAll) := goodIn_app (goodIn_of _ (by decide +kernel)) ggX6_mean_X5_inAll
set_option maxRecDepth 20000 in
theorem ggX6_mean_X3_soundingThreads : GoodIn wsX6_mean wsX3_soundingThreads := goodIn_r _ [33, 34, 35, 36, 16, 17, 18, 19, 20, 21, 37, 23, 24, 25, 26, 27, 28, 59, 51, 52, 53, 54, 55, 56, 57, 58] (by decide +kernel) (by decide +kernel)
set_option maxRecDepth 20000 in
theorem gX6_mean_X3_soundingThreads : GoodIn wsX6_mean (wsV RX6 185 RX3 yX3_soundingThreads wsX3_soundingThreads) := goodIn_app (goodIn_of _ (by decide +kernel)) ggX6_mean_X3_soundingThreads
set_option maxRecDepth 20000 in
theorem ggX6_mean_X6_bitsOf : GoodIn wsX6_mean wsX6_bitsOf := goodIn_r _ [41, 42] (by decide +kernel) (by decide +kernel)
set_option maxRecDepth 20000 in
theorem gX6_mean_X6_bitsOf : GoodIn wsX6_mean (va_wsS RX6 188 yX6_bitsOf wsX6_bitsOf) := goodIn_app (goodIn_of _ (by decide +kernel)) ggX6_mean_X6_bitsOf
theorem dX6_mean_0 : decode cX6_mean 0 = .ok (.aload_n 0, 1) := by decide +kernel
theorem dX6_mean_1 : decode cX6_mean 1 = .ok (.getfield 38, 3) := by decide +kernel
theorem dX6_mean_4 : decode cX6_mean 4 = .ok (.invokevirtual 176, 3) := by decide +kernel
theorem dX6_mean_7 : decode cX6_mean 7 = .ok (.istore_n 1, 1) := by decide +kernel
theorem dX6_mean_8 : decode cX6_mean 8 = .ok (.iload_n 1, 1) := by decide +kernel
theorem dX6_mean_9 : decode cX6_mean 9 = .ok (.ifCond .ne 6, 3) := by decide +kernel
theorem dX6_mean_12 : decode cX6_mean 12 = .ok (.ldc 147, 2) := by decide +kernel
theorem dX6_mean_14 : decode cX6_mean 14 = .ok (.ireturn, 1) := by decide +kernel
theorem dX6_mean_15 : decode cX6_mean 15 = .ok (.aload_n 0, 1) := by decide +kernel
theorem dX6_mean_16 : decode cX6_mean 16 = .ok (.getfield 31, 3) := by decide +kernel
theorem dX6_mean_19 : decode cX6_mean 19 = .ok (.invokevirtual 185, 3) := by decide +kernel
theorem dX6_mean_22 : decode cX6_mean 22 = .ok (.i2f, 1) := by decide +kernel
theorem dX6_mean_23 : decode cX6_mean 23 = .ok (.iload_n 1, 1) := by decide +kernel
theorem dX6_mean_24 : decode cX6_mean 24 = .ok (.i2f, 1) := by decide +kernel
theorem dX6_mean_25 : decode cX6_mean 25 = .ok (.fdiv, 1) := by decide +kernel
theorem dX6_mean_26 : decode cX6_mean 26 = .ok (.invokestatic 188, 3) := by decide +kernel
theorem dX6_mean_29 : decode cX6_mean 29 = .ok (.ireturn, 1) := by decide +kernel
set_option maxRecDepth 20000 in
theorem ggX6_count_X3_stamped : GoodIn wsX6_count wsX3_stamped := goodIn_r _ [19, 20, 21, 22, 23, 24, 25, 26, 27, 28, 29, 30, 31, 32, 130, 110, 111, 112, 113, 114, 115, 116, 117] (by decide +kernel) (by decide +kernel)
set_option maxRecDepth 20000 in
theorem gX6_count_X3_stamped : GoodIn wsX6_count (wsV RX6 192 RX3 yX3_stamped wsX3_stamped) := goodIn_app (goodIn_of _ (by decide +kernel)) ggX6_count_X3_stamped
set_option maxRecDepth 20000 in
theorem ggX6_count_X5_inAll : GoodIn wsX6_count wsX5_inAll := goodIn_r _ [37, 38, 39, 40, 41, 42, 36, 43, 44, 45, 46, 25, 47, 31, 32, 48, 49, 50, 51, 52, 53, 54, 131, 110, 111, 112, 113, 114, 115, 116, 117] (by decide +kernel) (by decide +kernel)
set_option maxRecDepth 20000 in
theorem gX6_count_X5_inAll : GoodIn wsX6_count (wsV RX6 176 RX5 yX5_inAll wsX5_inAll) := goodIn_app (goodIn_of _ (by decide +kernel)) ggX6_count_X5_inAll
set_option maxRecDepth 20000 in
theorem ggX6_count_X3_clashes : GoodIn wsX6_count wsX3_clashes := goodIn_r _ [58, 20, 21, 59, 45, 46, 25, 47, 31, 32, 60, 61, 62, 63, 64, 130, 110, 111, 112, 113, 114, 115, 116, 117] (by decide +kernel) (by decide +kernel)
set_option maxRecDepth 20000 in
theorem gX6_count_X3_clashes : GoodIn wsX6_count (wsV RX6 195 RX3 yX3_clashes wsX3_clashes) := goodIn_app (goodIn_of _ (by decide +kernel)) ggX6_count_X3_clashes
set_option maxRecDepth 20000 in
theorem ggX6_count_X0_longFloatsInAll : GoodIn wsX6_count wsX0_longFloatsInAll := goodIn_r _ [69, 70, 71, 72, 68, 73, 74, 75, 76, 77, 78, 79, 80, 81, 82, 25, 83, 84, 45, 46, 47, 31, 32, 85, 86, 87, 88, 89, 90, 91, 92, 132, 110, 111, 112, 113, 114, 115, 116, 117] (by decide +kernel) (by decide +kernel)
set_option maxRecDepth 20000 in
theorem gX6_count_X0_longFloatsInAll : GoodIn wsX6_count (wsV RX6 198 RX0 yX0_longFloatsInAll wsX0_longFloatsInAll) := goodIn_app (goodIn_of _ (by decide +kernel)) ggX6_count_X0_longFloatsInAll
set_option maxRecDepth 20000 in
theorem ggX6_count_X3_bars : GoodIn wsX6_count wsX3_bars := goodIn_r _ [96, 20, 21, 97, 98, 99, 18, 100, 101, 89, 90, 25, 91, 92, 130, 110, 111, 112, 113, 114, 115, 116, 117] (by decide +kernel) (by decide +kernel)
set_option maxRecDepth 20000 in
theorem gX6_count_X3_bars : GoodIn wsX6_count (wsV RX6 210 RX3 yX3_bars wsX3_bars) := goodIn_app (goodIn_of _ (by decide +kernel)) ggX6_count_X3_bars
set_option maxRecDepth 20000 in
theorem ggX6_count_X2_settingAt : GoodIn wsX6_count wsX2_settingAt := goodIn_r _ [91, 92, 110, 111, 112, 113, 114, 115, 116, 117] (by decide +kernel) (by decide +kernel)
set_option maxRecDepth 20000 in
theorem gX6_count_X2_settingAt : GoodIn wsX6_count (wsV RX6 219 RX2 yX2_settingAt wsX2_settingAt) := goodIn_app (goodIn_of _ (by decide +kernel)) ggX6_count_X2_settingAt
theorem dX6_count_0 : decode cX6_count 0 = .ok (.iload_n 1, 1) := by decide +kernel
theorem dX6_count_1 : decode cX6_count 1 = .ok (.tableswitch 227 0 23 #[111, 119, 127, 135, 143, 151, 159, 183, 191, 199, 207, 227, 227, 227, 227, 227, 227, 227, 227, 227, 215, 215, 215, 215], 111) := by decide +kernel
theorem dX6_count_112 : decode cX6_count 112 = .ok (.aload_n 0, 1) := by decide +kernel
theorem dX6_count_113 : decode cX6_count 113 = .ok (.getfield 10, 3) := by decide +kernel
theorem dX6_count_116 : decode cX6_count 116 = .ok (.getfield 151, 3) := by decide +kernel
theorem dX6_count_119 : decode cX6_count 119 = .ok (.ireturn, 1) := by decide +kernel
theorem dX6_count_120 : decode cX6_count 120 = .ok (.aload_n 0, 1) := by decide +kernel
theorem dX6_count_121 : decode cX6_count 121 = .ok (.getfield 31, 3) := by decide +kernel
theorem dX6_count_124 : decode cX6_count 124 = .ok (.invokevirtual 192, 3) := by decide +kernel
theorem dX6_count_127 : decode cX6_count 127 = .ok (.ireturn, 1) := by decide +kernel
theorem dX6_count_128 : decode cX6_count 128 = .ok (.aload_n 0, 1) := by decide +kernel
theorem dX6_count_129 : decode cX6_count 129 = .ok (.getfield 38, 3) := by decide +kernel
theorem dX6_count_132 : decode cX6_count 132 = .ok (.invokevirtual 176, 3) := by decide +kernel
theorem dX6_count_135 : decode cX6_count 135 = .ok (.ireturn, 1) := by decide +kernel
theorem dX6_count_136 : decode cX6_count 136 = .ok (.aload_n 0, 1) := by decide +kernel
theorem dX6_count_137 : decode cX6_count 137 = .ok (.getfield 31, 3) := by decide +kernel
theorem dX6_count_140 : decode cX6_count 140 = .ok (.invokevirtual 195, 3) := by decide +kernel
theorem dX6_count_143 : decode cX6_count 143 = .ok (.ireturn, 1) := by decide +kernel
theorem dX6_count_144 : decode cX6_count 144 = .ok (.aload_n 0, 1) := by decide +kernel
theorem dX6_count_145 : decode cX6_count 145 = .ok (.getfield 45, 3) := by decide +kernel
theorem dX6_count_148 : decode cX6_count 148 = .ok (.invokevirtual 198, 3) := by decide +kernel
theorem dX6_count_151 : decode cX6_count 151 = .ok (.ireturn, 1) := by decide +kernel
theorem dX6_count_152 : decode cX6_count 152 = .ok (.aload_n 0, 1) := by decide +kernel
theorem dX6_count_153 : decode cX6_count 153 = .ok (.getfield 10, 3) := by decide +kernel
theorem dX6_count_156 : decode cX6_count 156 = .ok (.getfield 201, 3) := by decide +kernel
theorem dX6_count_159 : decode cX6_count 159 = .ok (.ireturn, 1) := by decide +kernel
theorem dX6_count_160 : decode cX6_count 160 = .ok (.aload_n 0, 1) := by decide +kernel
theorem dX6_count_161 : decode cX6_count 161 = .ok (.getfield 10, 3) := by decide +kernel
theorem dX6_count_164 : decode cX6_count 164 = .ok (.getfield 204, 3) := by decide +kernel
theorem dX6_count_167 : decode cX6_count 167 = .ok (.iconst (-1), 1) := by decide +kernel
theorem dX6_count_168 : decode cX6_count 168 = .ok (.if_icmp .ne 8, 3) := by decide +kernel
theorem dX6_count_171 : decode cX6_count 171 = .ok (.ldc 147, 2) := by decide +kernel
theorem dX6_count_173 : decode cX6_count 173 = .ok (.goto 10, 3) := by decide +kernel
theorem dX6_count_176 : decode cX6_count 176 = .ok (.aload_n 0, 1) := by decide +kernel
theorem dX6_count_177 : decode cX6_count 177 = .ok (.getfield 10, 3) := by decide +kernel
theorem dX6_count_180 : decode cX6_count 180 = .ok (.getfield 204, 3) := by decide +kernel
theorem dX6_count_183 : decode cX6_count 183 = .ok (.ireturn, 1) := by decide +kernel
theorem dX6_count_184 : decode cX6_count 184 = .ok (.aload_n 0, 1) := by decide +kernel
theorem dX6_count_185 : decode cX6_count 185 = .ok (.getfield 10, 3) := by decide +kernel
theorem dX6_count_188 : decode cX6_count 188 = .ok (.getfield 207, 3) := by decide +kernel
theorem dX6_count_191 : decode cX6_count 191 = .ok (.ireturn, 1) := by decide +kernel
theorem dX6_count_192 : decode cX6_count 192 = .ok (.aload_n 0, 1) := by decide +kernel
theorem dX6_count_193 : decode cX6_count 193 = .ok (.getfield 31, 3) := by decide +kernel
theorem dX6_count_196 : decode cX6_count 196 = .ok (.invokevirtual 210, 3) := by decide +kernel
theorem dX6_count_199 : decode cX6_count 199 = .ok (.ireturn, 1) := by decide +kernel
theorem dX6_count_200 : decode cX6_count 200 = .ok (.aload_n 0, 1) := by decide +kernel
theorem dX6_count_201 : decode cX6_count 201 = .ok (.getfield 22, 3) := by decide +kernel
theorem dX6_count_204 : decode cX6_count 204 = .ok (.getfield 213, 3) := by decide +kernel
theorem dX6_count_207 : decode cX6_count 207 = .ok (.ireturn, 1) := by decide +kernel
theorem dX6_count_208 : decode cX6_count 208 = .ok (.aload_n 0, 1) := by decide +kernel
theorem dX6_count_209 : decode cX6_count 209 = .ok (.getfield 52, 3) := by decide +kernel
theorem dX6_count_212 : decode cX6_count 212 = .ok (.getfield 216, 3) := by decide +kernel
theorem dX6_count_215 : decode cX6_count 215 = .ok (.ireturn, 1) := by decide +kernel
theorem dX6_count_216 : decode cX6_count 216 = .ok (.aload_n 0, 1) := by decide +kernel
theorem dX6_count_217 : decode cX6_count 217 = .ok (.getfield 10, 3) := by decide +kernel
theorem dX6_count_220 : decode cX6_count 220 = .ok (.iload_n 1, 1) := by decide +kernel
theorem dX6_count_221 : decode cX6_count 221 = .ok (.bipush 20, 2) := by decide +kernel
theorem dX6_count_223 : decode cX6_count 223 = .ok (.isub, 1) := by decide +kernel
theorem dX6_count_224 : decode cX6_count 224 = .ok (.invokevirtual 219, 3) := by decide +kernel
theorem dX6_count_227 : decode cX6_count 227 = .ok (.ireturn, 1) := by decide +kernel
theorem dX6_count_228 : decode cX6_count 228 = .ok (.ldc 93, 2) := by decide +kernel
theorem dX6_count_230 : decode cX6_count 230 = .ok (.ireturn, 1) := by decide +kernel
set_option maxRecDepth 20000 in
theorem ggX6_undo_X1_restoreTo : GoodIn wsX6_undo wsX1_restoreTo := goodIn_r _ [7, 8, 9, 10, 11, 12, 6, 13, 14, 15, 16, 17, 18, 19, 20, 21, 22, 23, 24, 25, 26, 27, 28, 29, 30, 38, 39, 40, 41, 42, 43, 44, 45, 46, 47] (by decide +kernel) (by decide +kernel)
set_option maxRecDepth 20000 in
theorem gX6_undo_X1_restoreTo : GoodIn wsX6_undo (wsV RX6 222 RX1 yX1_restoreTo wsX1_restoreTo) := goodIn_app (goodIn_of _ (by decide +kernel)) ggX6_undo_X1_restoreTo
theorem dX6_undo_0 : decode cX6_undo 0 = .ok (.aload_n 0, 1) := by decide +kernel
theorem dX6_undo_1 : decode cX6_undo 1 = .ok (.getfield 22, 3) := by decide +kernel
theorem dX6_undo_4 : decode cX6_undo 4 = .ok (.aload_n 0, 1) := by decide +kernel
theorem dX6_undo_5 : decode cX6_undo 5 = .ok (.getfield 10, 3) := by decide +kernel
theorem dX6_undo_8 : decode cX6_undo 8 = .ok (.invokevirtual 222, 3) := by decide +kernel
theorem dX6_undo_11 : decode cX6_undo 11 = .ok (.ireturn, 1) := by decide +kernel
set_option maxRecDepth 20000 in
theorem ggX6_type_X4_append : GoodIn wsX6_type wsX4_append := goodIn_r _ [6, 7, 8, 9, 10, 18, 19, 20, 21, 22, 23, 24, 25, 26, 27] (by decide +kernel) (by decide +kernel)
set_option maxRecDepth 20000 in
theorem gX6_type_X4_append : GoodIn wsX6_type (wsV RX6 226 RX4 yX4_append wsX4_append) := goodIn_app (goodIn_of _ (by decide +kernel)) ggX6_type_X4_append
theorem dX6_type_0 : decode cX6_type 0 = .ok (.aload_n 0, 1) := by decide +kernel
theorem dX6_type_1 : decode cX6_type 1 = .ok (.getfield 52, 3) := by decide +kernel
theorem dX6_type_4 : decode cX6_type 4 = .ok (.iload_n 1, 1) := by decide +kernel
theorem dX6_type_5 : decode cX6_type 5 = .ok (.invokevirtual 226, 3) := by decide +kernel
theorem dX6_type_8 : decode cX6_type 8 = .ok (.ireturn, 1) := by decide +kernel
set_option maxRecDepth 20000 in
theorem ggX6_clearText_X4_empty : GoodIn wsX6_clearText wsX4_empty := goodIn_r _ [6, 7, 15, 16, 17, 18, 19, 20, 21, 22, 23, 24] (by decide +kernel) (by decide +kernel)
set_option maxRecDepth 20000 in
theorem gX6_clearText_X4_empty : GoodIn wsX6_clearText (wsV RX6 229 RX4 yX4_empty wsX4_empty) := goodIn_app (goodIn_of _ (by decide +kernel)) ggX6_clearText_X4_empty
theorem dX6_clearText_0 : decode cX6_clearText 0 = .ok (.aload_n 0, 1) := by decide +kernel
theorem dX6_clearText_1 : decode cX6_clearText 1 = .ok (.getfield 52, 3) := by decide +kernel
theorem dX6_clearText_4 : decode cX6_clearText 4 = .ok (.invokevirtual 229, 3) := by decide +kernel
theorem dX6_clearText_7 : decode cX6_clearText 7 = .ok (.ireturn, 1) := by decide +kernel
set_option maxRecDepth 20000 in
theorem ggX6_fault_X2_copyFrom : GoodIn wsX6_fault wsX2_copyFrom := goodIn_r _ [13, 14, 15, 16, 17, 18, 19, 20, 21, 22, 23, 12, 24, 171, 172, 173, 174, 175, 176, 177, 178] (by decide +kernel) (by decide +kernel)
set_option maxRecDepth 20000 in
theorem gX6_fault_X2_copyFrom : GoodIn wsX6_fault (wsV RX6 56 RX2 yX2_copyFrom wsX2_copyFrom) := goodIn_app (goodIn_of _ (by decide +kernel)) ggX6_fault_X2_copyFrom
set_option maxRecDepth 20000 in
theorem ggX6_fault_X4_runsOn : GoodIn wsX6_fault wsX4_runsOn := goodIn_r _ [29, 30, 31, 32, 33, 34, 35, 36, 37, 38, 28, 39, 40, 41, 42, 43, 44, 45, 46, 47, 48, 49, 50, 51, 52, 53, 54, 55, 56, 57, 58, 59, 60, 61, 62, 63, 64, 65, 66, 67, 68, 69, 70, 71, 72, 73, 74, 75, 76, 77, 78, 12, 79, 80, 81, 82, 83, 84, 85, 20, 21, 86, 87, 88, 89, 18, 90, 91, 92, 93, 94, 95, 96, 97, 98, 99, 100, 101, 102, 103, 104, 17, 105, 106, 107, 108, 14, 109, 110, 111, 112, 16, 113, 114, 115, 116, 117, 118, 119, 120, 121, 122, 123, 124, 19, 125, 126, 127, 128, 129, 130, 131, 132, 15, 133, 134, 135, 136, 137, 138, 139, 140, 141, 142, 143, 144, 145, 146, 147, 148, 149, 150, 151, 152, 153, 161, 162, 163, 164, 165, 166, 167, 168, 169, 170, 171, 172, 173, 174, 175, 176, 177, 178] (by decide +kernel) (by decide +kernel)
set_option maxRecDepth 20000 in
theorem gX6_fault_X4_runsOn : GoodIn wsX6_fault (wsV RX6 232 RX4 yX4_runsOn wsX4_runsOn) := goodIn_app (goodIn_of _ (by decide +kernel)) ggX6_fault_X4_runsOn
theorem dX6_fault_0 : decode cX6_fault 0 = .ok (.iload_n 1, 1) := by decide +kernel
theorem dX6_fault_1 : decode cX6_fault 1 = .ok (.ifCond .lt 8, 3) := by decide +kernel
theorem dX6_fault_4 : decode cX6_fault 4 = .ok (.iload_n 1, 1) := by decide +kernel
theorem dX6_fault_5 : decode cX6_fault 5 = .ok (.iconst 2, 1) := by decide +kernel
theorem dX6_fault_6 : decode cX6_fault 6 = .ok (.if_icmp .le 6, 3) := by decide +kernel
theorem dX6_fault_9 : decode cX6_fault 9 = .ok (.ldc 93, 2) := by decide +kernel
theorem dX6_fault_11 : decode cX6_fault 11 = .ok (.ireturn, 1) := by decide +kernel
theorem dX6_fault_12 : decode cX6_fault 12 = .ok (.aload_n 0, 1) := by decide +kernel
theorem dX6_fault_13 : decode cX6_fault 13 = .ok (.getfield 16, 3) := by decide +kernel
theorem dX6_fault_16 : decode cX6_fault 16 = .ok (.aload_n 0, 1) := by decide +kernel
theorem dX6_fault_17 : decode cX6_fault 17 = .ok (.getfield 10, 3) := by decide +kernel
theorem dX6_fault_20 : decode cX6_fault 20 = .ok (.invokevirtual 56, 3) := by decide +kernel
theorem dX6_fault_23 : decode cX6_fault 23 = .ok (.aload_n 0, 1) := by decide +kernel
theorem dX6_fault_24 : decode cX6_fault 24 = .ok (.getfield 52, 3) := by decide +kernel
theorem dX6_fault_27 : decode cX6_fault 27 = .ok (.aload_n 0, 1) := by decide +kernel
theorem dX6_fault_28 : decode cX6_fault 28 = .ok (.getfield 16, 3) := by decide +kernel
theorem dX6_fault_31 : decode cX6_fault 31 = .ok (.invokevirtual 232, 3) := by decide +kernel
theorem dX6_fault_34 : decode cX6_fault 34 = .ok (.ifCond .eq 6, 3) := by decide +kernel
theorem dX6_fault_37 : decode cX6_fault 37 = .ok (.ldc 147, 2) := by decide +kernel
theorem dX6_fault_39 : decode cX6_fault 39 = .ok (.ireturn, 1) := by decide +kernel
theorem dX6_fault_40 : decode cX6_fault 40 = .ok (.iload_n 1, 1) := by decide +kernel
theorem dX6_fault_41 : decode cX6_fault 41 = .ok (.ifCond .ne 13, 3) := by decide +kernel
theorem dX6_fault_44 : decode cX6_fault 44 = .ok (.aload_n 0, 1) := by decide +kernel
theorem dX6_fault_45 : decode cX6_fault 45 = .ok (.getfield 52, 3) := by decide +kernel
theorem dX6_fault_48 : decode cX6_fault 48 = .ok (.getfield 236, 3) := by decide +kernel
theorem dX6_fault_51 : decode cX6_fault 51 = .ok (.goto 25, 3) := by decide +kernel
theorem dX6_fault_54 : decode cX6_fault 54 = .ok (.iload_n 1, 1) := by decide +kernel
theorem dX6_fault_55 : decode cX6_fault 55 = .ok (.iconst 1, 1) := by decide +kernel
theorem dX6_fault_56 : decode cX6_fault 56 = .ok (.if_icmp .ne 13, 3) := by decide +kernel
theorem dX6_fault_59 : decode cX6_fault 59 = .ok (.aload_n 0, 1) := by decide +kernel
theorem dX6_fault_60 : decode cX6_fault 60 = .ok (.getfield 52, 3) := by decide +kernel
theorem dX6_fault_63 : decode cX6_fault 63 = .ok (.getfield 239, 3) := by decide +kernel
theorem dX6_fault_66 : decode cX6_fault 66 = .ok (.goto 10, 3) := by decide +kernel
theorem dX6_fault_69 : decode cX6_fault 69 = .ok (.aload_n 0, 1) := by decide +kernel
theorem dX6_fault_70 : decode cX6_fault 70 = .ok (.getfield 52, 3) := by decide +kernel
theorem dX6_fault_73 : decode cX6_fault 73 = .ok (.getfield 242, 3) := by decide +kernel
theorem dX6_fault_76 : decode cX6_fault 76 = .ok (.ireturn, 1) := by decide +kernel
set_option maxRecDepth 20000 in
theorem ggX6_play_X2_copyFrom : GoodIn wsX6_play wsX2_copyFrom := goodIn_r _ [10, 11, 12, 13, 14, 15, 16, 17, 18, 19, 20, 9, 21, 190, 191, 192, 193, 194, 195, 196, 197] (by decide +kernel) (by decide +kernel)
set_option maxRecDepth 20000 in
theorem gX6_play_X2_copyFrom : GoodIn wsX6_play (wsV RX6 56 RX2 yX2_copyFrom wsX2_copyFrom) := goodIn_app (goodIn_of _ (by decide +kernel)) ggX6_play_X2_copyFrom
set_option maxRecDepth 20000 in
theorem ggX6_play_X4_runsOn : GoodIn wsX6_play wsX4_runsOn := goodIn_r _ [26, 27, 28, 29, 30, 31, 32, 33, 34, 35, 25, 36, 37, 38, 39, 40, 41, 42, 43, 44, 45, 46, 47, 48, 49, 50, 51, 52, 53, 54, 55, 56, 57, 58, 59, 60, 61, 62, 63, 64, 65, 66, 67, 68, 69, 70, 71, 72, 73, 74, 75, 9, 76, 77, 78, 79, 80, 81, 82, 17, 18, 83, 84, 85, 86, 15, 87, 88, 89, 90, 91, 92, 93, 94, 95, 96, 97, 98, 99, 100, 101, 14, 102, 103, 104, 105, 11, 106, 107, 108, 109, 13, 110, 111, 112, 113, 114, 115, 116, 117, 118, 119, 120, 121, 16, 122, 123, 124, 125, 126, 127, 128, 129, 12, 130, 131, 132, 133, 134, 135, 136, 137, 138, 139, 140, 141, 142, 143, 144, 145, 146, 147, 148, 149, 150, 180, 181, 182, 183, 184, 185, 186, 187, 188, 189, 190, 191, 192, 193, 194, 195, 196, 197] (by decide +kernel) (by decide +kernel)
set_option maxRecDepth 20000 in
theorem gX6_play_X4_runsOn : GoodIn wsX6_play (wsV RX6 232 RX4 yX4_runsOn wsX4_runsOn) := goodIn_app (goodIn_of _ (by decide +kernel)) ggX6_play_X4_runsOn
set_option maxRecDepth 20000 in
theorem ggX6_play_X6_settle : GoodIn wsX6_play wsX6_settle := goodIn_r _ [155, 156, 2, 1, 157, 158, 159, 160, 161, 162, 163, 164, 165, 166, 167, 168, 169, 170, 171, 172, 7, 8, 9, 10, 11, 12, 13, 14, 15, 16, 17, 18, 19, 20, 21, 6, 173, 174, 175, 176, 177, 178, 179, 198, 199, 190, 191, 192, 193, 194, 195, 196, 197] (by decide +kernel) (by decide +kernel)
set_option maxRecDepth 20000 in
theorem gX6_play_X6_settle : GoodIn wsX6_play (wsV RX6 63 RX6 yX6_settle wsX6_settle) := goodIn_app (goodIn_of _ (by decide +kernel)) ggX6_play_X6_settle
theorem dX6_play_0 : decode cX6_play 0 = .ok (.aload_n 0, 1) := by decide +kernel
theorem dX6_play_1 : decode cX6_play 1 = .ok (.getfield 16, 3) := by decide +kernel
theorem dX6_play_4 : decode cX6_play 4 = .ok (.aload_n 0, 1) := by decide +kernel
theorem dX6_play_5 : decode cX6_play 5 = .ok (.getfield 10, 3) := by decide +kernel
theorem dX6_play_8 : decode cX6_play 8 = .ok (.invokevirtual 56, 3) := by decide +kernel
theorem dX6_play_11 : decode cX6_play 11 = .ok (.aload_n 0, 1) := by decide +kernel
theorem dX6_play_12 : decode cX6_play 12 = .ok (.aload_n 0, 1) := by decide +kernel
theorem dX6_play_13 : decode cX6_play 13 = .ok (.getfield 52, 3) := by decide +kernel
theorem dX6_play_16 : decode cX6_play 16 = .ok (.aload_n 0, 1) := by decide +kernel
theorem dX6_play_17 : decode cX6_play 17 = .ok (.getfield 16, 3) := by decide +kernel
theorem dX6_play_20 : decode cX6_play 20 = .ok (.invokevirtual 232, 3) := by decide +kernel
theorem dX6_play_23 : decode cX6_play 23 = .ok (.ifCond .eq 13, 3) := by decide +kernel
theorem dX6_play_26 : decode cX6_play 26 = .ok (.aload_n 0, 1) := by decide +kernel
theorem dX6_play_27 : decode cX6_play 27 = .ok (.getfield 52, 3) := by decide +kernel
theorem dX6_play_30 : decode cX6_play 30 = .ok (.getfield 245, 3) := by decide +kernel
theorem dX6_play_33 : decode cX6_play 33 = .ok (.goto 5, 3) := by decide +kernel
theorem dX6_play_36 : decode cX6_play 36 = .ok (.ldc 248, 2) := by decide +kernel
theorem dX6_play_38 : decode cX6_play 38 = .ok (.invokevirtual 63, 3) := by decide +kernel
theorem dX6_play_41 : decode cX6_play 41 = .ok (.ireturn, 1) := by decide +kernel
set_option maxRecDepth 20000 in
theorem ggX6_settle_X1_keep : GoodIn wsX6_settle wsX1_keep := goodIn_r _ [8, 9, 10, 11, 12, 13, 7, 14, 15, 16, 17, 18, 19, 20, 21, 22, 23, 24, 25, 26, 27, 28, 29, 30, 31, 32, 33, 34, 43, 44, 45, 46, 47, 48, 49, 50, 51, 52] (by decide +kernel) (by decide +kernel)
set_option maxRecDepth 20000 in
theorem gX6_settle_X1_keep : GoodIn wsX6_settle (wsV RX6 249 RX1 yX1_keep wsX1_keep) := goodIn_app (goodIn_of _ (by decide +kernel)) ggX6_settle_X1_keep
set_option maxRecDepth 20000 in
theorem ggX6_settle_X2_copyFrom : GoodIn wsX6_settle wsX2_copyFrom := goodIn_r _ [23, 24, 25, 26, 27, 28, 29, 30, 31, 32, 33, 22, 34, 45, 46, 47, 48, 49, 50, 51, 52] (by decide +kernel) (by decide +kernel)
set_option maxRecDepth 20000 in
theorem gX6_settle_X2_copyFrom : GoodIn wsX6_settle (wsV RX6 56 RX2 yX2_copyFrom wsX2_copyFrom) := goodIn_app (goodIn_of _ (by decide +kernel)) ggX6_settle_X2_copyFrom
theorem dX6_settle_0 : decode cX6_settle 0 = .ok (.iload_n 1, 1) := by decide +kernel
theorem dX6_settle_1 : decode cX6_settle 1 = .ok (.ifCond .lt 25, 3) := by decide +kernel
theorem dX6_settle_4 : decode cX6_settle 4 = .ok (.aload_n 0, 1) := by decide +kernel
theorem dX6_settle_5 : decode cX6_settle 5 = .ok (.getfield 22, 3) := by decide +kernel
theorem dX6_settle_8 : decode cX6_settle 8 = .ok (.aload_n 0, 1) := by decide +kernel
theorem dX6_settle_9 : decode cX6_settle 9 = .ok (.getfield 10, 3) := by decide +kernel
theorem dX6_settle_12 : decode cX6_settle 12 = .ok (.invokevirtual 249, 3) := by decide +kernel
theorem dX6_settle_15 : decode cX6_settle 15 = .ok (.aload_n 0, 1) := by decide +kernel
theorem dX6_settle_16 : decode cX6_settle 16 = .ok (.getfield 10, 3) := by decide +kernel
theorem dX6_settle_19 : decode cX6_settle 19 = .ok (.aload_n 0, 1) := by decide +kernel
theorem dX6_settle_20 : decode cX6_settle 20 = .ok (.getfield 16, 3) := by decide +kernel
theorem dX6_settle_23 : decode cX6_settle 23 = .ok (.invokevirtual 56, 3) := by decide +kernel
theorem dX6_settle_26 : decode cX6_settle 26 = .ok (.iload_n 1, 1) := by decide +kernel
theorem dX6_settle_27 : decode cX6_settle 27 = .ok (.ireturn, 1) := by decide +kernel
set_option maxRecDepth 20000 in
theorem ggX6_mirrored_X6_isIn : GoodIn wsX6_mirrored wsX6_isIn := goodIn_r _ [4] (by decide +kernel) (by decide +kernel)
set_option maxRecDepth 20000 in
theorem gX6_mirrored_X6_isIn : GoodIn wsX6_mirrored (va_wsS RX6 252 yX6_isIn wsX6_isIn) := goodIn_app (goodIn_of _ (by decide +kernel)) ggX6_mirrored_X6_isIn
theorem dX6_mirrored_0 : decode cX6_mirrored 0 = .ok (.iconst 0, 1) := by decide +kernel
theorem dX6_mirrored_1 : decode cX6_mirrored 1 = .ok (.istore_n 1, 1) := by decide +kernel
theorem dX6_mirrored_2 : decode cX6_mirrored 2 = .ok (.iconst 0, 1) := by decide +kernel
theorem dX6_mirrored_3 : decode cX6_mirrored 3 = .ok (.istore_n 2, 1) := by decide +kernel
theorem dX6_mirrored_4 : decode cX6_mirrored 4 = .ok (.iload_n 2, 1) := by decide +kernel
theorem dX6_mirrored_5 : decode cX6_mirrored 5 = .ok (.bipush 8, 2) := by decide +kernel
theorem dX6_mirrored_7 : decode cX6_mirrored 7 = .ok (.if_icmp .ge 26, 3) := by decide +kernel
theorem dX6_mirrored_10 : decode cX6_mirrored 10 = .ok (.iload_n 0, 1) := by decide +kernel
theorem dX6_mirrored_11 : decode cX6_mirrored 11 = .ok (.iload_n 2, 1) := by decide +kernel
theorem dX6_mirrored_12 : decode cX6_mirrored 12 = .ok (.invokestatic 252, 3) := by decide +kernel
theorem dX6_mirrored_15 : decode cX6_mirrored 15 = .ok (.ifCond .eq 12, 3) := by decide +kernel
theorem dX6_mirrored_18 : decode cX6_mirrored 18 = .ok (.iload_n 1, 1) := by decide +kernel
theorem dX6_mirrored_19 : decode cX6_mirrored 19 = .ok (.iconst 1, 1) := by decide +kernel
theorem dX6_mirrored_20 : decode cX6_mirrored 20 = .ok (.bipush 7, 2) := by decide +kernel
theorem dX6_mirrored_22 : decode cX6_mirrored 22 = .ok (.iload_n 2, 1) := by decide +kernel
theorem dX6_mirrored_23 : decode cX6_mirrored 23 = .ok (.isub, 1) := by decide +kernel
theorem dX6_mirrored_24 : decode cX6_mirrored 24 = .ok (.ishl, 1) := by decide +kernel
theorem dX6_mirrored_25 : decode cX6_mirrored 25 = .ok (.ior, 1) := by decide +kernel
theorem dX6_mirrored_26 : decode cX6_mirrored 26 = .ok (.istore_n 1, 1) := by decide +kernel
theorem dX6_mirrored_27 : decode cX6_mirrored 27 = .ok (.iinc 2 1, 3) := by decide +kernel
theorem dX6_mirrored_30 : decode cX6_mirrored 30 = .ok (.goto (-26), 3) := by decide +kernel
theorem dX6_mirrored_33 : decode cX6_mirrored 33 = .ok (.iload_n 1, 1) := by decide +kernel
theorem dX6_mirrored_34 : decode cX6_mirrored 34 = .ok (.ireturn, 1) := by decide +kernel
theorem dX6_isIn_0 : decode cX6_isIn 0 = .ok (.iload_n 0, 1) := by decide +kernel
theorem dX6_isIn_1 : decode cX6_isIn 1 = .ok (.iload_n 1, 1) := by decide +kernel
theorem dX6_isIn_2 : decode cX6_isIn 2 = .ok (.ishr, 1) := by decide +kernel
theorem dX6_isIn_3 : decode cX6_isIn 3 = .ok (.iconst 1, 1) := by decide +kernel
theorem dX6_isIn_4 : decode cX6_isIn 4 = .ok (.iand, 1) := by decide +kernel
theorem dX6_isIn_5 : decode cX6_isIn 5 = .ok (.iconst 1, 1) := by decide +kernel
theorem dX6_isIn_6 : decode cX6_isIn 6 = .ok (.if_icmp .ne 7, 3) := by decide +kernel
theorem dX6_isIn_9 : decode cX6_isIn 9 = .ok (.iconst 1, 1) := by decide +kernel
theorem dX6_isIn_10 : decode cX6_isIn 10 = .ok (.goto 4, 3) := by decide +kernel
theorem dX6_isIn_13 : decode cX6_isIn 13 = .ok (.iconst 0, 1) := by decide +kernel
theorem dX6_isIn_14 : decode cX6_isIn 14 = .ok (.ireturn, 1) := by decide +kernel
theorem dX6_bitsOf_0 : decode cX6_bitsOf 0 = .ok (.fload_n 0, 1) := by decide +kernel
theorem dX6_bitsOf_1 : decode cX6_bitsOf 1 = .ok (.fstore_n 1, 1) := by decide +kernel
theorem dX6_bitsOf_2 : decode cX6_bitsOf 2 = .ok (.bipush 127, 2) := by decide +kernel
theorem dX6_bitsOf_4 : decode cX6_bitsOf 4 = .ok (.istore_n 2, 1) := by decide +kernel
theorem dX6_bitsOf_5 : decode cX6_bitsOf 5 = .ok (.fload_n 1, 1) := by decide +kernel
theorem dX6_bitsOf_6 : decode cX6_bitsOf 6 = .ok (.fconst 2, 1) := by decide +kernel
theorem dX6_bitsOf_7 : decode cX6_bitsOf 7 = .ok (.fcmp .l, 1) := by decide +kernel
theorem dX6_bitsOf_8 : decode cX6_bitsOf 8 = .ok (.ifCond .lt 20, 3) := by decide +kernel
theorem dX6_bitsOf_11 : decode cX6_bitsOf 11 = .ok (.iload_n 2, 1) := by decide +kernel
theorem dX6_bitsOf_12 : decode cX6_bitsOf 12 = .ok (.sipush 254, 3) := by decide +kernel
theorem dX6_bitsOf_15 : decode cX6_bitsOf 15 = .ok (.if_icmp .ge 13, 3) := by decide +kernel
theorem dX6_bitsOf_18 : decode cX6_bitsOf 18 = .ok (.fload_n 1, 1) := by decide +kernel
theorem dX6_bitsOf_19 : decode cX6_bitsOf 19 = .ok (.fconst 2, 1) := by decide +kernel
theorem dX6_bitsOf_20 : decode cX6_bitsOf 20 = .ok (.fdiv, 1) := by decide +kernel
theorem dX6_bitsOf_21 : decode cX6_bitsOf 21 = .ok (.fstore_n 1, 1) := by decide +kernel
theorem dX6_bitsOf_22 : decode cX6_bitsOf 22 = .ok (.iinc 2 1, 3) := by decide +kernel
theorem dX6_bitsOf_25 : decode cX6_bitsOf 25 = .ok (.goto (-20), 3) := by decide +kernel
theorem dX6_bitsOf_28 : decode cX6_bitsOf 28 = .ok (.iload_n 2, 1) := by decide +kernel
theorem dX6_bitsOf_29 : decode cX6_bitsOf 29 = .ok (.bipush 23, 2) := by decide +kernel
theorem dX6_bitsOf_31 : decode cX6_bitsOf 31 = .ok (.ishl, 1) := by decide +kernel
theorem dX6_bitsOf_32 : decode cX6_bitsOf 32 = .ok (.fload_n 1, 1) := by decide +kernel
theorem dX6_bitsOf_33 : decode cX6_bitsOf 33 = .ok (.fconst 1, 1) := by decide +kernel
theorem dX6_bitsOf_34 : decode cX6_bitsOf 34 = .ok (.fsub, 1) := by decide +kernel
theorem dX6_bitsOf_35 : decode cX6_bitsOf 35 = .ok (.ldc 255, 2) := by decide +kernel
theorem dX6_bitsOf_37 : decode cX6_bitsOf 37 = .ok (.fmul, 1) := by decide +kernel
theorem dX6_bitsOf_38 : decode cX6_bitsOf 38 = .ok (.f2i, 1) := by decide +kernel
theorem dX6_bitsOf_39 : decode cX6_bitsOf 39 = .ok (.iadd, 1) := by decide +kernel
theorem dX6_bitsOf_40 : decode cX6_bitsOf 40 = .ok (.ireturn, 1) := by decide +kernel
theorem dX7_init_0 : decode cX7_init 0 = .ok (.aload_n 0, 1) := by decide +kernel
theorem dX7_init_1 : decode cX7_init 1 = .ok (.invokespecial 1, 3) := by decide +kernel
theorem dX7_init_4 : decode cX7_init 4 = .ok (.aload_n 0, 1) := by decide +kernel
theorem dX7_init_5 : decode cX7_init 5 = .ok (.bipush 72, 2) := by decide +kernel
theorem dX7_init_7 : decode cX7_init 7 = .ok (.newarray .int, 2) := by decide +kernel
theorem dX7_init_9 : decode cX7_init 9 = .ok (.putfield 7, 3) := by decide +kernel
theorem dX7_init_12 : decode cX7_init 12 = .ok (.aload_n 0, 1) := by decide +kernel
theorem dX7_init_13 : decode cX7_init 13 = .ok (.bipush 72, 2) := by decide +kernel
theorem dX7_init_15 : decode cX7_init 15 = .ok (.newarray .int, 2) := by decide +kernel
theorem dX7_init_17 : decode cX7_init 17 = .ok (.putfield 13, 3) := by decide +kernel
theorem dX7_init_20 : decode cX7_init 20 = .ok (.aload_n 0, 1) := by decide +kernel
theorem dX7_init_21 : decode cX7_init 21 = .ok (.sipush 288, 3) := by decide +kernel
theorem dX7_init_24 : decode cX7_init 24 = .ok (.newarray .int, 2) := by decide +kernel
theorem dX7_init_26 : decode cX7_init 26 = .ok (.putfield 16, 3) := by decide +kernel
theorem dX7_init_29 : decode cX7_init 29 = .ok (.aload_n 0, 1) := by decide +kernel
theorem dX7_init_30 : decode cX7_init 30 = .ok (.bipush 60, 2) := by decide +kernel
theorem dX7_init_32 : decode cX7_init 32 = .ok (.newarray .int, 2) := by decide +kernel
theorem dX7_init_34 : decode cX7_init 34 = .ok (.putfield 19, 3) := by decide +kernel
theorem dX7_init_37 : decode cX7_init 37 = .ok (.iconst 0, 1) := by decide +kernel
theorem dX7_init_38 : decode cX7_init 38 = .ok (.istore_n 1, 1) := by decide +kernel
theorem dX7_init_39 : decode cX7_init 39 = .ok (.iload_n 1, 1) := by decide +kernel
theorem dX7_init_40 : decode cX7_init 40 = .ok (.bipush 8, 2) := by decide +kernel
theorem dX7_init_42 : decode cX7_init 42 = .ok (.if_icmp .ge 35, 3) := by decide +kernel
theorem dX7_init_45 : decode cX7_init 45 = .ok (.aload_n 0, 1) := by decide +kernel
theorem dX7_init_46 : decode cX7_init 46 = .ok (.getfield 7, 3) := by decide +kernel
theorem dX7_init_49 : decode cX7_init 49 = .ok (.iconst 0, 1) := by decide +kernel
theorem dX7_init_50 : decode cX7_init 50 = .ok (.iload_n 1, 1) := by decide +kernel
theorem dX7_init_51 : decode cX7_init 51 = .ok (.iadd, 1) := by decide +kernel
theorem dX7_init_52 : decode cX7_init 52 = .ok (.bipush 12, 2) := by decide +kernel
theorem dX7_init_54 : decode cX7_init 54 = .ok (.iconst 2, 1) := by decide +kernel
theorem dX7_init_55 : decode cX7_init 55 = .ok (.iload_n 1, 1) := by decide +kernel
theorem dX7_init_56 : decode cX7_init 56 = .ok (.imul, 1) := by decide +kernel
theorem dX7_init_57 : decode cX7_init 57 = .ok (.iadd, 1) := by decide +kernel
theorem dX7_init_58 : decode cX7_init 58 = .ok (.iastore, 1) := by decide +kernel
theorem dX7_init_59 : decode cX7_init 59 = .ok (.aload_n 0, 1) := by decide +kernel
theorem dX7_init_60 : decode cX7_init 60 = .ok (.getfield 7, 3) := by decide +kernel
theorem dX7_init_63 : decode cX7_init 63 = .ok (.bipush 8, 2) := by decide +kernel
theorem dX7_init_65 : decode cX7_init 65 = .ok (.iload_n 1, 1) := by decide +kernel
theorem dX7_init_66 : decode cX7_init 66 = .ok (.iadd, 1) := by decide +kernel
theorem dX7_init_67 : decode cX7_init 67 = .ok (.iload_n 1, 1) := by decide +kernel
theorem dX7_init_68 : decode cX7_init 68 = .ok (.iconst 4, 1) := by decide +kernel
theorem dX7_init_69 : decode cX7_init 69 = .ok (.irem, 1) := by decide +kernel
theorem dX7_init_70 : decode cX7_init 70 = .ok (.iastore, 1) := by decide +kernel
theorem dX7_init_71 : decode cX7_init 71 = .ok (.iinc 1 1, 3) := by decide +kernel
theorem dX7_init_74 : decode cX7_init 74 = .ok (.goto (-35), 3) := by decide +kernel
theorem dX7_init_77 : decode cX7_init 77 = .ok (.aload_n 0, 1) := by decide +kernel
theorem dX7_init_78 : decode cX7_init 78 = .ok (.getfield 7, 3) := by decide +kernel
theorem dX7_init_81 : decode cX7_init 81 = .ok (.bipush 68, 2) := by decide +kernel
theorem dX7_init_83 : decode cX7_init 83 = .ok (.iconst 4, 1) := by decide +kernel
theorem dX7_init_84 : decode cX7_init 84 = .ok (.iastore, 1) := by decide +kernel
theorem dX7_init_85 : decode cX7_init 85 = .ok (.aload_n 0, 1) := by decide +kernel
theorem dX7_init_86 : decode cX7_init 86 = .ok (.getfield 7, 3) := by decide +kernel
theorem dX7_init_89 : decode cX7_init 89 = .ok (.bipush 69, 2) := by decide +kernel
theorem dX7_init_91 : decode cX7_init 91 = .ok (.iconst 5, 1) := by decide +kernel
theorem dX7_init_92 : decode cX7_init 92 = .ok (.iastore, 1) := by decide +kernel
theorem dX7_init_93 : decode cX7_init 93 = .ok (.aload_n 0, 1) := by decide +kernel
theorem dX7_init_94 : decode cX7_init 94 = .ok (.getfield 7, 3) := by decide +kernel
theorem dX7_init_97 : decode cX7_init 97 = .ok (.bipush 70, 2) := by decide +kernel
theorem dX7_init_99 : decode cX7_init 99 = .ok (.iconst 3, 1) := by decide +kernel
theorem dX7_init_100 : decode cX7_init 100 = .ok (.iastore, 1) := by decide +kernel
theorem dX7_init_101 : decode cX7_init 101 = .ok (.aload_n 0, 1) := by decide +kernel
theorem dX7_init_102 : decode cX7_init 102 = .ok (.getfield 7, 3) := by decide +kernel
theorem dX7_init_105 : decode cX7_init 105 = .ok (.bipush 71, 2) := by decide +kernel
theorem dX7_init_107 : decode cX7_init 107 = .ok (.bipush 6, 2) := by decide +kernel
theorem dX7_init_109 : decode cX7_init 109 = .ok (.iastore, 1) := by decide +kernel
theorem dX7_init_110 : decode cX7_init 110 = .ok (.return_, 1) := by decide +kernel
theorem dX7_in_0 : decode cX7_in 0 = .ok (.iload_n 0, 1) := by decide +kernel
theorem dX7_in_1 : decode cX7_in 1 = .ok (.iload_n 1, 1) := by decide +kernel
theorem dX7_in_2 : decode cX7_in 2 = .ok (.if_icmp .lt 12, 3) := by decide +kernel
theorem dX7_in_5 : decode cX7_in 5 = .ok (.iload_n 0, 1) := by decide +kernel
theorem dX7_in_6 : decode cX7_in 6 = .ok (.iload_n 2, 1) := by decide +kernel
theorem dX7_in_7 : decode cX7_in 7 = .ok (.if_icmp .gt 7, 3) := by decide +kernel
theorem dX7_in_10 : decode cX7_in 10 = .ok (.iconst 1, 1) := by decide +kernel
theorem dX7_in_11 : decode cX7_in 11 = .ok (.goto 4, 3) := by decide +kernel
theorem dX7_in_14 : decode cX7_in 14 = .ok (.iconst 0, 1) := by decide +kernel
theorem dX7_in_15 : decode cX7_in 15 = .ok (.ireturn, 1) := by decide +kernel
theorem dX7_has_0 : decode cX7_has 0 = .ok (.iload_n 0, 1) := by decide +kernel
theorem dX7_has_1 : decode cX7_has 1 = .ok (.iload_n 1, 1) := by decide +kernel
theorem dX7_has_2 : decode cX7_has 2 = .ok (.ishr, 1) := by decide +kernel
theorem dX7_has_3 : decode cX7_has 3 = .ok (.iconst 1, 1) := by decide +kernel
theorem dX7_has_4 : decode cX7_has 4 = .ok (.iand, 1) := by decide +kernel
theorem dX7_has_5 : decode cX7_has 5 = .ok (.iconst 1, 1) := by decide +kernel
theorem dX7_has_6 : decode cX7_has 6 = .ok (.if_icmp .ne 7, 3) := by decide +kernel
theorem dX7_has_9 : decode cX7_has 9 = .ok (.iconst 1, 1) := by decide +kernel
theorem dX7_has_10 : decode cX7_has 10 = .ok (.goto 4, 3) := by decide +kernel
theorem dX7_has_13 : decode cX7_has 13 = .ok (.iconst 0, 1) := by decide +kernel
theorem dX7_has_14 : decode cX7_has 14 = .ok (.ireturn, 1) := by decide +kernel
theorem dX7_bits_0 : decode cX7_bits 0 = .ok (.iconst 0, 1) := by decide +kernel
theorem dX7_bits_1 : decode cX7_bits 1 = .ok (.istore_n 1, 1) := by decide +kernel
theorem dX7_bits_2 : decode cX7_bits 2 = .ok (.iconst 0, 1) := by decide +kernel
theorem dX7_bits_3 : decode cX7_bits 3 = .ok (.istore_n 2, 1) := by decide +kernel
theorem dX7_bits_4 : decode cX7_bits 4 = .ok (.iload_n 2, 1) := by decide +kernel
theorem dX7_bits_5 : decode cX7_bits 5 = .ok (.bipush 12, 2) := by decide +kernel
theorem dX7_bits_7 : decode cX7_bits 7 = .ok (.if_icmp .ge 17, 3) := by decide +kernel
theorem dX7_bits_10 : decode cX7_bits 10 = .ok (.iload_n 1, 1) := by decide +kernel
theorem dX7_bits_11 : decode cX7_bits 11 = .ok (.iload_n 0, 1) := by decide +kernel
theorem dX7_bits_12 : decode cX7_bits 12 = .ok (.iload_n 2, 1) := by decide +kernel
theorem dX7_bits_13 : decode cX7_bits 13 = .ok (.ishr, 1) := by decide +kernel
theorem dX7_bits_14 : decode cX7_bits 14 = .ok (.iconst 1, 1) := by decide +kernel
theorem dX7_bits_15 : decode cX7_bits 15 = .ok (.iand, 1) := by decide +kernel
theorem dX7_bits_16 : decode cX7_bits 16 = .ok (.iadd, 1) := by decide +kernel
theorem dX7_bits_17 : decode cX7_bits 17 = .ok (.istore_n 1, 1) := by decide +kernel
theorem dX7_bits_18 : decode cX7_bits 18 = .ok (.iinc 2 1, 3) := by decide +kernel
theorem dX7_bits_21 : decode cX7_bits 21 = .ok (.goto (-17), 3) := by decide +kernel
theorem dX7_bits_24 : decode cX7_bits 24 = .ok (.iload_n 1, 1) := by decide +kernel
theorem dX7_bits_25 : decode cX7_bits 25 = .ok (.ireturn, 1) := by decide +kernel
set_option maxRecDepth 20000 in
theorem ggX7_isCard_X7_in : GoodIn wsX7_isCard wsX7_in := goodIn_r _ [5] (by decide +kernel) (by decide +kernel)
set_option maxRecDepth 20000 in
theorem gX7_isCard_X7_in : GoodIn wsX7_isCard (va_wsS RX7 22 yX7_in wsX7_in) := goodIn_app (goodIn_of _ (by decide +kernel)) ggX7_isCard_X7_in
theorem dX7_isCard_0 : decode cX7_isCard 0 = .ok (.iload_n 1, 1) := by decide +kernel
theorem dX7_isCard_1 : decode cX7_isCard 1 = .ok (.iconst 0, 1) := by decide +kernel
theorem dX7_isCard_2 : decode cX7_isCard 2 = .ok (.aload_n 0, 1) := by decide +kernel
theorem dX7_isCard_3 : decode cX7_isCard 3 = .ok (.getfield 7, 3) := by decide +kernel
theorem dX7_isCard_6 : decode cX7_isCard 6 = .ok (.bipush 16, 2) := by decide +kernel
theorem dX7_isCard_8 : decode cX7_isCard 8 = .ok (.iaload, 1) := by decide +kernel
theorem dX7_isCard_9 : decode cX7_isCard 9 = .ok (.iconst 1, 1) := by decide +kernel
theorem dX7_isCard_10 : decode cX7_isCard 10 = .ok (.isub, 1) := by decide +kernel
theorem dX7_isCard_11 : decode cX7_isCard 11 = .ok (.invokestatic 22, 3) := by decide +kernel
theorem dX7_isCard_14 : decode cX7_isCard 14 = .ok (.ireturn, 1) := by decide +kernel
theorem dX7_know_0 : decode cX7_know 0 = .ok (.aload_n 0, 1) := by decide +kernel
theorem dX7_know_1 : decode cX7_know 1 = .ok (.getfield 26, 3) := by decide +kernel
theorem dX7_know_4 : decode cX7_know 4 = .ok (.iconst 4, 1) := by decide +kernel
theorem dX7_know_5 : decode cX7_know 5 = .ok (.if_icmp .ne 43, 3) := by decide +kernel
theorem dX7_know_8 : decode cX7_know 8 = .ok (.iconst 0, 1) := by decide +kernel
theorem dX7_know_9 : decode cX7_know 9 = .ok (.istore_n 1, 1) := by decide +kernel
theorem dX7_know_10 : decode cX7_know 10 = .ok (.iload_n 1, 1) := by decide +kernel
theorem dX7_know_11 : decode cX7_know 11 = .ok (.sipush 216, 3) := by decide +kernel
theorem dX7_know_14 : decode cX7_know 14 = .ok (.if_icmp .ge 24, 3) := by decide +kernel
theorem dX7_know_17 : decode cX7_know 17 = .ok (.aload_n 0, 1) := by decide +kernel
theorem dX7_know_18 : decode cX7_know 18 = .ok (.getfield 16, 3) := by decide +kernel
theorem dX7_know_21 : decode cX7_know 21 = .ok (.iload_n 1, 1) := by decide +kernel
theorem dX7_know_22 : decode cX7_know 22 = .ok (.aload_n 0, 1) := by decide +kernel
theorem dX7_know_23 : decode cX7_know 23 = .ok (.getfield 16, 3) := by decide +kernel
theorem dX7_know_26 : decode cX7_know 26 = .ok (.bipush 72, 2) := by decide +kernel
theorem dX7_know_28 : decode cX7_know 28 = .ok (.iload_n 1, 1) := by decide +kernel
theorem dX7_know_29 : decode cX7_know 29 = .ok (.iadd, 1) := by decide +kernel
theorem dX7_know_30 : decode cX7_know 30 = .ok (.iaload, 1) := by decide +kernel
theorem dX7_know_31 : decode cX7_know 31 = .ok (.iastore, 1) := by decide +kernel
theorem dX7_know_32 : decode cX7_know 32 = .ok (.iinc 1 1, 3) := by decide +kernel
theorem dX7_know_35 : decode cX7_know 35 = .ok (.goto (-25), 3) := by decide +kernel
theorem dX7_know_38 : decode cX7_know 38 = .ok (.aload_n 0, 1) := by decide +kernel
theorem dX7_know_39 : decode cX7_know 39 = .ok (.dup, 1) := by decide +kernel
theorem dX7_know_40 : decode cX7_know 40 = .ok (.getfield 26, 3) := by decide +kernel
theorem dX7_know_43 : decode cX7_know 43 = .ok (.iconst 1, 1) := by decide +kernel
theorem dX7_know_44 : decode cX7_know 44 = .ok (.isub, 1) := by decide +kernel
theorem dX7_know_45 : decode cX7_know 45 = .ok (.putfield 26, 3) := by decide +kernel
theorem dX7_know_48 : decode cX7_know 48 = .ok (.iconst 0, 1) := by decide +kernel
theorem dX7_know_49 : decode cX7_know 49 = .ok (.istore_n 1, 1) := by decide +kernel
theorem dX7_know_50 : decode cX7_know 50 = .ok (.iload_n 1, 1) := by decide +kernel
theorem dX7_know_51 : decode cX7_know 51 = .ok (.bipush 72, 2) := by decide +kernel
theorem dX7_know_53 : decode cX7_know 53 = .ok (.if_icmp .ge 29, 3) := by decide +kernel
theorem dX7_know_56 : decode cX7_know 56 = .ok (.aload_n 0, 1) := by decide +kernel
theorem dX7_know_57 : decode cX7_know 57 = .ok (.getfield 16, 3) := by decide +kernel
theorem dX7_know_60 : decode cX7_know 60 = .ok (.bipush 72, 2) := by decide +kernel
theorem dX7_know_62 : decode cX7_know 62 = .ok (.aload_n 0, 1) := by decide +kernel
theorem dX7_know_63 : decode cX7_know 63 = .ok (.getfield 26, 3) := by decide +kernel
theorem dX7_know_66 : decode cX7_know 66 = .ok (.imul, 1) := by decide +kernel
theorem dX7_know_67 : decode cX7_know 67 = .ok (.iload_n 1, 1) := by decide +kernel
theorem dX7_know_68 : decode cX7_know 68 = .ok (.iadd, 1) := by decide +kernel
theorem dX7_know_69 : decode cX7_know 69 = .ok (.aload_n 0, 1) := by decide +kernel
theorem dX7_know_70 : decode cX7_know 70 = .ok (.getfield 7, 3) := by decide +kernel
theorem dX7_know_73 : decode cX7_know 73 = .ok (.iload_n 1, 1) := by decide +kernel
theorem dX7_know_74 : decode cX7_know 74 = .ok (.iaload, 1) := by decide +kernel
theorem dX7_know_75 : decode cX7_know 75 = .ok (.iastore, 1) := by decide +kernel
theorem dX7_know_76 : decode cX7_know 76 = .ok (.iinc 1 1, 3) := by decide +kernel
theorem dX7_know_79 : decode cX7_know 79 = .ok (.goto (-29), 3) := by decide +kernel
theorem dX7_know_82 : decode cX7_know 82 = .ok (.aload_n 0, 1) := by decide +kernel
theorem dX7_know_83 : decode cX7_know 83 = .ok (.dup, 1) := by decide +kernel
theorem dX7_know_84 : decode cX7_know 84 = .ok (.getfield 26, 3) := by decide +kernel
theorem dX7_know_87 : decode cX7_know 87 = .ok (.iconst 1, 1) := by decide +kernel
theorem dX7_know_88 : decode cX7_know 88 = .ok (.iadd, 1) := by decide +kernel
theorem dX7_know_89 : decode cX7_know 89 = .ok (.putfield 26, 3) := by decide +kernel
theorem dX7_know_92 : decode cX7_know 92 = .ok (.return_, 1) := by decide +kernel
theorem dX7_putAside_0 : decode cX7_putAside 0 = .ok (.iconst 0, 1) := by decide +kernel
theorem dX7_putAside_1 : decode cX7_putAside 1 = .ok (.istore_n 1, 1) := by decide +kernel
theorem dX7_putAside_2 : decode cX7_putAside 2 = .ok (.iload_n 1, 1) := by decide +kernel
theorem dX7_putAside_3 : decode cX7_putAside 3 = .ok (.bipush 72, 2) := by decide +kernel
theorem dX7_putAside_5 : decode cX7_putAside 5 = .ok (.if_icmp .ge 21, 3) := by decide +kernel
theorem dX7_putAside_8 : decode cX7_putAside 8 = .ok (.aload_n 0, 1) := by decide +kernel
theorem dX7_putAside_9 : decode cX7_putAside 9 = .ok (.getfield 13, 3) := by decide +kernel
theorem dX7_putAside_12 : decode cX7_putAside 12 = .ok (.iload_n 1, 1) := by decide +kernel
theorem dX7_putAside_13 : decode cX7_putAside 13 = .ok (.aload_n 0, 1) := by decide +kernel
theorem dX7_putAside_14 : decode cX7_putAside 14 = .ok (.getfield 7, 3) := by decide +kernel
theorem dX7_putAside_17 : decode cX7_putAside 17 = .ok (.iload_n 1, 1) := by decide +kernel
theorem dX7_putAside_18 : decode cX7_putAside 18 = .ok (.iaload, 1) := by decide +kernel
theorem dX7_putAside_19 : decode cX7_putAside 19 = .ok (.iastore, 1) := by decide +kernel
theorem dX7_putAside_20 : decode cX7_putAside 20 = .ok (.iinc 1 1, 3) := by decide +kernel
theorem dX7_putAside_23 : decode cX7_putAside 23 = .ok (.goto (-21), 3) := by decide +kernel
theorem dX7_putAside_26 : decode cX7_putAside 26 = .ok (.return_, 1) := by decide +kernel
theorem dX7_putBack_0 : decode cX7_putBack 0 = .ok (.iconst 0, 1) := by decide +kernel
theorem dX7_putBack_1 : decode cX7_putBack 1 = .ok (.istore_n 1, 1) := by decide +kernel
theorem dX7_putBack_2 : decode cX7_putBack 2 = .ok (.iload_n 1, 1) := by decide +kernel
theorem dX7_putBack_3 : decode cX7_putBack 3 = .ok (.bipush 72, 2) := by decide +kernel
theorem dX7_putBack_5 : decode cX7_putBack 5 = .ok (.if_icmp .ge 21, 3) := by decide +kernel
theorem dX7_putBack_8 : decode cX7_putBack 8 = .ok (.aload_n 0, 1) := by decide +kernel
theorem dX7_putBack_9 : decode cX7_putBack 9 = .ok (.getfield 7, 3) := by decide +kernel
theorem dX7_putBack_12 : decode cX7_putBack 12 = .ok (.iload_n 1, 1) := by decide +kernel
theorem dX7_putBack_13 : decode cX7_putBack 13 = .ok (.aload_n 0, 1) := by decide +kernel
theorem dX7_putBack_14 : decode cX7_putBack 14 = .ok (.getfield 13, 3) := by decide +kernel
theorem dX7_putBack_17 : decode cX7_putBack 17 = .ok (.iload_n 1, 1) := by decide +kernel
theorem dX7_putBack_18 : decode cX7_putBack 18 = .ok (.iaload, 1) := by decide +kernel
theorem dX7_putBack_19 : decode cX7_putBack 19 = .ok (.iastore, 1) := by decide +kernel
theorem dX7_putBack_20 : decode cX7_putBack 20 = .ok (.iinc 1 1, 3) := by decide +kernel
theorem dX7_putBack_23 : decode cX7_putBack 23 = .ok (.goto (-21), 3) := by decide +kernel
theorem dX7_putBack_26 : decode cX7_putBack 26 = .ok (.return_, 1) := by decide +kernel
set_option maxRecDepth 20000 in
theorem ggX7_clashes_X7_has : GoodIn wsX7_clashes wsX7_has := goodIn_r _ [5] (by decide +kernel) (by decide +kernel)
set_option maxRecDepth 20000 in
theorem gX7_clashes_X7_has : GoodIn wsX7_clashes (va_wsS RX7 30 yX7_has wsX7_has) := goodIn_app (goodIn_of _ (by decide +kernel)) ggX7_clashes_X7_has
theorem dX7_clashes_0 : decode cX7_clashes 0 = .ok (.iconst 0, 1) := by decide +kernel
theorem dX7_clashes_1 : decode cX7_clashes 1 = .ok (.istore_n 2, 1) := by decide +kernel
theorem dX7_clashes_2 : decode cX7_clashes 2 = .ok (.iconst 0, 1) := by decide +kernel
theorem dX7_clashes_3 : decode cX7_clashes 3 = .ok (.istore_n 3, 1) := by decide +kernel
theorem dX7_clashes_4 : decode cX7_clashes 4 = .ok (.iload_n 3, 1) := by decide +kernel
theorem dX7_clashes_5 : decode cX7_clashes 5 = .ok (.bipush 8, 2) := by decide +kernel
theorem dX7_clashes_7 : decode cX7_clashes 7 = .ok (.if_icmp .ge 132, 3) := by decide +kernel
theorem dX7_clashes_10 : decode cX7_clashes 10 = .ok (.iconst 0, 1) := by decide +kernel
theorem dX7_clashes_11 : decode cX7_clashes 11 = .ok (.istore 4, 2) := by decide +kernel
theorem dX7_clashes_13 : decode cX7_clashes 13 = .ok (.iload 4, 2) := by decide +kernel
theorem dX7_clashes_15 : decode cX7_clashes 15 = .ok (.iload_n 3, 1) := by decide +kernel
theorem dX7_clashes_16 : decode cX7_clashes 16 = .ok (.if_icmp .ge 117, 3) := by decide +kernel
theorem dX7_clashes_19 : decode cX7_clashes 19 = .ok (.aload_n 0, 1) := by decide +kernel
theorem dX7_clashes_20 : decode cX7_clashes 20 = .ok (.getfield 7, 3) := by decide +kernel
theorem dX7_clashes_23 : decode cX7_clashes 23 = .ok (.iconst 0, 1) := by decide +kernel
theorem dX7_clashes_24 : decode cX7_clashes 24 = .ok (.iload_n 3, 1) := by decide +kernel
theorem dX7_clashes_25 : decode cX7_clashes 25 = .ok (.iadd, 1) := by decide +kernel
theorem dX7_clashes_26 : decode cX7_clashes 26 = .ok (.iaload, 1) := by decide +kernel
theorem dX7_clashes_27 : decode cX7_clashes 27 = .ok (.aload_n 0, 1) := by decide +kernel
theorem dX7_clashes_28 : decode cX7_clashes 28 = .ok (.getfield 7, 3) := by decide +kernel
theorem dX7_clashes_31 : decode cX7_clashes 31 = .ok (.iconst 0, 1) := by decide +kernel
theorem dX7_clashes_32 : decode cX7_clashes 32 = .ok (.iload 4, 2) := by decide +kernel
theorem dX7_clashes_34 : decode cX7_clashes 34 = .ok (.iadd, 1) := by decide +kernel
theorem dX7_clashes_35 : decode cX7_clashes 35 = .ok (.iaload, 1) := by decide +kernel
theorem dX7_clashes_36 : decode cX7_clashes 36 = .ok (.isub, 1) := by decide +kernel
theorem dX7_clashes_37 : decode cX7_clashes 37 = .ok (.istore 5, 2) := by decide +kernel
theorem dX7_clashes_39 : decode cX7_clashes 39 = .ok (.iload 5, 2) := by decide +kernel
theorem dX7_clashes_41 : decode cX7_clashes 41 = .ok (.ifCond .ge 9, 3) := by decide +kernel
theorem dX7_clashes_44 : decode cX7_clashes 44 = .ok (.iload 5, 2) := by decide +kernel
theorem dX7_clashes_46 : decode cX7_clashes 46 = .ok (.ineg, 1) := by decide +kernel
theorem dX7_clashes_47 : decode cX7_clashes 47 = .ok (.goto 5, 3) := by decide +kernel
theorem dX7_clashes_50 : decode cX7_clashes 50 = .ok (.iload 5, 2) := by decide +kernel
theorem dX7_clashes_52 : decode cX7_clashes 52 = .ok (.bipush 12, 2) := by decide +kernel
theorem dX7_clashes_54 : decode cX7_clashes 54 = .ok (.irem, 1) := by decide +kernel
theorem dX7_clashes_55 : decode cX7_clashes 55 = .ok (.istore 6, 2) := by decide +kernel
theorem dX7_clashes_57 : decode cX7_clashes 57 = .ok (.iload 6, 2) := by decide +kernel
theorem dX7_clashes_59 : decode cX7_clashes 59 = .ok (.iconst 1, 1) := by decide +kernel
theorem dX7_clashes_60 : decode cX7_clashes 60 = .ok (.if_icmp .eq 30, 3) := by decide +kernel
theorem dX7_clashes_63 : decode cX7_clashes 63 = .ok (.iload 6, 2) := by decide +kernel
theorem dX7_clashes_65 : decode cX7_clashes 65 = .ok (.iconst 2, 1) := by decide +kernel
theorem dX7_clashes_66 : decode cX7_clashes 66 = .ok (.if_icmp .eq 24, 3) := by decide +kernel
theorem dX7_clashes_69 : decode cX7_clashes 69 = .ok (.iload 6, 2) := by decide +kernel
theorem dX7_clashes_71 : decode cX7_clashes 71 = .ok (.bipush 6, 2) := by decide +kernel
theorem dX7_clashes_73 : decode cX7_clashes 73 = .ok (.if_icmp .eq 17, 3) := by decide +kernel
theorem dX7_clashes_76 : decode cX7_clashes 76 = .ok (.iload 6, 2) := by decide +kernel
theorem dX7_clashes_78 : decode cX7_clashes 78 = .ok (.bipush 10, 2) := by decide +kernel
theorem dX7_clashes_80 : decode cX7_clashes 80 = .ok (.if_icmp .eq 10, 3) := by decide +kernel
theorem dX7_clashes_83 : decode cX7_clashes 83 = .ok (.iload 6, 2) := by decide +kernel
theorem dX7_clashes_85 : decode cX7_clashes 85 = .ok (.bipush 11, 2) := by decide +kernel
theorem dX7_clashes_87 : decode cX7_clashes 87 = .ok (.if_icmp .ne 7, 3) := by decide +kernel
theorem dX7_clashes_90 : decode cX7_clashes 90 = .ok (.iconst 1, 1) := by decide +kernel
theorem dX7_clashes_91 : decode cX7_clashes 91 = .ok (.goto 4, 3) := by decide +kernel
theorem dX7_clashes_94 : decode cX7_clashes 94 = .ok (.iconst 0, 1) := by decide +kernel
theorem dX7_clashes_95 : decode cX7_clashes 95 = .ok (.istore 7, 2) := by decide +kernel
theorem dX7_clashes_97 : decode cX7_clashes 97 = .ok (.iload_n 2, 1) := by decide +kernel
theorem dX7_clashes_98 : decode cX7_clashes 98 = .ok (.iload_n 1, 1) := by decide +kernel
theorem dX7_clashes_99 : decode cX7_clashes 99 = .ok (.iload_n 3, 1) := by decide +kernel
theorem dX7_clashes_100 : decode cX7_clashes 100 = .ok (.invokestatic 30, 3) := by decide +kernel
theorem dX7_clashes_103 : decode cX7_clashes 103 = .ok (.ifCond .eq 21, 3) := by decide +kernel
theorem dX7_clashes_106 : decode cX7_clashes 106 = .ok (.iload_n 1, 1) := by decide +kernel
theorem dX7_clashes_107 : decode cX7_clashes 107 = .ok (.iload 4, 2) := by decide +kernel
theorem dX7_clashes_109 : decode cX7_clashes 109 = .ok (.invokestatic 30, 3) := by decide +kernel
theorem dX7_clashes_112 : decode cX7_clashes 112 = .ok (.ifCond .eq 12, 3) := by decide +kernel
theorem dX7_clashes_115 : decode cX7_clashes 115 = .ok (.iload 7, 2) := by decide +kernel
theorem dX7_clashes_117 : decode cX7_clashes 117 = .ok (.ifCond .eq 7, 3) := by decide +kernel
theorem dX7_clashes_120 : decode cX7_clashes 120 = .ok (.iconst 1, 1) := by decide +kernel
theorem dX7_clashes_121 : decode cX7_clashes 121 = .ok (.goto 4, 3) := by decide +kernel
theorem dX7_clashes_124 : decode cX7_clashes 124 = .ok (.iconst 0, 1) := by decide +kernel
theorem dX7_clashes_125 : decode cX7_clashes 125 = .ok (.iadd, 1) := by decide +kernel
theorem dX7_clashes_126 : decode cX7_clashes 126 = .ok (.istore_n 2, 1) := by decide +kernel
theorem dX7_clashes_127 : decode cX7_clashes 127 = .ok (.iinc 4 1, 3) := by decide +kernel
theorem dX7_clashes_130 : decode cX7_clashes 130 = .ok (.goto (-117), 3) := by decide +kernel
theorem dX7_clashes_133 : decode cX7_clashes 133 = .ok (.iinc 3 1, 3) := by decide +kernel
theorem dX7_clashes_136 : decode cX7_clashes 136 = .ok (.goto (-132), 3) := by decide +kernel
theorem dX7_clashes_139 : decode cX7_clashes 139 = .ok (.iload_n 2, 1) := by decide +kernel
theorem dX7_clashes_140 : decode cX7_clashes 140 = .ok (.ireturn, 1) := by decide +kernel
set_option maxRecDepth 20000 in
theorem ggX7_whyNot_X7_bits : GoodIn wsX7_whyNot wsX7_bits := goodIn_r _ [5] (by decide +kernel) (by decide +kernel)
set_option maxRecDepth 20000 in
theorem gX7_whyNot_X7_bits : GoodIn wsX7_whyNot (va_wsS RX7 34 yX7_bits wsX7_bits) := goodIn_app (goodIn_of _ (by decide +kernel)) ggX7_whyNot_X7_bits
set_option maxRecDepth 20000 in
theorem ggX7_whyNot_X7_clashes : GoodIn wsX7_whyNot wsX7_clashes := goodIn_r _ [9, 1, 10, 11, 4, 12, 13, 14, 15, 16, 17, 18, 19, 20, 21, 22, 23, 24, 25, 26] (by decide +kernel) (by decide +kernel)
set_option maxRecDepth 20000 in
theorem gX7_whyNot_X7_clashes : GoodIn wsX7_whyNot (wsV RX7 38 RX7 yX7_clashes wsX7_clashes) := goodIn_app (goodIn_of _ (by decide +kernel)) ggX7_whyNot_X7_clashes
theorem dX7_whyNot_0 : decode cX7_whyNot 0 = .ok (.aload_n 0, 1) := by decide +kernel
theorem dX7_whyNot_1 : decode cX7_whyNot 1 = .ok (.getfield 7, 3) := by decide +kernel
theorem dX7_whyNot_4 : decode cX7_whyNot 4 = .ok (.bipush 16, 2) := by decide +kernel
theorem dX7_whyNot_6 : decode cX7_whyNot 6 = .ok (.iaload, 1) := by decide +kernel
theorem dX7_whyNot_7 : decode cX7_whyNot 7 = .ok (.istore_n 2, 1) := by decide +kernel
theorem dX7_whyNot_8 : decode cX7_whyNot 8 = .ok (.iload_n 1, 1) := by decide +kernel
theorem dX7_whyNot_9 : decode cX7_whyNot 9 = .ok (.invokestatic 34, 3) := by decide +kernel
theorem dX7_whyNot_12 : decode cX7_whyNot 12 = .ok (.aload_n 0, 1) := by decide +kernel
theorem dX7_whyNot_13 : decode cX7_whyNot 13 = .ok (.getfield 7, 3) := by decide +kernel
theorem dX7_whyNot_16 : decode cX7_whyNot 16 = .ok (.bipush 69, 2) := by decide +kernel
theorem dX7_whyNot_18 : decode cX7_whyNot 18 = .ok (.iaload, 1) := by decide +kernel
theorem dX7_whyNot_19 : decode cX7_whyNot 19 = .ok (.if_icmp .le 7, 3) := by decide +kernel
theorem dX7_whyNot_22 : decode cX7_whyNot 22 = .ok (.iconst 1, 1) := by decide +kernel
theorem dX7_whyNot_23 : decode cX7_whyNot 23 = .ok (.goto 46, 3) := by decide +kernel
theorem dX7_whyNot_26 : decode cX7_whyNot 26 = .ok (.aload_n 0, 1) := by decide +kernel
theorem dX7_whyNot_27 : decode cX7_whyNot 27 = .ok (.iload_n 1, 1) := by decide +kernel
theorem dX7_whyNot_28 : decode cX7_whyNot 28 = .ok (.invokevirtual 38, 3) := by decide +kernel
theorem dX7_whyNot_31 : decode cX7_whyNot 31 = .ok (.aload_n 0, 1) := by decide +kernel
theorem dX7_whyNot_32 : decode cX7_whyNot 32 = .ok (.getfield 7, 3) := by decide +kernel
theorem dX7_whyNot_35 : decode cX7_whyNot 35 = .ok (.bipush 70, 2) := by decide +kernel
theorem dX7_whyNot_37 : decode cX7_whyNot 37 = .ok (.iaload, 1) := by decide +kernel
theorem dX7_whyNot_38 : decode cX7_whyNot 38 = .ok (.if_icmp .le 7, 3) := by decide +kernel
theorem dX7_whyNot_41 : decode cX7_whyNot 41 = .ok (.iconst 2, 1) := by decide +kernel
theorem dX7_whyNot_42 : decode cX7_whyNot 42 = .ok (.goto 27, 3) := by decide +kernel
theorem dX7_whyNot_45 : decode cX7_whyNot 45 = .ok (.iload_n 2, 1) := by decide +kernel
theorem dX7_whyNot_46 : decode cX7_whyNot 46 = .ok (.ifCond .le 22, 3) := by decide +kernel
theorem dX7_whyNot_49 : decode cX7_whyNot 49 = .ok (.aload_n 0, 1) := by decide +kernel
theorem dX7_whyNot_50 : decode cX7_whyNot 50 = .ok (.getfield 7, 3) := by decide +kernel
theorem dX7_whyNot_53 : decode cX7_whyNot 53 = .ok (.bipush 17, 2) := by decide +kernel
theorem dX7_whyNot_55 : decode cX7_whyNot 55 = .ok (.iload_n 2, 1) := by decide +kernel
theorem dX7_whyNot_56 : decode cX7_whyNot 56 = .ok (.iadd, 1) := by decide +kernel
theorem dX7_whyNot_57 : decode cX7_whyNot 57 = .ok (.iconst 1, 1) := by decide +kernel
theorem dX7_whyNot_58 : decode cX7_whyNot 58 = .ok (.isub, 1) := by decide +kernel
theorem dX7_whyNot_59 : decode cX7_whyNot 59 = .ok (.iaload, 1) := by decide +kernel
theorem dX7_whyNot_60 : decode cX7_whyNot 60 = .ok (.iload_n 1, 1) := by decide +kernel
theorem dX7_whyNot_61 : decode cX7_whyNot 61 = .ok (.if_icmp .ne 7, 3) := by decide +kernel
theorem dX7_whyNot_64 : decode cX7_whyNot 64 = .ok (.iconst 3, 1) := by decide +kernel
theorem dX7_whyNot_65 : decode cX7_whyNot 65 = .ok (.goto 4, 3) := by decide +kernel
theorem dX7_whyNot_68 : decode cX7_whyNot 68 = .ok (.iconst 0, 1) := by decide +kernel
theorem dX7_whyNot_69 : decode cX7_whyNot 69 = .ok (.ireturn, 1) := by decide +kernel
theorem dX7_isThird_0 : decode cX7_isThird 0 = .ok (.aload_n 0, 1) := by decide +kernel
theorem dX7_isThird_1 : decode cX7_isThird 1 = .ok (.getfield 7, 3) := by decide +kernel
theorem dX7_isThird_4 : decode cX7_isThird 4 = .ok (.bipush 66, 2) := by decide +kernel
theorem dX7_isThird_6 : decode cX7_isThird 6 = .ok (.iaload, 1) := by decide +kernel
theorem dX7_isThird_7 : decode cX7_isThird 7 = .ok (.iconst 2, 1) := by decide +kernel
theorem dX7_isThird_8 : decode cX7_isThird 8 = .ok (.if_icmp .ne 18, 3) := by decide +kernel
theorem dX7_isThird_11 : decode cX7_isThird 11 = .ok (.aload_n 0, 1) := by decide +kernel
theorem dX7_isThird_12 : decode cX7_isThird 12 = .ok (.getfield 7, 3) := by decide +kernel
theorem dX7_isThird_15 : decode cX7_isThird 15 = .ok (.bipush 65, 2) := by decide +kernel
theorem dX7_isThird_17 : decode cX7_isThird 17 = .ok (.iaload, 1) := by decide +kernel
theorem dX7_isThird_18 : decode cX7_isThird 18 = .ok (.iload_n 1, 1) := by decide +kernel
theorem dX7_isThird_19 : decode cX7_isThird 19 = .ok (.if_icmp .ne 7, 3) := by decide +kernel
theorem dX7_isThird_22 : decode cX7_isThird 22 = .ok (.iconst 1, 1) := by decide +kernel
theorem dX7_isThird_23 : decode cX7_isThird 23 = .ok (.goto 4, 3) := by decide +kernel
theorem dX7_isThird_26 : decode cX7_isThird 26 = .ok (.iconst 0, 1) := by decide +kernel
theorem dX7_isThird_27 : decode cX7_isThird 27 = .ok (.ireturn, 1) := by decide +kernel
set_option maxRecDepth 20000 in
theorem ggX7_says_X7_whyNot : GoodIn wsX7_says wsX7_whyNot := goodIn_r _ [5, 6, 7, 8, 4, 9, 10, 11, 12, 13, 14, 15, 16, 21, 22, 23, 24, 25, 26, 27, 28, 29, 30, 31, 32, 33, 34] (by decide +kernel) (by decide +kernel)
set_option maxRecDepth 20000 in
theorem gX7_says_X7_whyNot : GoodIn wsX7_says (wsV RX7 41 RX7 yX7_whyNot wsX7_whyNot) := goodIn_app (goodIn_of _ (by decide +kernel)) ggX7_says_X7_whyNot
set_option maxRecDepth 20000 in
theorem ggX7_says_X7_isThird : GoodIn wsX7_says wsX7_isThird := goodIn_r _ [20, 6, 21, 22, 23, 24, 25, 26, 27, 28, 29, 30, 31, 32, 33, 34] (by decide +kernel) (by decide +kernel)
set_option maxRecDepth 20000 in
theorem gX7_says_X7_isThird : GoodIn wsX7_says (wsV RX7 44 RX7 yX7_isThird wsX7_isThird) := goodIn_app (goodIn_of _ (by decide +kernel)) ggX7_says_X7_isThird
theorem dX7_says_0 : decode cX7_says 0 = .ok (.aload_n 0, 1) := by decide +kernel
theorem dX7_says_1 : decode cX7_says 1 = .ok (.iload_n 1, 1) := by decide +kernel
theorem dX7_says_2 : decode cX7_says 2 = .ok (.invokevirtual 41, 3) := by decide +kernel
theorem dX7_says_5 : decode cX7_says 5 = .ok (.istore_n 2, 1) := by decide +kernel
theorem dX7_says_6 : decode cX7_says 6 = .ok (.iload_n 2, 1) := by decide +kernel
theorem dX7_says_7 : decode cX7_says 7 = .ok (.ifCond .le 18, 3) := by decide +kernel
theorem dX7_says_10 : decode cX7_says 10 = .ok (.aload_n 0, 1) := by decide +kernel
theorem dX7_says_11 : decode cX7_says 11 = .ok (.iload_n 1, 1) := by decide +kernel
theorem dX7_says_12 : decode cX7_says 12 = .ok (.invokevirtual 44, 3) := by decide +kernel
theorem dX7_says_15 : decode cX7_says 15 = .ok (.ifCond .eq 10, 3) := by decide +kernel
theorem dX7_says_18 : decode cX7_says 18 = .ok (.bipush 10, 2) := by decide +kernel
theorem dX7_says_20 : decode cX7_says 20 = .ok (.iload_n 2, 1) := by decide +kernel
theorem dX7_says_21 : decode cX7_says 21 = .ok (.iadd, 1) := by decide +kernel
theorem dX7_says_22 : decode cX7_says 22 = .ok (.goto 4, 3) := by decide +kernel
theorem dX7_says_25 : decode cX7_says 25 = .ok (.iload_n 2, 1) := by decide +kernel
theorem dX7_says_26 : decode cX7_says 26 = .ok (.ireturn, 1) := by decide +kernel
set_option maxRecDepth 20000 in
theorem ggX7_brings_X7_says : GoodIn wsX7_brings wsX7_says := goodIn_r _ [6, 7, 8, 9, 5, 10, 1, 11, 12, 13, 14, 15, 16, 17, 18, 19, 20, 21, 22, 23, 24, 25, 26, 27, 28, 29, 30, 31, 32, 33, 34, 35, 36, 37, 38] (by decide +kernel) (by decide +kernel)
set_option maxRecDepth 20000 in
theorem gX7_brings_X7_says : GoodIn wsX7_brings (wsV RX7 48 RX7 yX7_says wsX7_says) := goodIn_app (goodIn_of _ (by decide +kernel)) ggX7_brings_X7_says
theorem dX7_brings_0 : decode cX7_brings 0 = .ok (.aload_n 0, 1) := by decide +kernel
theorem dX7_brings_1 : decode cX7_brings 1 = .ok (.iload_n 1, 1) := by decide +kernel
theorem dX7_brings_2 : decode cX7_brings 2 = .ok (.invokevirtual 48, 3) := by decide +kernel
theorem dX7_brings_5 : decode cX7_brings 5 = .ok (.istore_n 2, 1) := by decide +kernel
theorem dX7_brings_6 : decode cX7_brings 6 = .ok (.iload_n 2, 1) := by decide +kernel
theorem dX7_brings_7 : decode cX7_brings 7 = .ok (.ifCond .eq 9, 3) := by decide +kernel
theorem dX7_brings_10 : decode cX7_brings 10 = .ok (.iload_n 2, 1) := by decide +kernel
theorem dX7_brings_11 : decode cX7_brings 11 = .ok (.bipush 9, 2) := by decide +kernel
theorem dX7_brings_13 : decode cX7_brings 13 = .ok (.if_icmp .le 67, 3) := by decide +kernel
theorem dX7_brings_16 : decode cX7_brings 16 = .ok (.aload_n 0, 1) := by decide +kernel
theorem dX7_brings_17 : decode cX7_brings 17 = .ok (.getfield 7, 3) := by decide +kernel
theorem dX7_brings_20 : decode cX7_brings 20 = .ok (.bipush 17, 2) := by decide +kernel
theorem dX7_brings_22 : decode cX7_brings 22 = .ok (.aload_n 0, 1) := by decide +kernel
theorem dX7_brings_23 : decode cX7_brings 23 = .ok (.getfield 7, 3) := by decide +kernel
theorem dX7_brings_26 : decode cX7_brings 26 = .ok (.bipush 16, 2) := by decide +kernel
theorem dX7_brings_28 : decode cX7_brings 28 = .ok (.iaload, 1) := by decide +kernel
theorem dX7_brings_29 : decode cX7_brings 29 = .ok (.iadd, 1) := by decide +kernel
theorem dX7_brings_30 : decode cX7_brings 30 = .ok (.iload_n 1, 1) := by decide +kernel
theorem dX7_brings_31 : decode cX7_brings 31 = .ok (.iastore, 1) := by decide +kernel
theorem dX7_brings_32 : decode cX7_brings 32 = .ok (.aload_n 0, 1) := by decide +kernel
theorem dX7_brings_33 : decode cX7_brings 33 = .ok (.getfield 7, 3) := by decide +kernel
theorem dX7_brings_36 : decode cX7_brings 36 = .ok (.bipush 41, 2) := by decide +kernel
theorem dX7_brings_38 : decode cX7_brings 38 = .ok (.aload_n 0, 1) := by decide +kernel
theorem dX7_brings_39 : decode cX7_brings 39 = .ok (.getfield 7, 3) := by decide +kernel
theorem dX7_brings_42 : decode cX7_brings 42 = .ok (.bipush 16, 2) := by decide +kernel
theorem dX7_brings_44 : decode cX7_brings 44 = .ok (.iaload, 1) := by decide +kernel
theorem dX7_brings_45 : decode cX7_brings 45 = .ok (.iadd, 1) := by decide +kernel
theorem dX7_brings_46 : decode cX7_brings 46 = .ok (.iload_n 2, 1) := by decide +kernel
theorem dX7_brings_47 : decode cX7_brings 47 = .ok (.bipush 9, 2) := by decide +kernel
theorem dX7_brings_49 : decode cX7_brings 49 = .ok (.if_icmp .le 7, 3) := by decide +kernel
theorem dX7_brings_52 : decode cX7_brings 52 = .ok (.iconst 1, 1) := by decide +kernel
theorem dX7_brings_53 : decode cX7_brings 53 = .ok (.goto 4, 3) := by decide +kernel
theorem dX7_brings_56 : decode cX7_brings 56 = .ok (.iconst 0, 1) := by decide +kernel
theorem dX7_brings_57 : decode cX7_brings 57 = .ok (.iastore, 1) := by decide +kernel
theorem dX7_brings_58 : decode cX7_brings 58 = .ok (.aload_n 0, 1) := by decide +kernel
theorem dX7_brings_59 : decode cX7_brings 59 = .ok (.getfield 7, 3) := by decide +kernel
theorem dX7_brings_62 : decode cX7_brings 62 = .ok (.bipush 16, 2) := by decide +kernel
theorem dX7_brings_64 : decode cX7_brings 64 = .ok (.dup2, 1) := by decide +kernel
theorem dX7_brings_65 : decode cX7_brings 65 = .ok (.iaload, 1) := by decide +kernel
theorem dX7_brings_66 : decode cX7_brings 66 = .ok (.iconst 1, 1) := by decide +kernel
theorem dX7_brings_67 : decode cX7_brings 67 = .ok (.iadd, 1) := by decide +kernel
theorem dX7_brings_68 : decode cX7_brings 68 = .ok (.iastore, 1) := by decide +kernel
theorem dX7_brings_69 : decode cX7_brings 69 = .ok (.aload_n 0, 1) := by decide +kernel
theorem dX7_brings_70 : decode cX7_brings 70 = .ok (.getfield 7, 3) := by decide +kernel
theorem dX7_brings_73 : decode cX7_brings 73 = .ok (.bipush 66, 2) := by decide +kernel
theorem dX7_brings_75 : decode cX7_brings 75 = .ok (.iconst 0, 1) := by decide +kernel
theorem dX7_brings_76 : decode cX7_brings 76 = .ok (.iastore, 1) := by decide +kernel
theorem dX7_brings_77 : decode cX7_brings 77 = .ok (.goto 63, 3) := by decide +kernel
theorem dX7_brings_80 : decode cX7_brings 80 = .ok (.aload_n 0, 1) := by decide +kernel
theorem dX7_brings_81 : decode cX7_brings 81 = .ok (.getfield 7, 3) := by decide +kernel
theorem dX7_brings_84 : decode cX7_brings 84 = .ok (.bipush 66, 2) := by decide +kernel
theorem dX7_brings_86 : decode cX7_brings 86 = .ok (.aload_n 0, 1) := by decide +kernel
theorem dX7_brings_87 : decode cX7_brings 87 = .ok (.getfield 7, 3) := by decide +kernel
theorem dX7_brings_90 : decode cX7_brings 90 = .ok (.bipush 66, 2) := by decide +kernel
theorem dX7_brings_92 : decode cX7_brings 92 = .ok (.iaload, 1) := by decide +kernel
theorem dX7_brings_93 : decode cX7_brings 93 = .ok (.ifCond .le 26, 3) := by decide +kernel
theorem dX7_brings_96 : decode cX7_brings 96 = .ok (.aload_n 0, 1) := by decide +kernel
theorem dX7_brings_97 : decode cX7_brings 97 = .ok (.getfield 7, 3) := by decide +kernel
theorem dX7_brings_100 : decode cX7_brings 100 = .ok (.bipush 65, 2) := by decide +kernel
theorem dX7_brings_102 : decode cX7_brings 102 = .ok (.iaload, 1) := by decide +kernel
theorem dX7_brings_103 : decode cX7_brings 103 = .ok (.iload_n 1, 1) := by decide +kernel
theorem dX7_brings_104 : decode cX7_brings 104 = .ok (.if_icmp .ne 15, 3) := by decide +kernel
theorem dX7_brings_107 : decode cX7_brings 107 = .ok (.aload_n 0, 1) := by decide +kernel
theorem dX7_brings_108 : decode cX7_brings 108 = .ok (.getfield 7, 3) := by decide +kernel
theorem dX7_brings_111 : decode cX7_brings 111 = .ok (.bipush 66, 2) := by decide +kernel
theorem dX7_brings_113 : decode cX7_brings 113 = .ok (.iaload, 1) := by decide +kernel
theorem dX7_brings_114 : decode cX7_brings 114 = .ok (.iconst 1, 1) := by decide +kernel
theorem dX7_brings_115 : decode cX7_brings 115 = .ok (.iadd, 1) := by decide +kernel
theorem dX7_brings_116 : decode cX7_brings 116 = .ok (.goto 4, 3) := by decide +kernel
theorem dX7_brings_119 : decode cX7_brings 119 = .ok (.iconst 1, 1) := by decide +kernel
theorem dX7_brings_120 : decode cX7_brings 120 = .ok (.iastore, 1) := by decide +kernel
theorem dX7_brings_121 : decode cX7_brings 121 = .ok (.aload_n 0, 1) := by decide +kernel
theorem dX7_brings_122 : decode cX7_brings 122 = .ok (.getfield 7, 3) := by decide +kernel
theorem dX7_brings_125 : decode cX7_brings 125 = .ok (.bipush 65, 2) := by decide +kernel
theorem dX7_brings_127 : decode cX7_brings 127 = .ok (.iload_n 1, 1) := by decide +kernel
theorem dX7_brings_128 : decode cX7_brings 128 = .ok (.iastore, 1) := by decide +kernel
theorem dX7_brings_129 : decode cX7_brings 129 = .ok (.aload_n 0, 1) := by decide +kernel
theorem dX7_brings_130 : decode cX7_brings 130 = .ok (.getfield 7, 3) := by decide +kernel
theorem dX7_brings_133 : decode cX7_brings 133 = .ok (.bipush 67, 2) := by decide +kernel
theorem dX7_brings_135 : decode cX7_brings 135 = .ok (.dup2, 1) := by decide +kernel
theorem dX7_brings_136 : decode cX7_brings 136 = .ok (.iaload, 1) := by decide +kernel
theorem dX7_brings_137 : decode cX7_brings 137 = .ok (.iconst 1, 1) := by decide +kernel
theorem dX7_brings_138 : decode cX7_brings 138 = .ok (.iadd, 1) := by decide +kernel
theorem dX7_brings_139 : decode cX7_brings 139 = .ok (.iastore, 1) := by decide +kernel
theorem dX7_brings_140 : decode cX7_brings 140 = .ok (.iload_n 2, 1) := by decide +kernel
theorem dX7_brings_141 : decode cX7_brings 141 = .ok (.ireturn, 1) := by decide +kernel
set_option maxRecDepth 20000 in
theorem ggX7_bringFault_X7_in : GoodIn wsX7_bringFault wsX7_in := goodIn_r _ [7] (by decide +kernel) (by decide +kernel)
set_option maxRecDepth 20000 in
theorem gX7_bringFault_X7_in : GoodIn wsX7_bringFault (va_wsS RX7 22 yX7_in wsX7_in) := goodIn_app (goodIn_of _ (by decide +kernel)) ggX7_bringFault_X7_in
theorem dX7_bringFault_0 : decode cX7_bringFault 0 = .ok (.iload_n 1, 1) := by decide +kernel
theorem dX7_bringFault_1 : decode cX7_bringFault 1 = .ok (.iconst 0, 1) := by decide +kernel
theorem dX7_bringFault_2 : decode cX7_bringFault 2 = .ok (.sipush 255, 3) := by decide +kernel
theorem dX7_bringFault_5 : decode cX7_bringFault 5 = .ok (.invokestatic 22, 3) := by decide +kernel
theorem dX7_bringFault_8 : decode cX7_bringFault 8 = .ok (.ifCond .ne 8, 3) := by decide +kernel
theorem dX7_bringFault_11 : decode cX7_bringFault 11 = .ok (.ldc 51, 2) := by decide +kernel
theorem dX7_bringFault_13 : decode cX7_bringFault 13 = .ok (.goto 21, 3) := by decide +kernel
theorem dX7_bringFault_16 : decode cX7_bringFault 16 = .ok (.aload_n 0, 1) := by decide +kernel
theorem dX7_bringFault_17 : decode cX7_bringFault 17 = .ok (.getfield 7, 3) := by decide +kernel
theorem dX7_bringFault_20 : decode cX7_bringFault 20 = .ok (.bipush 16, 2) := by decide +kernel
theorem dX7_bringFault_22 : decode cX7_bringFault 22 = .ok (.iaload, 1) := by decide +kernel
theorem dX7_bringFault_23 : decode cX7_bringFault 23 = .ok (.bipush 24, 2) := by decide +kernel
theorem dX7_bringFault_25 : decode cX7_bringFault 25 = .ok (.if_icmp .ne 8, 3) := by decide +kernel
theorem dX7_bringFault_28 : decode cX7_bringFault 28 = .ok (.ldc 52, 2) := by decide +kernel
theorem dX7_bringFault_30 : decode cX7_bringFault 30 = .ok (.goto 4, 3) := by decide +kernel
theorem dX7_bringFault_33 : decode cX7_bringFault 33 = .ok (.iconst 0, 1) := by decide +kernel
theorem dX7_bringFault_34 : decode cX7_bringFault 34 = .ok (.ireturn, 1) := by decide +kernel
theorem dX7_tears_0 : decode cX7_tears 0 = .ok (.aload_n 0, 1) := by decide +kernel
theorem dX7_tears_1 : decode cX7_tears 1 = .ok (.getfield 7, 3) := by decide +kernel
theorem dX7_tears_4 : decode cX7_tears 4 = .ok (.bipush 17, 2) := by decide +kernel
theorem dX7_tears_6 : decode cX7_tears 6 = .ok (.iload_n 1, 1) := by decide +kernel
theorem dX7_tears_7 : decode cX7_tears 7 = .ok (.iadd, 1) := by decide +kernel
theorem dX7_tears_8 : decode cX7_tears 8 = .ok (.iaload, 1) := by decide +kernel
theorem dX7_tears_9 : decode cX7_tears 9 = .ok (.istore_n 2, 1) := by decide +kernel
theorem dX7_tears_10 : decode cX7_tears 10 = .ok (.aload_n 0, 1) := by decide +kernel
theorem dX7_tears_11 : decode cX7_tears 11 = .ok (.getfield 7, 3) := by decide +kernel
theorem dX7_tears_14 : decode cX7_tears 14 = .ok (.bipush 16, 2) := by decide +kernel
theorem dX7_tears_16 : decode cX7_tears 16 = .ok (.dup2, 1) := by decide +kernel
theorem dX7_tears_17 : decode cX7_tears 17 = .ok (.iaload, 1) := by decide +kernel
theorem dX7_tears_18 : decode cX7_tears 18 = .ok (.iconst 1, 1) := by decide +kernel
theorem dX7_tears_19 : decode cX7_tears 19 = .ok (.isub, 1) := by decide +kernel
theorem dX7_tears_20 : decode cX7_tears 20 = .ok (.iastore, 1) := by decide +kernel
theorem dX7_tears_21 : decode cX7_tears 21 = .ok (.iload_n 1, 1) := by decide +kernel
theorem dX7_tears_22 : decode cX7_tears 22 = .ok (.istore_n 3, 1) := by decide +kernel
theorem dX7_tears_23 : decode cX7_tears 23 = .ok (.iload_n 3, 1) := by decide +kernel
theorem dX7_tears_24 : decode cX7_tears 24 = .ok (.aload_n 0, 1) := by decide +kernel
theorem dX7_tears_25 : decode cX7_tears 25 = .ok (.getfield 7, 3) := by decide +kernel
theorem dX7_tears_28 : decode cX7_tears 28 = .ok (.bipush 16, 2) := by decide +kernel
theorem dX7_tears_30 : decode cX7_tears 30 = .ok (.iaload, 1) := by decide +kernel
theorem dX7_tears_31 : decode cX7_tears 31 = .ok (.if_icmp .ge 49, 3) := by decide +kernel
theorem dX7_tears_34 : decode cX7_tears 34 = .ok (.aload_n 0, 1) := by decide +kernel
theorem dX7_tears_35 : decode cX7_tears 35 = .ok (.getfield 7, 3) := by decide +kernel
theorem dX7_tears_38 : decode cX7_tears 38 = .ok (.bipush 17, 2) := by decide +kernel
theorem dX7_tears_40 : decode cX7_tears 40 = .ok (.iload_n 3, 1) := by decide +kernel
theorem dX7_tears_41 : decode cX7_tears 41 = .ok (.iadd, 1) := by decide +kernel
theorem dX7_tears_42 : decode cX7_tears 42 = .ok (.aload_n 0, 1) := by decide +kernel
theorem dX7_tears_43 : decode cX7_tears 43 = .ok (.getfield 7, 3) := by decide +kernel
theorem dX7_tears_46 : decode cX7_tears 46 = .ok (.bipush 17, 2) := by decide +kernel
theorem dX7_tears_48 : decode cX7_tears 48 = .ok (.iload_n 3, 1) := by decide +kernel
theorem dX7_tears_49 : decode cX7_tears 49 = .ok (.iadd, 1) := by decide +kernel
theorem dX7_tears_50 : decode cX7_tears 50 = .ok (.iconst 1, 1) := by decide +kernel
theorem dX7_tears_51 : decode cX7_tears 51 = .ok (.iadd, 1) := by decide +kernel
theorem dX7_tears_52 : decode cX7_tears 52 = .ok (.iaload, 1) := by decide +kernel
theorem dX7_tears_53 : decode cX7_tears 53 = .ok (.iastore, 1) := by decide +kernel
theorem dX7_tears_54 : decode cX7_tears 54 = .ok (.aload_n 0, 1) := by decide +kernel
theorem dX7_tears_55 : decode cX7_tears 55 = .ok (.getfield 7, 3) := by decide +kernel
theorem dX7_tears_58 : decode cX7_tears 58 = .ok (.bipush 41, 2) := by decide +kernel
theorem dX7_tears_60 : decode cX7_tears 60 = .ok (.iload_n 3, 1) := by decide +kernel
theorem dX7_tears_61 : decode cX7_tears 61 = .ok (.iadd, 1) := by decide +kernel
theorem dX7_tears_62 : decode cX7_tears 62 = .ok (.aload_n 0, 1) := by decide +kernel
theorem dX7_tears_63 : decode cX7_tears 63 = .ok (.getfield 7, 3) := by decide +kernel
theorem dX7_tears_66 : decode cX7_tears 66 = .ok (.bipush 41, 2) := by decide +kernel
theorem dX7_tears_68 : decode cX7_tears 68 = .ok (.iload_n 3, 1) := by decide +kernel
theorem dX7_tears_69 : decode cX7_tears 69 = .ok (.iadd, 1) := by decide +kernel
theorem dX7_tears_70 : decode cX7_tears 70 = .ok (.iconst 1, 1) := by decide +kernel
theorem dX7_tears_71 : decode cX7_tears 71 = .ok (.iadd, 1) := by decide +kernel
theorem dX7_tears_72 : decode cX7_tears 72 = .ok (.iaload, 1) := by decide +kernel
theorem dX7_tears_73 : decode cX7_tears 73 = .ok (.iastore, 1) := by decide +kernel
theorem dX7_tears_74 : decode cX7_tears 74 = .ok (.iinc 3 1, 3) := by decide +kernel
theorem dX7_tears_77 : decode cX7_tears 77 = .ok (.goto (-54), 3) := by decide +kernel
theorem dX7_tears_80 : decode cX7_tears 80 = .ok (.iload_n 2, 1) := by decide +kernel
theorem dX7_tears_81 : decode cX7_tears 81 = .ok (.ireturn, 1) := by decide +kernel
theorem dX7_exchange_0 : decode cX7_exchange 0 = .ok (.aload_n 0, 1) := by decide +kernel
theorem dX7_exchange_1 : decode cX7_exchange 1 = .ok (.getfield 7, 3) := by decide +kernel
theorem dX7_exchange_4 : decode cX7_exchange 4 = .ok (.bipush 17, 2) := by decide +kernel
theorem dX7_exchange_6 : decode cX7_exchange 6 = .ok (.iload_n 1, 1) := by decide +kernel
theorem dX7_exchange_7 : decode cX7_exchange 7 = .ok (.iadd, 1) := by decide +kernel
theorem dX7_exchange_8 : decode cX7_exchange 8 = .ok (.iaload, 1) := by decide +kernel
theorem dX7_exchange_9 : decode cX7_exchange 9 = .ok (.istore_n 3, 1) := by decide +kernel
theorem dX7_exchange_10 : decode cX7_exchange 10 = .ok (.aload_n 0, 1) := by decide +kernel
theorem dX7_exchange_11 : decode cX7_exchange 11 = .ok (.getfield 7, 3) := by decide +kernel
theorem dX7_exchange_14 : decode cX7_exchange 14 = .ok (.bipush 41, 2) := by decide +kernel
theorem dX7_exchange_16 : decode cX7_exchange 16 = .ok (.iload_n 1, 1) := by decide +kernel
theorem dX7_exchange_17 : decode cX7_exchange 17 = .ok (.iadd, 1) := by decide +kernel
theorem dX7_exchange_18 : decode cX7_exchange 18 = .ok (.iaload, 1) := by decide +kernel
theorem dX7_exchange_19 : decode cX7_exchange 19 = .ok (.istore 4, 2) := by decide +kernel
theorem dX7_exchange_21 : decode cX7_exchange 21 = .ok (.aload_n 0, 1) := by decide +kernel
theorem dX7_exchange_22 : decode cX7_exchange 22 = .ok (.getfield 7, 3) := by decide +kernel
theorem dX7_exchange_25 : decode cX7_exchange 25 = .ok (.bipush 17, 2) := by decide +kernel
theorem dX7_exchange_27 : decode cX7_exchange 27 = .ok (.iload_n 1, 1) := by decide +kernel
theorem dX7_exchange_28 : decode cX7_exchange 28 = .ok (.iadd, 1) := by decide +kernel
theorem dX7_exchange_29 : decode cX7_exchange 29 = .ok (.aload_n 0, 1) := by decide +kernel
theorem dX7_exchange_30 : decode cX7_exchange 30 = .ok (.getfield 7, 3) := by decide +kernel
theorem dX7_exchange_33 : decode cX7_exchange 33 = .ok (.bipush 17, 2) := by decide +kernel
theorem dX7_exchange_35 : decode cX7_exchange 35 = .ok (.iload_n 2, 1) := by decide +kernel
theorem dX7_exchange_36 : decode cX7_exchange 36 = .ok (.iadd, 1) := by decide +kernel
theorem dX7_exchange_37 : decode cX7_exchange 37 = .ok (.iaload, 1) := by decide +kernel
theorem dX7_exchange_38 : decode cX7_exchange 38 = .ok (.iastore, 1) := by decide +kernel
theorem dX7_exchange_39 : decode cX7_exchange 39 = .ok (.aload_n 0, 1) := by decide +kernel
theorem dX7_exchange_40 : decode cX7_exchange 40 = .ok (.getfield 7, 3) := by decide +kernel
theorem dX7_exchange_43 : decode cX7_exchange 43 = .ok (.bipush 41, 2) := by decide +kernel
theorem dX7_exchange_45 : decode cX7_exchange 45 = .ok (.iload_n 1, 1) := by decide +kernel
theorem dX7_exchange_46 : decode cX7_exchange 46 = .ok (.iadd, 1) := by decide +kernel
theorem dX7_exchange_47 : decode cX7_exchange 47 = .ok (.aload_n 0, 1) := by decide +kernel
theorem dX7_exchange_48 : decode cX7_exchange 48 = .ok (.getfield 7, 3) := by decide +kernel
theorem dX7_exchange_51 : decode cX7_exchange 51 = .ok (.bipush 41, 2) := by decide +kernel
theorem dX7_exchange_53 : decode cX7_exchange 53 = .ok (.iload_n 2, 1) := by decide +kernel
theorem dX7_exchange_54 : decode cX7_exchange 54 = .ok (.iadd, 1) := by decide +kernel
theorem dX7_exchange_55 : decode cX7_exchange 55 = .ok (.iaload, 1) := by decide +kernel
theorem dX7_exchange_56 : decode cX7_exchange 56 = .ok (.iastore, 1) := by decide +kernel
theorem dX7_exchange_57 : decode cX7_exchange 57 = .ok (.aload_n 0, 1) := by decide +kernel
theorem dX7_exchange_58 : decode cX7_exchange 58 = .ok (.getfield 7, 3) := by decide +kernel
theorem dX7_exchange_61 : decode cX7_exchange 61 = .ok (.bipush 17, 2) := by decide +kernel
theorem dX7_exchange_63 : decode cX7_exchange 63 = .ok (.iload_n 2, 1) := by decide +kernel
theorem dX7_exchange_64 : decode cX7_exchange 64 = .ok (.iadd, 1) := by decide +kernel
theorem dX7_exchange_65 : decode cX7_exchange 65 = .ok (.iload_n 3, 1) := by decide +kernel
theorem dX7_exchange_66 : decode cX7_exchange 66 = .ok (.iastore, 1) := by decide +kernel
theorem dX7_exchange_67 : decode cX7_exchange 67 = .ok (.aload_n 0, 1) := by decide +kernel
theorem dX7_exchange_68 : decode cX7_exchange 68 = .ok (.getfield 7, 3) := by decide +kernel
theorem dX7_exchange_71 : decode cX7_exchange 71 = .ok (.bipush 41, 2) := by decide +kernel
theorem dX7_exchange_73 : decode cX7_exchange 73 = .ok (.iload_n 2, 1) := by decide +kernel
theorem dX7_exchange_74 : decode cX7_exchange 74 = .ok (.iadd, 1) := by decide +kernel
theorem dX7_exchange_75 : decode cX7_exchange 75 = .ok (.iload 4, 2) := by decide +kernel
theorem dX7_exchange_77 : decode cX7_exchange 77 = .ok (.iastore, 1) := by decide +kernel
theorem dX7_exchange_78 : decode cX7_exchange 78 = .ok (.return_, 1) := by decide +kernel
set_option maxRecDepth 20000 in
theorem ggX7_turns_X7_exchange : GoodIn wsX7_turns wsX7_exchange := goodIn_r _ [6, 1, 7, 8, 9, 10, 11, 12, 13, 14, 15, 16, 17, 18, 19, 20] (by decide +kernel) (by decide +kernel)
set_option maxRecDepth 20000 in
theorem gX7_turns_X7_exchange : GoodIn wsX7_turns (wsV RX7 53 RX7 yX7_exchange wsX7_exchange) := goodIn_app (goodIn_of _ (by decide +kernel)) ggX7_turns_X7_exchange
theorem dX7_turns_0 : decode cX7_turns 0 = .ok (.iconst 0, 1) := by decide +kernel
theorem dX7_turns_1 : decode cX7_turns 1 = .ok (.istore_n 1, 1) := by decide +kernel
theorem dX7_turns_2 : decode cX7_turns 2 = .ok (.iload_n 1, 1) := by decide +kernel
theorem dX7_turns_3 : decode cX7_turns 3 = .ok (.aload_n 0, 1) := by decide +kernel
theorem dX7_turns_4 : decode cX7_turns 4 = .ok (.getfield 7, 3) := by decide +kernel
theorem dX7_turns_7 : decode cX7_turns 7 = .ok (.bipush 16, 2) := by decide +kernel
theorem dX7_turns_9 : decode cX7_turns 9 = .ok (.iaload, 1) := by decide +kernel
theorem dX7_turns_10 : decode cX7_turns 10 = .ok (.iconst 2, 1) := by decide +kernel
theorem dX7_turns_11 : decode cX7_turns 11 = .ok (.idiv, 1) := by decide +kernel
theorem dX7_turns_12 : decode cX7_turns 12 = .ok (.if_icmp .ge 25, 3) := by decide +kernel
theorem dX7_turns_15 : decode cX7_turns 15 = .ok (.aload_n 0, 1) := by decide +kernel
theorem dX7_turns_16 : decode cX7_turns 16 = .ok (.iload_n 1, 1) := by decide +kernel
theorem dX7_turns_17 : decode cX7_turns 17 = .ok (.aload_n 0, 1) := by decide +kernel
theorem dX7_turns_18 : decode cX7_turns 18 = .ok (.getfield 7, 3) := by decide +kernel
theorem dX7_turns_21 : decode cX7_turns 21 = .ok (.bipush 16, 2) := by decide +kernel
theorem dX7_turns_23 : decode cX7_turns 23 = .ok (.iaload, 1) := by decide +kernel
theorem dX7_turns_24 : decode cX7_turns 24 = .ok (.iconst 1, 1) := by decide +kernel
theorem dX7_turns_25 : decode cX7_turns 25 = .ok (.isub, 1) := by decide +kernel
theorem dX7_turns_26 : decode cX7_turns 26 = .ok (.iload_n 1, 1) := by decide +kernel
theorem dX7_turns_27 : decode cX7_turns 27 = .ok (.isub, 1) := by decide +kernel
theorem dX7_turns_28 : decode cX7_turns 28 = .ok (.invokevirtual 53, 3) := by decide +kernel
theorem dX7_turns_31 : decode cX7_turns 31 = .ok (.iinc 1 1, 3) := by decide +kernel
theorem dX7_turns_34 : decode cX7_turns 34 = .ok (.goto (-32), 3) := by decide +kernel
theorem dX7_turns_37 : decode cX7_turns 37 = .ok (.aload_n 0, 1) := by decide +kernel
theorem dX7_turns_38 : decode cX7_turns 38 = .ok (.getfield 7, 3) := by decide +kernel
theorem dX7_turns_41 : decode cX7_turns 41 = .ok (.bipush 16, 2) := by decide +kernel
theorem dX7_turns_43 : decode cX7_turns 43 = .ok (.iaload, 1) := by decide +kernel
theorem dX7_turns_44 : decode cX7_turns 44 = .ok (.ireturn, 1) := by decide +kernel
set_option maxRecDepth 20000 in
theorem ggX7_mirrored_X7_has : GoodIn wsX7_mirrored wsX7_has := goodIn_r _ [4] (by decide +kernel) (by decide +kernel)
set_option maxRecDepth 20000 in
theorem gX7_mirrored_X7_has : GoodIn wsX7_mirrored (va_wsS RX7 30 yX7_has wsX7_has) := goodIn_app (goodIn_of _ (by decide +kernel)) ggX7_mirrored_X7_has
theorem dX7_mirrored_0 : decode cX7_mirrored 0 = .ok (.iconst 0, 1) := by decide +kernel
theorem dX7_mirrored_1 : decode cX7_mirrored 1 = .ok (.istore_n 1, 1) := by decide +kernel
theorem dX7_mirrored_2 : decode cX7_mirrored 2 = .ok (.iconst 0, 1) := by decide +kernel
theorem dX7_mirrored_3 : decode cX7_mirrored 3 = .ok (.istore_n 2, 1) := by decide +kernel
theorem dX7_mirrored_4 : decode cX7_mirrored 4 = .ok (.iload_n 2, 1) := by decide +kernel
theorem dX7_mirrored_5 : decode cX7_mirrored 5 = .ok (.bipush 8, 2) := by decide +kernel
theorem dX7_mirrored_7 : decode cX7_mirrored 7 = .ok (.if_icmp .ge 30, 3) := by decide +kernel
theorem dX7_mirrored_10 : decode cX7_mirrored 10 = .ok (.iload_n 1, 1) := by decide +kernel
theorem dX7_mirrored_11 : decode cX7_mirrored 11 = .ok (.iload_n 0, 1) := by decide +kernel
theorem dX7_mirrored_12 : decode cX7_mirrored 12 = .ok (.iload_n 2, 1) := by decide +kernel
theorem dX7_mirrored_13 : decode cX7_mirrored 13 = .ok (.invokestatic 30, 3) := by decide +kernel
theorem dX7_mirrored_16 : decode cX7_mirrored 16 = .ok (.ifCond .eq 12, 3) := by decide +kernel
theorem dX7_mirrored_19 : decode cX7_mirrored 19 = .ok (.iconst 1, 1) := by decide +kernel
theorem dX7_mirrored_20 : decode cX7_mirrored 20 = .ok (.bipush 7, 2) := by decide +kernel
theorem dX7_mirrored_22 : decode cX7_mirrored 22 = .ok (.iload_n 2, 1) := by decide +kernel
theorem dX7_mirrored_23 : decode cX7_mirrored 23 = .ok (.isub, 1) := by decide +kernel
theorem dX7_mirrored_24 : decode cX7_mirrored 24 = .ok (.ishl, 1) := by decide +kernel
theorem dX7_mirrored_25 : decode cX7_mirrored 25 = .ok (.goto 4, 3) := by decide +kernel
theorem dX7_mirrored_28 : decode cX7_mirrored 28 = .ok (.iconst 0, 1) := by decide +kernel
theorem dX7_mirrored_29 : decode cX7_mirrored 29 = .ok (.ior, 1) := by decide +kernel
theorem dX7_mirrored_30 : decode cX7_mirrored 30 = .ok (.istore_n 1, 1) := by decide +kernel
theorem dX7_mirrored_31 : decode cX7_mirrored 31 = .ok (.iinc 2 1, 3) := by decide +kernel
theorem dX7_mirrored_34 : decode cX7_mirrored 34 = .ok (.goto (-30), 3) := by decide +kernel
theorem dX7_mirrored_37 : decode cX7_mirrored 37 = .ok (.iload_n 1, 1) := by decide +kernel
theorem dX7_mirrored_38 : decode cX7_mirrored 38 = .ok (.ireturn, 1) := by decide +kernel
theorem dX7_puts_0 : decode cX7_puts 0 = .ok (.aload_n 0, 1) := by decide +kernel
theorem dX7_puts_1 : decode cX7_puts 1 = .ok (.getfield 7, 3) := by decide +kernel
theorem dX7_puts_4 : decode cX7_puts 4 = .ok (.iload_n 1, 1) := by decide +kernel
theorem dX7_puts_5 : decode cX7_puts 5 = .ok (.iaload, 1) := by decide +kernel
theorem dX7_puts_6 : decode cX7_puts 6 = .ok (.istore_n 3, 1) := by decide +kernel
theorem dX7_puts_7 : decode cX7_puts 7 = .ok (.aload_n 0, 1) := by decide +kernel
theorem dX7_puts_8 : decode cX7_puts 8 = .ok (.getfield 7, 3) := by decide +kernel
theorem dX7_puts_11 : decode cX7_puts 11 = .ok (.iload_n 1, 1) := by decide +kernel
theorem dX7_puts_12 : decode cX7_puts 12 = .ok (.iload_n 2, 1) := by decide +kernel
theorem dX7_puts_13 : decode cX7_puts 13 = .ok (.iastore, 1) := by decide +kernel
theorem dX7_puts_14 : decode cX7_puts 14 = .ok (.iload_n 3, 1) := by decide +kernel
