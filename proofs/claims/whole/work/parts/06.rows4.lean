theorem dX11_pivot_42 : decode cX11_pivot 42 = .ok (.getfield 117, 3) := by decide +kernel
theorem dX11_pivot_45 : decode cX11_pivot 45 = .ok (.goto 17, 3) := by decide +kernel
theorem dX11_pivot_48 : decode cX11_pivot 48 = .ok (.iload_n 3, 1) := by decide +kernel
theorem dX11_pivot_49 : decode cX11_pivot 49 = .ok (.iconst 1, 1) := by decide +kernel
theorem dX11_pivot_50 : decode cX11_pivot 50 = .ok (.if_icmp .ne 10, 3) := by decide +kernel
theorem dX11_pivot_53 : decode cX11_pivot 53 = .ok (.aload_n 0, 1) := by decide +kernel
theorem dX11_pivot_54 : decode cX11_pivot 54 = .ok (.invokevirtual 225, 3) := by decide +kernel
theorem dX11_pivot_57 : decode cX11_pivot 57 = .ok (.goto 5, 3) := by decide +kernel
theorem dX11_pivot_60 : decode cX11_pivot 60 = .ok (.ldc 165, 2) := by decide +kernel
theorem dX11_pivot_62 : decode cX11_pivot 62 = .ok (.ireturn, 1) := by decide +kernel
theorem dX11_pivot_63 : decode cX11_pivot 63 = .ok (.iload_n 2, 1) := by decide +kernel
theorem dX11_pivot_64 : decode cX11_pivot 64 = .ok (.iconst 0, 1) := by decide +kernel
theorem dX11_pivot_65 : decode cX11_pivot 65 = .ok (.aload_n 0, 1) := by decide +kernel
theorem dX11_pivot_66 : decode cX11_pivot 66 = .ok (.getfield 117, 3) := by decide +kernel
theorem dX11_pivot_69 : decode cX11_pivot 69 = .ok (.iconst 1, 1) := by decide +kernel
theorem dX11_pivot_70 : decode cX11_pivot 70 = .ok (.isub, 1) := by decide +kernel
theorem dX11_pivot_71 : decode cX11_pivot 71 = .ok (.invokestatic 85, 3) := by decide +kernel
theorem dX11_pivot_74 : decode cX11_pivot 74 = .ok (.ifCond .ne 6, 3) := by decide +kernel
theorem dX11_pivot_77 : decode cX11_pivot 77 = .ok (.ldc 165, 2) := by decide +kernel
theorem dX11_pivot_79 : decode cX11_pivot 79 = .ok (.ireturn, 1) := by decide +kernel
theorem dX11_pivot_80 : decode cX11_pivot 80 = .ok (.aload_n 0, 1) := by decide +kernel
theorem dX11_pivot_81 : decode cX11_pivot 81 = .ok (.getfield 30, 3) := by decide +kernel
theorem dX11_pivot_84 : decode cX11_pivot 84 = .ok (.iload_n 2, 1) := by decide +kernel
theorem dX11_pivot_85 : decode cX11_pivot 85 = .ok (.iaload, 1) := by decide +kernel
theorem dX11_pivot_86 : decode cX11_pivot 86 = .ok (.aload_n 0, 1) := by decide +kernel
theorem dX11_pivot_87 : decode cX11_pivot 87 = .ok (.getfield 33, 3) := by decide +kernel
theorem dX11_pivot_90 : decode cX11_pivot 90 = .ok (.iload_n 2, 1) := by decide +kernel
theorem dX11_pivot_91 : decode cX11_pivot 91 = .ok (.iaload, 1) := by decide +kernel
theorem dX11_pivot_92 : decode cX11_pivot 92 = .ok (.invokestatic 89, 3) := by decide +kernel
theorem dX11_pivot_95 : decode cX11_pivot 95 = .ok (.istore 4, 2) := by decide +kernel
theorem dX11_pivot_97 : decode cX11_pivot 97 = .ok (.iload_n 3, 1) := by decide +kernel
theorem dX11_pivot_98 : decode cX11_pivot 98 = .ok (.tableswitch 82 0 5 #[38, 45, 52, 59, 66, 74], 38) := by decide +kernel
theorem dX11_pivot_136 : decode cX11_pivot 136 = .ok (.aload_n 0, 1) := by decide +kernel
theorem dX11_pivot_137 : decode cX11_pivot 137 = .ok (.getfield 30, 3) := by decide +kernel
theorem dX11_pivot_140 : decode cX11_pivot 140 = .ok (.iload_n 2, 1) := by decide +kernel
theorem dX11_pivot_141 : decode cX11_pivot 141 = .ok (.iaload, 1) := by decide +kernel
theorem dX11_pivot_142 : decode cX11_pivot 142 = .ok (.ireturn, 1) := by decide +kernel
theorem dX11_pivot_143 : decode cX11_pivot 143 = .ok (.aload_n 0, 1) := by decide +kernel
theorem dX11_pivot_144 : decode cX11_pivot 144 = .ok (.getfield 33, 3) := by decide +kernel
theorem dX11_pivot_147 : decode cX11_pivot 147 = .ok (.iload_n 2, 1) := by decide +kernel
theorem dX11_pivot_148 : decode cX11_pivot 148 = .ok (.iaload, 1) := by decide +kernel
theorem dX11_pivot_149 : decode cX11_pivot 149 = .ok (.ireturn, 1) := by decide +kernel
theorem dX11_pivot_150 : decode cX11_pivot 150 = .ok (.aload_n 0, 1) := by decide +kernel
theorem dX11_pivot_151 : decode cX11_pivot 151 = .ok (.getfield 36, 3) := by decide +kernel
theorem dX11_pivot_154 : decode cX11_pivot 154 = .ok (.iload_n 2, 1) := by decide +kernel
theorem dX11_pivot_155 : decode cX11_pivot 155 = .ok (.iaload, 1) := by decide +kernel
theorem dX11_pivot_156 : decode cX11_pivot 156 = .ok (.ireturn, 1) := by decide +kernel
theorem dX11_pivot_157 : decode cX11_pivot 157 = .ok (.aload_n 0, 1) := by decide +kernel
theorem dX11_pivot_158 : decode cX11_pivot 158 = .ok (.getfield 39, 3) := by decide +kernel
theorem dX11_pivot_161 : decode cX11_pivot 161 = .ok (.iload_n 2, 1) := by decide +kernel
theorem dX11_pivot_162 : decode cX11_pivot 162 = .ok (.iaload, 1) := by decide +kernel
theorem dX11_pivot_163 : decode cX11_pivot 163 = .ok (.ireturn, 1) := by decide +kernel
theorem dX11_pivot_164 : decode cX11_pivot 164 = .ok (.aload_n 0, 1) := by decide +kernel
theorem dX11_pivot_165 : decode cX11_pivot 165 = .ok (.getfield 24, 3) := by decide +kernel
theorem dX11_pivot_168 : decode cX11_pivot 168 = .ok (.iload 4, 2) := by decide +kernel
theorem dX11_pivot_170 : decode cX11_pivot 170 = .ok (.iaload, 1) := by decide +kernel
theorem dX11_pivot_171 : decode cX11_pivot 171 = .ok (.ireturn, 1) := by decide +kernel
theorem dX11_pivot_172 : decode cX11_pivot 172 = .ok (.aload_n 0, 1) := by decide +kernel
theorem dX11_pivot_173 : decode cX11_pivot 173 = .ok (.getfield 27, 3) := by decide +kernel
theorem dX11_pivot_176 : decode cX11_pivot 176 = .ok (.iload 4, 2) := by decide +kernel
theorem dX11_pivot_178 : decode cX11_pivot 178 = .ok (.iaload, 1) := by decide +kernel
theorem dX11_pivot_179 : decode cX11_pivot 179 = .ok (.ireturn, 1) := by decide +kernel
theorem dX11_pivot_180 : decode cX11_pivot 180 = .ok (.ldc 165, 2) := by decide +kernel
theorem dX11_pivot_182 : decode cX11_pivot 182 = .ok (.ireturn, 1) := by decide +kernel
set_option maxRecDepth 20000 in
theorem ggX11_kind_X11_begins : GoodIn wsX11_kind wsX11_begins := goodIn_r _ [7, 8, 1, 9, 10, 11, 6, 12, 13, 14, 15, 16, 17, 103, 104, 105, 106, 107, 108, 109, 110, 111, 112, 113, 114, 115, 116, 117, 118, 119, 120, 121, 122, 123, 124, 125, 126, 127, 128, 129, 130, 131, 132, 133, 134, 135, 136, 137, 138] rfl rfl
set_option maxRecDepth 20000 in
theorem gX11_kind_X11_begins : GoodIn wsX11_kind (wsV RX11 202 RX11 yX11_begins wsX11_begins) := goodIn_app (goodIn_of _ (by decide +kernel)) ggX11_kind_X11_begins
set_option maxRecDepth 20000 in
theorem ggX11_kind_X11_goes : GoodIn wsX11_kind wsX11_goes := goodIn_r _ [21, 22, 1, 23, 24, 25, 26, 27, 28, 29, 6, 30, 14, 15, 16, 31, 32, 33, 34, 35, 36, 37, 38, 39, 40, 41, 42, 43, 44, 45, 46, 47, 48, 49, 50, 51, 52, 53, 54, 55, 17, 56, 57, 58, 59, 60, 61, 62, 63, 64, 65, 66, 67, 68, 69, 70, 71, 72, 73, 74, 75, 76, 77, 78, 79, 80, 81, 82, 83, 84, 85, 86, 87, 88, 89, 90, 91, 92, 93, 94, 95, 96, 97, 98, 103, 104, 105, 106, 107, 108, 109, 110, 111, 112, 113, 114, 115, 116, 117, 118, 119, 120, 121, 122, 123, 124, 125, 126, 127, 128, 129, 130, 131, 132, 133, 134, 135, 136, 137, 138] rfl rfl
set_option maxRecDepth 20000 in
theorem gX11_kind_X11_goes : GoodIn wsX11_kind (wsV RX11 166 RX11 yX11_goes wsX11_goes) := goodIn_app (goodIn_of _ (by decide +kernel)) ggX11_kind_X11_goes
set_option maxRecDepth 20000 in
theorem ggX11_kind_X11_kindNow : GoodIn wsX11_kind wsX11_kindNow := goodIn_r _ [102, 14, 22, 25, 16, 15, 33, 34, 6, 35, 103, 104, 105, 106, 107, 108, 109, 110, 111, 112, 113, 114, 115, 116, 117, 118, 119, 120, 121, 122, 123, 124, 125, 126, 127, 128, 129, 130, 131, 132, 133, 134, 135, 136, 137, 138] rfl rfl
set_option maxRecDepth 20000 in
theorem gX11_kind_X11_kindNow : GoodIn wsX11_kind (wsV RX11 235 RX11 yX11_kindNow wsX11_kindNow) := goodIn_app (goodIn_of _ (by decide +kernel)) ggX11_kind_X11_kindNow
theorem dX11_kind_0 : decode cX11_kind 0 = .ok (.aload_n 0, 1) := by decide +kernel
theorem dX11_kind_1 : decode cX11_kind 1 = .ok (.iconst 0, 1) := by decide +kernel
theorem dX11_kind_2 : decode cX11_kind 2 = .ok (.invokevirtual 202, 3) := by decide +kernel
theorem dX11_kind_5 : decode cX11_kind 5 = .ok (.aload_n 0, 1) := by decide +kernel
theorem dX11_kind_6 : decode cX11_kind 6 = .ok (.iconst 1, 1) := by decide +kernel
theorem dX11_kind_7 : decode cX11_kind 7 = .ok (.invokevirtual 166, 3) := by decide +kernel
theorem dX11_kind_10 : decode cX11_kind 10 = .ok (.aload_n 0, 1) := by decide +kernel
theorem dX11_kind_11 : decode cX11_kind 11 = .ok (.getfield 120, 3) := by decide +kernel
theorem dX11_kind_14 : decode cX11_kind 14 = .ok (.ifCond .eq 8, 3) := by decide +kernel
theorem dX11_kind_17 : decode cX11_kind 17 = .ok (.ldc 165, 2) := by decide +kernel
theorem dX11_kind_19 : decode cX11_kind 19 = .ok (.goto 7, 3) := by decide +kernel
theorem dX11_kind_22 : decode cX11_kind 22 = .ok (.aload_n 0, 1) := by decide +kernel
theorem dX11_kind_23 : decode cX11_kind 23 = .ok (.invokevirtual 235, 3) := by decide +kernel
theorem dX11_kind_26 : decode cX11_kind 26 = .ok (.ireturn, 1) := by decide +kernel
set_option maxRecDepth 20000 in
theorem ggX11_isSolved_X11_goes : GoodIn wsX11_isSolved wsX11_goes := goodIn_r _ [6, 7, 1, 8, 9, 10, 11, 12, 13, 14, 5, 15, 16, 17, 18, 19, 20, 21, 22, 23, 24, 25, 26, 27, 28, 29, 30, 31, 32, 33, 34, 35, 36, 37, 38, 39, 40, 41, 42, 43, 44, 45, 46, 47, 48, 49, 50, 51, 52, 53, 54, 55, 56, 57, 58, 59, 60, 61, 62, 63, 64, 65, 66, 67, 68, 69, 70, 71, 72, 73, 74, 75, 76, 77, 78, 79, 80, 81, 82, 83, 84, 85, 86, 87, 103, 104, 105, 106, 107, 108, 109, 110, 111, 112, 113, 114, 115, 116, 117, 118, 119, 120, 121, 122, 123, 124, 125, 126, 127, 128, 129, 130, 131, 132, 133, 134, 135, 136, 137, 138] rfl rfl
set_option maxRecDepth 20000 in
theorem gX11_isSolved_X11_goes : GoodIn wsX11_isSolved (wsV RX11 166 RX11 yX11_goes wsX11_goes) := goodIn_app (goodIn_of _ (by decide +kernel)) ggX11_isSolved_X11_goes
set_option maxRecDepth 20000 in
theorem ggX11_isSolved_X11_kindNow : GoodIn wsX11_isSolved wsX11_kindNow := goodIn_r _ [91, 16, 7, 10, 18, 17, 21, 22, 5, 23, 103, 104, 105, 106, 107, 108, 109, 110, 111, 112, 113, 114, 115, 116, 117, 118, 119, 120, 121, 122, 123, 124, 125, 126, 127, 128, 129, 130, 131, 132, 133, 134, 135, 136, 137, 138] rfl rfl
set_option maxRecDepth 20000 in
theorem gX11_isSolved_X11_kindNow : GoodIn wsX11_isSolved (wsV RX11 235 RX11 yX11_kindNow wsX11_kindNow) := goodIn_app (goodIn_of _ (by decide +kernel)) ggX11_isSolved_X11_kindNow
set_option maxRecDepth 20000 in
theorem ggX11_isSolved_X11_solves : GoodIn wsX11_isSolved wsX11_solves := goodIn_r _ [95, 96, 97, 98, 7, 99, 100, 101, 5, 102, 10, 11, 18, 17, 44, 50, 51, 52, 21, 22, 23, 76, 77, 78, 79, 57, 58, 59, 60, 61, 62, 63, 64, 65, 80, 81, 82, 83, 53, 54, 55, 56, 103, 104, 105, 106, 107, 108, 109, 110, 111, 112, 113, 114, 115, 116, 117, 118, 119, 120, 121, 122, 123, 124, 125, 126, 127, 128, 129, 130, 131, 132, 133, 134, 135, 136, 137, 138] rfl rfl
set_option maxRecDepth 20000 in
theorem gX11_isSolved_X11_solves : GoodIn wsX11_isSolved (wsV RX11 238 RX11 yX11_solves wsX11_solves) := goodIn_app (goodIn_of _ (by decide +kernel)) ggX11_isSolved_X11_solves
theorem dX11_isSolved_0 : decode cX11_isSolved 0 = .ok (.aload_n 0, 1) := by decide +kernel
theorem dX11_isSolved_1 : decode cX11_isSolved 1 = .ok (.iconst 1, 1) := by decide +kernel
theorem dX11_isSolved_2 : decode cX11_isSolved 2 = .ok (.invokevirtual 166, 3) := by decide +kernel
theorem dX11_isSolved_5 : decode cX11_isSolved 5 = .ok (.aload_n 0, 1) := by decide +kernel
theorem dX11_isSolved_6 : decode cX11_isSolved 6 = .ok (.getfield 120, 3) := by decide +kernel
theorem dX11_isSolved_9 : decode cX11_isSolved 9 = .ok (.ifCond .ne 10, 3) := by decide +kernel
theorem dX11_isSolved_12 : decode cX11_isSolved 12 = .ok (.aload_n 0, 1) := by decide +kernel
theorem dX11_isSolved_13 : decode cX11_isSolved 13 = .ok (.invokevirtual 235, 3) := by decide +kernel
theorem dX11_isSolved_16 : decode cX11_isSolved 16 = .ok (.ifCond .ne 5, 3) := by decide +kernel
theorem dX11_isSolved_19 : decode cX11_isSolved 19 = .ok (.iconst 0, 1) := by decide +kernel
theorem dX11_isSolved_20 : decode cX11_isSolved 20 = .ok (.ireturn, 1) := by decide +kernel
theorem dX11_isSolved_21 : decode cX11_isSolved 21 = .ok (.aload_n 0, 1) := by decide +kernel
theorem dX11_isSolved_22 : decode cX11_isSolved 22 = .ok (.iconst (-1), 1) := by decide +kernel
theorem dX11_isSolved_23 : decode cX11_isSolved 23 = .ok (.invokevirtual 238, 3) := by decide +kernel
theorem dX11_isSolved_26 : decode cX11_isSolved 26 = .ok (.iconst 1, 1) := by decide +kernel
theorem dX11_isSolved_27 : decode cX11_isSolved 27 = .ok (.ireturn, 1) := by decide +kernel
set_option maxRecDepth 20000 in
theorem ggX11_solution_X11_begins : GoodIn wsX11_solution wsX11_begins := goodIn_r _ [7, 8, 9, 10, 11, 12, 6, 13, 14, 15, 1, 16, 17, 125, 126, 127, 128, 129, 130, 131, 132, 133, 134, 135, 136, 137, 138, 139, 140, 141, 142, 143, 144, 145, 146, 147, 148, 149, 150, 151, 152, 153, 154, 155, 156, 157, 158, 159, 160] rfl rfl
set_option maxRecDepth 20000 in
theorem gX11_solution_X11_begins : GoodIn wsX11_solution (wsV RX11 202 RX11 yX11_begins wsX11_begins) := goodIn_app (goodIn_of _ (by decide +kernel)) ggX11_solution_X11_begins
set_option maxRecDepth 20000 in
theorem ggX11_solution_X11_isIn : GoodIn wsX11_solution wsX11_isIn := goodIn_r _ [20] rfl rfl
set_option maxRecDepth 20000 in
theorem gX11_solution_X11_isIn : GoodIn wsX11_solution (va_wsS RX11 85 yX11_isIn wsX11_isIn) := goodIn_app (goodIn_of _ (by decide +kernel)) ggX11_solution_X11_isIn
set_option maxRecDepth 20000 in
theorem ggX11_solution_X11_isSolved : GoodIn wsX11_solution wsX11_isSolved := goodIn_r _ [24, 9, 25, 26, 27, 6, 28, 29, 30, 31, 32, 33, 34, 35, 36, 37, 15, 1, 16, 38, 39, 40, 41, 42, 43, 44, 45, 46, 47, 48, 49, 50, 51, 52, 53, 54, 55, 56, 57, 58, 59, 60, 61, 62, 17, 63, 64, 65, 66, 67, 68, 69, 70, 71, 72, 73, 74, 75, 76, 77, 78, 79, 80, 81, 82, 83, 84, 85, 86, 87, 88, 89, 90, 91, 92, 93, 94, 95, 96, 97, 98, 99, 100, 101, 102, 103, 104, 105, 106, 107, 108, 109, 110, 111, 112, 113, 114, 115, 116, 117, 118, 119, 120, 125, 126, 127, 128, 129, 130, 131, 132, 133, 134, 135, 136, 137, 138, 139, 140, 141, 142, 143, 144, 145, 146, 147, 148, 149, 150, 151, 152, 153, 154, 155, 156, 157, 158, 159, 160] rfl rfl
set_option maxRecDepth 20000 in
theorem gX11_solution_X11_isSolved : GoodIn wsX11_solution (wsV RX11 241 RX11 yX11_isSolved wsX11_isSolved) := goodIn_app (goodIn_of _ (by decide +kernel)) ggX11_solution_X11_isSolved
set_option maxRecDepth 20000 in
theorem ggX11_solution_X11_has : GoodIn wsX11_solution wsX11_has := goodIn_r _ [124, 116, 2, 115, 114, 125, 126, 127, 128, 129, 130, 131, 132, 133, 134, 135, 136, 137, 138, 139, 140, 141, 142, 143, 144, 145, 146, 147, 148, 149, 150, 151, 152, 153, 154, 155, 156, 157, 158, 159, 160] rfl rfl
set_option maxRecDepth 20000 in
theorem gX11_solution_X11_has : GoodIn wsX11_solution (wsV RX11 245 RX11 yX11_has wsX11_has) := goodIn_app (goodIn_of _ (by decide +kernel)) ggX11_solution_X11_has
theorem dX11_solution_0 : decode cX11_solution 0 = .ok (.aload_n 0, 1) := by decide +kernel
theorem dX11_solution_1 : decode cX11_solution 1 = .ok (.iconst 0, 1) := by decide +kernel
theorem dX11_solution_2 : decode cX11_solution 2 = .ok (.invokevirtual 202, 3) := by decide +kernel
theorem dX11_solution_5 : decode cX11_solution 5 = .ok (.iload_n 1, 1) := by decide +kernel
theorem dX11_solution_6 : decode cX11_solution 6 = .ok (.iconst 0, 1) := by decide +kernel
theorem dX11_solution_7 : decode cX11_solution 7 = .ok (.aload_n 0, 1) := by decide +kernel
theorem dX11_solution_8 : decode cX11_solution 8 = .ok (.getfield 93, 3) := by decide +kernel
theorem dX11_solution_11 : decode cX11_solution 11 = .ok (.iconst 1, 1) := by decide +kernel
theorem dX11_solution_12 : decode cX11_solution 12 = .ok (.isub, 1) := by decide +kernel
theorem dX11_solution_13 : decode cX11_solution 13 = .ok (.invokestatic 85, 3) := by decide +kernel
theorem dX11_solution_16 : decode cX11_solution 16 = .ok (.ifCond .eq 19, 3) := by decide +kernel
theorem dX11_solution_19 : decode cX11_solution 19 = .ok (.aload_n 0, 1) := by decide +kernel
theorem dX11_solution_20 : decode cX11_solution 20 = .ok (.invokevirtual 241, 3) := by decide +kernel
theorem dX11_solution_23 : decode cX11_solution 23 = .ok (.ifCond .eq 12, 3) := by decide +kernel
theorem dX11_solution_26 : decode cX11_solution 26 = .ok (.aload_n 0, 1) := by decide +kernel
theorem dX11_solution_27 : decode cX11_solution 27 = .ok (.iload_n 1, 1) := by decide +kernel
theorem dX11_solution_28 : decode cX11_solution 28 = .ok (.iload_n 2, 1) := by decide +kernel
theorem dX11_solution_29 : decode cX11_solution 29 = .ok (.invokevirtual 245, 3) := by decide +kernel
theorem dX11_solution_32 : decode cX11_solution 32 = .ok (.goto 5, 3) := by decide +kernel
theorem dX11_solution_35 : decode cX11_solution 35 = .ok (.ldc 165, 2) := by decide +kernel
theorem dX11_solution_37 : decode cX11_solution 37 = .ok (.ireturn, 1) := by decide +kernel
set_option maxRecDepth 20000 in
theorem ggX11_free_X11_begins : GoodIn wsX11_free wsX11_begins := goodIn_r _ [8, 9, 2, 10, 11, 12, 7, 13, 14, 15, 1, 16, 17, 103, 104, 105, 106, 107, 108, 109, 110, 111, 112, 113, 114, 115, 116, 117, 118, 119, 120, 121, 122, 123, 124, 125, 126, 127, 128, 129, 130, 131, 132, 133, 134, 135, 136, 137, 138] rfl rfl
set_option maxRecDepth 20000 in
theorem gX11_free_X11_begins : GoodIn wsX11_free (wsV RX11 202 RX11 yX11_begins wsX11_begins) := goodIn_app (goodIn_of _ (by decide +kernel)) ggX11_free_X11_begins
set_option maxRecDepth 20000 in
theorem ggX11_free_X11_goes : GoodIn wsX11_free wsX11_goes := goodIn_r _ [21, 22, 2, 23, 24, 25, 26, 27, 28, 29, 7, 30, 15, 1, 16, 31, 32, 33, 34, 35, 36, 37, 38, 39, 40, 41, 42, 43, 44, 45, 46, 47, 48, 49, 50, 51, 52, 53, 54, 55, 17, 56, 57, 58, 59, 60, 61, 62, 63, 64, 65, 66, 67, 68, 69, 70, 71, 72, 73, 74, 75, 76, 77, 78, 79, 80, 81, 82, 83, 84, 85, 86, 87, 88, 89, 90, 91, 92, 93, 94, 95, 96, 97, 98, 103, 104, 105, 106, 107, 108, 109, 110, 111, 112, 113, 114, 115, 116, 117, 118, 119, 120, 121, 122, 123, 124, 125, 126, 127, 128, 129, 130, 131, 132, 133, 134, 135, 136, 137, 138] rfl rfl
set_option maxRecDepth 20000 in
theorem gX11_free_X11_goes : GoodIn wsX11_free (wsV RX11 166 RX11 yX11_goes wsX11_goes) := goodIn_app (goodIn_of _ (by decide +kernel)) ggX11_free_X11_goes
set_option maxRecDepth 20000 in
theorem ggX11_free_X11_pivotOf : GoodIn wsX11_free wsX11_pivotOf := goodIn_r _ [102, 22, 26, 103, 104, 105, 106, 107, 108, 109, 110, 111, 112, 113, 114, 115, 116, 117, 118, 119, 120, 121, 122, 123, 124, 125, 126, 127, 128, 129, 130, 131, 132, 133, 134, 135, 136, 137, 138] rfl rfl
set_option maxRecDepth 20000 in
theorem gX11_free_X11_pivotOf : GoodIn wsX11_free (wsV RX11 169 RX11 yX11_pivotOf wsX11_pivotOf) := goodIn_app (goodIn_of _ (by decide +kernel)) ggX11_free_X11_pivotOf
theorem dX11_free_0 : decode cX11_free 0 = .ok (.aload_n 0, 1) := by decide +kernel
theorem dX11_free_1 : decode cX11_free 1 = .ok (.iconst 0, 1) := by decide +kernel
theorem dX11_free_2 : decode cX11_free 2 = .ok (.invokevirtual 202, 3) := by decide +kernel
theorem dX11_free_5 : decode cX11_free 5 = .ok (.aload_n 0, 1) := by decide +kernel
theorem dX11_free_6 : decode cX11_free 6 = .ok (.iconst 1, 1) := by decide +kernel
theorem dX11_free_7 : decode cX11_free 7 = .ok (.invokevirtual 166, 3) := by decide +kernel
theorem dX11_free_10 : decode cX11_free 10 = .ok (.iconst 0, 1) := by decide +kernel
theorem dX11_free_11 : decode cX11_free 11 = .ok (.istore_n 1, 1) := by decide +kernel
theorem dX11_free_12 : decode cX11_free 12 = .ok (.iconst 0, 1) := by decide +kernel
theorem dX11_free_13 : decode cX11_free 13 = .ok (.istore_n 2, 1) := by decide +kernel
theorem dX11_free_14 : decode cX11_free 14 = .ok (.iload_n 2, 1) := by decide +kernel
theorem dX11_free_15 : decode cX11_free 15 = .ok (.aload_n 0, 1) := by decide +kernel
theorem dX11_free_16 : decode cX11_free 16 = .ok (.getfield 93, 3) := by decide +kernel
theorem dX11_free_19 : decode cX11_free 19 = .ok (.if_icmp .ge 28, 3) := by decide +kernel
theorem dX11_free_22 : decode cX11_free 22 = .ok (.iload_n 1, 1) := by decide +kernel
theorem dX11_free_23 : decode cX11_free 23 = .ok (.aload_n 0, 1) := by decide +kernel
theorem dX11_free_24 : decode cX11_free 24 = .ok (.iload_n 2, 1) := by decide +kernel
theorem dX11_free_25 : decode cX11_free 25 = .ok (.invokevirtual 169, 3) := by decide +kernel
theorem dX11_free_28 : decode cX11_free 28 = .ok (.iconst (-1), 1) := by decide +kernel
theorem dX11_free_29 : decode cX11_free 29 = .ok (.if_icmp .ne 9, 3) := by decide +kernel
theorem dX11_free_32 : decode cX11_free 32 = .ok (.iconst 1, 1) := by decide +kernel
theorem dX11_free_33 : decode cX11_free 33 = .ok (.iload_n 2, 1) := by decide +kernel
theorem dX11_free_34 : decode cX11_free 34 = .ok (.ishl, 1) := by decide +kernel
theorem dX11_free_35 : decode cX11_free 35 = .ok (.goto 4, 3) := by decide +kernel
theorem dX11_free_38 : decode cX11_free 38 = .ok (.iconst 0, 1) := by decide +kernel
theorem dX11_free_39 : decode cX11_free 39 = .ok (.ior, 1) := by decide +kernel
theorem dX11_free_40 : decode cX11_free 40 = .ok (.istore_n 1, 1) := by decide +kernel
theorem dX11_free_41 : decode cX11_free 41 = .ok (.iinc 2 1, 3) := by decide +kernel
theorem dX11_free_44 : decode cX11_free 44 = .ok (.goto (-30), 3) := by decide +kernel
theorem dX11_free_47 : decode cX11_free 47 = .ok (.aload_n 0, 1) := by decide +kernel
theorem dX11_free_48 : decode cX11_free 48 = .ok (.getfield 120, 3) := by decide +kernel
theorem dX11_free_51 : decode cX11_free 51 = .ok (.ifCond .eq 8, 3) := by decide +kernel
theorem dX11_free_54 : decode cX11_free 54 = .ok (.ldc 165, 2) := by decide +kernel
theorem dX11_free_56 : decode cX11_free 56 = .ok (.goto 4, 3) := by decide +kernel
theorem dX11_free_59 : decode cX11_free 59 = .ok (.iload_n 1, 1) := by decide +kernel
theorem dX11_free_60 : decode cX11_free 60 = .ok (.ireturn, 1) := by decide +kernel
set_option maxRecDepth 20000 in
theorem ggX11_zero_X11_begins : GoodIn wsX11_zero wsX11_begins := goodIn_r _ [8, 9, 1, 10, 11, 12, 7, 13, 14, 15, 2, 16, 17, 121, 122, 123, 124, 125, 126, 127, 128, 129, 130, 131, 132, 133, 134, 135, 136, 137, 138, 139, 140, 141, 142, 143, 144, 145, 146, 147, 148, 149, 150, 151, 152, 153, 154, 155, 156] rfl rfl
set_option maxRecDepth 20000 in
theorem gX11_zero_X11_begins : GoodIn wsX11_zero (wsV RX11 202 RX11 yX11_begins wsX11_begins) := goodIn_app (goodIn_of _ (by decide +kernel)) ggX11_zero_X11_begins
set_option maxRecDepth 20000 in
theorem ggX11_zero_X11_goes : GoodIn wsX11_zero wsX11_goes := goodIn_r _ [21, 22, 1, 23, 24, 25, 26, 27, 28, 29, 7, 30, 15, 2, 16, 31, 32, 33, 34, 35, 36, 37, 38, 39, 40, 41, 42, 43, 44, 45, 46, 47, 48, 49, 50, 51, 52, 53, 54, 55, 17, 56, 57, 58, 59, 60, 61, 62, 63, 64, 65, 66, 67, 68, 69, 70, 71, 72, 73, 74, 75, 76, 77, 78, 79, 80, 81, 82, 83, 84, 85, 86, 87, 88, 89, 90, 91, 92, 93, 94, 95, 96, 97, 98, 121, 122, 123, 124, 125, 126, 127, 128, 129, 130, 131, 132, 133, 134, 135, 136, 137, 138, 139, 140, 141, 142, 143, 144, 145, 146, 147, 148, 149, 150, 151, 152, 153, 154, 155, 156] rfl rfl
set_option maxRecDepth 20000 in
theorem gX11_zero_X11_goes : GoodIn wsX11_zero (wsV RX11 166 RX11 yX11_goes wsX11_goes) := goodIn_app (goodIn_of _ (by decide +kernel)) ggX11_zero_X11_goes
set_option maxRecDepth 20000 in
theorem ggX11_zero_X11_isIn : GoodIn wsX11_zero wsX11_isIn := goodIn_r _ [101] rfl rfl
set_option maxRecDepth 20000 in
theorem gX11_zero_X11_isIn : GoodIn wsX11_zero (va_wsS RX11 85 yX11_isIn wsX11_isIn) := goodIn_app (goodIn_of _ (by decide +kernel)) ggX11_zero_X11_isIn
set_option maxRecDepth 20000 in
theorem ggX11_zero_X11_pivotOf : GoodIn wsX11_zero wsX11_pivotOf := goodIn_r _ [105, 22, 26, 121, 122, 123, 124, 125, 126, 127, 128, 129, 130, 131, 132, 133, 134, 135, 136, 137, 138, 139, 140, 141, 142, 143, 144, 145, 146, 147, 148, 149, 150, 151, 152, 153, 154, 155, 156] rfl rfl
set_option maxRecDepth 20000 in
theorem gX11_zero_X11_pivotOf : GoodIn wsX11_zero (wsV RX11 169 RX11 yX11_pivotOf wsX11_pivotOf) := goodIn_app (goodIn_of _ (by decide +kernel)) ggX11_zero_X11_pivotOf
set_option maxRecDepth 20000 in
theorem ggX11_zero_X11_solves : GoodIn wsX11_zero wsX11_solves := goodIn_r _ [109, 110, 111, 112, 22, 113, 114, 115, 7, 116, 25, 26, 16, 2, 17, 61, 62, 63, 33, 34, 35, 87, 88, 89, 90, 68, 69, 70, 71, 72, 73, 74, 75, 76, 91, 92, 93, 94, 64, 65, 66, 67, 121, 122, 123, 124, 125, 126, 127, 128, 129, 130, 131, 132, 133, 134, 135, 136, 137, 138, 139, 140, 141, 142, 143, 144, 145, 146, 147, 148, 149, 150, 151, 152, 153, 154, 155, 156] rfl rfl
set_option maxRecDepth 20000 in
theorem gX11_zero_X11_solves : GoodIn wsX11_zero (wsV RX11 238 RX11 yX11_solves wsX11_solves) := goodIn_app (goodIn_of _ (by decide +kernel)) ggX11_zero_X11_solves
set_option maxRecDepth 20000 in
theorem ggX11_zero_X11_has : GoodIn wsX11_zero wsX11_has := goodIn_r _ [120, 112, 3, 111, 110, 121, 122, 123, 124, 125, 126, 127, 128, 129, 130, 131, 132, 133, 134, 135, 136, 137, 138, 139, 140, 141, 142, 143, 144, 145, 146, 147, 148, 149, 150, 151, 152, 153, 154, 155, 156] rfl rfl
set_option maxRecDepth 20000 in
theorem gX11_zero_X11_has : GoodIn wsX11_zero (wsV RX11 245 RX11 yX11_has wsX11_has) := goodIn_app (goodIn_of _ (by decide +kernel)) ggX11_zero_X11_has
theorem dX11_zero_0 : decode cX11_zero 0 = .ok (.aload_n 0, 1) := by decide +kernel
theorem dX11_zero_1 : decode cX11_zero 1 = .ok (.iconst 0, 1) := by decide +kernel
theorem dX11_zero_2 : decode cX11_zero 2 = .ok (.invokevirtual 202, 3) := by decide +kernel
theorem dX11_zero_5 : decode cX11_zero 5 = .ok (.aload_n 0, 1) := by decide +kernel
theorem dX11_zero_6 : decode cX11_zero 6 = .ok (.iconst 1, 1) := by decide +kernel
theorem dX11_zero_7 : decode cX11_zero 7 = .ok (.invokevirtual 166, 3) := by decide +kernel
theorem dX11_zero_10 : decode cX11_zero 10 = .ok (.aload_n 0, 1) := by decide +kernel
theorem dX11_zero_11 : decode cX11_zero 11 = .ok (.getfield 120, 3) := by decide +kernel
theorem dX11_zero_14 : decode cX11_zero 14 = .ok (.ifCond .ne 40, 3) := by decide +kernel
theorem dX11_zero_17 : decode cX11_zero 17 = .ok (.iload_n 1, 1) := by decide +kernel
theorem dX11_zero_18 : decode cX11_zero 18 = .ok (.iconst 0, 1) := by decide +kernel
theorem dX11_zero_19 : decode cX11_zero 19 = .ok (.aload_n 0, 1) := by decide +kernel
theorem dX11_zero_20 : decode cX11_zero 20 = .ok (.getfield 93, 3) := by decide +kernel
theorem dX11_zero_23 : decode cX11_zero 23 = .ok (.iconst 1, 1) := by decide +kernel
theorem dX11_zero_24 : decode cX11_zero 24 = .ok (.isub, 1) := by decide +kernel
theorem dX11_zero_25 : decode cX11_zero 25 = .ok (.invokestatic 85, 3) := by decide +kernel
theorem dX11_zero_28 : decode cX11_zero 28 = .ok (.ifCond .eq 26, 3) := by decide +kernel
theorem dX11_zero_31 : decode cX11_zero 31 = .ok (.iload_n 2, 1) := by decide +kernel
theorem dX11_zero_32 : decode cX11_zero 32 = .ok (.iconst 0, 1) := by decide +kernel
theorem dX11_zero_33 : decode cX11_zero 33 = .ok (.aload_n 0, 1) := by decide +kernel
theorem dX11_zero_34 : decode cX11_zero 34 = .ok (.getfield 93, 3) := by decide +kernel
theorem dX11_zero_37 : decode cX11_zero 37 = .ok (.iconst 1, 1) := by decide +kernel
theorem dX11_zero_38 : decode cX11_zero 38 = .ok (.isub, 1) := by decide +kernel
theorem dX11_zero_39 : decode cX11_zero 39 = .ok (.invokestatic 85, 3) := by decide +kernel
theorem dX11_zero_42 : decode cX11_zero 42 = .ok (.ifCond .eq 12, 3) := by decide +kernel
theorem dX11_zero_45 : decode cX11_zero 45 = .ok (.aload_n 0, 1) := by decide +kernel
theorem dX11_zero_46 : decode cX11_zero 46 = .ok (.iload_n 1, 1) := by decide +kernel
theorem dX11_zero_47 : decode cX11_zero 47 = .ok (.invokevirtual 169, 3) := by decide +kernel
theorem dX11_zero_50 : decode cX11_zero 50 = .ok (.iconst (-1), 1) := by decide +kernel
theorem dX11_zero_51 : decode cX11_zero 51 = .ok (.if_icmp .eq 6, 3) := by decide +kernel
theorem dX11_zero_54 : decode cX11_zero 54 = .ok (.ldc 165, 2) := by decide +kernel
theorem dX11_zero_56 : decode cX11_zero 56 = .ok (.ireturn, 1) := by decide +kernel
theorem dX11_zero_57 : decode cX11_zero 57 = .ok (.aload_n 0, 1) := by decide +kernel
theorem dX11_zero_58 : decode cX11_zero 58 = .ok (.iload_n 1, 1) := by decide +kernel
theorem dX11_zero_59 : decode cX11_zero 59 = .ok (.invokevirtual 238, 3) := by decide +kernel
theorem dX11_zero_62 : decode cX11_zero 62 = .ok (.aload_n 0, 1) := by decide +kernel
theorem dX11_zero_63 : decode cX11_zero 63 = .ok (.iload_n 2, 1) := by decide +kernel
theorem dX11_zero_64 : decode cX11_zero 64 = .ok (.iload_n 3, 1) := by decide +kernel
theorem dX11_zero_65 : decode cX11_zero 65 = .ok (.invokevirtual 245, 3) := by decide +kernel
theorem dX11_zero_68 : decode cX11_zero 68 = .ok (.ireturn, 1) := by decide +kernel
set_option maxRecDepth 20000 in
theorem ggX11_determinant_X11_begins : GoodIn wsX11_determinant wsX11_begins := goodIn_r _ [8, 9, 10, 11, 12, 13, 7, 14, 15, 1, 2, 16, 17, 111, 112, 113, 114, 115, 116, 117, 118, 119, 120, 121, 122, 123, 124, 125, 126, 127, 128, 129, 130, 131, 132, 133, 134, 135, 136, 137, 138, 139, 140, 141, 142, 143, 144, 145, 146] rfl rfl
set_option maxRecDepth 20000 in
theorem gX11_determinant_X11_begins : GoodIn wsX11_determinant (wsV RX11 202 RX11 yX11_begins wsX11_begins) := goodIn_app (goodIn_of _ (by decide +kernel)) ggX11_determinant_X11_begins
set_option maxRecDepth 20000 in
theorem ggX11_determinant_X11_hasDeterminant : GoodIn wsX11_determinant wsX11_hasDeterminant := goodIn_r _ [21, 10, 22, 1, 23, 24, 25, 26, 16, 17, 27, 2, 28, 29, 30, 7, 31, 32, 33, 34, 35, 36, 37, 38, 39, 40, 41, 42, 43, 44, 45, 46, 47, 48, 49, 50, 51, 52, 53, 54, 55, 56, 57, 58, 59, 60, 61, 62, 63, 64, 65, 66, 67, 68, 69, 70, 71, 72, 73, 74, 75, 76, 77, 78, 79, 80, 81, 82, 83, 84, 85, 86, 87, 88, 89, 90, 91, 92, 93, 94, 95, 96, 97, 98, 99, 100, 101, 102, 103, 104, 105, 106, 111, 112, 113, 114, 115, 116, 117, 118, 119, 120, 121, 122, 123, 124, 125, 126, 127, 128, 129, 130, 131, 132, 133, 134, 135, 136, 137, 138, 139, 140, 141, 142, 143, 144, 145, 146] rfl rfl
set_option maxRecDepth 20000 in
theorem gX11_determinant_X11_hasDeterminant : GoodIn wsX11_determinant (wsV RX11 249 RX11 yX11_hasDeterminant wsX11_hasDeterminant) := goodIn_app (goodIn_of _ (by decide +kernel)) ggX11_determinant_X11_hasDeterminant
set_option maxRecDepth 20000 in
theorem ggX11_determinant_X11_tells : GoodIn wsX11_determinant wsX11_tells := goodIn_r _ [110, 26, 25, 111, 112, 113, 114, 115, 116, 117, 118, 119, 120, 121, 122, 123, 124, 125, 126, 127, 128, 129, 130, 131, 132, 133, 134, 135, 136, 137, 138, 139, 140, 141, 142, 143, 144, 145, 146] rfl rfl
set_option maxRecDepth 20000 in
theorem gX11_determinant_X11_tells : GoodIn wsX11_determinant (wsV RX11 252 RX11 yX11_tells wsX11_tells) := goodIn_app (goodIn_of _ (by decide +kernel)) ggX11_determinant_X11_tells
theorem dX11_determinant_0 : decode cX11_determinant 0 = .ok (.aload_n 0, 1) := by decide +kernel
theorem dX11_determinant_1 : decode cX11_determinant 1 = .ok (.iconst 0, 1) := by decide +kernel
theorem dX11_determinant_2 : decode cX11_determinant 2 = .ok (.invokevirtual 202, 3) := by decide +kernel
theorem dX11_determinant_5 : decode cX11_determinant 5 = .ok (.aload_n 0, 1) := by decide +kernel
theorem dX11_determinant_6 : decode cX11_determinant 6 = .ok (.getfield 96, 3) := by decide +kernel
theorem dX11_determinant_9 : decode cX11_determinant 9 = .ok (.aload_n 0, 1) := by decide +kernel
theorem dX11_determinant_10 : decode cX11_determinant 10 = .ok (.getfield 93, 3) := by decide +kernel
theorem dX11_determinant_13 : decode cX11_determinant 13 = .ok (.if_icmp .ne 18, 3) := by decide +kernel
theorem dX11_determinant_16 : decode cX11_determinant 16 = .ok (.aload_n 0, 1) := by decide +kernel
theorem dX11_determinant_17 : decode cX11_determinant 17 = .ok (.invokevirtual 249, 3) := by decide +kernel
theorem dX11_determinant_20 : decode cX11_determinant 20 = .ok (.ifCond .eq 11, 3) := by decide +kernel
theorem dX11_determinant_23 : decode cX11_determinant 23 = .ok (.aload_n 0, 1) := by decide +kernel
theorem dX11_determinant_24 : decode cX11_determinant 24 = .ok (.iload_n 1, 1) := by decide +kernel
theorem dX11_determinant_25 : decode cX11_determinant 25 = .ok (.invokevirtual 252, 3) := by decide +kernel
theorem dX11_determinant_28 : decode cX11_determinant 28 = .ok (.goto 5, 3) := by decide +kernel
theorem dX11_determinant_31 : decode cX11_determinant 31 = .ok (.ldc 165, 2) := by decide +kernel
theorem dX11_determinant_33 : decode cX11_determinant 33 = .ok (.ireturn, 1) := by decide +kernel
set_option maxRecDepth 20000 in
theorem ggX11_inverse_X11_begins : GoodIn wsX11_inverse wsX11_begins := goodIn_r _ [10, 11, 4, 12, 13, 14, 9, 15, 16, 1, 2, 17, 18, 121, 122, 123, 124, 125, 126, 127, 128, 129, 130, 131, 132, 133, 134, 135, 136, 137, 138, 139, 140, 141, 142, 143, 144, 145, 146, 147, 148, 149, 150, 151, 152, 153, 154, 155, 156] rfl rfl
set_option maxRecDepth 20000 in
theorem gX11_inverse_X11_begins : GoodIn wsX11_inverse (wsV RX11 202 RX11 yX11_begins wsX11_begins) := goodIn_app (goodIn_of _ (by decide +kernel)) ggX11_inverse_X11_begins
set_option maxRecDepth 20000 in
theorem ggX11_inverse_X11_isRow : GoodIn wsX11_inverse wsX11_isRow := goodIn_r _ [22, 1, 23, 24, 9, 25, 121, 122, 123, 124, 125, 126, 127, 128, 129, 130, 131, 132, 133, 134, 135, 136, 137, 138, 139, 140, 141, 142, 143, 144, 145, 146, 147, 148, 149, 150, 151, 152, 153, 154, 155, 156] rfl rfl
set_option maxRecDepth 20000 in
theorem gX11_inverse_X11_isRow : GoodIn wsX11_inverse (wsV RX11 178 RX11 yX11_isRow wsX11_isRow) := goodIn_app (goodIn_of _ (by decide +kernel)) ggX11_inverse_X11_isRow
set_option maxRecDepth 20000 in
theorem ggX11_inverse_X11_laysCell : GoodIn wsX11_inverse wsX11_laysCell := goodIn_r _ [29, 17, 18, 30, 31, 9, 32, 121, 122, 123, 124, 125, 126, 127, 128, 129, 130, 131, 132, 133, 134, 135, 136, 137, 138, 139, 140, 141, 142, 143, 144, 145, 146, 147, 148, 149, 150, 151, 152, 153, 154, 155, 156] rfl rfl
set_option maxRecDepth 20000 in
theorem gX11_inverse_X11_laysCell : GoodIn wsX11_inverse (wsV RX11 143 RX11 yX11_laysCell wsX11_laysCell) := goodIn_app (goodIn_of _ (by decide +kernel)) ggX11_inverse_X11_laysCell
set_option maxRecDepth 20000 in
theorem ggX11_inverse_X11_goes : GoodIn wsX11_inverse wsX11_goes := goodIn_r _ [36, 5, 4, 37, 38, 39, 40, 41, 42, 43, 9, 44, 1, 2, 17, 45, 46, 30, 31, 32, 47, 48, 49, 50, 51, 52, 53, 54, 55, 56, 57, 58, 59, 60, 61, 62, 63, 64, 65, 66, 18, 67, 68, 69, 70, 71, 72, 73, 74, 75, 76, 77, 78, 79, 80, 81, 82, 83, 84, 85, 86, 87, 88, 89, 90, 91, 92, 93, 94, 95, 96, 97, 98, 99, 100, 101, 102, 103, 104, 105, 26, 27, 28, 29, 121, 122, 123, 124, 125, 126, 127, 128, 129, 130, 131, 132, 133, 134, 135, 136, 137, 138, 139, 140, 141, 142, 143, 144, 145, 146, 147, 148, 149, 150, 151, 152, 153, 154, 155, 156] rfl rfl
set_option maxRecDepth 20000 in
theorem gX11_inverse_X11_goes : GoodIn wsX11_inverse (wsV RX11 166 RX11 yX11_goes wsX11_goes) := goodIn_app (goodIn_of _ (by decide +kernel)) ggX11_inverse_X11_goes
set_option maxRecDepth 20000 in
theorem ggX11_inverse_X11_solves : GoodIn wsX11_inverse wsX11_solves := goodIn_r _ [109, 110, 111, 112, 5, 113, 114, 115, 9, 116, 39, 40, 17, 2, 18, 72, 73, 74, 30, 31, 32, 98, 99, 100, 101, 79, 80, 81, 82, 83, 84, 85, 86, 87, 102, 103, 104, 105, 75, 76, 77, 78, 121, 122, 123, 124, 125, 126, 127, 128, 129, 130, 131, 132, 133, 134, 135, 136, 137, 138, 139, 140, 141, 142, 143, 144, 145, 146, 147, 148, 149, 150, 151, 152, 153, 154, 155, 156] rfl rfl
set_option maxRecDepth 20000 in
theorem gX11_inverse_X11_solves : GoodIn wsX11_inverse (wsV RX11 238 RX11 yX11_solves wsX11_solves) := goodIn_app (goodIn_of _ (by decide +kernel)) ggX11_inverse_X11_solves
set_option maxRecDepth 20000 in
theorem ggX11_inverse_X11_has : GoodIn wsX11_inverse wsX11_has := goodIn_r _ [120, 112, 3, 111, 110, 121, 122, 123, 124, 125, 126, 127, 128, 129, 130, 131, 132, 133, 134, 135, 136, 137, 138, 139, 140, 141, 142, 143, 144, 145, 146, 147, 148, 149, 150, 151, 152, 153, 154, 155, 156] rfl rfl
set_option maxRecDepth 20000 in
theorem gX11_inverse_X11_has : GoodIn wsX11_inverse (wsV RX11 245 RX11 yX11_has wsX11_has) := goodIn_app (goodIn_of _ (by decide +kernel)) ggX11_inverse_X11_has
theorem dX11_inverse_0 : decode cX11_inverse 0 = .ok (.aload_n 0, 1) := by decide +kernel
theorem dX11_inverse_1 : decode cX11_inverse 1 = .ok (.iconst 0, 1) := by decide +kernel
theorem dX11_inverse_2 : decode cX11_inverse 2 = .ok (.invokevirtual 202, 3) := by decide +kernel
theorem dX11_inverse_5 : decode cX11_inverse 5 = .ok (.aload_n 0, 1) := by decide +kernel
theorem dX11_inverse_6 : decode cX11_inverse 6 = .ok (.getfield 96, 3) := by decide +kernel
theorem dX11_inverse_9 : decode cX11_inverse 9 = .ok (.aload_n 0, 1) := by decide +kernel
theorem dX11_inverse_10 : decode cX11_inverse 10 = .ok (.getfield 93, 3) := by decide +kernel
theorem dX11_inverse_13 : decode cX11_inverse 13 = .ok (.if_icmp .ne 19, 3) := by decide +kernel
theorem dX11_inverse_16 : decode cX11_inverse 16 = .ok (.aload_n 0, 1) := by decide +kernel
theorem dX11_inverse_17 : decode cX11_inverse 17 = .ok (.iload_n 1, 1) := by decide +kernel
theorem dX11_inverse_18 : decode cX11_inverse 18 = .ok (.invokevirtual 178, 3) := by decide +kernel
theorem dX11_inverse_21 : decode cX11_inverse 21 = .ok (.ifCond .eq 11, 3) := by decide +kernel
theorem dX11_inverse_24 : decode cX11_inverse 24 = .ok (.aload_n 0, 1) := by decide +kernel
theorem dX11_inverse_25 : decode cX11_inverse 25 = .ok (.iload_n 2, 1) := by decide +kernel
theorem dX11_inverse_26 : decode cX11_inverse 26 = .ok (.invokevirtual 178, 3) := by decide +kernel
theorem dX11_inverse_29 : decode cX11_inverse 29 = .ok (.ifCond .ne 6, 3) := by decide +kernel
theorem dX11_inverse_32 : decode cX11_inverse 32 = .ok (.ldc 165, 2) := by decide +kernel
theorem dX11_inverse_34 : decode cX11_inverse 34 = .ok (.ireturn, 1) := by decide +kernel
theorem dX11_inverse_35 : decode cX11_inverse 35 = .ok (.iconst 0, 1) := by decide +kernel
theorem dX11_inverse_36 : decode cX11_inverse 36 = .ok (.istore 4, 2) := by decide +kernel
theorem dX11_inverse_38 : decode cX11_inverse 38 = .ok (.iload 4, 2) := by decide +kernel
theorem dX11_inverse_40 : decode cX11_inverse 40 = .ok (.aload_n 0, 1) := by decide +kernel
theorem dX11_inverse_41 : decode cX11_inverse 41 = .ok (.getfield 96, 3) := by decide +kernel
theorem dX11_inverse_44 : decode cX11_inverse 44 = .ok (.if_icmp .ge 31, 3) := by decide +kernel
theorem dX11_inverse_47 : decode cX11_inverse 47 = .ok (.aload_n 0, 1) := by decide +kernel
theorem dX11_inverse_48 : decode cX11_inverse 48 = .ok (.iload 4, 2) := by decide +kernel
theorem dX11_inverse_50 : decode cX11_inverse 50 = .ok (.aload_n 0, 1) := by decide +kernel
theorem dX11_inverse_51 : decode cX11_inverse 51 = .ok (.getfield 93, 3) := by decide +kernel
theorem dX11_inverse_54 : decode cX11_inverse 54 = .ok (.iload 4, 2) := by decide +kernel
theorem dX11_inverse_56 : decode cX11_inverse 56 = .ok (.iload_n 2, 1) := by decide +kernel
theorem dX11_inverse_57 : decode cX11_inverse 57 = .ok (.if_icmp .ne 7, 3) := by decide +kernel
theorem dX11_inverse_60 : decode cX11_inverse 60 = .ok (.lconst 1, 1) := by decide +kernel
theorem dX11_inverse_61 : decode cX11_inverse 61 = .ok (.goto 4, 3) := by decide +kernel
theorem dX11_inverse_64 : decode cX11_inverse 64 = .ok (.lconst 0, 1) := by decide +kernel
theorem dX11_inverse_65 : decode cX11_inverse 65 = .ok (.lconst 1, 1) := by decide +kernel
theorem dX11_inverse_66 : decode cX11_inverse 66 = .ok (.invokevirtual 143, 3) := by decide +kernel
theorem dX11_inverse_69 : decode cX11_inverse 69 = .ok (.iinc 4 1, 3) := by decide +kernel
theorem dX11_inverse_72 : decode cX11_inverse 72 = .ok (.goto (-34), 3) := by decide +kernel
theorem dX11_inverse_75 : decode cX11_inverse 75 = .ok (.aload_n 0, 1) := by decide +kernel
theorem dX11_inverse_76 : decode cX11_inverse 76 = .ok (.iconst 1, 1) := by decide +kernel
theorem dX11_inverse_77 : decode cX11_inverse 77 = .ok (.invokevirtual 166, 3) := by decide +kernel
theorem dX11_inverse_80 : decode cX11_inverse 80 = .ok (.aload_n 0, 1) := by decide +kernel
theorem dX11_inverse_81 : decode cX11_inverse 81 = .ok (.getfield 120, 3) := by decide +kernel
theorem dX11_inverse_84 : decode cX11_inverse 84 = .ok (.ifCond .ne 14, 3) := by decide +kernel
theorem dX11_inverse_87 : decode cX11_inverse 87 = .ok (.aload_n 0, 1) := by decide +kernel
theorem dX11_inverse_88 : decode cX11_inverse 88 = .ok (.getfield 117, 3) := by decide +kernel
theorem dX11_inverse_91 : decode cX11_inverse 91 = .ok (.aload_n 0, 1) := by decide +kernel
theorem dX11_inverse_92 : decode cX11_inverse 92 = .ok (.getfield 96, 3) := by decide +kernel
theorem dX11_inverse_95 : decode cX11_inverse 95 = .ok (.if_icmp .ge 6, 3) := by decide +kernel
theorem dX11_inverse_98 : decode cX11_inverse 98 = .ok (.ldc 165, 2) := by decide +kernel
theorem dX11_inverse_100 : decode cX11_inverse 100 = .ok (.ireturn, 1) := by decide +kernel
theorem dX11_inverse_101 : decode cX11_inverse 101 = .ok (.aload_n 0, 1) := by decide +kernel
theorem dX11_inverse_102 : decode cX11_inverse 102 = .ok (.iconst (-1), 1) := by decide +kernel
theorem dX11_inverse_103 : decode cX11_inverse 103 = .ok (.invokevirtual 238, 3) := by decide +kernel
theorem dX11_inverse_106 : decode cX11_inverse 106 = .ok (.aload_n 0, 1) := by decide +kernel
theorem dX11_inverse_107 : decode cX11_inverse 107 = .ok (.iload_n 1, 1) := by decide +kernel
theorem dX11_inverse_108 : decode cX11_inverse 108 = .ok (.iload_n 3, 1) := by decide +kernel
theorem dX11_inverse_109 : decode cX11_inverse 109 = .ok (.invokevirtual 245, 3) := by decide +kernel
theorem dX11_inverse_112 : decode cX11_inverse 112 = .ok (.ireturn, 1) := by decide +kernel
set_option maxRecDepth 20000 in
theorem ggX11_noSides_X11_laysCell : GoodIn wsX11_noSides wsX11_laysCell := goodIn_r _ [6, 7, 8, 9, 10, 5, 11, 12, 13, 14, 15, 16, 17, 18, 19, 20, 21, 22, 23, 24, 25, 26, 27, 28, 29, 30, 31, 32, 33, 34, 35, 36, 37, 38, 39, 40, 41, 42, 43, 44, 45, 46, 47] rfl rfl
set_option maxRecDepth 20000 in
theorem gX11_noSides_X11_laysCell : GoodIn wsX11_noSides (wsV RX11 143 RX11 yX11_laysCell wsX11_laysCell) := goodIn_app (goodIn_of _ (by decide +kernel)) ggX11_noSides_X11_laysCell
theorem dX11_noSides_0 : decode cX11_noSides 0 = .ok (.iconst 0, 1) := by decide +kernel
theorem dX11_noSides_1 : decode cX11_noSides 1 = .ok (.istore_n 1, 1) := by decide +kernel
theorem dX11_noSides_2 : decode cX11_noSides 2 = .ok (.iload_n 1, 1) := by decide +kernel
theorem dX11_noSides_3 : decode cX11_noSides 3 = .ok (.bipush 6, 2) := by decide +kernel
theorem dX11_noSides_5 : decode cX11_noSides 5 = .ok (.if_icmp .ge 20, 3) := by decide +kernel
theorem dX11_noSides_8 : decode cX11_noSides 8 = .ok (.aload_n 0, 1) := by decide +kernel
theorem dX11_noSides_9 : decode cX11_noSides 9 = .ok (.iload_n 1, 1) := by decide +kernel
theorem dX11_noSides_10 : decode cX11_noSides 10 = .ok (.aload_n 0, 1) := by decide +kernel
theorem dX11_noSides_11 : decode cX11_noSides 11 = .ok (.getfield 93, 3) := by decide +kernel
theorem dX11_noSides_14 : decode cX11_noSides 14 = .ok (.lconst 0, 1) := by decide +kernel
theorem dX11_noSides_15 : decode cX11_noSides 15 = .ok (.lconst 1, 1) := by decide +kernel
theorem dX11_noSides_16 : decode cX11_noSides 16 = .ok (.invokevirtual 143, 3) := by decide +kernel
theorem dX11_noSides_19 : decode cX11_noSides 19 = .ok (.iinc 1 1, 3) := by decide +kernel
theorem dX11_noSides_22 : decode cX11_noSides 22 = .ok (.goto (-20), 3) := by decide +kernel
theorem dX11_noSides_25 : decode cX11_noSides 25 = .ok (.return_, 1) := by decide +kernel
set_option maxRecDepth 20000 in
theorem ggX11_minor_X11_begins : GoodIn wsX11_minor wsX11_begins := goodIn_r _ [11, 12, 13, 14, 15, 16, 10, 17, 18, 1, 2, 4, 5, 122, 123, 124, 125, 126, 127, 128, 129, 130, 131, 132, 133, 134, 135, 136, 137, 138, 139, 140, 141, 142, 143, 144, 145, 146, 147, 148, 149, 150, 151, 152, 153, 154, 155, 156, 157] rfl rfl
set_option maxRecDepth 20000 in
theorem gX11_minor_X11_begins : GoodIn wsX11_minor (wsV RX11 202 RX11 yX11_begins wsX11_begins) := goodIn_app (goodIn_of _ (by decide +kernel)) ggX11_minor_X11_begins
set_option maxRecDepth 20000 in
theorem ggX11_minor_X11_isRow : GoodIn wsX11_minor wsX11_isRow := goodIn_r _ [22, 1, 23, 24, 10, 25, 122, 123, 124, 125, 126, 127, 128, 129, 130, 131, 132, 133, 134, 135, 136, 137, 138, 139, 140, 141, 142, 143, 144, 145, 146, 147, 148, 149, 150, 151, 152, 153, 154, 155, 156, 157] rfl rfl
set_option maxRecDepth 20000 in
theorem gX11_minor_X11_isRow : GoodIn wsX11_minor (wsV RX11 178 RX11 yX11_isRow wsX11_isRow) := goodIn_app (goodIn_of _ (by decide +kernel)) ggX11_minor_X11_isRow
set_option maxRecDepth 20000 in
theorem ggX11_minor_X11_cell : GoodIn wsX11_minor wsX11_cell := goodIn_r _ [28] rfl rfl
set_option maxRecDepth 20000 in
theorem gX11_minor_X11_cell : GoodIn wsX11_minor (va_wsS RX11 89 yX11_cell wsX11_cell) := goodIn_app (goodIn_of _ (by decide +kernel)) ggX11_minor_X11_cell
set_option maxRecDepth 20000 in
theorem ggX11_minor_X11_laysCell : GoodIn wsX11_minor wsX11_laysCell := goodIn_r _ [32, 4, 5, 26, 27, 10, 28, 122, 123, 124, 125, 126, 127, 128, 129, 130, 131, 132, 133, 134, 135, 136, 137, 138, 139, 140, 141, 142, 143, 144, 145, 146, 147, 148, 149, 150, 151, 152, 153, 154, 155, 156, 157] rfl rfl
set_option maxRecDepth 20000 in
theorem gX11_minor_X11_laysCell : GoodIn wsX11_minor (wsV RX11 143 RX11 yX11_laysCell wsX11_laysCell) := goodIn_app (goodIn_of _ (by decide +kernel)) ggX11_minor_X11_laysCell
set_option maxRecDepth 20000 in
theorem ggX11_minor_X11_noSides : GoodIn wsX11_minor wsX11_noSides := goodIn_r _ [36, 2, 29, 30, 31, 10, 32, 4, 5, 26, 27, 28, 122, 123, 124, 125, 126, 127, 128, 129, 130, 131, 132, 133, 134, 135, 136, 137, 138, 139, 140, 141, 142, 143, 144, 145, 146, 147, 148, 149, 150, 151, 152, 153, 154, 155, 156, 157] rfl rfl
set_option maxRecDepth 20000 in
theorem gX11_minor_X11_noSides : GoodIn wsX11_minor (wsV RX11 256 RX11 yX11_noSides wsX11_noSides) := goodIn_app (goodIn_of _ (by decide +kernel)) ggX11_minor_X11_noSides
set_option maxRecDepth 20000 in
theorem ggX11_minor_X11_hasDeterminant : GoodIn wsX11_minor wsX11_hasDeterminant := goodIn_r _ [40, 13, 41, 1, 42, 43, 6, 44, 4, 5, 45, 2, 46, 47, 48, 10, 49, 50, 51, 52, 53, 54, 55, 56, 57, 26, 27, 28, 58, 59, 60, 61, 62, 63, 64, 65, 66, 67, 68, 69, 70, 71, 72, 73, 74, 75, 76, 77, 78, 79, 80, 81, 82, 83, 84, 85, 86, 87, 88, 89, 90, 91, 92, 93, 94, 95, 96, 97, 98, 99, 100, 101, 102, 103, 104, 105, 106, 107, 108, 109, 110, 111, 112, 113, 29, 30, 31, 32, 114, 115, 116, 117, 122, 123, 124, 125, 126, 127, 128, 129, 130, 131, 132, 133, 134, 135, 136, 137, 138, 139, 140, 141, 142, 143, 144, 145, 146, 147, 148, 149, 150, 151, 152, 153, 154, 155, 156, 157] rfl rfl
set_option maxRecDepth 20000 in
theorem gX11_minor_X11_hasDeterminant : GoodIn wsX11_minor (wsV RX11 249 RX11 yX11_hasDeterminant wsX11_hasDeterminant) := goodIn_app (goodIn_of _ (by decide +kernel)) ggX11_minor_X11_hasDeterminant
set_option maxRecDepth 20000 in
theorem ggX11_minor_X11_tells : GoodIn wsX11_minor wsX11_tells := goodIn_r _ [121, 44, 6, 122, 123, 124, 125, 126, 127, 128, 129, 130, 131, 132, 133, 134, 135, 136, 137, 138, 139, 140, 141, 142, 143, 144, 145, 146, 147, 148, 149, 150, 151, 152, 153, 154, 155, 156, 157] rfl rfl
set_option maxRecDepth 20000 in
theorem gX11_minor_X11_tells : GoodIn wsX11_minor (wsV RX11 252 RX11 yX11_tells wsX11_tells) := goodIn_app (goodIn_of _ (by decide +kernel)) ggX11_minor_X11_tells
theorem dX11_minor_0 : decode cX11_minor 0 = .ok (.aload_n 0, 1) := by decide +kernel
theorem dX11_minor_1 : decode cX11_minor 1 = .ok (.iconst 0, 1) := by decide +kernel
theorem dX11_minor_2 : decode cX11_minor 2 = .ok (.invokevirtual 202, 3) := by decide +kernel
theorem dX11_minor_5 : decode cX11_minor 5 = .ok (.aload_n 0, 1) := by decide +kernel
theorem dX11_minor_6 : decode cX11_minor 6 = .ok (.getfield 96, 3) := by decide +kernel
theorem dX11_minor_9 : decode cX11_minor 9 = .ok (.aload_n 0, 1) := by decide +kernel
theorem dX11_minor_10 : decode cX11_minor 10 = .ok (.getfield 93, 3) := by decide +kernel
theorem dX11_minor_13 : decode cX11_minor 13 = .ok (.if_icmp .ne 19, 3) := by decide +kernel
theorem dX11_minor_16 : decode cX11_minor 16 = .ok (.aload_n 0, 1) := by decide +kernel
theorem dX11_minor_17 : decode cX11_minor 17 = .ok (.iload_n 1, 1) := by decide +kernel
theorem dX11_minor_18 : decode cX11_minor 18 = .ok (.invokevirtual 178, 3) := by decide +kernel
theorem dX11_minor_21 : decode cX11_minor 21 = .ok (.ifCond .eq 11, 3) := by decide +kernel
theorem dX11_minor_24 : decode cX11_minor 24 = .ok (.aload_n 0, 1) := by decide +kernel
theorem dX11_minor_25 : decode cX11_minor 25 = .ok (.iload_n 2, 1) := by decide +kernel
theorem dX11_minor_26 : decode cX11_minor 26 = .ok (.invokevirtual 178, 3) := by decide +kernel
theorem dX11_minor_29 : decode cX11_minor 29 = .ok (.ifCond .ne 6, 3) := by decide +kernel
theorem dX11_minor_32 : decode cX11_minor 32 = .ok (.ldc 165, 2) := by decide +kernel
theorem dX11_minor_34 : decode cX11_minor 34 = .ok (.ireturn, 1) := by decide +kernel
theorem dX11_minor_35 : decode cX11_minor 35 = .ok (.aload_n 0, 1) := by decide +kernel
theorem dX11_minor_36 : decode cX11_minor 36 = .ok (.getfield 96, 3) := by decide +kernel
theorem dX11_minor_39 : decode cX11_minor 39 = .ok (.iconst 1, 1) := by decide +kernel
theorem dX11_minor_40 : decode cX11_minor 40 = .ok (.if_icmp .ne 5, 3) := by decide +kernel
theorem dX11_minor_43 : decode cX11_minor 43 = .ok (.iconst 1, 1) := by decide +kernel
theorem dX11_minor_44 : decode cX11_minor 44 = .ok (.ireturn, 1) := by decide +kernel
theorem dX11_minor_45 : decode cX11_minor 45 = .ok (.aload_n 0, 1) := by decide +kernel
theorem dX11_minor_46 : decode cX11_minor 46 = .ok (.getfield 96, 3) := by decide +kernel
theorem dX11_minor_49 : decode cX11_minor 49 = .ok (.iconst 1, 1) := by decide +kernel
theorem dX11_minor_50 : decode cX11_minor 50 = .ok (.isub, 1) := by decide +kernel
theorem dX11_minor_51 : decode cX11_minor 51 = .ok (.istore 4, 2) := by decide +kernel
theorem dX11_minor_53 : decode cX11_minor 53 = .ok (.iconst 0, 1) := by decide +kernel
theorem dX11_minor_54 : decode cX11_minor 54 = .ok (.istore 5, 2) := by decide +kernel
theorem dX11_minor_56 : decode cX11_minor 56 = .ok (.iload 5, 2) := by decide +kernel
theorem dX11_minor_58 : decode cX11_minor 58 = .ok (.iload 4, 2) := by decide +kernel
theorem dX11_minor_60 : decode cX11_minor 60 = .ok (.if_icmp .ge 84, 3) := by decide +kernel
theorem dX11_minor_63 : decode cX11_minor 63 = .ok (.iconst 0, 1) := by decide +kernel
theorem dX11_minor_64 : decode cX11_minor 64 = .ok (.istore 6, 2) := by decide +kernel
theorem dX11_minor_66 : decode cX11_minor 66 = .ok (.iload 6, 2) := by decide +kernel
theorem dX11_minor_68 : decode cX11_minor 68 = .ok (.iload 4, 2) := by decide +kernel
theorem dX11_minor_70 : decode cX11_minor 70 = .ok (.if_icmp .ge 68, 3) := by decide +kernel
theorem dX11_minor_73 : decode cX11_minor 73 = .ok (.iload 5, 2) := by decide +kernel
theorem dX11_minor_75 : decode cX11_minor 75 = .ok (.iload_n 1, 1) := by decide +kernel
theorem dX11_minor_76 : decode cX11_minor 76 = .ok (.if_icmp .ge 8, 3) := by decide +kernel
theorem dX11_minor_79 : decode cX11_minor 79 = .ok (.iload 5, 2) := by decide +kernel
theorem dX11_minor_81 : decode cX11_minor 81 = .ok (.goto 7, 3) := by decide +kernel
theorem dX11_minor_84 : decode cX11_minor 84 = .ok (.iload 5, 2) := by decide +kernel
theorem dX11_minor_86 : decode cX11_minor 86 = .ok (.iconst 1, 1) := by decide +kernel
theorem dX11_minor_87 : decode cX11_minor 87 = .ok (.iadd, 1) := by decide +kernel
theorem dX11_minor_88 : decode cX11_minor 88 = .ok (.iload 6, 2) := by decide +kernel
theorem dX11_minor_90 : decode cX11_minor 90 = .ok (.iload_n 2, 1) := by decide +kernel
theorem dX11_minor_91 : decode cX11_minor 91 = .ok (.if_icmp .ge 8, 3) := by decide +kernel
theorem dX11_minor_94 : decode cX11_minor 94 = .ok (.iload 6, 2) := by decide +kernel
theorem dX11_minor_96 : decode cX11_minor 96 = .ok (.goto 7, 3) := by decide +kernel
theorem dX11_minor_99 : decode cX11_minor 99 = .ok (.iload 6, 2) := by decide +kernel
theorem dX11_minor_101 : decode cX11_minor 101 = .ok (.iconst 1, 1) := by decide +kernel
theorem dX11_minor_102 : decode cX11_minor 102 = .ok (.iadd, 1) := by decide +kernel
theorem dX11_minor_103 : decode cX11_minor 103 = .ok (.invokestatic 89, 3) := by decide +kernel
theorem dX11_minor_106 : decode cX11_minor 106 = .ok (.istore 7, 2) := by decide +kernel
theorem dX11_minor_108 : decode cX11_minor 108 = .ok (.aload_n 0, 1) := by decide +kernel
theorem dX11_minor_109 : decode cX11_minor 109 = .ok (.iload 5, 2) := by decide +kernel
theorem dX11_minor_111 : decode cX11_minor 111 = .ok (.iload 6, 2) := by decide +kernel
theorem dX11_minor_113 : decode cX11_minor 113 = .ok (.aload_n 0, 1) := by decide +kernel
theorem dX11_minor_114 : decode cX11_minor 114 = .ok (.getfield 24, 3) := by decide +kernel
theorem dX11_minor_117 : decode cX11_minor 117 = .ok (.iload 7, 2) := by decide +kernel
theorem dX11_minor_119 : decode cX11_minor 119 = .ok (.iaload, 1) := by decide +kernel
theorem dX11_minor_120 : decode cX11_minor 120 = .ok (.i2l, 1) := by decide +kernel
theorem dX11_minor_121 : decode cX11_minor 121 = .ok (.aload_n 0, 1) := by decide +kernel
theorem dX11_minor_122 : decode cX11_minor 122 = .ok (.getfield 27, 3) := by decide +kernel
theorem dX11_minor_125 : decode cX11_minor 125 = .ok (.iload 7, 2) := by decide +kernel
theorem dX11_minor_127 : decode cX11_minor 127 = .ok (.iaload, 1) := by decide +kernel
theorem dX11_minor_128 : decode cX11_minor 128 = .ok (.i2l, 1) := by decide +kernel
theorem dX11_minor_129 : decode cX11_minor 129 = .ok (.invokevirtual 143, 3) := by decide +kernel
theorem dX11_minor_132 : decode cX11_minor 132 = .ok (.iinc 6 1, 3) := by decide +kernel
theorem dX11_minor_135 : decode cX11_minor 135 = .ok (.goto (-69), 3) := by decide +kernel
theorem dX11_minor_138 : decode cX11_minor 138 = .ok (.iinc 5 1, 3) := by decide +kernel
theorem dX11_minor_141 : decode cX11_minor 141 = .ok (.goto (-85), 3) := by decide +kernel
theorem dX11_minor_144 : decode cX11_minor 144 = .ok (.aload_n 0, 1) := by decide +kernel
theorem dX11_minor_145 : decode cX11_minor 145 = .ok (.iload 4, 2) := by decide +kernel
theorem dX11_minor_147 : decode cX11_minor 147 = .ok (.putfield 96, 3) := by decide +kernel
theorem dX11_minor_150 : decode cX11_minor 150 = .ok (.aload_n 0, 1) := by decide +kernel
theorem dX11_minor_151 : decode cX11_minor 151 = .ok (.iload 4, 2) := by decide +kernel
theorem dX11_minor_153 : decode cX11_minor 153 = .ok (.putfield 93, 3) := by decide +kernel
theorem dX11_minor_156 : decode cX11_minor 156 = .ok (.aload_n 0, 1) := by decide +kernel
theorem dX11_minor_157 : decode cX11_minor 157 = .ok (.invokevirtual 256, 3) := by decide +kernel
theorem dX11_minor_160 : decode cX11_minor 160 = .ok (.aload_n 0, 1) := by decide +kernel
theorem dX11_minor_161 : decode cX11_minor 161 = .ok (.invokevirtual 249, 3) := by decide +kernel
theorem dX11_minor_164 : decode cX11_minor 164 = .ok (.ifCond .ne 6, 3) := by decide +kernel
theorem dX11_minor_167 : decode cX11_minor 167 = .ok (.ldc 165, 2) := by decide +kernel
theorem dX11_minor_169 : decode cX11_minor 169 = .ok (.ireturn, 1) := by decide +kernel
theorem dX11_minor_170 : decode cX11_minor 170 = .ok (.aload_n 0, 1) := by decide +kernel
theorem dX11_minor_171 : decode cX11_minor 171 = .ok (.iload_n 1, 1) := by decide +kernel
theorem dX11_minor_172 : decode cX11_minor 172 = .ok (.iload_n 2, 1) := by decide +kernel
theorem dX11_minor_173 : decode cX11_minor 173 = .ok (.iadd, 1) := by decide +kernel
theorem dX11_minor_174 : decode cX11_minor 174 = .ok (.iconst 2, 1) := by decide +kernel
theorem dX11_minor_175 : decode cX11_minor 175 = .ok (.irem, 1) := by decide +kernel
theorem dX11_minor_176 : decode cX11_minor 176 = .ok (.iconst 1, 1) := by decide +kernel
theorem dX11_minor_177 : decode cX11_minor 177 = .ok (.if_icmp .ne 11, 3) := by decide +kernel
theorem dX11_minor_180 : decode cX11_minor 180 = .ok (.aload_n 0, 1) := by decide +kernel
theorem dX11_minor_181 : decode cX11_minor 181 = .ok (.getfield 66, 3) := by decide +kernel
theorem dX11_minor_184 : decode cX11_minor 184 = .ok (.lneg, 1) := by decide +kernel
theorem dX11_minor_185 : decode cX11_minor 185 = .ok (.goto 7, 3) := by decide +kernel
theorem dX11_minor_188 : decode cX11_minor 188 = .ok (.aload_n 0, 1) := by decide +kernel
theorem dX11_minor_189 : decode cX11_minor 189 = .ok (.getfield 66, 3) := by decide +kernel
theorem dX11_minor_192 : decode cX11_minor 192 = .ok (.putfield 66, 3) := by decide +kernel
theorem dX11_minor_195 : decode cX11_minor 195 = .ok (.aload_n 0, 1) := by decide +kernel
theorem dX11_minor_196 : decode cX11_minor 196 = .ok (.iload_n 3, 1) := by decide +kernel
theorem dX11_minor_197 : decode cX11_minor 197 = .ok (.invokevirtual 252, 3) := by decide +kernel
theorem dX11_minor_200 : decode cX11_minor 200 = .ok (.ireturn, 1) := by decide +kernel
set_option maxRecDepth 20000 in
theorem ggX11_cramer_X11_begins : GoodIn wsX11_cramer wsX11_begins := goodIn_r _ [10, 11, 12, 13, 14, 15, 9, 16, 17, 1, 2, 4, 5, 122, 123, 124, 125, 126, 127, 128, 129, 130, 131, 132, 133, 134, 135, 136, 137, 138, 139, 140, 141, 142, 143, 144, 145, 146, 147, 148, 149, 150, 151, 152, 153, 154, 155, 156, 157] rfl rfl
set_option maxRecDepth 20000 in
theorem gX11_cramer_X11_begins : GoodIn wsX11_cramer (wsV RX11 202 RX11 yX11_begins wsX11_begins) := goodIn_app (goodIn_of _ (by decide +kernel)) ggX11_cramer_X11_begins
set_option maxRecDepth 20000 in
theorem ggX11_cramer_X11_isRow : GoodIn wsX11_cramer wsX11_isRow := goodIn_r _ [21, 1, 22, 23, 9, 24, 122, 123, 124, 125, 126, 127, 128, 129, 130, 131, 132, 133, 134, 135, 136, 137, 138, 139, 140, 141, 142, 143, 144, 145, 146, 147, 148, 149, 150, 151, 152, 153, 154, 155, 156, 157] rfl rfl
set_option maxRecDepth 20000 in
theorem gX11_cramer_X11_isRow : GoodIn wsX11_cramer (wsV RX11 178 RX11 yX11_isRow wsX11_isRow) := goodIn_app (goodIn_of _ (by decide +kernel)) ggX11_cramer_X11_isRow
set_option maxRecDepth 20000 in
theorem ggX11_cramer_X11_cell : GoodIn wsX11_cramer wsX11_cell := goodIn_r _ [27] rfl rfl
set_option maxRecDepth 20000 in
theorem gX11_cramer_X11_cell : GoodIn wsX11_cramer (va_wsS RX11 89 yX11_cell wsX11_cell) := goodIn_app (goodIn_of _ (by decide +kernel)) ggX11_cramer_X11_cell
set_option maxRecDepth 20000 in
theorem ggX11_cramer_X11_laysCell : GoodIn wsX11_cramer wsX11_laysCell := goodIn_r _ [31, 4, 5, 25, 26, 9, 27, 122, 123, 124, 125, 126, 127, 128, 129, 130, 131, 132, 133, 134, 135, 136, 137, 138, 139, 140, 141, 142, 143, 144, 145, 146, 147, 148, 149, 150, 151, 152, 153, 154, 155, 156, 157] rfl rfl
set_option maxRecDepth 20000 in
theorem gX11_cramer_X11_laysCell : GoodIn wsX11_cramer (wsV RX11 143 RX11 yX11_laysCell wsX11_laysCell) := goodIn_app (goodIn_of _ (by decide +kernel)) ggX11_cramer_X11_laysCell
set_option maxRecDepth 20000 in
theorem ggX11_cramer_X11_noSides : GoodIn wsX11_cramer wsX11_noSides := goodIn_r _ [35, 2, 28, 29, 30, 9, 31, 4, 5, 25, 26, 27, 122, 123, 124, 125, 126, 127, 128, 129, 130, 131, 132, 133, 134, 135, 136, 137, 138, 139, 140, 141, 142, 143, 144, 145, 146, 147, 148, 149, 150, 151, 152, 153, 154, 155, 156, 157] rfl rfl
set_option maxRecDepth 20000 in
theorem gX11_cramer_X11_noSides : GoodIn wsX11_cramer (wsV RX11 256 RX11 yX11_noSides wsX11_noSides) := goodIn_app (goodIn_of _ (by decide +kernel)) ggX11_cramer_X11_noSides
set_option maxRecDepth 20000 in
theorem ggX11_cramer_X11_hasDeterminant : GoodIn wsX11_cramer wsX11_hasDeterminant := goodIn_r _ [39, 12, 40, 1, 41, 42, 43, 44, 4, 5, 45, 2, 46, 47, 48, 9, 49, 50, 51, 52, 53, 54, 55, 56, 57, 25, 26, 27, 58, 59, 60, 61, 62, 63, 64, 65, 66, 67, 68, 69, 70, 71, 72, 73, 74, 75, 76, 77, 78, 79, 80, 81, 82, 83, 84, 85, 86, 87, 88, 89, 90, 91, 92, 93, 94, 95, 96, 97, 98, 99, 100, 101, 102, 103, 104, 105, 106, 107, 108, 109, 110, 111, 112, 113, 28, 29, 30, 31, 114, 115, 116, 117, 122, 123, 124, 125, 126, 127, 128, 129, 130, 131, 132, 133, 134, 135, 136, 137, 138, 139, 140, 141, 142, 143, 144, 145, 146, 147, 148, 149, 150, 151, 152, 153, 154, 155, 156, 157] rfl rfl
set_option maxRecDepth 20000 in
theorem gX11_cramer_X11_hasDeterminant : GoodIn wsX11_cramer (wsV RX11 249 RX11 yX11_hasDeterminant wsX11_hasDeterminant) := goodIn_app (goodIn_of _ (by decide +kernel)) ggX11_cramer_X11_hasDeterminant
set_option maxRecDepth 20000 in
theorem ggX11_cramer_X11_tells : GoodIn wsX11_cramer wsX11_tells := goodIn_r _ [121, 44, 43, 122, 123, 124, 125, 126, 127, 128, 129, 130, 131, 132, 133, 134, 135, 136, 137, 138, 139, 140, 141, 142, 143, 144, 145, 146, 147, 148, 149, 150, 151, 152, 153, 154, 155, 156, 157] rfl rfl
set_option maxRecDepth 20000 in
theorem gX11_cramer_X11_tells : GoodIn wsX11_cramer (wsV RX11 252 RX11 yX11_tells wsX11_tells) := goodIn_app (goodIn_of _ (by decide +kernel)) ggX11_cramer_X11_tells
theorem dX11_cramer_0 : decode cX11_cramer 0 = .ok (.aload_n 0, 1) := by decide +kernel
theorem dX11_cramer_1 : decode cX11_cramer 1 = .ok (.iconst 0, 1) := by decide +kernel
theorem dX11_cramer_2 : decode cX11_cramer 2 = .ok (.invokevirtual 202, 3) := by decide +kernel
theorem dX11_cramer_5 : decode cX11_cramer 5 = .ok (.aload_n 0, 1) := by decide +kernel
theorem dX11_cramer_6 : decode cX11_cramer 6 = .ok (.getfield 96, 3) := by decide +kernel
theorem dX11_cramer_9 : decode cX11_cramer 9 = .ok (.aload_n 0, 1) := by decide +kernel
theorem dX11_cramer_10 : decode cX11_cramer 10 = .ok (.getfield 93, 3) := by decide +kernel
theorem dX11_cramer_13 : decode cX11_cramer 13 = .ok (.if_icmp .ne 11, 3) := by decide +kernel
theorem dX11_cramer_16 : decode cX11_cramer 16 = .ok (.aload_n 0, 1) := by decide +kernel
theorem dX11_cramer_17 : decode cX11_cramer 17 = .ok (.iload_n 1, 1) := by decide +kernel
theorem dX11_cramer_18 : decode cX11_cramer 18 = .ok (.invokevirtual 178, 3) := by decide +kernel
theorem dX11_cramer_21 : decode cX11_cramer 21 = .ok (.ifCond .ne 6, 3) := by decide +kernel
theorem dX11_cramer_24 : decode cX11_cramer 24 = .ok (.ldc 165, 2) := by decide +kernel
theorem dX11_cramer_26 : decode cX11_cramer 26 = .ok (.ireturn, 1) := by decide +kernel
theorem dX11_cramer_27 : decode cX11_cramer 27 = .ok (.iconst 0, 1) := by decide +kernel
theorem dX11_cramer_28 : decode cX11_cramer 28 = .ok (.istore_n 3, 1) := by decide +kernel
theorem dX11_cramer_29 : decode cX11_cramer 29 = .ok (.iload_n 3, 1) := by decide +kernel
theorem dX11_cramer_30 : decode cX11_cramer 30 = .ok (.aload_n 0, 1) := by decide +kernel
theorem dX11_cramer_31 : decode cX11_cramer 31 = .ok (.getfield 96, 3) := by decide +kernel
theorem dX11_cramer_34 : decode cX11_cramer 34 = .ok (.if_icmp .ge 43, 3) := by decide +kernel
theorem dX11_cramer_37 : decode cX11_cramer 37 = .ok (.aload_n 0, 1) := by decide +kernel
theorem dX11_cramer_38 : decode cX11_cramer 38 = .ok (.iload_n 3, 1) := by decide +kernel
theorem dX11_cramer_39 : decode cX11_cramer 39 = .ok (.iload_n 1, 1) := by decide +kernel
theorem dX11_cramer_40 : decode cX11_cramer 40 = .ok (.aload_n 0, 1) := by decide +kernel
theorem dX11_cramer_41 : decode cX11_cramer 41 = .ok (.getfield 24, 3) := by decide +kernel
theorem dX11_cramer_44 : decode cX11_cramer 44 = .ok (.iload_n 3, 1) := by decide +kernel
theorem dX11_cramer_45 : decode cX11_cramer 45 = .ok (.aload_n 0, 1) := by decide +kernel
theorem dX11_cramer_46 : decode cX11_cramer 46 = .ok (.getfield 93, 3) := by decide +kernel
theorem dX11_cramer_49 : decode cX11_cramer 49 = .ok (.invokestatic 89, 3) := by decide +kernel
theorem dX11_cramer_52 : decode cX11_cramer 52 = .ok (.iaload, 1) := by decide +kernel
theorem dX11_cramer_53 : decode cX11_cramer 53 = .ok (.i2l, 1) := by decide +kernel
theorem dX11_cramer_54 : decode cX11_cramer 54 = .ok (.aload_n 0, 1) := by decide +kernel
theorem dX11_cramer_55 : decode cX11_cramer 55 = .ok (.getfield 27, 3) := by decide +kernel
theorem dX11_cramer_58 : decode cX11_cramer 58 = .ok (.iload_n 3, 1) := by decide +kernel
theorem dX11_cramer_59 : decode cX11_cramer 59 = .ok (.aload_n 0, 1) := by decide +kernel
theorem dX11_cramer_60 : decode cX11_cramer 60 = .ok (.getfield 93, 3) := by decide +kernel
theorem dX11_cramer_63 : decode cX11_cramer 63 = .ok (.invokestatic 89, 3) := by decide +kernel
theorem dX11_cramer_66 : decode cX11_cramer 66 = .ok (.iaload, 1) := by decide +kernel
theorem dX11_cramer_67 : decode cX11_cramer 67 = .ok (.i2l, 1) := by decide +kernel
theorem dX11_cramer_68 : decode cX11_cramer 68 = .ok (.invokevirtual 143, 3) := by decide +kernel
theorem dX11_cramer_71 : decode cX11_cramer 71 = .ok (.iinc 3 1, 3) := by decide +kernel
theorem dX11_cramer_74 : decode cX11_cramer 74 = .ok (.goto (-45), 3) := by decide +kernel
theorem dX11_cramer_77 : decode cX11_cramer 77 = .ok (.aload_n 0, 1) := by decide +kernel
theorem dX11_cramer_78 : decode cX11_cramer 78 = .ok (.invokevirtual 256, 3) := by decide +kernel
theorem dX11_cramer_81 : decode cX11_cramer 81 = .ok (.aload_n 0, 1) := by decide +kernel
theorem dX11_cramer_82 : decode cX11_cramer 82 = .ok (.invokevirtual 249, 3) := by decide +kernel
theorem dX11_cramer_85 : decode cX11_cramer 85 = .ok (.ifCond .eq 11, 3) := by decide +kernel
theorem dX11_cramer_88 : decode cX11_cramer 88 = .ok (.aload_n 0, 1) := by decide +kernel
theorem dX11_cramer_89 : decode cX11_cramer 89 = .ok (.iload_n 2, 1) := by decide +kernel
theorem dX11_cramer_90 : decode cX11_cramer 90 = .ok (.invokevirtual 252, 3) := by decide +kernel
theorem dX11_cramer_93 : decode cX11_cramer 93 = .ok (.goto 5, 3) := by decide +kernel
theorem dX11_cramer_96 : decode cX11_cramer 96 = .ok (.ldc 165, 2) := by decide +kernel
theorem dX11_cramer_98 : decode cX11_cramer 98 = .ok (.ireturn, 1) := by decide +kernel
set_option maxRecDepth 20000 in
theorem ggX11_would_X11_begins : GoodIn wsX11_would wsX11_begins := goodIn_r _ [13, 14, 15, 16, 17, 18, 12, 19, 20, 3, 1, 4, 5, 128, 129, 130, 131, 132, 133, 134, 135, 136, 137, 138, 139, 140, 141, 142, 143, 144, 145, 146, 147, 148, 149, 150, 151, 152, 153, 154, 155, 156, 157, 158, 159, 160, 161, 162, 163] rfl rfl
set_option maxRecDepth 20000 in
theorem gX11_would_X11_begins : GoodIn wsX11_would (wsV RX11 202 RX11 yX11_begins wsX11_begins) := goodIn_app (goodIn_of _ (by decide +kernel)) ggX11_would_X11_begins
set_option maxRecDepth 20000 in
theorem ggX11_would_X11_isIn : GoodIn wsX11_would wsX11_isIn := goodIn_r _ [23] rfl rfl
set_option maxRecDepth 20000 in
theorem gX11_would_X11_isIn : GoodIn wsX11_would (va_wsS RX11 85 yX11_isIn wsX11_isIn) := goodIn_app (goodIn_of _ (by decide +kernel)) ggX11_would_X11_isIn
set_option maxRecDepth 20000 in
theorem ggX11_would_X11_isTold : GoodIn wsX11_would wsX11_isTold := goodIn_r _ [26, 21, 22, 12, 23] rfl rfl
set_option maxRecDepth 20000 in
theorem gX11_would_X11_isTold : GoodIn wsX11_would (va_wsS RX11 184 yX11_isTold wsX11_isTold) := goodIn_app (goodIn_of _ (by decide +kernel)) ggX11_would_X11_isTold
set_option maxRecDepth 20000 in
theorem ggX11_would_X11_cell : GoodIn wsX11_would wsX11_cell := goodIn_r _ [29] rfl rfl
set_option maxRecDepth 20000 in
theorem gX11_would_X11_cell : GoodIn wsX11_would (va_wsS RX11 89 yX11_cell wsX11_cell) := goodIn_app (goodIn_of _ (by decide +kernel)) ggX11_would_X11_cell
set_option maxRecDepth 20000 in
theorem ggX11_would_X11_times : GoodIn wsX11_would wsX11_times := goodIn_r _ [33, 34, 35, 36, 12, 37, 7, 8, 38, 39, 6, 40, 41, 42, 128, 129, 130, 131, 132, 133, 134, 135, 136, 137, 138, 139, 140, 141, 142, 143, 144, 145, 146, 147, 148, 149, 150, 151, 152, 153, 154, 155, 156, 157, 158, 159, 160, 161, 162, 163] rfl rfl
set_option maxRecDepth 20000 in
theorem gX11_would_X11_times : GoodIn wsX11_would (wsV RX11 129 RX11 yX11_times wsX11_times) := goodIn_app (goodIn_of _ (by decide +kernel)) ggX11_would_X11_times
set_option maxRecDepth 20000 in
theorem ggX11_would_X11_laysCell : GoodIn wsX11_would wsX11_laysCell := goodIn_r _ [46, 4, 5, 27, 28, 12, 29, 128, 129, 130, 131, 132, 133, 134, 135, 136, 137, 138, 139, 140, 141, 142, 143, 144, 145, 146, 147, 148, 149, 150, 151, 152, 153, 154, 155, 156, 157, 158, 159, 160, 161, 162, 163] rfl rfl
set_option maxRecDepth 20000 in
theorem gX11_would_X11_laysCell : GoodIn wsX11_would (wsV RX11 143 RX11 yX11_laysCell wsX11_laysCell) := goodIn_app (goodIn_of _ (by decide +kernel)) ggX11_would_X11_laysCell
set_option maxRecDepth 20000 in
theorem ggX11_would_X11_isSolved : GoodIn wsX11_would wsX11_isSolved := goodIn_r _ [50, 15, 51, 52, 53, 12, 54, 55, 56, 57, 58, 59, 60, 61, 62, 63, 3, 1, 4, 64, 65, 27, 28, 29, 66, 67, 68, 69, 70, 71, 72, 73, 74, 75, 76, 77, 78, 79, 80, 81, 82, 83, 84, 85, 5, 86, 87, 88, 89, 90, 6, 7, 8, 91, 92, 93, 94, 34, 35, 36, 37, 38, 39, 40, 41, 42, 95, 96, 97, 98, 99, 100, 101, 102, 103, 104, 30, 31, 32, 33, 105, 106, 107, 108, 43, 44, 45, 46, 109, 110, 111, 112, 113, 114, 115, 116, 117, 118, 119, 120, 121, 122, 123, 128, 129, 130, 131, 132, 133, 134, 135, 136, 137, 138, 139, 140, 141, 142, 143, 144, 145, 146, 147, 148, 149, 150, 151, 152, 153, 154, 155, 156, 157, 158, 159, 160, 161, 162, 163] rfl rfl
set_option maxRecDepth 20000 in
theorem gX11_would_X11_isSolved : GoodIn wsX11_would (wsV RX11 241 RX11 yX11_isSolved wsX11_isSolved) := goodIn_app (goodIn_of _ (by decide +kernel)) ggX11_would_X11_isSolved
set_option maxRecDepth 20000 in
theorem ggX11_would_X11_has : GoodIn wsX11_would wsX11_has := goodIn_r _ [127, 119, 2, 118, 117, 128, 129, 130, 131, 132, 133, 134, 135, 136, 137, 138, 139, 140, 141, 142, 143, 144, 145, 146, 147, 148, 149, 150, 151, 152, 153, 154, 155, 156, 157, 158, 159, 160, 161, 162, 163] rfl rfl
set_option maxRecDepth 20000 in
theorem gX11_would_X11_has : GoodIn wsX11_would (wsV RX11 245 RX11 yX11_has wsX11_has) := goodIn_app (goodIn_of _ (by decide +kernel)) ggX11_would_X11_has
theorem dX11_would_0 : decode cX11_would 0 = .ok (.aload_n 0, 1) := by decide +kernel
theorem dX11_would_1 : decode cX11_would 1 = .ok (.iconst 0, 1) := by decide +kernel
theorem dX11_would_2 : decode cX11_would 2 = .ok (.invokevirtual 202, 3) := by decide +kernel
theorem dX11_would_5 : decode cX11_would 5 = .ok (.iload_n 1, 1) := by decide +kernel
theorem dX11_would_6 : decode cX11_would 6 = .ok (.iconst 0, 1) := by decide +kernel
theorem dX11_would_7 : decode cX11_would 7 = .ok (.aload_n 0, 1) := by decide +kernel
theorem dX11_would_8 : decode cX11_would 8 = .ok (.getfield 93, 3) := by decide +kernel
theorem dX11_would_11 : decode cX11_would 11 = .ok (.invokestatic 85, 3) := by decide +kernel
theorem dX11_would_14 : decode cX11_would 14 = .ok (.ifCond .eq 26, 3) := by decide +kernel
theorem dX11_would_17 : decode cX11_would 17 = .ok (.iload_n 2, 1) := by decide +kernel
theorem dX11_would_18 : decode cX11_would 18 = .ok (.iload_n 3, 1) := by decide +kernel
theorem dX11_would_19 : decode cX11_would 19 = .ok (.invokestatic 184, 3) := by decide +kernel
theorem dX11_would_22 : decode cX11_would 22 = .ok (.ifCond .eq 18, 3) := by decide +kernel
theorem dX11_would_25 : decode cX11_would 25 = .ok (.iload 4, 2) := by decide +kernel
theorem dX11_would_27 : decode cX11_would 27 = .ok (.iconst 0, 1) := by decide +kernel
theorem dX11_would_28 : decode cX11_would 28 = .ok (.aload_n 0, 1) := by decide +kernel
theorem dX11_would_29 : decode cX11_would 29 = .ok (.getfield 93, 3) := by decide +kernel
theorem dX11_would_32 : decode cX11_would 32 = .ok (.iconst 1, 1) := by decide +kernel
theorem dX11_would_33 : decode cX11_would 33 = .ok (.isub, 1) := by decide +kernel
theorem dX11_would_34 : decode cX11_would 34 = .ok (.invokestatic 85, 3) := by decide +kernel
theorem dX11_would_37 : decode cX11_would 37 = .ok (.ifCond .ne 6, 3) := by decide +kernel
theorem dX11_would_40 : decode cX11_would 40 = .ok (.ldc 165, 2) := by decide +kernel
theorem dX11_would_42 : decode cX11_would 42 = .ok (.ireturn, 1) := by decide +kernel
theorem dX11_would_43 : decode cX11_would 43 = .ok (.iconst 0, 1) := by decide +kernel
theorem dX11_would_44 : decode cX11_would 44 = .ok (.istore 6, 2) := by decide +kernel
theorem dX11_would_46 : decode cX11_would 46 = .ok (.iload 6, 2) := by decide +kernel
theorem dX11_would_48 : decode cX11_would 48 = .ok (.aload_n 0, 1) := by decide +kernel
theorem dX11_would_49 : decode cX11_would 49 = .ok (.getfield 96, 3) := by decide +kernel
theorem dX11_would_52 : decode cX11_would 52 = .ok (.if_icmp .ge 69, 3) := by decide +kernel
theorem dX11_would_55 : decode cX11_would 55 = .ok (.aload_n 0, 1) := by decide +kernel
theorem dX11_would_56 : decode cX11_would 56 = .ok (.aload_n 0, 1) := by decide +kernel
theorem dX11_would_57 : decode cX11_would 57 = .ok (.getfield 24, 3) := by decide +kernel
theorem dX11_would_60 : decode cX11_would 60 = .ok (.iload 6, 2) := by decide +kernel
theorem dX11_would_62 : decode cX11_would 62 = .ok (.iload_n 1, 1) := by decide +kernel
theorem dX11_would_63 : decode cX11_would 63 = .ok (.invokestatic 89, 3) := by decide +kernel
theorem dX11_would_66 : decode cX11_would 66 = .ok (.iaload, 1) := by decide +kernel
theorem dX11_would_67 : decode cX11_would 67 = .ok (.i2l, 1) := by decide +kernel
theorem dX11_would_68 : decode cX11_would 68 = .ok (.aload_n 0, 1) := by decide +kernel
theorem dX11_would_69 : decode cX11_would 69 = .ok (.getfield 27, 3) := by decide +kernel
theorem dX11_would_72 : decode cX11_would 72 = .ok (.iload 6, 2) := by decide +kernel
theorem dX11_would_74 : decode cX11_would 74 = .ok (.iload_n 1, 1) := by decide +kernel
theorem dX11_would_75 : decode cX11_would 75 = .ok (.invokestatic 89, 3) := by decide +kernel
theorem dX11_would_78 : decode cX11_would 78 = .ok (.iaload, 1) := by decide +kernel
theorem dX11_would_79 : decode cX11_would 79 = .ok (.i2l, 1) := by decide +kernel
theorem dX11_would_80 : decode cX11_would 80 = .ok (.iload_n 2, 1) := by decide +kernel
theorem dX11_would_81 : decode cX11_would 81 = .ok (.i2l, 1) := by decide +kernel
theorem dX11_would_82 : decode cX11_would 82 = .ok (.iload_n 3, 1) := by decide +kernel
theorem dX11_would_83 : decode cX11_would 83 = .ok (.i2l, 1) := by decide +kernel
theorem dX11_would_84 : decode cX11_would 84 = .ok (.invokevirtual 129, 3) := by decide +kernel
theorem dX11_would_87 : decode cX11_would 87 = .ok (.aload_n 0, 1) := by decide +kernel
theorem dX11_would_88 : decode cX11_would 88 = .ok (.getfield 77, 3) := by decide +kernel
theorem dX11_would_91 : decode cX11_would 91 = .ok (.ifCond .eq 6, 3) := by decide +kernel
theorem dX11_would_94 : decode cX11_would 94 = .ok (.ldc 165, 2) := by decide +kernel
theorem dX11_would_96 : decode cX11_would 96 = .ok (.ireturn, 1) := by decide +kernel
theorem dX11_would_97 : decode cX11_would 97 = .ok (.aload_n 0, 1) := by decide +kernel
theorem dX11_would_98 : decode cX11_would 98 = .ok (.iload 6, 2) := by decide +kernel
theorem dX11_would_100 : decode cX11_would 100 = .ok (.aload_n 0, 1) := by decide +kernel
theorem dX11_would_101 : decode cX11_would 101 = .ok (.getfield 93, 3) := by decide +kernel
theorem dX11_would_104 : decode cX11_would 104 = .ok (.aload_n 0, 1) := by decide +kernel
theorem dX11_would_105 : decode cX11_would 105 = .ok (.getfield 66, 3) := by decide +kernel
theorem dX11_would_108 : decode cX11_would 108 = .ok (.aload_n 0, 1) := by decide +kernel
theorem dX11_would_109 : decode cX11_would 109 = .ok (.getfield 70, 3) := by decide +kernel
theorem dX11_would_112 : decode cX11_would 112 = .ok (.invokevirtual 143, 3) := by decide +kernel
theorem dX11_would_115 : decode cX11_would 115 = .ok (.iinc 6 1, 3) := by decide +kernel
theorem dX11_would_118 : decode cX11_would 118 = .ok (.goto (-72), 3) := by decide +kernel
theorem dX11_would_121 : decode cX11_would 121 = .ok (.aload_n 0, 1) := by decide +kernel
theorem dX11_would_122 : decode cX11_would 122 = .ok (.invokevirtual 241, 3) := by decide +kernel
theorem dX11_would_125 : decode cX11_would 125 = .ok (.ifCond .eq 14, 3) := by decide +kernel
theorem dX11_would_128 : decode cX11_would 128 = .ok (.aload_n 0, 1) := by decide +kernel
theorem dX11_would_129 : decode cX11_would 129 = .ok (.iload 4, 2) := by decide +kernel
theorem dX11_would_131 : decode cX11_would 131 = .ok (.iload 5, 2) := by decide +kernel
theorem dX11_would_133 : decode cX11_would 133 = .ok (.invokevirtual 245, 3) := by decide +kernel
theorem dX11_would_136 : decode cX11_would 136 = .ok (.goto 5, 3) := by decide +kernel
theorem dX11_would_139 : decode cX11_would 139 = .ok (.ldc 165, 2) := by decide +kernel
theorem dX11_would_141 : decode cX11_would 141 = .ok (.ireturn, 1) := by decide +kernel
set_option maxRecDepth 20000 in
theorem ggX11_ranked_X11_begins : GoodIn wsX11_ranked wsX11_begins := goodIn_r _ [11, 12, 5, 13, 14, 15, 10, 16, 17, 18, 1, 19, 20, 109, 110, 111, 112, 113, 114, 115, 116, 117, 118, 119, 120, 121, 122, 123, 124, 125, 126, 127, 128, 129, 130, 131, 132, 133, 134, 135, 136, 137, 138, 139, 140, 141, 142, 143, 144] rfl rfl
set_option maxRecDepth 20000 in
theorem gX11_ranked_X11_begins : GoodIn wsX11_ranked (wsV RX11 202 RX11 yX11_begins wsX11_begins) := goodIn_app (goodIn_of _ (by decide +kernel)) ggX11_ranked_X11_begins
set_option maxRecDepth 20000 in
theorem ggX11_ranked_X11_isRow : GoodIn wsX11_ranked wsX11_isRow := goodIn_r _ [24, 18, 25, 26, 10, 27, 109, 110, 111, 112, 113, 114, 115, 116, 117, 118, 119, 120, 121, 122, 123, 124, 125, 126, 127, 128, 129, 130, 131, 132, 133, 134, 135, 136, 137, 138, 139, 140, 141, 142, 143, 144] rfl rfl
set_option maxRecDepth 20000 in
theorem gX11_ranked_X11_isRow : GoodIn wsX11_ranked (wsV RX11 178 RX11 yX11_isRow wsX11_isRow) := goodIn_app (goodIn_of _ (by decide +kernel)) ggX11_ranked_X11_isRow
set_option maxRecDepth 20000 in
theorem ggX11_ranked_X11_isIn : GoodIn wsX11_ranked wsX11_isIn := goodIn_r _ [27] rfl rfl
set_option maxRecDepth 20000 in
theorem gX11_ranked_X11_isIn : GoodIn wsX11_ranked (va_wsS RX11 85 yX11_isIn wsX11_isIn) := goodIn_app (goodIn_of _ (by decide +kernel)) ggX11_ranked_X11_isIn
set_option maxRecDepth 20000 in
theorem ggX11_ranked_X11_isTold : GoodIn wsX11_ranked wsX11_isTold := goodIn_r _ [30, 25, 26, 10, 27] rfl rfl
set_option maxRecDepth 20000 in
theorem gX11_ranked_X11_isTold : GoodIn wsX11_ranked (va_wsS RX11 184 yX11_isTold wsX11_isTold) := goodIn_app (goodIn_of _ (by decide +kernel)) ggX11_ranked_X11_isTold
set_option maxRecDepth 20000 in
theorem ggX11_ranked_X11_comes : GoodIn wsX11_ranked wsX11_comes := goodIn_r _ [34, 3, 4, 35, 36, 37, 38, 39, 10, 40, 109, 110, 111, 112, 113, 114, 115, 116, 117, 118, 119, 120, 121, 122, 123, 124, 125, 126, 127, 128, 129, 130, 131, 132, 133, 134, 135, 136, 137, 138, 139, 140, 141, 142, 143, 144] rfl rfl
set_option maxRecDepth 20000 in
theorem gX11_ranked_X11_comes : GoodIn wsX11_ranked (wsV RX11 81 RX11 yX11_comes wsX11_comes) := goodIn_app (goodIn_of _ (by decide +kernel)) ggX11_ranked_X11_comes
set_option maxRecDepth 20000 in
theorem ggX11_ranked_X11_laysCell : GoodIn wsX11_ranked wsX11_laysCell := goodIn_r _ [44, 19, 20, 45, 46, 10, 47, 109, 110, 111, 112, 113, 114, 115, 116, 117, 118, 119, 120, 121, 122, 123, 124, 125, 126, 127, 128, 129, 130, 131, 132, 133, 134, 135, 136, 137, 138, 139, 140, 141, 142, 143, 144] rfl rfl
set_option maxRecDepth 20000 in
theorem gX11_ranked_X11_laysCell : GoodIn wsX11_ranked (wsV RX11 143 RX11 yX11_laysCell wsX11_laysCell) := goodIn_app (goodIn_of _ (by decide +kernel)) ggX11_ranked_X11_laysCell
set_option maxRecDepth 20000 in
theorem ggX11_ranked_X11_goes : GoodIn wsX11_ranked wsX11_goes := goodIn_r _ [51, 6, 5, 52, 53, 54, 55, 56, 57, 58, 10, 59, 18, 1, 19, 60, 61, 45, 46, 47, 62, 63, 64, 65, 66, 67, 68, 69, 70, 71, 72, 73, 74, 75, 76, 77, 78, 79, 80, 81, 20, 82, 83, 84, 85, 86, 37, 3, 4, 87, 88, 89, 90, 31, 32, 33, 34, 35, 36, 38, 39, 40, 91, 92, 93, 94, 95, 96, 97, 98, 99, 100, 101, 102, 103, 104, 105, 106, 107, 108, 41, 42, 43, 44, 109, 110, 111, 112, 113, 114, 115, 116, 117, 118, 119, 120, 121, 122, 123, 124, 125, 126, 127, 128, 129, 130, 131, 132, 133, 134, 135, 136, 137, 138, 139, 140, 141, 142, 143, 144] rfl rfl
set_option maxRecDepth 20000 in
theorem gX11_ranked_X11_goes : GoodIn wsX11_ranked (wsV RX11 166 RX11 yX11_goes wsX11_goes) := goodIn_app (goodIn_of _ (by decide +kernel)) ggX11_ranked_X11_goes
theorem dX11_ranked_0 : decode cX11_ranked 0 = .ok (.aload_n 0, 1) := by decide +kernel
theorem dX11_ranked_1 : decode cX11_ranked 1 = .ok (.iconst 0, 1) := by decide +kernel
theorem dX11_ranked_2 : decode cX11_ranked 2 = .ok (.invokevirtual 202, 3) := by decide +kernel
theorem dX11_ranked_5 : decode cX11_ranked 5 = .ok (.aload_n 0, 1) := by decide +kernel
theorem dX11_ranked_6 : decode cX11_ranked 6 = .ok (.iload_n 1, 1) := by decide +kernel
theorem dX11_ranked_7 : decode cX11_ranked 7 = .ok (.invokevirtual 178, 3) := by decide +kernel
theorem dX11_ranked_10 : decode cX11_ranked 10 = .ok (.ifCond .eq 26, 3) := by decide +kernel
theorem dX11_ranked_13 : decode cX11_ranked 13 = .ok (.iload_n 2, 1) := by decide +kernel
theorem dX11_ranked_14 : decode cX11_ranked 14 = .ok (.iconst 0, 1) := by decide +kernel
theorem dX11_ranked_15 : decode cX11_ranked 15 = .ok (.aload_n 0, 1) := by decide +kernel
theorem dX11_ranked_16 : decode cX11_ranked 16 = .ok (.getfield 93, 3) := by decide +kernel
theorem dX11_ranked_19 : decode cX11_ranked 19 = .ok (.iconst 1, 1) := by decide +kernel
theorem dX11_ranked_20 : decode cX11_ranked 20 = .ok (.isub, 1) := by decide +kernel
theorem dX11_ranked_21 : decode cX11_ranked 21 = .ok (.invokestatic 85, 3) := by decide +kernel
theorem dX11_ranked_24 : decode cX11_ranked 24 = .ok (.ifCond .eq 12, 3) := by decide +kernel
theorem dX11_ranked_27 : decode cX11_ranked 27 = .ok (.iload_n 3, 1) := by decide +kernel
theorem dX11_ranked_28 : decode cX11_ranked 28 = .ok (.iload 4, 2) := by decide +kernel
theorem dX11_ranked_30 : decode cX11_ranked 30 = .ok (.invokestatic 184, 3) := by decide +kernel
theorem dX11_ranked_33 : decode cX11_ranked 33 = .ok (.ifCond .ne 6, 3) := by decide +kernel
theorem dX11_ranked_36 : decode cX11_ranked 36 = .ok (.ldc 165, 2) := by decide +kernel
theorem dX11_ranked_38 : decode cX11_ranked 38 = .ok (.ireturn, 1) := by decide +kernel
theorem dX11_ranked_39 : decode cX11_ranked 39 = .ok (.aload_n 0, 1) := by decide +kernel
theorem dX11_ranked_40 : decode cX11_ranked 40 = .ok (.iload_n 3, 1) := by decide +kernel
theorem dX11_ranked_41 : decode cX11_ranked 41 = .ok (.i2l, 1) := by decide +kernel
theorem dX11_ranked_42 : decode cX11_ranked 42 = .ok (.iload 4, 2) := by decide +kernel
theorem dX11_ranked_44 : decode cX11_ranked 44 = .ok (.i2l, 1) := by decide +kernel
theorem dX11_ranked_45 : decode cX11_ranked 45 = .ok (.invokevirtual 81, 3) := by decide +kernel
theorem dX11_ranked_48 : decode cX11_ranked 48 = .ok (.aload_n 0, 1) := by decide +kernel
theorem dX11_ranked_49 : decode cX11_ranked 49 = .ok (.iload_n 1, 1) := by decide +kernel
theorem dX11_ranked_50 : decode cX11_ranked 50 = .ok (.iload_n 2, 1) := by decide +kernel
theorem dX11_ranked_51 : decode cX11_ranked 51 = .ok (.aload_n 0, 1) := by decide +kernel
theorem dX11_ranked_52 : decode cX11_ranked 52 = .ok (.getfield 66, 3) := by decide +kernel
theorem dX11_ranked_55 : decode cX11_ranked 55 = .ok (.aload_n 0, 1) := by decide +kernel
theorem dX11_ranked_56 : decode cX11_ranked 56 = .ok (.getfield 70, 3) := by decide +kernel
theorem dX11_ranked_59 : decode cX11_ranked 59 = .ok (.invokevirtual 143, 3) := by decide +kernel
theorem dX11_ranked_62 : decode cX11_ranked 62 = .ok (.aload_n 0, 1) := by decide +kernel
theorem dX11_ranked_63 : decode cX11_ranked 63 = .ok (.iconst 1, 1) := by decide +kernel
theorem dX11_ranked_64 : decode cX11_ranked 64 = .ok (.invokevirtual 166, 3) := by decide +kernel
theorem dX11_ranked_67 : decode cX11_ranked 67 = .ok (.aload_n 0, 1) := by decide +kernel
theorem dX11_ranked_68 : decode cX11_ranked 68 = .ok (.getfield 120, 3) := by decide +kernel
theorem dX11_ranked_71 : decode cX11_ranked 71 = .ok (.ifCond .eq 8, 3) := by decide +kernel
theorem dX11_ranked_74 : decode cX11_ranked 74 = .ok (.ldc 165, 2) := by decide +kernel
theorem dX11_ranked_76 : decode cX11_ranked 76 = .ok (.goto 7, 3) := by decide +kernel
theorem dX11_ranked_79 : decode cX11_ranked 79 = .ok (.aload_n 0, 1) := by decide +kernel
theorem dX11_ranked_80 : decode cX11_ranked 80 = .ok (.getfield 117, 3) := by decide +kernel
theorem dX11_ranked_83 : decode cX11_ranked 83 = .ok (.ireturn, 1) := by decide +kernel
set_option maxRecDepth 20000 in
theorem ggX11_residue_X11_begins : GoodIn wsX11_residue wsX11_begins := goodIn_r _ [15, 16, 17, 18, 19, 20, 14, 21, 22, 23, 2, 3, 5, 129, 130, 131, 132, 133, 134, 135, 136, 137, 138, 139, 140, 141, 142, 143, 144, 145, 146, 147, 148, 149, 150, 151, 152, 153, 154, 155, 156, 157, 158, 159, 160, 161, 162, 163, 164] rfl rfl
set_option maxRecDepth 20000 in
theorem gX11_residue_X11_begins : GoodIn wsX11_residue (wsV RX11 202 RX11 yX11_begins wsX11_begins) := goodIn_app (goodIn_of _ (by decide +kernel)) ggX11_residue_X11_begins
set_option maxRecDepth 20000 in
theorem ggX11_residue_X11_isRow : GoodIn wsX11_residue wsX11_isRow := goodIn_r _ [27, 23, 28, 29, 14, 30, 129, 130, 131, 132, 133, 134, 135, 136, 137, 138, 139, 140, 141, 142, 143, 144, 145, 146, 147, 148, 149, 150, 151, 152, 153, 154, 155, 156, 157, 158, 159, 160, 161, 162, 163, 164] rfl rfl
set_option maxRecDepth 20000 in
theorem gX11_residue_X11_isRow : GoodIn wsX11_residue (wsV RX11 178 RX11 yX11_isRow wsX11_isRow) := goodIn_app (goodIn_of _ (by decide +kernel)) ggX11_residue_X11_isRow
set_option maxRecDepth 20000 in
theorem ggX11_residue_X11_isSolved : GoodIn wsX11_residue wsX11_isSolved := goodIn_r _ [34, 17, 35, 36, 37, 14, 38, 39, 40, 41, 42, 43, 44, 45, 46, 47, 23, 2, 3, 48, 49, 50, 51, 52, 53, 54, 55, 56, 57, 58, 59, 60, 61, 62, 63, 64, 65, 66, 67, 68, 69, 70, 71, 72, 5, 73, 74, 75, 76, 77, 8, 9, 10, 78, 79, 80, 81, 82, 83, 84, 85, 86, 87, 88, 89, 90, 91, 92, 93, 94, 95, 96, 97, 98, 99, 100, 101, 102, 103, 104, 105, 106, 107, 108, 109, 110, 111, 112, 113, 114, 115, 116, 117, 118, 119, 120, 6, 7, 4, 121, 122, 123, 124, 129, 130, 131, 132, 133, 134, 135, 136, 137, 138, 139, 140, 141, 142, 143, 144, 145, 146, 147, 148, 149, 150, 151, 152, 153, 154, 155, 156, 157, 158, 159, 160, 161, 162, 163, 164] rfl rfl
set_option maxRecDepth 20000 in
theorem gX11_residue_X11_isSolved : GoodIn wsX11_residue (wsV RX11 241 RX11 yX11_isSolved wsX11_isSolved) := goodIn_app (goodIn_of _ (by decide +kernel)) ggX11_residue_X11_isSolved
set_option maxRecDepth 20000 in
theorem ggX11_residue_X11_cell : GoodIn wsX11_residue wsX11_cell := goodIn_r _ [52] rfl rfl
set_option maxRecDepth 20000 in
theorem gX11_residue_X11_cell : GoodIn wsX11_residue (va_wsS RX11 89 yX11_cell wsX11_cell) := goodIn_app (goodIn_of _ (by decide +kernel)) ggX11_residue_X11_cell
set_option maxRecDepth 20000 in
theorem ggX11_residue_X11_times : GoodIn wsX11_residue wsX11_times := goodIn_r _ [104, 82, 83, 84, 14, 85, 9, 10, 86, 87, 8, 88, 89, 90, 129, 130, 131, 132, 133, 134, 135, 136, 137, 138, 139, 140, 141, 142, 143, 144, 145, 146, 147, 148, 149, 150, 151, 152, 153, 154, 155, 156, 157, 158, 159, 160, 161, 162, 163, 164] rfl rfl
set_option maxRecDepth 20000 in
theorem gX11_residue_X11_times : GoodIn wsX11_residue (wsV RX11 129 RX11 yX11_times wsX11_times) := goodIn_app (goodIn_of _ (by decide +kernel)) ggX11_residue_X11_times
set_option maxRecDepth 20000 in
theorem ggX11_residue_X11_plus : GoodIn wsX11_residue wsX11_plus := goodIn_r _ [108, 82, 83, 84, 14, 85, 9, 10, 86, 87, 8, 88, 89, 90, 129, 130, 131, 132, 133, 134, 135, 136, 137, 138, 139, 140, 141, 142, 143, 144, 145, 146, 147, 148, 149, 150, 151, 152, 153, 154, 155, 156, 157, 158, 159, 160, 161, 162, 163, 164] rfl rfl
set_option maxRecDepth 20000 in
theorem gX11_residue_X11_plus : GoodIn wsX11_residue (wsV RX11 137 RX11 yX11_plus wsX11_plus) := goodIn_app (goodIn_of _ (by decide +kernel)) ggX11_residue_X11_plus
set_option maxRecDepth 20000 in
theorem ggX11_residue_X11_tells : GoodIn wsX11_residue wsX11_tells := goodIn_r _ [128, 10, 9, 129, 130, 131, 132, 133, 134, 135, 136, 137, 138, 139, 140, 141, 142, 143, 144, 145, 146, 147, 148, 149, 150, 151, 152, 153, 154, 155, 156, 157, 158, 159, 160, 161, 162, 163, 164] rfl rfl
set_option maxRecDepth 20000 in
theorem gX11_residue_X11_tells : GoodIn wsX11_residue (wsV RX11 252 RX11 yX11_tells wsX11_tells) := goodIn_app (goodIn_of _ (by decide +kernel)) ggX11_residue_X11_tells
theorem dX11_residue_0 : decode cX11_residue 0 = .ok (.aload_n 0, 1) := by decide +kernel
theorem dX11_residue_1 : decode cX11_residue 1 = .ok (.iconst 0, 1) := by decide +kernel
theorem dX11_residue_2 : decode cX11_residue 2 = .ok (.invokevirtual 202, 3) := by decide +kernel
theorem dX11_residue_5 : decode cX11_residue 5 = .ok (.aload_n 0, 1) := by decide +kernel
theorem dX11_residue_6 : decode cX11_residue 6 = .ok (.iload_n 1, 1) := by decide +kernel
theorem dX11_residue_7 : decode cX11_residue 7 = .ok (.invokevirtual 178, 3) := by decide +kernel
theorem dX11_residue_10 : decode cX11_residue 10 = .ok (.ifCond .eq 10, 3) := by decide +kernel
theorem dX11_residue_13 : decode cX11_residue 13 = .ok (.aload_n 0, 1) := by decide +kernel
theorem dX11_residue_14 : decode cX11_residue 14 = .ok (.invokevirtual 241, 3) := by decide +kernel
theorem dX11_residue_17 : decode cX11_residue 17 = .ok (.ifCond .ne 6, 3) := by decide +kernel
theorem dX11_residue_20 : decode cX11_residue 20 = .ok (.ldc 165, 2) := by decide +kernel
theorem dX11_residue_22 : decode cX11_residue 22 = .ok (.ireturn, 1) := by decide +kernel
theorem dX11_residue_23 : decode cX11_residue 23 = .ok (.aload_n 0, 1) := by decide +kernel
theorem dX11_residue_24 : decode cX11_residue 24 = .ok (.iconst 0, 1) := by decide +kernel
theorem dX11_residue_25 : decode cX11_residue 25 = .ok (.invokevirtual 202, 3) := by decide +kernel
theorem dX11_residue_28 : decode cX11_residue 28 = .ok (.lconst 0, 1) := by decide +kernel
theorem dX11_residue_29 : decode cX11_residue 29 = .ok (.lstore_n 3, 1) := by decide +kernel
theorem dX11_residue_30 : decode cX11_residue 30 = .ok (.lconst 1, 1) := by decide +kernel
theorem dX11_residue_31 : decode cX11_residue 31 = .ok (.lstore 5, 2) := by decide +kernel
theorem dX11_residue_33 : decode cX11_residue 33 = .ok (.iconst 0, 1) := by decide +kernel
theorem dX11_residue_34 : decode cX11_residue 34 = .ok (.istore 7, 2) := by decide +kernel
theorem dX11_residue_36 : decode cX11_residue 36 = .ok (.iload 7, 2) := by decide +kernel
theorem dX11_residue_38 : decode cX11_residue 38 = .ok (.aload_n 0, 1) := by decide +kernel
theorem dX11_residue_39 : decode cX11_residue 39 = .ok (.getfield 93, 3) := by decide +kernel
theorem dX11_residue_42 : decode cX11_residue 42 = .ok (.if_icmp .ge 123, 3) := by decide +kernel
theorem dX11_residue_45 : decode cX11_residue 45 = .ok (.iload_n 1, 1) := by decide +kernel
theorem dX11_residue_46 : decode cX11_residue 46 = .ok (.iload 7, 2) := by decide +kernel
theorem dX11_residue_48 : decode cX11_residue 48 = .ok (.invokestatic 89, 3) := by decide +kernel
theorem dX11_residue_51 : decode cX11_residue 51 = .ok (.istore 8, 2) := by decide +kernel
theorem dX11_residue_53 : decode cX11_residue 53 = .ok (.aload_n 0, 1) := by decide +kernel
theorem dX11_residue_54 : decode cX11_residue 54 = .ok (.getfield 24, 3) := by decide +kernel
theorem dX11_residue_57 : decode cX11_residue 57 = .ok (.iload 8, 2) := by decide +kernel
theorem dX11_residue_59 : decode cX11_residue 59 = .ok (.iaload, 1) := by decide +kernel
theorem dX11_residue_60 : decode cX11_residue 60 = .ok (.ifCond .ne 6, 3) := by decide +kernel
theorem dX11_residue_63 : decode cX11_residue 63 = .ok (.goto 96, 3) := by decide +kernel
theorem dX11_residue_66 : decode cX11_residue 66 = .ok (.aload_n 0, 1) := by decide +kernel
theorem dX11_residue_67 : decode cX11_residue 67 = .ok (.getfield 55, 3) := by decide +kernel
theorem dX11_residue_70 : decode cX11_residue 70 = .ok (.iload 7, 2) := by decide +kernel
theorem dX11_residue_72 : decode cX11_residue 72 = .ok (.baload, 1) := by decide +kernel
theorem dX11_residue_73 : decode cX11_residue 73 = .ok (.ifCond .eq 6, 3) := by decide +kernel
theorem dX11_residue_76 : decode cX11_residue 76 = .ok (.ldc 165, 2) := by decide +kernel
theorem dX11_residue_78 : decode cX11_residue 78 = .ok (.ireturn, 1) := by decide +kernel
theorem dX11_residue_79 : decode cX11_residue 79 = .ok (.aload_n 0, 1) := by decide +kernel
theorem dX11_residue_80 : decode cX11_residue 80 = .ok (.aload_n 0, 1) := by decide +kernel
theorem dX11_residue_81 : decode cX11_residue 81 = .ok (.getfield 24, 3) := by decide +kernel
theorem dX11_residue_84 : decode cX11_residue 84 = .ok (.iload 8, 2) := by decide +kernel
theorem dX11_residue_86 : decode cX11_residue 86 = .ok (.iaload, 1) := by decide +kernel
theorem dX11_residue_87 : decode cX11_residue 87 = .ok (.i2l, 1) := by decide +kernel
theorem dX11_residue_88 : decode cX11_residue 88 = .ok (.aload_n 0, 1) := by decide +kernel
theorem dX11_residue_89 : decode cX11_residue 89 = .ok (.getfield 27, 3) := by decide +kernel
theorem dX11_residue_92 : decode cX11_residue 92 = .ok (.iload 8, 2) := by decide +kernel
theorem dX11_residue_94 : decode cX11_residue 94 = .ok (.iaload, 1) := by decide +kernel
theorem dX11_residue_95 : decode cX11_residue 95 = .ok (.i2l, 1) := by decide +kernel
theorem dX11_residue_96 : decode cX11_residue 96 = .ok (.aload_n 0, 1) := by decide +kernel
theorem dX11_residue_97 : decode cX11_residue 97 = .ok (.getfield 48, 3) := by decide +kernel
theorem dX11_residue_100 : decode cX11_residue 100 = .ok (.iload 7, 2) := by decide +kernel
theorem dX11_residue_102 : decode cX11_residue 102 = .ok (.laload, 1) := by decide +kernel
theorem dX11_residue_103 : decode cX11_residue 103 = .ok (.aload_n 0, 1) := by decide +kernel
theorem dX11_residue_104 : decode cX11_residue 104 = .ok (.getfield 52, 3) := by decide +kernel
theorem dX11_residue_107 : decode cX11_residue 107 = .ok (.iload 7, 2) := by decide +kernel
theorem dX11_residue_109 : decode cX11_residue 109 = .ok (.laload, 1) := by decide +kernel
theorem dX11_residue_110 : decode cX11_residue 110 = .ok (.invokevirtual 129, 3) := by decide +kernel
theorem dX11_residue_113 : decode cX11_residue 113 = .ok (.aload_n 0, 1) := by decide +kernel
theorem dX11_residue_114 : decode cX11_residue 114 = .ok (.getfield 77, 3) := by decide +kernel
theorem dX11_residue_117 : decode cX11_residue 117 = .ok (.ifCond .eq 6, 3) := by decide +kernel
theorem dX11_residue_120 : decode cX11_residue 120 = .ok (.ldc 165, 2) := by decide +kernel
theorem dX11_residue_122 : decode cX11_residue 122 = .ok (.ireturn, 1) := by decide +kernel
theorem dX11_residue_123 : decode cX11_residue 123 = .ok (.aload_n 0, 1) := by decide +kernel
theorem dX11_residue_124 : decode cX11_residue 124 = .ok (.lload_n 3, 1) := by decide +kernel
theorem dX11_residue_125 : decode cX11_residue 125 = .ok (.lload 5, 2) := by decide +kernel
theorem dX11_residue_127 : decode cX11_residue 127 = .ok (.aload_n 0, 1) := by decide +kernel
theorem dX11_residue_128 : decode cX11_residue 128 = .ok (.getfield 66, 3) := by decide +kernel
theorem dX11_residue_131 : decode cX11_residue 131 = .ok (.aload_n 0, 1) := by decide +kernel
theorem dX11_residue_132 : decode cX11_residue 132 = .ok (.getfield 70, 3) := by decide +kernel
theorem dX11_residue_135 : decode cX11_residue 135 = .ok (.invokevirtual 137, 3) := by decide +kernel
theorem dX11_residue_138 : decode cX11_residue 138 = .ok (.aload_n 0, 1) := by decide +kernel
theorem dX11_residue_139 : decode cX11_residue 139 = .ok (.getfield 77, 3) := by decide +kernel
theorem dX11_residue_142 : decode cX11_residue 142 = .ok (.ifCond .eq 6, 3) := by decide +kernel
theorem dX11_residue_145 : decode cX11_residue 145 = .ok (.ldc 165, 2) := by decide +kernel
theorem dX11_residue_147 : decode cX11_residue 147 = .ok (.ireturn, 1) := by decide +kernel
theorem dX11_residue_148 : decode cX11_residue 148 = .ok (.aload_n 0, 1) := by decide +kernel
theorem dX11_residue_149 : decode cX11_residue 149 = .ok (.getfield 66, 3) := by decide +kernel
theorem dX11_residue_152 : decode cX11_residue 152 = .ok (.lstore_n 3, 1) := by decide +kernel
theorem dX11_residue_153 : decode cX11_residue 153 = .ok (.aload_n 0, 1) := by decide +kernel
theorem dX11_residue_154 : decode cX11_residue 154 = .ok (.getfield 70, 3) := by decide +kernel
theorem dX11_residue_157 : decode cX11_residue 157 = .ok (.lstore 5, 2) := by decide +kernel
theorem dX11_residue_159 : decode cX11_residue 159 = .ok (.iinc 7 1, 3) := by decide +kernel
theorem dX11_residue_162 : decode cX11_residue 162 = .ok (.goto (-126), 3) := by decide +kernel
theorem dX11_residue_165 : decode cX11_residue 165 = .ok (.aload_n 0, 1) := by decide +kernel
theorem dX11_residue_166 : decode cX11_residue 166 = .ok (.lload_n 3, 1) := by decide +kernel
theorem dX11_residue_167 : decode cX11_residue 167 = .ok (.lload 5, 2) := by decide +kernel
theorem dX11_residue_169 : decode cX11_residue 169 = .ok (.aload_n 0, 1) := by decide +kernel
theorem dX11_residue_170 : decode cX11_residue 170 = .ok (.getfield 24, 3) := by decide +kernel
theorem dX11_residue_173 : decode cX11_residue 173 = .ok (.iload_n 1, 1) := by decide +kernel
theorem dX11_residue_174 : decode cX11_residue 174 = .ok (.aload_n 0, 1) := by decide +kernel
theorem dX11_residue_175 : decode cX11_residue 175 = .ok (.getfield 93, 3) := by decide +kernel
theorem dX11_residue_178 : decode cX11_residue 178 = .ok (.invokestatic 89, 3) := by decide +kernel
theorem dX11_residue_181 : decode cX11_residue 181 = .ok (.iaload, 1) := by decide +kernel
theorem dX11_residue_182 : decode cX11_residue 182 = .ok (.ineg, 1) := by decide +kernel
theorem dX11_residue_183 : decode cX11_residue 183 = .ok (.i2l, 1) := by decide +kernel
theorem dX11_residue_184 : decode cX11_residue 184 = .ok (.aload_n 0, 1) := by decide +kernel
theorem dX11_residue_185 : decode cX11_residue 185 = .ok (.getfield 27, 3) := by decide +kernel
theorem dX11_residue_188 : decode cX11_residue 188 = .ok (.iload_n 1, 1) := by decide +kernel
theorem dX11_residue_189 : decode cX11_residue 189 = .ok (.aload_n 0, 1) := by decide +kernel
theorem dX11_residue_190 : decode cX11_residue 190 = .ok (.getfield 93, 3) := by decide +kernel
theorem dX11_residue_193 : decode cX11_residue 193 = .ok (.invokestatic 89, 3) := by decide +kernel
theorem dX11_residue_196 : decode cX11_residue 196 = .ok (.iaload, 1) := by decide +kernel
theorem dX11_residue_197 : decode cX11_residue 197 = .ok (.i2l, 1) := by decide +kernel
theorem dX11_residue_198 : decode cX11_residue 198 = .ok (.invokevirtual 137, 3) := by decide +kernel
theorem dX11_residue_201 : decode cX11_residue 201 = .ok (.aload_n 0, 1) := by decide +kernel
theorem dX11_residue_202 : decode cX11_residue 202 = .ok (.getfield 77, 3) := by decide +kernel
theorem dX11_residue_205 : decode cX11_residue 205 = .ok (.ifCond .eq 8, 3) := by decide +kernel
theorem dX11_residue_208 : decode cX11_residue 208 = .ok (.ldc 165, 2) := by decide +kernel
theorem dX11_residue_210 : decode cX11_residue 210 = .ok (.goto 8, 3) := by decide +kernel
theorem dX11_residue_213 : decode cX11_residue 213 = .ok (.aload_n 0, 1) := by decide +kernel
theorem dX11_residue_214 : decode cX11_residue 214 = .ok (.iload_n 2, 1) := by decide +kernel
theorem dX11_residue_215 : decode cX11_residue 215 = .ok (.invokevirtual 252, 3) := by decide +kernel
theorem dX11_residue_218 : decode cX11_residue 218 = .ok (.ireturn, 1) := by decide +kernel
theorem dX11_feed_0 : decode cX11_feed 0 = .ok (.aload_n 0, 1) := by decide +kernel
theorem dX11_feed_1 : decode cX11_feed 1 = .ok (.getfield 229, 3) := by decide +kernel
theorem dX11_feed_4 : decode cX11_feed 4 = .ok (.bipush 20, 2) := by decide +kernel
theorem dX11_feed_6 : decode cX11_feed 6 = .ok (.iadd, 1) := by decide +kernel
theorem dX11_feed_7 : decode cX11_feed 7 = .ok (.sipush 400, 3) := by decide +kernel
theorem dX11_feed_10 : decode cX11_feed 10 = .ok (.if_icmp .le 5, 3) := by decide +kernel
theorem dX11_feed_13 : decode cX11_feed 13 = .ok (.iconst (-1), 1) := by decide +kernel
theorem dX11_feed_14 : decode cX11_feed 14 = .ok (.ireturn, 1) := by decide +kernel
theorem dX11_feed_15 : decode cX11_feed 15 = .ok (.iconst 0, 1) := by decide +kernel
theorem dX11_feed_16 : decode cX11_feed 16 = .ok (.istore 6, 2) := by decide +kernel
theorem dX11_feed_18 : decode cX11_feed 18 = .ok (.iload 6, 2) := by decide +kernel
theorem dX11_feed_20 : decode cX11_feed 20 = .ok (.bipush 20, 2) := by decide +kernel
theorem dX11_feed_22 : decode cX11_feed 22 = .ok (.if_icmp .ge 86, 3) := by decide +kernel
theorem dX11_feed_25 : decode cX11_feed 25 = .ok (.iload 6, 2) := by decide +kernel
theorem dX11_feed_27 : decode cX11_feed 27 = .ok (.iconst 4, 1) := by decide +kernel
theorem dX11_feed_28 : decode cX11_feed 28 = .ok (.if_icmp .ge 7, 3) := by decide +kernel
theorem dX11_feed_31 : decode cX11_feed 31 = .ok (.iload_n 1, 1) := by decide +kernel
theorem dX11_feed_32 : decode cX11_feed 32 = .ok (.goto 39, 3) := by decide +kernel
theorem dX11_feed_35 : decode cX11_feed 35 = .ok (.iload 6, 2) := by decide +kernel
theorem dX11_feed_37 : decode cX11_feed 37 = .ok (.bipush 8, 2) := by decide +kernel
theorem dX11_feed_39 : decode cX11_feed 39 = .ok (.if_icmp .ge 7, 3) := by decide +kernel
theorem dX11_feed_42 : decode cX11_feed 42 = .ok (.iload_n 2, 1) := by decide +kernel
theorem dX11_feed_43 : decode cX11_feed 43 = .ok (.goto 28, 3) := by decide +kernel
theorem dX11_feed_46 : decode cX11_feed 46 = .ok (.iload 6, 2) := by decide +kernel
theorem dX11_feed_48 : decode cX11_feed 48 = .ok (.bipush 12, 2) := by decide +kernel
theorem dX11_feed_50 : decode cX11_feed 50 = .ok (.if_icmp .ge 7, 3) := by decide +kernel
theorem dX11_feed_53 : decode cX11_feed 53 = .ok (.iload_n 3, 1) := by decide +kernel
theorem dX11_feed_54 : decode cX11_feed 54 = .ok (.goto 17, 3) := by decide +kernel
theorem dX11_feed_57 : decode cX11_feed 57 = .ok (.iload 6, 2) := by decide +kernel
theorem dX11_feed_59 : decode cX11_feed 59 = .ok (.bipush 16, 2) := by decide +kernel
theorem dX11_feed_61 : decode cX11_feed 61 = .ok (.if_icmp .ge 8, 3) := by decide +kernel
theorem dX11_feed_64 : decode cX11_feed 64 = .ok (.iload 4, 2) := by decide +kernel
theorem dX11_feed_66 : decode cX11_feed 66 = .ok (.goto 5, 3) := by decide +kernel
theorem dX11_feed_69 : decode cX11_feed 69 = .ok (.iload 5, 2) := by decide +kernel
theorem dX11_feed_71 : decode cX11_feed 71 = .ok (.istore 7, 2) := by decide +kernel
theorem dX11_feed_73 : decode cX11_feed 73 = .ok (.aload_n 0, 1) := by decide +kernel
theorem dX11_feed_74 : decode cX11_feed 74 = .ok (.getfield 13, 3) := by decide +kernel
theorem dX11_feed_77 : decode cX11_feed 77 = .ok (.aload_n 0, 1) := by decide +kernel
theorem dX11_feed_78 : decode cX11_feed 78 = .ok (.getfield 229, 3) := by decide +kernel
theorem dX11_feed_81 : decode cX11_feed 81 = .ok (.iload 6, 2) := by decide +kernel
theorem dX11_feed_83 : decode cX11_feed 83 = .ok (.iadd, 1) := by decide +kernel
theorem dX11_feed_84 : decode cX11_feed 84 = .ok (.iload 7, 2) := by decide +kernel
theorem dX11_feed_86 : decode cX11_feed 86 = .ok (.bipush 24, 2) := by decide +kernel
theorem dX11_feed_88 : decode cX11_feed 88 = .ok (.bipush 8, 2) := by decide +kernel
theorem dX11_feed_90 : decode cX11_feed 90 = .ok (.iload 6, 2) := by decide +kernel
theorem dX11_feed_92 : decode cX11_feed 92 = .ok (.iconst 3, 1) := by decide +kernel
theorem dX11_feed_93 : decode cX11_feed 93 = .ok (.iand, 1) := by decide +kernel
theorem dX11_feed_94 : decode cX11_feed 94 = .ok (.imul, 1) := by decide +kernel
theorem dX11_feed_95 : decode cX11_feed 95 = .ok (.isub, 1) := by decide +kernel
theorem dX11_feed_96 : decode cX11_feed 96 = .ok (.ishr, 1) := by decide +kernel
theorem dX11_feed_97 : decode cX11_feed 97 = .ok (.sipush 255, 3) := by decide +kernel
theorem dX11_feed_100 : decode cX11_feed 100 = .ok (.iand, 1) := by decide +kernel
theorem dX11_feed_101 : decode cX11_feed 101 = .ok (.iastore, 1) := by decide +kernel
theorem dX11_feed_102 : decode cX11_feed 102 = .ok (.iinc 6 1, 3) := by decide +kernel
theorem dX11_feed_105 : decode cX11_feed 105 = .ok (.goto (-87), 3) := by decide +kernel
theorem dX11_feed_108 : decode cX11_feed 108 = .ok (.aload_n 0, 1) := by decide +kernel
theorem dX11_feed_109 : decode cX11_feed 109 = .ok (.dup, 1) := by decide +kernel
theorem dX11_feed_110 : decode cX11_feed 110 = .ok (.getfield 229, 3) := by decide +kernel
theorem dX11_feed_113 : decode cX11_feed 113 = .ok (.bipush 20, 2) := by decide +kernel
theorem dX11_feed_115 : decode cX11_feed 115 = .ok (.iadd, 1) := by decide +kernel
theorem dX11_feed_116 : decode cX11_feed 116 = .ok (.putfield 229, 3) := by decide +kernel
theorem dX11_feed_119 : decode cX11_feed 119 = .ok (.aload_n 0, 1) := by decide +kernel
theorem dX11_feed_120 : decode cX11_feed 120 = .ok (.getfield 229, 3) := by decide +kernel
theorem dX11_feed_123 : decode cX11_feed 123 = .ok (.ireturn, 1) := by decide +kernel
set_option maxRecDepth 20000 in
theorem ggX11_end_X11_isIn : GoodIn wsX11_end wsX11_isIn := goodIn_r _ [5] rfl rfl
set_option maxRecDepth 20000 in
theorem gX11_end_X11_isIn : GoodIn wsX11_end (va_wsS RX11 85 yX11_isIn wsX11_isIn) := goodIn_app (goodIn_of _ (by decide +kernel)) ggX11_end_X11_isIn
theorem dX11_end_0 : decode cX11_end 0 = .ok (.iload_n 1, 1) := by decide +kernel
theorem dX11_end_1 : decode cX11_end 1 = .ok (.iconst 0, 1) := by decide +kernel
theorem dX11_end_2 : decode cX11_end 2 = .ok (.aload_n 0, 1) := by decide +kernel
theorem dX11_end_3 : decode cX11_end 3 = .ok (.getfield 229, 3) := by decide +kernel
theorem dX11_end_6 : decode cX11_end 6 = .ok (.invokestatic 85, 3) := by decide +kernel
theorem dX11_end_9 : decode cX11_end 9 = .ok (.ifCond .ne 5, 3) := by decide +kernel
theorem dX11_end_12 : decode cX11_end 12 = .ok (.iconst (-1), 1) := by decide +kernel
theorem dX11_end_13 : decode cX11_end 13 = .ok (.ireturn, 1) := by decide +kernel
theorem dX11_end_14 : decode cX11_end 14 = .ok (.aload_n 0, 1) := by decide +kernel
theorem dX11_end_15 : decode cX11_end 15 = .ok (.iload_n 1, 1) := by decide +kernel
theorem dX11_end_16 : decode cX11_end 16 = .ok (.putfield 229, 3) := by decide +kernel
theorem dX11_end_19 : decode cX11_end 19 = .ok (.iload_n 1, 1) := by decide +kernel
theorem dX11_end_20 : decode cX11_end 20 = .ok (.ireturn, 1) := by decide +kernel
theorem dX11_fault_0 : decode cX11_fault 0 = .ok (.iload_n 1, 1) := by decide +kernel
theorem dX11_fault_1 : decode cX11_fault 1 = .ok (.ifCond .ne 10, 3) := by decide +kernel
theorem dX11_fault_4 : decode cX11_fault 4 = .ok (.aload_n 0, 1) := by decide +kernel
theorem dX11_fault_5 : decode cX11_fault 5 = .ok (.getfield 259, 3) := by decide +kernel
theorem dX11_fault_8 : decode cX11_fault 8 = .ok (.goto 16, 3) := by decide +kernel
theorem dX11_fault_11 : decode cX11_fault 11 = .ok (.iload_n 1, 1) := by decide +kernel
theorem dX11_fault_12 : decode cX11_fault 12 = .ok (.iconst 1, 1) := by decide +kernel
theorem dX11_fault_13 : decode cX11_fault 13 = .ok (.if_icmp .ne 10, 3) := by decide +kernel
theorem dX11_fault_16 : decode cX11_fault 16 = .ok (.aload_n 0, 1) := by decide +kernel
theorem dX11_fault_17 : decode cX11_fault 17 = .ok (.getfield 20, 3) := by decide +kernel
theorem dX11_fault_20 : decode cX11_fault 20 = .ok (.goto 4, 3) := by decide +kernel
theorem dX11_fault_23 : decode cX11_fault 23 = .ok (.iconst (-1), 1) := by decide +kernel
theorem dX11_fault_24 : decode cX11_fault 24 = .ok (.ireturn, 1) := by decide +kernel
theorem dX11_byteAt_0 : decode cX11_byteAt 0 = .ok (.iload_n 1, 1) := by decide +kernel
theorem dX11_byteAt_1 : decode cX11_byteAt 1 = .ok (.aload_n 0, 1) := by decide +kernel
theorem dX11_byteAt_2 : decode cX11_byteAt 2 = .ok (.getfield 262, 3) := by decide +kernel
theorem dX11_byteAt_5 : decode cX11_byteAt 5 = .ok (.if_icmp .ge 12, 3) := by decide +kernel
theorem dX11_byteAt_8 : decode cX11_byteAt 8 = .ok (.aload_n 0, 1) := by decide +kernel
theorem dX11_byteAt_9 : decode cX11_byteAt 9 = .ok (.getfield 13, 3) := by decide +kernel
theorem dX11_byteAt_12 : decode cX11_byteAt 12 = .ok (.iload_n 1, 1) := by decide +kernel
theorem dX11_byteAt_13 : decode cX11_byteAt 13 = .ok (.iaload, 1) := by decide +kernel
theorem dX11_byteAt_14 : decode cX11_byteAt 14 = .ok (.goto 4, 3) := by decide +kernel
theorem dX11_byteAt_17 : decode cX11_byteAt 17 = .ok (.iconst (-1), 1) := by decide +kernel
theorem dX11_byteAt_18 : decode cX11_byteAt 18 = .ok (.ireturn, 1) := by decide +kernel
theorem dX11_isLetter_0 : decode cX11_isLetter 0 = .ok (.iload_n 0, 1) := by decide +kernel
theorem dX11_isLetter_1 : decode cX11_isLetter 1 = .ok (.bipush 97, 2) := by decide +kernel
theorem dX11_isLetter_3 : decode cX11_isLetter 3 = .ok (.if_icmp .lt 13, 3) := by decide +kernel
theorem dX11_isLetter_6 : decode cX11_isLetter 6 = .ok (.iload_n 0, 1) := by decide +kernel
theorem dX11_isLetter_7 : decode cX11_isLetter 7 = .ok (.bipush 122, 2) := by decide +kernel
theorem dX11_isLetter_9 : decode cX11_isLetter 9 = .ok (.if_icmp .gt 7, 3) := by decide +kernel
theorem dX11_isLetter_12 : decode cX11_isLetter 12 = .ok (.iconst 1, 1) := by decide +kernel
theorem dX11_isLetter_13 : decode cX11_isLetter 13 = .ok (.goto 4, 3) := by decide +kernel
theorem dX11_isLetter_16 : decode cX11_isLetter 16 = .ok (.iconst 0, 1) := by decide +kernel
theorem dX11_isLetter_17 : decode cX11_isLetter 17 = .ok (.ireturn, 1) := by decide +kernel
theorem dX11_isDigit_0 : decode cX11_isDigit 0 = .ok (.iload_n 0, 1) := by decide +kernel
theorem dX11_isDigit_1 : decode cX11_isDigit 1 = .ok (.bipush 48, 2) := by decide +kernel
theorem dX11_isDigit_3 : decode cX11_isDigit 3 = .ok (.if_icmp .lt 13, 3) := by decide +kernel
theorem dX11_isDigit_6 : decode cX11_isDigit 6 = .ok (.iload_n 0, 1) := by decide +kernel
theorem dX11_isDigit_7 : decode cX11_isDigit 7 = .ok (.bipush 57, 2) := by decide +kernel
theorem dX11_isDigit_9 : decode cX11_isDigit 9 = .ok (.if_icmp .gt 7, 3) := by decide +kernel
theorem dX11_isDigit_12 : decode cX11_isDigit 12 = .ok (.iconst 1, 1) := by decide +kernel
theorem dX11_isDigit_13 : decode cX11_isDigit 13 = .ok (.goto 4, 3) := by decide +kernel
theorem dX11_isDigit_16 : decode cX11_isDigit 16 = .ok (.iconst 0, 1) := by decide +kernel
theorem dX11_isDigit_17 : decode cX11_isDigit 17 = .ok (.ireturn, 1) := by decide +kernel
set_option maxRecDepth 20000 in
theorem ggX11_takes_X11_byteAt : GoodIn wsX11_takes wsX11_byteAt := goodIn_r _ [14, 15, 16, 23, 24, 25, 26, 27, 28, 29, 30, 31, 32, 33, 34, 35, 36, 37, 38, 39, 40, 41, 42, 43, 44, 45, 46, 47, 48, 49, 50, 51, 52, 53, 54, 55, 56, 57, 58] rfl rfl
set_option maxRecDepth 20000 in
theorem gX11_takes_X11_byteAt : GoodIn wsX11_takes (wsV RX11 268 RX11 yX11_byteAt wsX11_byteAt) := goodIn_app (goodIn_of _ (by decide +kernel)) ggX11_takes_X11_byteAt
set_option maxRecDepth 20000 in
theorem ggX11_takes_X11_isLetter : GoodIn wsX11_takes wsX11_isLetter := goodIn_r _ [19] rfl rfl
set_option maxRecDepth 20000 in
theorem gX11_takes_X11_isLetter : GoodIn wsX11_takes (va_wsS RX11 280 yX11_isLetter wsX11_isLetter) := goodIn_app (goodIn_of _ (by decide +kernel)) ggX11_takes_X11_isLetter
set_option maxRecDepth 20000 in
theorem ggX11_takes_X11_isDigit : GoodIn wsX11_takes wsX11_isDigit := goodIn_r _ [22] rfl rfl
set_option maxRecDepth 20000 in
theorem gX11_takes_X11_isDigit : GoodIn wsX11_takes (va_wsS RX11 289 yX11_isDigit wsX11_isDigit) := goodIn_app (goodIn_of _ (by decide +kernel)) ggX11_takes_X11_isDigit
theorem dX11_takes_0 : decode cX11_takes 0 = .ok (.aload_n 0, 1) := by decide +kernel
theorem dX11_takes_1 : decode cX11_takes 1 = .ok (.aload_n 0, 1) := by decide +kernel
theorem dX11_takes_2 : decode cX11_takes 2 = .ok (.getfield 265, 3) := by decide +kernel
theorem dX11_takes_5 : decode cX11_takes 5 = .ok (.invokevirtual 268, 3) := by decide +kernel
theorem dX11_takes_8 : decode cX11_takes 8 = .ok (.bipush 32, 2) := by decide +kernel
theorem dX11_takes_10 : decode cX11_takes 10 = .ok (.if_icmp .eq 16, 3) := by decide +kernel
theorem dX11_takes_13 : decode cX11_takes 13 = .ok (.aload_n 0, 1) := by decide +kernel
theorem dX11_takes_14 : decode cX11_takes 14 = .ok (.aload_n 0, 1) := by decide +kernel
theorem dX11_takes_15 : decode cX11_takes 15 = .ok (.getfield 265, 3) := by decide +kernel
theorem dX11_takes_18 : decode cX11_takes 18 = .ok (.invokevirtual 268, 3) := by decide +kernel
theorem dX11_takes_21 : decode cX11_takes 21 = .ok (.bipush 10, 2) := by decide +kernel
theorem dX11_takes_23 : decode cX11_takes 23 = .ok (.if_icmp .ne 16, 3) := by decide +kernel
theorem dX11_takes_26 : decode cX11_takes 26 = .ok (.aload_n 0, 1) := by decide +kernel
theorem dX11_takes_27 : decode cX11_takes 27 = .ok (.dup, 1) := by decide +kernel
theorem dX11_takes_28 : decode cX11_takes 28 = .ok (.getfield 265, 3) := by decide +kernel
theorem dX11_takes_31 : decode cX11_takes 31 = .ok (.iconst 1, 1) := by decide +kernel
theorem dX11_takes_32 : decode cX11_takes 32 = .ok (.iadd, 1) := by decide +kernel
theorem dX11_takes_33 : decode cX11_takes 33 = .ok (.putfield 265, 3) := by decide +kernel
theorem dX11_takes_36 : decode cX11_takes 36 = .ok (.goto (-36), 3) := by decide +kernel
theorem dX11_takes_39 : decode cX11_takes 39 = .ok (.aload_n 0, 1) := by decide +kernel
theorem dX11_takes_40 : decode cX11_takes 40 = .ok (.aload_n 0, 1) := by decide +kernel
theorem dX11_takes_41 : decode cX11_takes 41 = .ok (.getfield 265, 3) := by decide +kernel
theorem dX11_takes_44 : decode cX11_takes 44 = .ok (.putfield 271, 3) := by decide +kernel
theorem dX11_takes_47 : decode cX11_takes 47 = .ok (.aload_n 0, 1) := by decide +kernel
theorem dX11_takes_48 : decode cX11_takes 48 = .ok (.aload_n 0, 1) := by decide +kernel
theorem dX11_takes_49 : decode cX11_takes 49 = .ok (.getfield 265, 3) := by decide +kernel
theorem dX11_takes_52 : decode cX11_takes 52 = .ok (.invokevirtual 268, 3) := by decide +kernel
theorem dX11_takes_55 : decode cX11_takes 55 = .ok (.istore_n 1, 1) := by decide +kernel
theorem dX11_takes_56 : decode cX11_takes 56 = .ok (.aload_n 0, 1) := by decide +kernel
theorem dX11_takes_57 : decode cX11_takes 57 = .ok (.lconst 0, 1) := by decide +kernel
theorem dX11_takes_58 : decode cX11_takes 58 = .ok (.putfield 274, 3) := by decide +kernel
theorem dX11_takes_61 : decode cX11_takes 61 = .ok (.iload_n 1, 1) := by decide +kernel
theorem dX11_takes_62 : decode cX11_takes 62 = .ok (.ifCond .ge 11, 3) := by decide +kernel
theorem dX11_takes_65 : decode cX11_takes 65 = .ok (.aload_n 0, 1) := by decide +kernel
theorem dX11_takes_66 : decode cX11_takes 66 = .ok (.iconst 0, 1) := by decide +kernel
theorem dX11_takes_67 : decode cX11_takes 67 = .ok (.putfield 277, 3) := by decide +kernel
theorem dX11_takes_70 : decode cX11_takes 70 = .ok (.goto 241, 3) := by decide +kernel
theorem dX11_takes_73 : decode cX11_takes 73 = .ok (.iload_n 1, 1) := by decide +kernel
theorem dX11_takes_74 : decode cX11_takes 74 = .ok (.invokestatic 280, 3) := by decide +kernel
theorem dX11_takes_77 : decode cX11_takes 77 = .ok (.ifCond .eq 86, 3) := by decide +kernel
theorem dX11_takes_80 : decode cX11_takes 80 = .ok (.aload_n 0, 1) := by decide +kernel
theorem dX11_takes_81 : decode cX11_takes 81 = .ok (.aload_n 0, 1) := by decide +kernel
theorem dX11_takes_82 : decode cX11_takes 82 = .ok (.getfield 265, 3) := by decide +kernel
theorem dX11_takes_85 : decode cX11_takes 85 = .ok (.invokevirtual 268, 3) := by decide +kernel
theorem dX11_takes_88 : decode cX11_takes 88 = .ok (.invokestatic 280, 3) := by decide +kernel
theorem dX11_takes_91 : decode cX11_takes 91 = .ok (.ifCond .eq 64, 3) := by decide +kernel
theorem dX11_takes_94 : decode cX11_takes 94 = .ok (.aload_n 0, 1) := by decide +kernel
theorem dX11_takes_95 : decode cX11_takes 95 = .ok (.aload_n 0, 1) := by decide +kernel
theorem dX11_takes_96 : decode cX11_takes 96 = .ok (.getfield 265, 3) := by decide +kernel
theorem dX11_takes_99 : decode cX11_takes 99 = .ok (.aload_n 0, 1) := by decide +kernel
theorem dX11_takes_100 : decode cX11_takes 100 = .ok (.getfield 271, 3) := by decide +kernel
theorem dX11_takes_103 : decode cX11_takes 103 = .ok (.isub, 1) := by decide +kernel
theorem dX11_takes_104 : decode cX11_takes 104 = .ok (.bipush 9, 2) := by decide +kernel
theorem dX11_takes_106 : decode cX11_takes 106 = .ok (.if_icmp .ge 30, 3) := by decide +kernel
theorem dX11_takes_109 : decode cX11_takes 109 = .ok (.ldc2_w 283, 3) := by decide +kernel
theorem dX11_takes_112 : decode cX11_takes 112 = .ok (.aload_n 0, 1) := by decide +kernel
theorem dX11_takes_113 : decode cX11_takes 113 = .ok (.getfield 274, 3) := by decide +kernel
theorem dX11_takes_116 : decode cX11_takes 116 = .ok (.lmul, 1) := by decide +kernel
theorem dX11_takes_117 : decode cX11_takes 117 = .ok (.aload_n 0, 1) := by decide +kernel
theorem dX11_takes_118 : decode cX11_takes 118 = .ok (.aload_n 0, 1) := by decide +kernel
theorem dX11_takes_119 : decode cX11_takes 119 = .ok (.getfield 265, 3) := by decide +kernel
theorem dX11_takes_122 : decode cX11_takes 122 = .ok (.invokevirtual 268, 3) := by decide +kernel
theorem dX11_takes_125 : decode cX11_takes 125 = .ok (.i2l, 1) := by decide +kernel
theorem dX11_takes_126 : decode cX11_takes 126 = .ok (.ladd, 1) := by decide +kernel
theorem dX11_takes_127 : decode cX11_takes 127 = .ok (.ldc2_w 285, 3) := by decide +kernel
theorem dX11_takes_130 : decode cX11_takes 130 = .ok (.lsub, 1) := by decide +kernel
theorem dX11_takes_131 : decode cX11_takes 131 = .ok (.lconst 1, 1) := by decide +kernel
theorem dX11_takes_132 : decode cX11_takes 132 = .ok (.ladd, 1) := by decide +kernel
theorem dX11_takes_133 : decode cX11_takes 133 = .ok (.goto 6, 3) := by decide +kernel
theorem dX11_takes_136 : decode cX11_takes 136 = .ok (.ldc2_w 287, 3) := by decide +kernel
theorem dX11_takes_139 : decode cX11_takes 139 = .ok (.putfield 274, 3) := by decide +kernel
theorem dX11_takes_142 : decode cX11_takes 142 = .ok (.aload_n 0, 1) := by decide +kernel
theorem dX11_takes_143 : decode cX11_takes 143 = .ok (.dup, 1) := by decide +kernel
theorem dX11_takes_144 : decode cX11_takes 144 = .ok (.getfield 265, 3) := by decide +kernel
theorem dX11_takes_147 : decode cX11_takes 147 = .ok (.iconst 1, 1) := by decide +kernel
theorem dX11_takes_148 : decode cX11_takes 148 = .ok (.iadd, 1) := by decide +kernel
theorem dX11_takes_149 : decode cX11_takes 149 = .ok (.putfield 265, 3) := by decide +kernel
theorem dX11_takes_152 : decode cX11_takes 152 = .ok (.goto (-72), 3) := by decide +kernel
theorem dX11_takes_155 : decode cX11_takes 155 = .ok (.aload_n 0, 1) := by decide +kernel
theorem dX11_takes_156 : decode cX11_takes 156 = .ok (.iconst 1, 1) := by decide +kernel
theorem dX11_takes_157 : decode cX11_takes 157 = .ok (.putfield 277, 3) := by decide +kernel
theorem dX11_takes_160 : decode cX11_takes 160 = .ok (.goto 151, 3) := by decide +kernel
theorem dX11_takes_163 : decode cX11_takes 163 = .ok (.iload_n 1, 1) := by decide +kernel
theorem dX11_takes_164 : decode cX11_takes 164 = .ok (.invokestatic 289, 3) := by decide +kernel
theorem dX11_takes_167 : decode cX11_takes 167 = .ok (.ifCond .eq 101, 3) := by decide +kernel
theorem dX11_takes_170 : decode cX11_takes 170 = .ok (.aload_n 0, 1) := by decide +kernel
theorem dX11_takes_171 : decode cX11_takes 171 = .ok (.aload_n 0, 1) := by decide +kernel
theorem dX11_takes_172 : decode cX11_takes 172 = .ok (.getfield 265, 3) := by decide +kernel
theorem dX11_takes_175 : decode cX11_takes 175 = .ok (.invokevirtual 268, 3) := by decide +kernel
theorem dX11_takes_178 : decode cX11_takes 178 = .ok (.invokestatic 289, 3) := by decide +kernel
theorem dX11_takes_181 : decode cX11_takes 181 = .ok (.ifCond .eq 62, 3) := by decide +kernel
theorem dX11_takes_184 : decode cX11_takes 184 = .ok (.aload_n 0, 1) := by decide +kernel
theorem dX11_takes_185 : decode cX11_takes 185 = .ok (.aload_n 0, 1) := by decide +kernel
theorem dX11_takes_186 : decode cX11_takes 186 = .ok (.getfield 265, 3) := by decide +kernel
theorem dX11_takes_189 : decode cX11_takes 189 = .ok (.aload_n 0, 1) := by decide +kernel
theorem dX11_takes_190 : decode cX11_takes 190 = .ok (.getfield 271, 3) := by decide +kernel
theorem dX11_takes_193 : decode cX11_takes 193 = .ok (.isub, 1) := by decide +kernel
theorem dX11_takes_194 : decode cX11_takes 194 = .ok (.iconst 3, 1) := by decide +kernel
theorem dX11_takes_195 : decode cX11_takes 195 = .ok (.if_icmp .ge 28, 3) := by decide +kernel
theorem dX11_takes_198 : decode cX11_takes 198 = .ok (.ldc2_w 292, 3) := by decide +kernel
theorem dX11_takes_201 : decode cX11_takes 201 = .ok (.aload_n 0, 1) := by decide +kernel
theorem dX11_takes_202 : decode cX11_takes 202 = .ok (.getfield 274, 3) := by decide +kernel
theorem dX11_takes_205 : decode cX11_takes 205 = .ok (.lmul, 1) := by decide +kernel
theorem dX11_takes_206 : decode cX11_takes 206 = .ok (.aload_n 0, 1) := by decide +kernel
theorem dX11_takes_207 : decode cX11_takes 207 = .ok (.aload_n 0, 1) := by decide +kernel
theorem dX11_takes_208 : decode cX11_takes 208 = .ok (.getfield 265, 3) := by decide +kernel
theorem dX11_takes_211 : decode cX11_takes 211 = .ok (.invokevirtual 268, 3) := by decide +kernel
theorem dX11_takes_214 : decode cX11_takes 214 = .ok (.i2l, 1) := by decide +kernel
theorem dX11_takes_215 : decode cX11_takes 215 = .ok (.ladd, 1) := by decide +kernel
theorem dX11_takes_216 : decode cX11_takes 216 = .ok (.ldc2_w 294, 3) := by decide +kernel
theorem dX11_takes_219 : decode cX11_takes 219 = .ok (.lsub, 1) := by decide +kernel
theorem dX11_takes_220 : decode cX11_takes 220 = .ok (.goto 7, 3) := by decide +kernel
theorem dX11_takes_223 : decode cX11_takes 223 = .ok (.aload_n 0, 1) := by decide +kernel
theorem dX11_takes_224 : decode cX11_takes 224 = .ok (.getfield 274, 3) := by decide +kernel
theorem dX11_takes_227 : decode cX11_takes 227 = .ok (.putfield 274, 3) := by decide +kernel
theorem dX11_takes_230 : decode cX11_takes 230 = .ok (.aload_n 0, 1) := by decide +kernel
theorem dX11_takes_231 : decode cX11_takes 231 = .ok (.dup, 1) := by decide +kernel
theorem dX11_takes_232 : decode cX11_takes 232 = .ok (.getfield 265, 3) := by decide +kernel
theorem dX11_takes_235 : decode cX11_takes 235 = .ok (.iconst 1, 1) := by decide +kernel
theorem dX11_takes_236 : decode cX11_takes 236 = .ok (.iadd, 1) := by decide +kernel
theorem dX11_takes_237 : decode cX11_takes 237 = .ok (.putfield 265, 3) := by decide +kernel
theorem dX11_takes_240 : decode cX11_takes 240 = .ok (.goto (-70), 3) := by decide +kernel
theorem dX11_takes_243 : decode cX11_takes 243 = .ok (.aload_n 0, 1) := by decide +kernel
theorem dX11_takes_244 : decode cX11_takes 244 = .ok (.aload_n 0, 1) := by decide +kernel
theorem dX11_takes_245 : decode cX11_takes 245 = .ok (.getfield 265, 3) := by decide +kernel
theorem dX11_takes_248 : decode cX11_takes 248 = .ok (.aload_n 0, 1) := by decide +kernel
theorem dX11_takes_249 : decode cX11_takes 249 = .ok (.getfield 271, 3) := by decide +kernel
theorem dX11_takes_252 : decode cX11_takes 252 = .ok (.isub, 1) := by decide +kernel
theorem dX11_takes_253 : decode cX11_takes 253 = .ok (.iconst 3, 1) := by decide +kernel
theorem dX11_takes_254 : decode cX11_takes 254 = .ok (.if_icmp .le 7, 3) := by decide +kernel
theorem dX11_takes_257 : decode cX11_takes 257 = .ok (.iconst 4, 1) := by decide +kernel
theorem dX11_takes_258 : decode cX11_takes 258 = .ok (.goto 4, 3) := by decide +kernel
theorem dX11_takes_261 : decode cX11_takes 261 = .ok (.iconst 2, 1) := by decide +kernel
theorem dX11_takes_262 : decode cX11_takes 262 = .ok (.putfield 277, 3) := by decide +kernel
theorem dX11_takes_265 : decode cX11_takes 265 = .ok (.goto 46, 3) := by decide +kernel
theorem dX11_takes_268 : decode cX11_takes 268 = .ok (.aload_n 0, 1) := by decide +kernel
theorem dX11_takes_269 : decode cX11_takes 269 = .ok (.dup, 1) := by decide +kernel
theorem dX11_takes_270 : decode cX11_takes 270 = .ok (.getfield 265, 3) := by decide +kernel
theorem dX11_takes_273 : decode cX11_takes 273 = .ok (.iconst 1, 1) := by decide +kernel
theorem dX11_takes_274 : decode cX11_takes 274 = .ok (.iadd, 1) := by decide +kernel
theorem dX11_takes_275 : decode cX11_takes 275 = .ok (.putfield 265, 3) := by decide +kernel
theorem dX11_takes_278 : decode cX11_takes 278 = .ok (.aload_n 0, 1) := by decide +kernel
theorem dX11_takes_279 : decode cX11_takes 279 = .ok (.iload_n 1, 1) := by decide +kernel
theorem dX11_takes_280 : decode cX11_takes 280 = .ok (.i2l, 1) := by decide +kernel
theorem dX11_takes_281 : decode cX11_takes 281 = .ok (.putfield 274, 3) := by decide +kernel
theorem dX11_takes_284 : decode cX11_takes 284 = .ok (.aload_n 0, 1) := by decide +kernel
theorem dX11_takes_285 : decode cX11_takes 285 = .ok (.iload_n 1, 1) := by decide +kernel
theorem dX11_takes_286 : decode cX11_takes 286 = .ok (.bipush 59, 2) := by decide +kernel
theorem dX11_takes_288 : decode cX11_takes 288 = .ok (.if_icmp .eq 15, 3) := by decide +kernel
theorem dX11_takes_291 : decode cX11_takes 291 = .ok (.iload_n 1, 1) := by decide +kernel
theorem dX11_takes_292 : decode cX11_takes 292 = .ok (.bipush 45, 2) := by decide +kernel
theorem dX11_takes_294 : decode cX11_takes 294 = .ok (.if_icmp .eq 9, 3) := by decide +kernel
theorem dX11_takes_297 : decode cX11_takes 297 = .ok (.iload_n 1, 1) := by decide +kernel
theorem dX11_takes_298 : decode cX11_takes 298 = .ok (.bipush 47, 2) := by decide +kernel
theorem dX11_takes_300 : decode cX11_takes 300 = .ok (.if_icmp .ne 7, 3) := by decide +kernel
theorem dX11_takes_303 : decode cX11_takes 303 = .ok (.iconst 3, 1) := by decide +kernel
theorem dX11_takes_304 : decode cX11_takes 304 = .ok (.goto 4, 3) := by decide +kernel
theorem dX11_takes_307 : decode cX11_takes 307 = .ok (.iconst 4, 1) := by decide +kernel
theorem dX11_takes_308 : decode cX11_takes 308 = .ok (.putfield 277, 3) := by decide +kernel
theorem dX11_takes_311 : decode cX11_takes 311 = .ok (.return_, 1) := by decide +kernel
theorem dX11_fails_0 : decode cX11_fails 0 = .ok (.aload_n 0, 1) := by decide +kernel
theorem dX11_fails_1 : decode cX11_fails 1 = .ok (.getfield 259, 3) := by decide +kernel
theorem dX11_fails_4 : decode cX11_fails 4 = .ok (.ifCond .le 4, 3) := by decide +kernel
theorem dX11_fails_7 : decode cX11_fails 7 = .ok (.return_, 1) := by decide +kernel
theorem dX11_fails_8 : decode cX11_fails 8 = .ok (.aload_n 0, 1) := by decide +kernel
theorem dX11_fails_9 : decode cX11_fails 9 = .ok (.iload_n 1, 1) := by decide +kernel
theorem dX11_fails_10 : decode cX11_fails 10 = .ok (.putfield 259, 3) := by decide +kernel
theorem dX11_fails_13 : decode cX11_fails 13 = .ok (.aload_n 0, 1) := by decide +kernel
theorem dX11_fails_14 : decode cX11_fails 14 = .ok (.iload_n 2, 1) := by decide +kernel
theorem dX11_fails_15 : decode cX11_fails 15 = .ok (.putfield 20, 3) := by decide +kernel
theorem dX11_fails_18 : decode cX11_fails 18 = .ok (.return_, 1) := by decide +kernel
theorem dX11_isGood_0 : decode cX11_isGood 0 = .ok (.aload_n 0, 1) := by decide +kernel
theorem dX11_isGood_1 : decode cX11_isGood 1 = .ok (.getfield 259, 3) := by decide +kernel
theorem dX11_isGood_4 : decode cX11_isGood 4 = .ok (.ifCond .ne 7, 3) := by decide +kernel
theorem dX11_isGood_7 : decode cX11_isGood 7 = .ok (.iconst 1, 1) := by decide +kernel
theorem dX11_isGood_8 : decode cX11_isGood 8 = .ok (.goto 4, 3) := by decide +kernel
theorem dX11_isGood_11 : decode cX11_isGood 11 = .ok (.iconst 0, 1) := by decide +kernel
theorem dX11_isGood_12 : decode cX11_isGood 12 = .ok (.ireturn, 1) := by decide +kernel
set_option maxRecDepth 20000 in
theorem ggX11_hasWord_X11_isGood : GoodIn wsX11_hasWord wsX11_isGood := goodIn_r _ [7, 8, 32, 33, 34, 35, 36, 37, 38, 39, 40, 41, 42, 43, 44, 45, 46, 47, 48, 49, 50, 51, 52, 53, 54, 55, 56, 57, 58, 59, 60, 61, 62, 63, 64, 65, 66, 67] rfl rfl
set_option maxRecDepth 20000 in
theorem gX11_hasWord_X11_isGood : GoodIn wsX11_hasWord (wsV RX11 296 RX11 yX11_isGood wsX11_isGood) := goodIn_app (goodIn_of _ (by decide +kernel)) ggX11_hasWord_X11_isGood
set_option maxRecDepth 20000 in
theorem ggX11_hasWord_X11_takes : GoodIn wsX11_hasWord wsX11_takes := goodIn_r _ [12, 13, 14, 2, 1, 15, 16, 17, 18, 19, 20, 21, 22, 6, 23, 24, 25, 26, 27, 28, 29, 30, 31, 32, 33, 34, 35, 36, 37, 38, 39, 40, 41, 42, 43, 44, 45, 46, 47, 48, 49, 50, 51, 52, 53, 54, 55, 56, 57, 58, 59, 60, 61, 62, 63, 64, 65, 66, 67] rfl rfl
set_option maxRecDepth 20000 in
theorem gX11_hasWord_X11_takes : GoodIn wsX11_hasWord (wsV RX11 299 RX11 yX11_takes wsX11_takes) := goodIn_app (goodIn_of _ (by decide +kernel)) ggX11_hasWord_X11_takes
theorem dX11_hasWord_0 : decode cX11_hasWord 0 = .ok (.aload_n 0, 1) := by decide +kernel
theorem dX11_hasWord_1 : decode cX11_hasWord 1 = .ok (.invokevirtual 296, 3) := by decide +kernel
theorem dX11_hasWord_4 : decode cX11_hasWord 4 = .ok (.ifCond .eq 24, 3) := by decide +kernel
theorem dX11_hasWord_7 : decode cX11_hasWord 7 = .ok (.aload_n 0, 1) := by decide +kernel
theorem dX11_hasWord_8 : decode cX11_hasWord 8 = .ok (.getfield 277, 3) := by decide +kernel
theorem dX11_hasWord_11 : decode cX11_hasWord 11 = .ok (.iconst 1, 1) := by decide +kernel
theorem dX11_hasWord_12 : decode cX11_hasWord 12 = .ok (.if_icmp .ne 16, 3) := by decide +kernel
theorem dX11_hasWord_15 : decode cX11_hasWord 15 = .ok (.aload_n 0, 1) := by decide +kernel
theorem dX11_hasWord_16 : decode cX11_hasWord 16 = .ok (.getfield 274, 3) := by decide +kernel
theorem dX11_hasWord_19 : decode cX11_hasWord 19 = .ok (.lload_n 1, 1) := by decide +kernel
theorem dX11_hasWord_20 : decode cX11_hasWord 20 = .ok (.lcmp, 1) := by decide +kernel
theorem dX11_hasWord_21 : decode cX11_hasWord 21 = .ok (.ifCond .ne 7, 3) := by decide +kernel
theorem dX11_hasWord_24 : decode cX11_hasWord 24 = .ok (.iconst 1, 1) := by decide +kernel
theorem dX11_hasWord_25 : decode cX11_hasWord 25 = .ok (.goto 4, 3) := by decide +kernel
theorem dX11_hasWord_28 : decode cX11_hasWord 28 = .ok (.iconst 0, 1) := by decide +kernel
theorem dX11_hasWord_29 : decode cX11_hasWord 29 = .ok (.istore_n 3, 1) := by decide +kernel
theorem dX11_hasWord_30 : decode cX11_hasWord 30 = .ok (.iload_n 3, 1) := by decide +kernel
theorem dX11_hasWord_31 : decode cX11_hasWord 31 = .ok (.ifCond .eq 7, 3) := by decide +kernel
theorem dX11_hasWord_34 : decode cX11_hasWord 34 = .ok (.aload_n 0, 1) := by decide +kernel
theorem dX11_hasWord_35 : decode cX11_hasWord 35 = .ok (.invokevirtual 299, 3) := by decide +kernel
theorem dX11_hasWord_38 : decode cX11_hasWord 38 = .ok (.iload_n 3, 1) := by decide +kernel
theorem dX11_hasWord_39 : decode cX11_hasWord 39 = .ok (.ireturn, 1) := by decide +kernel
set_option maxRecDepth 20000 in
theorem ggX11_hasSign_X11_isGood : GoodIn wsX11_hasSign wsX11_isGood := goodIn_r _ [7, 8, 32, 33, 34, 35, 36, 37, 38, 39, 40, 41, 42, 43, 44, 45, 46, 47, 48, 49, 50, 51, 52, 53, 54, 55, 56, 57, 58, 59, 60, 61, 62, 63, 64, 65, 66, 67] rfl rfl
set_option maxRecDepth 20000 in
theorem gX11_hasSign_X11_isGood : GoodIn wsX11_hasSign (wsV RX11 296 RX11 yX11_isGood wsX11_isGood) := goodIn_app (goodIn_of _ (by decide +kernel)) ggX11_hasSign_X11_isGood
set_option maxRecDepth 20000 in
theorem ggX11_hasSign_X11_takes : GoodIn wsX11_hasSign wsX11_takes := goodIn_r _ [12, 13, 14, 2, 1, 15, 16, 17, 18, 19, 20, 21, 22, 6, 23, 24, 25, 26, 27, 28, 29, 30, 31, 32, 33, 34, 35, 36, 37, 38, 39, 40, 41, 42, 43, 44, 45, 46, 47, 48, 49, 50, 51, 52, 53, 54, 55, 56, 57, 58, 59, 60, 61, 62, 63, 64, 65, 66, 67] rfl rfl
set_option maxRecDepth 20000 in
theorem gX11_hasSign_X11_takes : GoodIn wsX11_hasSign (wsV RX11 299 RX11 yX11_takes wsX11_takes) := goodIn_app (goodIn_of _ (by decide +kernel)) ggX11_hasSign_X11_takes
theorem dX11_hasSign_0 : decode cX11_hasSign 0 = .ok (.aload_n 0, 1) := by decide +kernel
theorem dX11_hasSign_1 : decode cX11_hasSign 1 = .ok (.invokevirtual 296, 3) := by decide +kernel
theorem dX11_hasSign_4 : decode cX11_hasSign 4 = .ok (.ifCond .eq 25, 3) := by decide +kernel
theorem dX11_hasSign_7 : decode cX11_hasSign 7 = .ok (.aload_n 0, 1) := by decide +kernel
theorem dX11_hasSign_8 : decode cX11_hasSign 8 = .ok (.getfield 277, 3) := by decide +kernel
theorem dX11_hasSign_11 : decode cX11_hasSign 11 = .ok (.iconst 3, 1) := by decide +kernel
theorem dX11_hasSign_12 : decode cX11_hasSign 12 = .ok (.if_icmp .ne 17, 3) := by decide +kernel
theorem dX11_hasSign_15 : decode cX11_hasSign 15 = .ok (.aload_n 0, 1) := by decide +kernel
theorem dX11_hasSign_16 : decode cX11_hasSign 16 = .ok (.getfield 274, 3) := by decide +kernel
theorem dX11_hasSign_19 : decode cX11_hasSign 19 = .ok (.iload_n 1, 1) := by decide +kernel
theorem dX11_hasSign_20 : decode cX11_hasSign 20 = .ok (.i2l, 1) := by decide +kernel
theorem dX11_hasSign_21 : decode cX11_hasSign 21 = .ok (.lcmp, 1) := by decide +kernel
theorem dX11_hasSign_22 : decode cX11_hasSign 22 = .ok (.ifCond .ne 7, 3) := by decide +kernel
theorem dX11_hasSign_25 : decode cX11_hasSign 25 = .ok (.iconst 1, 1) := by decide +kernel
theorem dX11_hasSign_26 : decode cX11_hasSign 26 = .ok (.goto 4, 3) := by decide +kernel
theorem dX11_hasSign_29 : decode cX11_hasSign 29 = .ok (.iconst 0, 1) := by decide +kernel
theorem dX11_hasSign_30 : decode cX11_hasSign 30 = .ok (.istore_n 2, 1) := by decide +kernel
theorem dX11_hasSign_31 : decode cX11_hasSign 31 = .ok (.iload_n 2, 1) := by decide +kernel
theorem dX11_hasSign_32 : decode cX11_hasSign 32 = .ok (.ifCond .eq 7, 3) := by decide +kernel
theorem dX11_hasSign_35 : decode cX11_hasSign 35 = .ok (.aload_n 0, 1) := by decide +kernel
theorem dX11_hasSign_36 : decode cX11_hasSign 36 = .ok (.invokevirtual 299, 3) := by decide +kernel
theorem dX11_hasSign_39 : decode cX11_hasSign 39 = .ok (.iload_n 2, 1) := by decide +kernel
theorem dX11_hasSign_40 : decode cX11_hasSign 40 = .ok (.ireturn, 1) := by decide +kernel
set_option maxRecDepth 20000 in
theorem ggX11_numeral_X11_isGood : GoodIn wsX11_numeral wsX11_isGood := goodIn_r _ [8, 9, 37, 38, 39, 40, 41, 42, 43, 44, 45, 46, 47, 48, 49, 50, 51, 52, 53, 54, 55, 56, 57, 58, 59, 60, 61, 62, 63, 64, 65, 66, 67, 68, 69, 70, 71, 72] rfl rfl
set_option maxRecDepth 20000 in
theorem gX11_numeral_X11_isGood : GoodIn wsX11_numeral (wsV RX11 296 RX11 yX11_isGood wsX11_isGood) := goodIn_app (goodIn_of _ (by decide +kernel)) ggX11_numeral_X11_isGood
set_option maxRecDepth 20000 in
theorem ggX11_numeral_X11_fails : GoodIn wsX11_numeral wsX11_fails := goodIn_r _ [13, 9, 14, 37, 38, 39, 40, 41, 42, 43, 44, 45, 46, 47, 48, 49, 50, 51, 52, 53, 54, 55, 56, 57, 58, 59, 60, 61, 62, 63, 64, 65, 66, 67, 68, 69, 70, 71, 72] rfl rfl
set_option maxRecDepth 20000 in
theorem gX11_numeral_X11_fails : GoodIn wsX11_numeral (wsV RX11 302 RX11 yX11_fails wsX11_fails) := goodIn_app (goodIn_of _ (by decide +kernel)) ggX11_numeral_X11_fails
set_option maxRecDepth 20000 in
theorem ggX11_numeral_X11_takes : GoodIn wsX11_numeral wsX11_takes := goodIn_r _ [18, 19, 2, 3, 1, 20, 21, 22, 23, 24, 25, 26, 27, 7, 28, 29, 30, 31, 32, 33, 34, 35, 36, 37, 38, 39, 40, 41, 42, 43, 44, 45, 46, 47, 48, 49, 50, 51, 52, 53, 54, 55, 56, 57, 58, 59, 60, 61, 62, 63, 64, 65, 66, 67, 68, 69, 70, 71, 72] rfl rfl
set_option maxRecDepth 20000 in
theorem gX11_numeral_X11_takes : GoodIn wsX11_numeral (wsV RX11 299 RX11 yX11_takes wsX11_takes) := goodIn_app (goodIn_of _ (by decide +kernel)) ggX11_numeral_X11_takes
theorem dX11_numeral_0 : decode cX11_numeral 0 = .ok (.aload_n 0, 1) := by decide +kernel
theorem dX11_numeral_1 : decode cX11_numeral 1 = .ok (.invokevirtual 296, 3) := by decide +kernel
theorem dX11_numeral_4 : decode cX11_numeral 4 = .ok (.ifCond .eq 20, 3) := by decide +kernel
theorem dX11_numeral_7 : decode cX11_numeral 7 = .ok (.aload_n 0, 1) := by decide +kernel
theorem dX11_numeral_8 : decode cX11_numeral 8 = .ok (.getfield 277, 3) := by decide +kernel
theorem dX11_numeral_11 : decode cX11_numeral 11 = .ok (.iconst 2, 1) := by decide +kernel
theorem dX11_numeral_12 : decode cX11_numeral 12 = .ok (.if_icmp .eq 12, 3) := by decide +kernel
theorem dX11_numeral_15 : decode cX11_numeral 15 = .ok (.aload_n 0, 1) := by decide +kernel
theorem dX11_numeral_16 : decode cX11_numeral 16 = .ok (.iconst 1, 1) := by decide +kernel
theorem dX11_numeral_17 : decode cX11_numeral 17 = .ok (.aload_n 0, 1) := by decide +kernel
theorem dX11_numeral_18 : decode cX11_numeral 18 = .ok (.getfield 271, 3) := by decide +kernel
theorem dX11_numeral_21 : decode cX11_numeral 21 = .ok (.invokevirtual 302, 3) := by decide +kernel
theorem dX11_numeral_24 : decode cX11_numeral 24 = .ok (.aload_n 0, 1) := by decide +kernel
theorem dX11_numeral_25 : decode cX11_numeral 25 = .ok (.invokevirtual 296, 3) := by decide +kernel
theorem dX11_numeral_28 : decode cX11_numeral 28 = .ok (.ifCond .eq 32, 3) := by decide +kernel
theorem dX11_numeral_31 : decode cX11_numeral 31 = .ok (.aload_n 0, 1) := by decide +kernel
theorem dX11_numeral_32 : decode cX11_numeral 32 = .ok (.getfield 274, 3) := by decide +kernel
theorem dX11_numeral_35 : decode cX11_numeral 35 = .ok (.iload_n 1, 1) := by decide +kernel
theorem dX11_numeral_36 : decode cX11_numeral 36 = .ok (.i2l, 1) := by decide +kernel
theorem dX11_numeral_37 : decode cX11_numeral 37 = .ok (.lcmp, 1) := by decide +kernel
theorem dX11_numeral_38 : decode cX11_numeral 38 = .ok (.ifCond .lt 13, 3) := by decide +kernel
theorem dX11_numeral_41 : decode cX11_numeral 41 = .ok (.aload_n 0, 1) := by decide +kernel
theorem dX11_numeral_42 : decode cX11_numeral 42 = .ok (.getfield 274, 3) := by decide +kernel
theorem dX11_numeral_45 : decode cX11_numeral 45 = .ok (.iload_n 2, 1) := by decide +kernel
theorem dX11_numeral_46 : decode cX11_numeral 46 = .ok (.i2l, 1) := by decide +kernel
theorem dX11_numeral_47 : decode cX11_numeral 47 = .ok (.lcmp, 1) := by decide +kernel
theorem dX11_numeral_48 : decode cX11_numeral 48 = .ok (.ifCond .le 12, 3) := by decide +kernel
theorem dX11_numeral_51 : decode cX11_numeral 51 = .ok (.aload_n 0, 1) := by decide +kernel
theorem dX11_numeral_52 : decode cX11_numeral 52 = .ok (.iconst 2, 1) := by decide +kernel
theorem dX11_numeral_53 : decode cX11_numeral 53 = .ok (.aload_n 0, 1) := by decide +kernel
theorem dX11_numeral_54 : decode cX11_numeral 54 = .ok (.getfield 271, 3) := by decide +kernel
theorem dX11_numeral_57 : decode cX11_numeral 57 = .ok (.invokevirtual 302, 3) := by decide +kernel
theorem dX11_numeral_60 : decode cX11_numeral 60 = .ok (.aload_n 0, 1) := by decide +kernel
theorem dX11_numeral_61 : decode cX11_numeral 61 = .ok (.invokevirtual 296, 3) := by decide +kernel
theorem dX11_numeral_64 : decode cX11_numeral 64 = .ok (.ifCond .ne 5, 3) := by decide +kernel
theorem dX11_numeral_67 : decode cX11_numeral 67 = .ok (.iload_n 1, 1) := by decide +kernel
theorem dX11_numeral_68 : decode cX11_numeral 68 = .ok (.ireturn, 1) := by decide +kernel
theorem dX11_numeral_69 : decode cX11_numeral 69 = .ok (.aload_n 0, 1) := by decide +kernel
theorem dX11_numeral_70 : decode cX11_numeral 70 = .ok (.getfield 274, 3) := by decide +kernel
theorem dX11_numeral_73 : decode cX11_numeral 73 = .ok (.l2i, 1) := by decide +kernel
theorem dX11_numeral_74 : decode cX11_numeral 74 = .ok (.istore_n 3, 1) := by decide +kernel
theorem dX11_numeral_75 : decode cX11_numeral 75 = .ok (.aload_n 0, 1) := by decide +kernel
theorem dX11_numeral_76 : decode cX11_numeral 76 = .ok (.invokevirtual 299, 3) := by decide +kernel
theorem dX11_numeral_79 : decode cX11_numeral 79 = .ok (.iload_n 3, 1) := by decide +kernel
theorem dX11_numeral_80 : decode cX11_numeral 80 = .ok (.ireturn, 1) := by decide +kernel
set_option maxRecDepth 20000 in
theorem ggX11_readsFraction_X11_hasSign : GoodIn wsX11_readsFraction wsX11_hasSign := goodIn_r _ [7, 8, 9, 10, 11, 12, 6, 13, 14, 15, 16, 17, 18, 19, 20, 21, 22, 23, 24, 25, 26, 27, 28, 29, 30, 31, 32, 33, 34, 35, 36, 37, 47, 48, 49, 50, 51, 52, 53, 54, 55, 56, 57, 58, 59, 60, 61, 62, 63, 64, 65, 66, 67, 68, 69, 70, 71, 72, 73, 74, 75, 76, 77, 78, 79, 80, 81, 82] rfl rfl
set_option maxRecDepth 20000 in
theorem gX11_readsFraction_X11_hasSign : GoodIn wsX11_readsFraction (wsV RX11 305 RX11 yX11_hasSign wsX11_hasSign) := goodIn_app (goodIn_of _ (by decide +kernel)) ggX11_readsFraction_X11_hasSign
set_option maxRecDepth 20000 in
theorem ggX11_readsFraction_X11_numeral : GoodIn wsX11_readsFraction wsX11_numeral := goodIn_r _ [41, 8, 20, 9, 10, 11, 12, 6, 13, 14, 42, 43, 44, 45, 46, 15, 16, 17, 18, 19, 21, 22, 23, 24, 25, 26, 27, 28, 29, 30, 31, 32, 33, 34, 35, 36, 37, 47, 48, 49, 50, 51, 52, 53, 54, 55, 56, 57, 58, 59, 60, 61, 62, 63, 64, 65, 66, 67, 68, 69, 70, 71, 72, 73, 74, 75, 76, 77, 78, 79, 80, 81, 82] rfl rfl
set_option maxRecDepth 20000 in
theorem gX11_readsFraction_X11_numeral : GoodIn wsX11_readsFraction (wsV RX11 308 RX11 yX11_numeral wsX11_numeral) := goodIn_app (goodIn_of _ (by decide +kernel)) ggX11_readsFraction_X11_numeral
theorem dX11_readsFraction_0 : decode cX11_readsFraction 0 = .ok (.aload_n 0, 1) := by decide +kernel
theorem dX11_readsFraction_1 : decode cX11_readsFraction 1 = .ok (.bipush 45, 2) := by decide +kernel
theorem dX11_readsFraction_3 : decode cX11_readsFraction 3 = .ok (.invokevirtual 305, 3) := by decide +kernel
theorem dX11_readsFraction_6 : decode cX11_readsFraction 6 = .ok (.istore_n 1, 1) := by decide +kernel
theorem dX11_readsFraction_7 : decode cX11_readsFraction 7 = .ok (.aload_n 0, 1) := by decide +kernel
theorem dX11_readsFraction_8 : decode cX11_readsFraction 8 = .ok (.iconst 0, 1) := by decide +kernel
theorem dX11_readsFraction_9 : decode cX11_readsFraction 9 = .ok (.sipush 999, 3) := by decide +kernel
theorem dX11_readsFraction_12 : decode cX11_readsFraction 12 = .ok (.invokevirtual 308, 3) := by decide +kernel
theorem dX11_readsFraction_15 : decode cX11_readsFraction 15 = .ok (.istore_n 2, 1) := by decide +kernel
theorem dX11_readsFraction_16 : decode cX11_readsFraction 16 = .ok (.aload_n 0, 1) := by decide +kernel
theorem dX11_readsFraction_17 : decode cX11_readsFraction 17 = .ok (.iload_n 1, 1) := by decide +kernel
theorem dX11_readsFraction_18 : decode cX11_readsFraction 18 = .ok (.ifCond .eq 8, 3) := by decide +kernel
theorem dX11_readsFraction_21 : decode cX11_readsFraction 21 = .ok (.iload_n 2, 1) := by decide +kernel
theorem dX11_readsFraction_22 : decode cX11_readsFraction 22 = .ok (.ineg, 1) := by decide +kernel
theorem dX11_readsFraction_23 : decode cX11_readsFraction 23 = .ok (.goto 4, 3) := by decide +kernel
theorem dX11_readsFraction_26 : decode cX11_readsFraction 26 = .ok (.iload_n 2, 1) := by decide +kernel
theorem dX11_readsFraction_27 : decode cX11_readsFraction 27 = .ok (.putfield 311, 3) := by decide +kernel
theorem dX11_readsFraction_30 : decode cX11_readsFraction 30 = .ok (.aload_n 0, 1) := by decide +kernel
theorem dX11_readsFraction_31 : decode cX11_readsFraction 31 = .ok (.aload_n 0, 1) := by decide +kernel
theorem dX11_readsFraction_32 : decode cX11_readsFraction 32 = .ok (.bipush 47, 2) := by decide +kernel
theorem dX11_readsFraction_34 : decode cX11_readsFraction 34 = .ok (.invokevirtual 305, 3) := by decide +kernel
theorem dX11_readsFraction_37 : decode cX11_readsFraction 37 = .ok (.ifCond .eq 13, 3) := by decide +kernel
theorem dX11_readsFraction_40 : decode cX11_readsFraction 40 = .ok (.aload_n 0, 1) := by decide +kernel
theorem dX11_readsFraction_41 : decode cX11_readsFraction 41 = .ok (.iconst 1, 1) := by decide +kernel
theorem dX11_readsFraction_42 : decode cX11_readsFraction 42 = .ok (.bipush 99, 2) := by decide +kernel
theorem dX11_readsFraction_44 : decode cX11_readsFraction 44 = .ok (.invokevirtual 308, 3) := by decide +kernel
theorem dX11_readsFraction_47 : decode cX11_readsFraction 47 = .ok (.goto 4, 3) := by decide +kernel
theorem dX11_readsFraction_50 : decode cX11_readsFraction 50 = .ok (.iconst 1, 1) := by decide +kernel
theorem dX11_readsFraction_51 : decode cX11_readsFraction 51 = .ok (.putfield 314, 3) := by decide +kernel
theorem dX11_readsFraction_54 : decode cX11_readsFraction 54 = .ok (.return_, 1) := by decide +kernel
set_option maxRecDepth 20000 in
theorem ggX11_mustEnd_X11_isGood : GoodIn wsX11_mustEnd wsX11_isGood := goodIn_r _ [6, 7, 41, 42, 43, 44, 45, 46, 47, 48, 49, 50, 51, 52, 53, 54, 55, 56, 57, 58, 59, 60, 61, 62, 63, 64, 65, 66, 67, 68, 69, 70, 71, 72, 73, 74, 75, 76] rfl rfl
set_option maxRecDepth 20000 in
theorem gX11_mustEnd_X11_isGood : GoodIn wsX11_mustEnd (wsV RX11 296 RX11 yX11_isGood wsX11_isGood) := goodIn_app (goodIn_of _ (by decide +kernel)) ggX11_mustEnd_X11_isGood
set_option maxRecDepth 20000 in
theorem ggX11_mustEnd_X11_hasSign : GoodIn wsX11_mustEnd wsX11_hasSign := goodIn_r _ [11, 12, 13, 2, 3, 4, 5, 6, 7, 14, 15, 16, 17, 18, 1, 19, 20, 21, 22, 23, 24, 25, 26, 27, 28, 29, 30, 31, 32, 33, 34, 35, 41, 42, 43, 44, 45, 46, 47, 48, 49, 50, 51, 52, 53, 54, 55, 56, 57, 58, 59, 60, 61, 62, 63, 64, 65, 66, 67, 68, 69, 70, 71, 72, 73, 74, 75, 76] rfl rfl
set_option maxRecDepth 20000 in
theorem gX11_mustEnd_X11_hasSign : GoodIn wsX11_mustEnd (wsV RX11 305 RX11 yX11_hasSign wsX11_hasSign) := goodIn_app (goodIn_of _ (by decide +kernel)) ggX11_mustEnd_X11_hasSign
set_option maxRecDepth 20000 in
theorem ggX11_mustEnd_X11_fails : GoodIn wsX11_mustEnd wsX11_fails := goodIn_r _ [39, 7, 40, 41, 42, 43, 44, 45, 46, 47, 48, 49, 50, 51, 52, 53, 54, 55, 56, 57, 58, 59, 60, 61, 62, 63, 64, 65, 66, 67, 68, 69, 70, 71, 72, 73, 74, 75, 76] rfl rfl
set_option maxRecDepth 20000 in
theorem gX11_mustEnd_X11_fails : GoodIn wsX11_mustEnd (wsV RX11 302 RX11 yX11_fails wsX11_fails) := goodIn_app (goodIn_of _ (by decide +kernel)) ggX11_mustEnd_X11_fails
theorem dX11_mustEnd_0 : decode cX11_mustEnd 0 = .ok (.aload_n 0, 1) := by decide +kernel
theorem dX11_mustEnd_1 : decode cX11_mustEnd 1 = .ok (.invokevirtual 296, 3) := by decide +kernel
theorem dX11_mustEnd_4 : decode cX11_mustEnd 4 = .ok (.ifCond .eq 21, 3) := by decide +kernel
theorem dX11_mustEnd_7 : decode cX11_mustEnd 7 = .ok (.aload_n 0, 1) := by decide +kernel
theorem dX11_mustEnd_8 : decode cX11_mustEnd 8 = .ok (.bipush 59, 2) := by decide +kernel
theorem dX11_mustEnd_10 : decode cX11_mustEnd 10 = .ok (.invokevirtual 305, 3) := by decide +kernel
theorem dX11_mustEnd_13 : decode cX11_mustEnd 13 = .ok (.ifCond .ne 12, 3) := by decide +kernel
theorem dX11_mustEnd_16 : decode cX11_mustEnd 16 = .ok (.aload_n 0, 1) := by decide +kernel
theorem dX11_mustEnd_17 : decode cX11_mustEnd 17 = .ok (.iconst 1, 1) := by decide +kernel
theorem dX11_mustEnd_18 : decode cX11_mustEnd 18 = .ok (.aload_n 0, 1) := by decide +kernel
theorem dX11_mustEnd_19 : decode cX11_mustEnd 19 = .ok (.getfield 271, 3) := by decide +kernel
theorem dX11_mustEnd_22 : decode cX11_mustEnd 22 = .ok (.invokevirtual 302, 3) := by decide +kernel
theorem dX11_mustEnd_25 : decode cX11_mustEnd 25 = .ok (.return_, 1) := by decide +kernel
set_option maxRecDepth 20000 in
theorem ggX11_readsRow_X11_numeral : GoodIn wsX11_readsRow wsX11_numeral := goodIn_r _ [11, 12, 13, 14, 15, 16, 17, 10, 18, 19, 20, 21, 22, 23, 24, 25, 26, 27, 28, 29, 30, 31, 32, 33, 34, 35, 36, 37, 38, 39, 40, 41, 42, 43, 44, 45, 46, 78, 79, 80, 81, 82, 83, 84, 85, 86, 87, 88, 89, 90, 91, 92, 93, 94, 95, 96, 97, 98, 99, 100, 101, 102, 103, 104, 105, 106, 107, 108, 109, 110, 111, 112, 113] rfl rfl
set_option maxRecDepth 20000 in
theorem gX11_readsRow_X11_numeral : GoodIn wsX11_readsRow (wsV RX11 308 RX11 yX11_numeral wsX11_numeral) := goodIn_app (goodIn_of _ (by decide +kernel)) ggX11_readsRow_X11_numeral
set_option maxRecDepth 20000 in
theorem ggX11_readsRow_X11_isGood : GoodIn wsX11_readsRow wsX11_isGood := goodIn_r _ [18, 19, 78, 79, 80, 81, 82, 83, 84, 85, 86, 87, 88, 89, 90, 91, 92, 93, 94, 95, 96, 97, 98, 99, 100, 101, 102, 103, 104, 105, 106, 107, 108, 109, 110, 111, 112, 113] rfl rfl
set_option maxRecDepth 20000 in
theorem gX11_readsRow_X11_isGood : GoodIn wsX11_readsRow (wsV RX11 296 RX11 yX11_isGood wsX11_isGood) := goodIn_app (goodIn_of _ (by decide +kernel)) ggX11_readsRow_X11_isGood
set_option maxRecDepth 20000 in
theorem ggX11_readsRow_X11_readsFraction : GoodIn wsX11_readsRow wsX11_readsFraction := goodIn_r _ [50, 3, 4, 51, 52, 53, 10, 54, 12, 14, 15, 16, 17, 18, 19, 25, 26, 27, 28, 29, 13, 30, 31, 32, 33, 34, 35, 36, 37, 38, 39, 40, 41, 42, 43, 44, 45, 46, 7, 8, 9, 11, 20, 21, 22, 23, 24, 78, 79, 80, 81, 82, 83, 84, 85, 86, 87, 88, 89, 90, 91, 92, 93, 94, 95, 96, 97, 98, 99, 100, 101, 102, 103, 104, 105, 106, 107, 108, 109, 110, 111, 112, 113] rfl rfl
set_option maxRecDepth 20000 in
theorem gX11_readsRow_X11_readsFraction : GoodIn wsX11_readsRow (wsV RX11 317 RX11 yX11_readsFraction wsX11_readsFraction) := goodIn_app (goodIn_of _ (by decide +kernel)) ggX11_readsRow_X11_readsFraction
set_option maxRecDepth 20000 in
theorem ggX11_readsRow_X11_comes : GoodIn wsX11_readsRow wsX11_comes := goodIn_r _ [58, 5, 6, 59, 60, 61, 62, 63, 10, 64, 78, 79, 80, 81, 82, 83, 84, 85, 86, 87, 88, 89, 90, 91, 92, 93, 94, 95, 96, 97, 98, 99, 100, 101, 102, 103, 104, 105, 106, 107, 108, 109, 110, 111, 112, 113] rfl rfl
set_option maxRecDepth 20000 in
theorem gX11_readsRow_X11_comes : GoodIn wsX11_readsRow (wsV RX11 81 RX11 yX11_comes wsX11_comes) := goodIn_app (goodIn_of _ (by decide +kernel)) ggX11_readsRow_X11_comes
set_option maxRecDepth 20000 in
theorem ggX11_readsRow_X11_laysCell : GoodIn wsX11_readsRow wsX11_laysCell := goodIn_r _ [68, 69, 70, 71, 72, 10, 73, 78, 79, 80, 81, 82, 83, 84, 85, 86, 87, 88, 89, 90, 91, 92, 93, 94, 95, 96, 97, 98, 99, 100, 101, 102, 103, 104, 105, 106, 107, 108, 109, 110, 111, 112, 113] rfl rfl
set_option maxRecDepth 20000 in
theorem gX11_readsRow_X11_laysCell : GoodIn wsX11_readsRow (wsV RX11 143 RX11 yX11_laysCell wsX11_laysCell) := goodIn_app (goodIn_of _ (by decide +kernel)) ggX11_readsRow_X11_laysCell
set_option maxRecDepth 20000 in
theorem ggX11_readsRow_X11_mustEnd : GoodIn wsX11_readsRow wsX11_mustEnd := goodIn_r _ [77, 13, 15, 16, 17, 10, 18, 19, 51, 52, 53, 54, 12, 14, 25, 26, 27, 28, 29, 30, 31, 32, 33, 34, 35, 36, 37, 38, 39, 40, 41, 42, 43, 44, 45, 46, 20, 21, 22, 23, 24, 78, 79, 80, 81, 82, 83, 84, 85, 86, 87, 88, 89, 90, 91, 92, 93, 94, 95, 96, 97, 98, 99, 100, 101, 102, 103, 104, 105, 106, 107, 108, 109, 110, 111, 112, 113] rfl rfl
set_option maxRecDepth 20000 in
theorem gX11_readsRow_X11_mustEnd : GoodIn wsX11_readsRow (wsV RX11 320 RX11 yX11_mustEnd wsX11_mustEnd) := goodIn_app (goodIn_of _ (by decide +kernel)) ggX11_readsRow_X11_mustEnd
theorem dX11_readsRow_0 : decode cX11_readsRow 0 = .ok (.aload_n 0, 1) := by decide +kernel
theorem dX11_readsRow_1 : decode cX11_readsRow 1 = .ok (.iconst 0, 1) := by decide +kernel
theorem dX11_readsRow_2 : decode cX11_readsRow 2 = .ok (.aload_n 0, 1) := by decide +kernel
theorem dX11_readsRow_3 : decode cX11_readsRow 3 = .ok (.getfield 96, 3) := by decide +kernel
theorem dX11_readsRow_6 : decode cX11_readsRow 6 = .ok (.iconst 1, 1) := by decide +kernel
theorem dX11_readsRow_7 : decode cX11_readsRow 7 = .ok (.isub, 1) := by decide +kernel
theorem dX11_readsRow_8 : decode cX11_readsRow 8 = .ok (.invokevirtual 308, 3) := by decide +kernel
theorem dX11_readsRow_11 : decode cX11_readsRow 11 = .ok (.istore_n 1, 1) := by decide +kernel
theorem dX11_readsRow_12 : decode cX11_readsRow 12 = .ok (.iconst 0, 1) := by decide +kernel
theorem dX11_readsRow_13 : decode cX11_readsRow 13 = .ok (.istore_n 2, 1) := by decide +kernel
theorem dX11_readsRow_14 : decode cX11_readsRow 14 = .ok (.iload_n 2, 1) := by decide +kernel
theorem dX11_readsRow_15 : decode cX11_readsRow 15 = .ok (.aload_n 0, 1) := by decide +kernel
theorem dX11_readsRow_16 : decode cX11_readsRow 16 = .ok (.getfield 93, 3) := by decide +kernel
theorem dX11_readsRow_19 : decode cX11_readsRow 19 = .ok (.if_icmp .gt 48, 3) := by decide +kernel
theorem dX11_readsRow_22 : decode cX11_readsRow 22 = .ok (.aload_n 0, 1) := by decide +kernel
theorem dX11_readsRow_23 : decode cX11_readsRow 23 = .ok (.invokevirtual 296, 3) := by decide +kernel
theorem dX11_readsRow_26 : decode cX11_readsRow 26 = .ok (.ifCond .eq 41, 3) := by decide +kernel
theorem dX11_readsRow_29 : decode cX11_readsRow 29 = .ok (.aload_n 0, 1) := by decide +kernel
theorem dX11_readsRow_30 : decode cX11_readsRow 30 = .ok (.invokevirtual 317, 3) := by decide +kernel
theorem dX11_readsRow_33 : decode cX11_readsRow 33 = .ok (.aload_n 0, 1) := by decide +kernel
theorem dX11_readsRow_34 : decode cX11_readsRow 34 = .ok (.aload_n 0, 1) := by decide +kernel
theorem dX11_readsRow_35 : decode cX11_readsRow 35 = .ok (.getfield 311, 3) := by decide +kernel
theorem dX11_readsRow_38 : decode cX11_readsRow 38 = .ok (.i2l, 1) := by decide +kernel
theorem dX11_readsRow_39 : decode cX11_readsRow 39 = .ok (.aload_n 0, 1) := by decide +kernel
theorem dX11_readsRow_40 : decode cX11_readsRow 40 = .ok (.getfield 314, 3) := by decide +kernel
theorem dX11_readsRow_43 : decode cX11_readsRow 43 = .ok (.i2l, 1) := by decide +kernel
theorem dX11_readsRow_44 : decode cX11_readsRow 44 = .ok (.invokevirtual 81, 3) := by decide +kernel
theorem dX11_readsRow_47 : decode cX11_readsRow 47 = .ok (.aload_n 0, 1) := by decide +kernel
theorem dX11_readsRow_48 : decode cX11_readsRow 48 = .ok (.iload_n 1, 1) := by decide +kernel
theorem dX11_readsRow_49 : decode cX11_readsRow 49 = .ok (.iload_n 2, 1) := by decide +kernel
theorem dX11_readsRow_50 : decode cX11_readsRow 50 = .ok (.aload_n 0, 1) := by decide +kernel
theorem dX11_readsRow_51 : decode cX11_readsRow 51 = .ok (.getfield 66, 3) := by decide +kernel
theorem dX11_readsRow_54 : decode cX11_readsRow 54 = .ok (.aload_n 0, 1) := by decide +kernel
theorem dX11_readsRow_55 : decode cX11_readsRow 55 = .ok (.getfield 70, 3) := by decide +kernel
theorem dX11_readsRow_58 : decode cX11_readsRow 58 = .ok (.invokevirtual 143, 3) := by decide +kernel
theorem dX11_readsRow_61 : decode cX11_readsRow 61 = .ok (.iinc 2 1, 3) := by decide +kernel
theorem dX11_readsRow_64 : decode cX11_readsRow 64 = .ok (.goto (-50), 3) := by decide +kernel
theorem dX11_readsRow_67 : decode cX11_readsRow 67 = .ok (.aload_n 0, 1) := by decide +kernel
theorem dX11_readsRow_68 : decode cX11_readsRow 68 = .ok (.invokevirtual 320, 3) := by decide +kernel
theorem dX11_readsRow_71 : decode cX11_readsRow 71 = .ok (.return_, 1) := by decide +kernel
set_option maxRecDepth 20000 in
theorem ggX11_readsSet_X11_numeral : GoodIn wsX11_readsSet wsX11_numeral := goodIn_r _ [11, 12, 13, 14, 15, 16, 17, 10, 18, 19, 20, 21, 22, 23, 24, 25, 26, 27, 28, 29, 30, 31, 32, 33, 34, 35, 36, 37, 38, 39, 40, 41, 42, 43, 44, 45, 46, 78, 79, 80, 81, 82, 83, 84, 85, 86, 87, 88, 89, 90, 91, 92, 93, 94, 95, 96, 97, 98, 99, 100, 101, 102, 103, 104, 105, 106, 107, 108, 109, 110, 111, 112, 113] rfl rfl
set_option maxRecDepth 20000 in
theorem gX11_readsSet_X11_numeral : GoodIn wsX11_readsSet (wsV RX11 308 RX11 yX11_numeral wsX11_numeral) := goodIn_app (goodIn_of _ (by decide +kernel)) ggX11_readsSet_X11_numeral
set_option maxRecDepth 20000 in
theorem ggX11_readsSet_X11_readsFraction : GoodIn wsX11_readsSet wsX11_readsFraction := goodIn_r _ [50, 3, 4, 51, 52, 53, 10, 54, 12, 14, 15, 16, 17, 18, 19, 25, 26, 27, 28, 29, 13, 30, 31, 32, 33, 34, 35, 36, 37, 38, 39, 40, 41, 42, 43, 44, 45, 46, 7, 8, 9, 11, 20, 21, 22, 23, 24, 78, 79, 80, 81, 82, 83, 84, 85, 86, 87, 88, 89, 90, 91, 92, 93, 94, 95, 96, 97, 98, 99, 100, 101, 102, 103, 104, 105, 106, 107, 108, 109, 110, 111, 112, 113] rfl rfl
set_option maxRecDepth 20000 in
theorem gX11_readsSet_X11_readsFraction : GoodIn wsX11_readsSet (wsV RX11 317 RX11 yX11_readsFraction wsX11_readsFraction) := goodIn_app (goodIn_of _ (by decide +kernel)) ggX11_readsSet_X11_readsFraction
set_option maxRecDepth 20000 in
theorem ggX11_readsSet_X11_isGood : GoodIn wsX11_readsSet wsX11_isGood := goodIn_r _ [18, 19, 78, 79, 80, 81, 82, 83, 84, 85, 86, 87, 88, 89, 90, 91, 92, 93, 94, 95, 96, 97, 98, 99, 100, 101, 102, 103, 104, 105, 106, 107, 108, 109, 110, 111, 112, 113] rfl rfl
set_option maxRecDepth 20000 in
theorem gX11_readsSet_X11_isGood : GoodIn wsX11_readsSet (wsV RX11 296 RX11 yX11_isGood wsX11_isGood) := goodIn_app (goodIn_of _ (by decide +kernel)) ggX11_readsSet_X11_isGood
set_option maxRecDepth 20000 in
theorem ggX11_readsSet_X11_comes : GoodIn wsX11_readsSet wsX11_comes := goodIn_r _ [58, 5, 6, 59, 60, 61, 62, 63, 10, 64, 78, 79, 80, 81, 82, 83, 84, 85, 86, 87, 88, 89, 90, 91, 92, 93, 94, 95, 96, 97, 98, 99, 100, 101, 102, 103, 104, 105, 106, 107, 108, 109, 110, 111, 112, 113] rfl rfl
set_option maxRecDepth 20000 in
theorem gX11_readsSet_X11_comes : GoodIn wsX11_readsSet (wsV RX11 81 RX11 yX11_comes wsX11_comes) := goodIn_app (goodIn_of _ (by decide +kernel)) ggX11_readsSet_X11_comes
set_option maxRecDepth 20000 in
theorem ggX11_readsSet_X11_laysCell : GoodIn wsX11_readsSet wsX11_laysCell := goodIn_r _ [68, 69, 70, 71, 72, 10, 73, 78, 79, 80, 81, 82, 83, 84, 85, 86, 87, 88, 89, 90, 91, 92, 93, 94, 95, 96, 97, 98, 99, 100, 101, 102, 103, 104, 105, 106, 107, 108, 109, 110, 111, 112, 113] rfl rfl
set_option maxRecDepth 20000 in
theorem gX11_readsSet_X11_laysCell : GoodIn wsX11_readsSet (wsV RX11 143 RX11 yX11_laysCell wsX11_laysCell) := goodIn_app (goodIn_of _ (by decide +kernel)) ggX11_readsSet_X11_laysCell
set_option maxRecDepth 20000 in
theorem ggX11_readsSet_X11_mustEnd : GoodIn wsX11_readsSet wsX11_mustEnd := goodIn_r _ [77, 13, 15, 16, 17, 10, 18, 19, 51, 52, 53, 54, 12, 14, 25, 26, 27, 28, 29, 30, 31, 32, 33, 34, 35, 36, 37, 38, 39, 40, 41, 42, 43, 44, 45, 46, 20, 21, 22, 23, 24, 78, 79, 80, 81, 82, 83, 84, 85, 86, 87, 88, 89, 90, 91, 92, 93, 94, 95, 96, 97, 98, 99, 100, 101, 102, 103, 104, 105, 106, 107, 108, 109, 110, 111, 112, 113] rfl rfl
set_option maxRecDepth 20000 in
theorem gX11_readsSet_X11_mustEnd : GoodIn wsX11_readsSet (wsV RX11 320 RX11 yX11_mustEnd wsX11_mustEnd) := goodIn_app (goodIn_of _ (by decide +kernel)) ggX11_readsSet_X11_mustEnd
theorem dX11_readsSet_0 : decode cX11_readsSet 0 = .ok (.aload_n 0, 1) := by decide +kernel
theorem dX11_readsSet_1 : decode cX11_readsSet 1 = .ok (.iconst 0, 1) := by decide +kernel
theorem dX11_readsSet_2 : decode cX11_readsSet 2 = .ok (.aload_n 0, 1) := by decide +kernel
theorem dX11_readsSet_3 : decode cX11_readsSet 3 = .ok (.getfield 96, 3) := by decide +kernel
theorem dX11_readsSet_6 : decode cX11_readsSet 6 = .ok (.iconst 1, 1) := by decide +kernel
theorem dX11_readsSet_7 : decode cX11_readsSet 7 = .ok (.isub, 1) := by decide +kernel
theorem dX11_readsSet_8 : decode cX11_readsSet 8 = .ok (.invokevirtual 308, 3) := by decide +kernel
theorem dX11_readsSet_11 : decode cX11_readsSet 11 = .ok (.istore_n 1, 1) := by decide +kernel
theorem dX11_readsSet_12 : decode cX11_readsSet 12 = .ok (.aload_n 0, 1) := by decide +kernel
theorem dX11_readsSet_13 : decode cX11_readsSet 13 = .ok (.iconst 0, 1) := by decide +kernel
theorem dX11_readsSet_14 : decode cX11_readsSet 14 = .ok (.aload_n 0, 1) := by decide +kernel
theorem dX11_readsSet_15 : decode cX11_readsSet 15 = .ok (.getfield 93, 3) := by decide +kernel
theorem dX11_readsSet_18 : decode cX11_readsSet 18 = .ok (.invokevirtual 308, 3) := by decide +kernel
theorem dX11_readsSet_21 : decode cX11_readsSet 21 = .ok (.istore_n 2, 1) := by decide +kernel
theorem dX11_readsSet_22 : decode cX11_readsSet 22 = .ok (.aload_n 0, 1) := by decide +kernel
theorem dX11_readsSet_23 : decode cX11_readsSet 23 = .ok (.invokevirtual 317, 3) := by decide +kernel
theorem dX11_readsSet_26 : decode cX11_readsSet 26 = .ok (.aload_n 0, 1) := by decide +kernel
theorem dX11_readsSet_27 : decode cX11_readsSet 27 = .ok (.invokevirtual 296, 3) := by decide +kernel
theorem dX11_readsSet_30 : decode cX11_readsSet 30 = .ok (.ifCond .eq 31, 3) := by decide +kernel
theorem dX11_readsSet_33 : decode cX11_readsSet 33 = .ok (.aload_n 0, 1) := by decide +kernel
theorem dX11_readsSet_34 : decode cX11_readsSet 34 = .ok (.aload_n 0, 1) := by decide +kernel
theorem dX11_readsSet_35 : decode cX11_readsSet 35 = .ok (.getfield 311, 3) := by decide +kernel
theorem dX11_readsSet_38 : decode cX11_readsSet 38 = .ok (.i2l, 1) := by decide +kernel
theorem dX11_readsSet_39 : decode cX11_readsSet 39 = .ok (.aload_n 0, 1) := by decide +kernel
theorem dX11_readsSet_40 : decode cX11_readsSet 40 = .ok (.getfield 314, 3) := by decide +kernel
theorem dX11_readsSet_43 : decode cX11_readsSet 43 = .ok (.i2l, 1) := by decide +kernel
theorem dX11_readsSet_44 : decode cX11_readsSet 44 = .ok (.invokevirtual 81, 3) := by decide +kernel
theorem dX11_readsSet_47 : decode cX11_readsSet 47 = .ok (.aload_n 0, 1) := by decide +kernel
theorem dX11_readsSet_48 : decode cX11_readsSet 48 = .ok (.iload_n 1, 1) := by decide +kernel
theorem dX11_readsSet_49 : decode cX11_readsSet 49 = .ok (.iload_n 2, 1) := by decide +kernel
theorem dX11_readsSet_50 : decode cX11_readsSet 50 = .ok (.aload_n 0, 1) := by decide +kernel
theorem dX11_readsSet_51 : decode cX11_readsSet 51 = .ok (.getfield 66, 3) := by decide +kernel
theorem dX11_readsSet_54 : decode cX11_readsSet 54 = .ok (.aload_n 0, 1) := by decide +kernel
theorem dX11_readsSet_55 : decode cX11_readsSet 55 = .ok (.getfield 70, 3) := by decide +kernel
theorem dX11_readsSet_58 : decode cX11_readsSet 58 = .ok (.invokevirtual 143, 3) := by decide +kernel
theorem dX11_readsSet_61 : decode cX11_readsSet 61 = .ok (.aload_n 0, 1) := by decide +kernel
theorem dX11_readsSet_62 : decode cX11_readsSet 62 = .ok (.invokevirtual 320, 3) := by decide +kernel
theorem dX11_readsSet_65 : decode cX11_readsSet 65 = .ok (.return_, 1) := by decide +kernel
set_option maxRecDepth 20000 in
theorem ggX11_readsAct_X11_numeral : GoodIn wsX11_readsAct wsX11_numeral := goodIn_r _ [12, 13, 14, 15, 16, 17, 18, 11, 19, 20, 21, 22, 23, 24, 25, 26, 27, 28, 29, 30, 31, 32, 33, 34, 35, 36, 37, 38, 39, 40, 41, 42, 43, 44, 45, 46, 47, 177, 178, 179, 180, 181, 182, 183, 184, 185, 186, 187, 188, 189, 190, 191, 192, 193, 194, 195, 196, 197, 198, 199, 200, 201, 202, 203, 204, 205, 206, 207, 208, 209, 210, 211, 212] rfl rfl
set_option maxRecDepth 20000 in
theorem gX11_readsAct_X11_numeral : GoodIn wsX11_readsAct (wsV RX11 308 RX11 yX11_numeral wsX11_numeral) := goodIn_app (goodIn_of _ (by decide +kernel)) ggX11_readsAct_X11_numeral
set_option maxRecDepth 20000 in
theorem ggX11_readsAct_X11_readsFraction : GoodIn wsX11_readsAct wsX11_readsFraction := goodIn_r _ [51, 6, 7, 52, 53, 54, 11, 55, 13, 15, 16, 17, 18, 19, 20, 26, 27, 28, 29, 30, 14, 31, 32, 33, 34, 35, 36, 37, 38, 39, 40, 41, 42, 43, 44, 45, 46, 47, 8, 9, 10, 12, 21, 22, 23, 24, 25, 177, 178, 179, 180, 181, 182, 183, 184, 185, 186, 187, 188, 189, 190, 191, 192, 193, 194, 195, 196, 197, 198, 199, 200, 201, 202, 203, 204, 205, 206, 207, 208, 209, 210, 211, 212] rfl rfl
set_option maxRecDepth 20000 in
theorem gX11_readsAct_X11_readsFraction : GoodIn wsX11_readsAct (wsV RX11 317 RX11 yX11_readsFraction wsX11_readsFraction) := goodIn_app (goodIn_of _ (by decide +kernel)) ggX11_readsAct_X11_readsFraction
set_option maxRecDepth 20000 in
theorem ggX11_readsAct_X11_mustEnd : GoodIn wsX11_readsAct wsX11_mustEnd := goodIn_r _ [59, 14, 16, 17, 18, 11, 19, 20, 52, 53, 54, 55, 13, 15, 26, 27, 28, 29, 30, 31, 32, 33, 34, 35, 36, 37, 38, 39, 40, 41, 42, 43, 44, 45, 46, 47, 21, 22, 23, 24, 25, 177, 178, 179, 180, 181, 182, 183, 184, 185, 186, 187, 188, 189, 190, 191, 192, 193, 194, 195, 196, 197, 198, 199, 200, 201, 202, 203, 204, 205, 206, 207, 208, 209, 210, 211, 212] rfl rfl
set_option maxRecDepth 20000 in
theorem gX11_readsAct_X11_mustEnd : GoodIn wsX11_readsAct (wsV RX11 320 RX11 yX11_mustEnd wsX11_mustEnd) := goodIn_app (goodIn_of _ (by decide +kernel)) ggX11_readsAct_X11_mustEnd
set_option maxRecDepth 20000 in
theorem ggX11_readsAct_X11_isGood : GoodIn wsX11_readsAct wsX11_isGood := goodIn_r _ [19, 20, 177, 178, 179, 180, 181, 182, 183, 184, 185, 186, 187, 188, 189, 190, 191, 192, 193, 194, 195, 196, 197, 198, 199, 200, 201, 202, 203, 204, 205, 206, 207, 208, 209, 210, 211, 212] rfl rfl
set_option maxRecDepth 20000 in
theorem gX11_readsAct_X11_isGood : GoodIn wsX11_readsAct (wsV RX11 296 RX11 yX11_isGood wsX11_isGood) := goodIn_app (goodIn_of _ (by decide +kernel)) ggX11_readsAct_X11_isGood
set_option maxRecDepth 20000 in
theorem ggX11_readsAct_X11_swaps : GoodIn wsX11_readsAct wsX11_swaps := goodIn_r _ [63, 64, 65, 66, 67, 68, 69, 11, 70, 2, 71, 72, 73, 74, 75, 76, 77, 78, 79, 80, 177, 178, 179, 180, 181, 182, 183, 184, 185, 186, 187, 188, 189, 190, 191, 192, 193, 194, 195, 196, 197, 198, 199, 200, 201, 202, 203, 204, 205, 206, 207, 208, 209, 210, 211, 212] rfl rfl
set_option maxRecDepth 20000 in
theorem gX11_readsAct_X11_swaps : GoodIn wsX11_readsAct (wsV RX11 212 RX11 yX11_swaps wsX11_swaps) := goodIn_app (goodIn_of _ (by decide +kernel)) ggX11_readsAct_X11_swaps
set_option maxRecDepth 20000 in
theorem ggX11_readsAct_X11_scales : GoodIn wsX11_readsAct wsX11_scales := goodIn_r _ [84, 64, 65, 66, 85, 86, 87, 67, 68, 69, 11, 70, 2, 71, 72, 73, 88, 89, 90, 91, 92, 93, 94, 74, 75, 76, 95, 96, 97, 98, 99, 100, 101, 102, 103, 104, 105, 106, 107, 108, 109, 110, 111, 112, 113, 114, 77, 78, 79, 80, 177, 178, 179, 180, 181, 182, 183, 184, 185, 186, 187, 188, 189, 190, 191, 192, 193, 194, 195, 196, 197, 198, 199, 200, 201, 202, 203, 204, 205, 206, 207, 208, 209, 210, 211, 212] rfl rfl
set_option maxRecDepth 20000 in
theorem gX11_readsAct_X11_scales : GoodIn wsX11_readsAct (wsV RX11 215 RX11 yX11_scales wsX11_scales) := goodIn_app (goodIn_of _ (by decide +kernel)) ggX11_readsAct_X11_scales
set_option maxRecDepth 20000 in
theorem ggX11_readsAct_X11_addsTo : GoodIn wsX11_readsAct wsX11_addsTo := goodIn_r _ [118, 86, 87, 112, 67, 68, 69, 11, 70, 2, 71, 72, 73, 88, 89, 90, 91, 92, 93, 94, 64, 65, 74, 75, 76, 99, 100, 101, 102, 103, 104, 85, 105, 106, 107, 119, 120, 121, 122, 66, 123, 95, 96, 97, 98, 108, 109, 110, 111, 113, 114, 124, 125, 126, 127, 77, 78, 79, 80, 177, 178, 179, 180, 181, 182, 183, 184, 185, 186, 187, 188, 189, 190, 191, 192, 193, 194, 195, 196, 197, 198, 199, 200, 201, 202, 203, 204, 205, 206, 207, 208, 209, 210, 211, 212] rfl rfl
set_option maxRecDepth 20000 in
theorem gX11_readsAct_X11_addsTo : GoodIn wsX11_readsAct (wsV RX11 219 RX11 yX11_addsTo wsX11_addsTo) := goodIn_app (goodIn_of _ (by decide +kernel)) ggX11_readsAct_X11_addsTo
set_option maxRecDepth 20000 in
theorem ggX11_readsAct_X11_reduces : GoodIn wsX11_readsAct wsX11_reduces := goodIn_r _ [131, 112, 2, 64, 65, 132, 133, 66, 71, 72, 11, 73, 134, 135, 136, 137, 138, 139, 140, 141, 142, 143, 144, 145, 146, 147, 148, 74, 75, 76, 149, 150, 151, 152, 153, 154, 155, 156, 157, 158, 159, 160, 161, 162, 163, 164, 165, 166, 167, 168, 169, 170, 171, 172, 123, 85, 86, 87, 173, 174, 175, 176, 99, 100, 101, 102, 103, 104, 105, 106, 107, 108, 109, 110, 111, 113, 114, 119, 120, 121, 122, 95, 96, 97, 98, 124, 125, 126, 127, 77, 78, 79, 80, 177, 178, 179, 180, 181, 182, 183, 184, 185, 186, 187, 188, 189, 190, 191, 192, 193, 194, 195, 196, 197, 198, 199, 200, 201, 202, 203, 204, 205, 206, 207, 208, 209, 210, 211, 212] rfl rfl
set_option maxRecDepth 20000 in
theorem gX11_readsAct_X11_reduces : GoodIn wsX11_readsAct (wsV RX11 222 RX11 yX11_reduces wsX11_reduces) := goodIn_app (goodIn_of _ (by decide +kernel)) ggX11_readsAct_X11_reduces
theorem dX11_readsAct_0 : decode cX11_readsAct 0 = .ok (.lload_n 1, 1) := by decide +kernel
theorem dX11_readsAct_1 : decode cX11_readsAct 1 = .ok (.ldc2_w 323, 3) := by decide +kernel
theorem dX11_readsAct_4 : decode cX11_readsAct 4 = .ok (.lcmp, 1) := by decide +kernel
theorem dX11_readsAct_5 : decode cX11_readsAct 5 = .ok (.ifCond .ne 12, 3) := by decide +kernel
theorem dX11_readsAct_8 : decode cX11_readsAct 8 = .ok (.aload_n 0, 1) := by decide +kernel
theorem dX11_readsAct_9 : decode cX11_readsAct 9 = .ok (.iconst 0, 1) := by decide +kernel
theorem dX11_readsAct_10 : decode cX11_readsAct 10 = .ok (.iconst 2, 1) := by decide +kernel
theorem dX11_readsAct_11 : decode cX11_readsAct 11 = .ok (.invokevirtual 308, 3) := by decide +kernel
theorem dX11_readsAct_14 : decode cX11_readsAct 14 = .ok (.goto 14, 3) := by decide +kernel
theorem dX11_readsAct_17 : decode cX11_readsAct 17 = .ok (.aload_n 0, 1) := by decide +kernel
theorem dX11_readsAct_18 : decode cX11_readsAct 18 = .ok (.iconst 0, 1) := by decide +kernel
theorem dX11_readsAct_19 : decode cX11_readsAct 19 = .ok (.aload_n 0, 1) := by decide +kernel
theorem dX11_readsAct_20 : decode cX11_readsAct 20 = .ok (.getfield 96, 3) := by decide +kernel
theorem dX11_readsAct_23 : decode cX11_readsAct 23 = .ok (.iconst 1, 1) := by decide +kernel
theorem dX11_readsAct_24 : decode cX11_readsAct 24 = .ok (.isub, 1) := by decide +kernel
theorem dX11_readsAct_25 : decode cX11_readsAct 25 = .ok (.invokevirtual 308, 3) := by decide +kernel
theorem dX11_readsAct_28 : decode cX11_readsAct 28 = .ok (.istore_n 3, 1) := by decide +kernel
theorem dX11_readsAct_29 : decode cX11_readsAct 29 = .ok (.lload_n 1, 1) := by decide +kernel
theorem dX11_readsAct_30 : decode cX11_readsAct 30 = .ok (.ldc2_w 325, 3) := by decide +kernel
theorem dX11_readsAct_33 : decode cX11_readsAct 33 = .ok (.lcmp, 1) := by decide +kernel
theorem dX11_readsAct_34 : decode cX11_readsAct 34 = .ok (.ifCond .eq 11, 3) := by decide +kernel
theorem dX11_readsAct_37 : decode cX11_readsAct 37 = .ok (.lload_n 1, 1) := by decide +kernel
theorem dX11_readsAct_38 : decode cX11_readsAct 38 = .ok (.ldc2_w 327, 3) := by decide +kernel
theorem dX11_readsAct_41 : decode cX11_readsAct 41 = .ok (.lcmp, 1) := by decide +kernel
theorem dX11_readsAct_42 : decode cX11_readsAct 42 = .ok (.ifCond .ne 17, 3) := by decide +kernel
theorem dX11_readsAct_45 : decode cX11_readsAct 45 = .ok (.aload_n 0, 1) := by decide +kernel
theorem dX11_readsAct_46 : decode cX11_readsAct 46 = .ok (.iconst 0, 1) := by decide +kernel
theorem dX11_readsAct_47 : decode cX11_readsAct 47 = .ok (.aload_n 0, 1) := by decide +kernel
theorem dX11_readsAct_48 : decode cX11_readsAct 48 = .ok (.getfield 96, 3) := by decide +kernel
theorem dX11_readsAct_51 : decode cX11_readsAct 51 = .ok (.iconst 1, 1) := by decide +kernel
theorem dX11_readsAct_52 : decode cX11_readsAct 52 = .ok (.isub, 1) := by decide +kernel
theorem dX11_readsAct_53 : decode cX11_readsAct 53 = .ok (.invokevirtual 308, 3) := by decide +kernel
theorem dX11_readsAct_56 : decode cX11_readsAct 56 = .ok (.goto 4, 3) := by decide +kernel
theorem dX11_readsAct_59 : decode cX11_readsAct 59 = .ok (.iconst 0, 1) := by decide +kernel
theorem dX11_readsAct_60 : decode cX11_readsAct 60 = .ok (.istore 4, 2) := by decide +kernel
theorem dX11_readsAct_62 : decode cX11_readsAct 62 = .ok (.lload_n 1, 1) := by decide +kernel
theorem dX11_readsAct_63 : decode cX11_readsAct 63 = .ok (.ldc2_w 329, 3) := by decide +kernel
theorem dX11_readsAct_66 : decode cX11_readsAct 66 = .ok (.lcmp, 1) := by decide +kernel
theorem dX11_readsAct_67 : decode cX11_readsAct 67 = .ok (.ifCond .eq 11, 3) := by decide +kernel
theorem dX11_readsAct_70 : decode cX11_readsAct 70 = .ok (.lload_n 1, 1) := by decide +kernel
theorem dX11_readsAct_71 : decode cX11_readsAct 71 = .ok (.ldc2_w 327, 3) := by decide +kernel
theorem dX11_readsAct_74 : decode cX11_readsAct 74 = .ok (.lcmp, 1) := by decide +kernel
theorem dX11_readsAct_75 : decode cX11_readsAct 75 = .ok (.ifCond .ne 7, 3) := by decide +kernel
theorem dX11_readsAct_78 : decode cX11_readsAct 78 = .ok (.aload_n 0, 1) := by decide +kernel
theorem dX11_readsAct_79 : decode cX11_readsAct 79 = .ok (.invokevirtual 317, 3) := by decide +kernel
theorem dX11_readsAct_82 : decode cX11_readsAct 82 = .ok (.aload_n 0, 1) := by decide +kernel
theorem dX11_readsAct_83 : decode cX11_readsAct 83 = .ok (.invokevirtual 320, 3) := by decide +kernel
theorem dX11_readsAct_86 : decode cX11_readsAct 86 = .ok (.aload_n 0, 1) := by decide +kernel
theorem dX11_readsAct_87 : decode cX11_readsAct 87 = .ok (.invokevirtual 296, 3) := by decide +kernel
theorem dX11_readsAct_90 : decode cX11_readsAct 90 = .ok (.ifCond .ne 5, 3) := by decide +kernel
theorem dX11_readsAct_93 : decode cX11_readsAct 93 = .ok (.iconst 0, 1) := by decide +kernel
theorem dX11_readsAct_94 : decode cX11_readsAct 94 = .ok (.ireturn, 1) := by decide +kernel
theorem dX11_readsAct_95 : decode cX11_readsAct 95 = .ok (.lload_n 1, 1) := by decide +kernel
theorem dX11_readsAct_96 : decode cX11_readsAct 96 = .ok (.ldc2_w 325, 3) := by decide +kernel
theorem dX11_readsAct_99 : decode cX11_readsAct 99 = .ok (.lcmp, 1) := by decide +kernel
theorem dX11_readsAct_100 : decode cX11_readsAct 100 = .ok (.ifCond .ne 11, 3) := by decide +kernel
theorem dX11_readsAct_103 : decode cX11_readsAct 103 = .ok (.aload_n 0, 1) := by decide +kernel
theorem dX11_readsAct_104 : decode cX11_readsAct 104 = .ok (.iload_n 3, 1) := by decide +kernel
theorem dX11_readsAct_105 : decode cX11_readsAct 105 = .ok (.iload 4, 2) := by decide +kernel
theorem dX11_readsAct_107 : decode cX11_readsAct 107 = .ok (.invokevirtual 212, 3) := by decide +kernel
theorem dX11_readsAct_110 : decode cX11_readsAct 110 = .ok (.ireturn, 1) := by decide +kernel
theorem dX11_readsAct_111 : decode cX11_readsAct 111 = .ok (.lload_n 1, 1) := by decide +kernel
theorem dX11_readsAct_112 : decode cX11_readsAct 112 = .ok (.ldc2_w 329, 3) := by decide +kernel
theorem dX11_readsAct_115 : decode cX11_readsAct 115 = .ok (.lcmp, 1) := by decide +kernel
theorem dX11_readsAct_116 : decode cX11_readsAct 116 = .ok (.ifCond .ne 17, 3) := by decide +kernel
theorem dX11_readsAct_119 : decode cX11_readsAct 119 = .ok (.aload_n 0, 1) := by decide +kernel
theorem dX11_readsAct_120 : decode cX11_readsAct 120 = .ok (.iload_n 3, 1) := by decide +kernel
theorem dX11_readsAct_121 : decode cX11_readsAct 121 = .ok (.aload_n 0, 1) := by decide +kernel
theorem dX11_readsAct_122 : decode cX11_readsAct 122 = .ok (.getfield 311, 3) := by decide +kernel
theorem dX11_readsAct_125 : decode cX11_readsAct 125 = .ok (.aload_n 0, 1) := by decide +kernel
theorem dX11_readsAct_126 : decode cX11_readsAct 126 = .ok (.getfield 314, 3) := by decide +kernel
theorem dX11_readsAct_129 : decode cX11_readsAct 129 = .ok (.invokevirtual 215, 3) := by decide +kernel
theorem dX11_readsAct_132 : decode cX11_readsAct 132 = .ok (.ireturn, 1) := by decide +kernel
theorem dX11_readsAct_133 : decode cX11_readsAct 133 = .ok (.lload_n 1, 1) := by decide +kernel
theorem dX11_readsAct_134 : decode cX11_readsAct 134 = .ok (.ldc2_w 327, 3) := by decide +kernel
theorem dX11_readsAct_137 : decode cX11_readsAct 137 = .ok (.lcmp, 1) := by decide +kernel
theorem dX11_readsAct_138 : decode cX11_readsAct 138 = .ok (.ifCond .ne 21, 3) := by decide +kernel
theorem dX11_readsAct_141 : decode cX11_readsAct 141 = .ok (.aload_n 0, 1) := by decide +kernel
theorem dX11_readsAct_142 : decode cX11_readsAct 142 = .ok (.iload_n 3, 1) := by decide +kernel
theorem dX11_readsAct_143 : decode cX11_readsAct 143 = .ok (.iload 4, 2) := by decide +kernel
theorem dX11_readsAct_145 : decode cX11_readsAct 145 = .ok (.aload_n 0, 1) := by decide +kernel
theorem dX11_readsAct_146 : decode cX11_readsAct 146 = .ok (.getfield 311, 3) := by decide +kernel
theorem dX11_readsAct_149 : decode cX11_readsAct 149 = .ok (.aload_n 0, 1) := by decide +kernel
theorem dX11_readsAct_150 : decode cX11_readsAct 150 = .ok (.getfield 314, 3) := by decide +kernel
theorem dX11_readsAct_153 : decode cX11_readsAct 153 = .ok (.invokevirtual 219, 3) := by decide +kernel
theorem dX11_readsAct_156 : decode cX11_readsAct 156 = .ok (.goto 8, 3) := by decide +kernel
theorem dX11_readsAct_159 : decode cX11_readsAct 159 = .ok (.aload_n 0, 1) := by decide +kernel
theorem dX11_readsAct_160 : decode cX11_readsAct 160 = .ok (.iload_n 3, 1) := by decide +kernel
theorem dX11_readsAct_161 : decode cX11_readsAct 161 = .ok (.invokevirtual 222, 3) := by decide +kernel
theorem dX11_readsAct_164 : decode cX11_readsAct 164 = .ok (.ireturn, 1) := by decide +kernel
set_option maxRecDepth 20000 in
theorem ggX11_readsLine_X11_begins : GoodIn wsX11_readsLine wsX11_begins := goodIn_r _ [14, 15, 16, 17, 18, 19, 13, 20, 21, 22, 23, 24, 25, 207, 208, 209, 210, 211, 212, 213, 214, 215, 216, 217, 218, 219, 220, 221, 222, 223, 224, 225, 226, 227, 228, 229, 230, 231, 232, 233, 234, 235, 236, 237, 238, 239, 240, 241, 242] rfl rfl
set_option maxRecDepth 20000 in
theorem gX11_readsLine_X11_begins : GoodIn wsX11_readsLine (wsV RX11 202 RX11 yX11_begins wsX11_begins) := goodIn_app (goodIn_of _ (by decide +kernel)) ggX11_readsLine_X11_begins
set_option maxRecDepth 20000 in
theorem ggX11_readsLine_X11_hasWord : GoodIn wsX11_readsLine wsX11_hasWord := goodIn_r _ [29, 2, 3, 30, 31, 32, 13, 33, 34, 35, 36, 37, 38, 39, 1, 40, 41, 42, 43, 44, 45, 46, 47, 48, 49, 50, 51, 52, 53, 54, 55, 56, 207, 208, 209, 210, 211, 212, 213, 214, 215, 216, 217, 218, 219, 220, 221, 222, 223, 224, 225, 226, 227, 228, 229, 230, 231, 232, 233, 234, 235, 236, 237, 238, 239, 240, 241, 242] rfl rfl
set_option maxRecDepth 20000 in
theorem gX11_readsLine_X11_hasWord : GoodIn wsX11_readsLine (wsV RX11 333 RX11 yX11_hasWord wsX11_hasWord) := goodIn_app (goodIn_of _ (by decide +kernel)) ggX11_readsLine_X11_hasWord
set_option maxRecDepth 20000 in
theorem ggX11_readsLine_X11_readsRow : GoodIn wsX11_readsLine wsX11_readsRow := goodIn_r _ [60, 22, 23, 61, 62, 63, 64, 65, 66, 67, 13, 68, 2, 1, 3, 30, 31, 32, 33, 34, 69, 70, 71, 72, 73, 35, 36, 37, 38, 39, 40, 41, 42, 43, 44, 45, 46, 47, 48, 49, 50, 51, 52, 53, 54, 55, 56, 74, 75, 76, 77, 78, 79, 80, 81, 82, 83, 84, 85, 86, 87, 88, 89, 90, 91, 92, 93, 94, 95, 24, 25, 96, 97, 98, 99, 100, 101, 102, 207, 208, 209, 210, 211, 212, 213, 214, 215, 216, 217, 218, 219, 220, 221, 222, 223, 224, 225, 226, 227, 228, 229, 230, 231, 232, 233, 234, 235, 236, 237, 238, 239, 240, 241, 242] rfl rfl
set_option maxRecDepth 20000 in
theorem gX11_readsLine_X11_readsRow : GoodIn wsX11_readsLine (wsV RX11 337 RX11 yX11_readsRow wsX11_readsRow) := goodIn_app (goodIn_of _ (by decide +kernel)) ggX11_readsLine_X11_readsRow
set_option maxRecDepth 20000 in
theorem ggX11_readsLine_X11_readsSet : GoodIn wsX11_readsLine wsX11_readsSet := goodIn_r _ [106, 22, 23, 61, 62, 63, 64, 65, 66, 67, 13, 68, 2, 1, 3, 30, 31, 32, 33, 34, 69, 70, 71, 72, 73, 35, 36, 37, 38, 39, 40, 41, 42, 43, 44, 45, 46, 47, 48, 49, 50, 51, 52, 53, 54, 55, 56, 74, 75, 76, 77, 78, 79, 80, 81, 82, 83, 84, 85, 86, 87, 88, 89, 90, 91, 92, 93, 94, 95, 24, 25, 96, 97, 98, 99, 100, 101, 102, 207, 208, 209, 210, 211, 212, 213, 214, 215, 216, 217, 218, 219, 220, 221, 222, 223, 224, 225, 226, 227, 228, 229, 230, 231, 232, 233, 234, 235, 236, 237, 238, 239, 240, 241, 242] rfl rfl
set_option maxRecDepth 20000 in
theorem gX11_readsLine_X11_readsSet : GoodIn wsX11_readsLine (wsV RX11 342 RX11 yX11_readsSet wsX11_readsSet) := goodIn_app (goodIn_of _ (by decide +kernel)) ggX11_readsLine_X11_readsSet
set_option maxRecDepth 20000 in
theorem ggX11_readsLine_X11_readsAct : GoodIn wsX11_readsLine wsX11_readsAct := goodIn_r _ [110, 9, 22, 6, 8, 7, 61, 62, 65, 66, 67, 13, 68, 2, 1, 3, 30, 31, 32, 33, 34, 69, 70, 71, 72, 73, 35, 36, 37, 38, 39, 40, 41, 42, 43, 44, 45, 46, 47, 48, 49, 50, 51, 52, 53, 54, 55, 56, 74, 75, 76, 77, 78, 79, 80, 81, 99, 100, 101, 102, 111, 112, 113, 114, 23, 24, 25, 115, 116, 117, 118, 119, 120, 121, 96, 97, 98, 92, 93, 94, 95, 122, 123, 124, 125, 88, 63, 64, 126, 127, 128, 129, 130, 131, 132, 133, 134, 135, 136, 82, 83, 84, 85, 86, 87, 89, 90, 91, 137, 138, 139, 140, 16, 141, 142, 143, 144, 145, 146, 147, 148, 149, 150, 151, 152, 153, 154, 155, 156, 157, 158, 159, 21, 15, 160, 161, 162, 163, 164, 165, 166, 167, 168, 169, 170, 171, 172, 173, 174, 175, 176, 177, 178, 179, 180, 181, 182, 183, 184, 185, 186, 187, 188, 189, 190, 191, 192, 193, 194, 195, 196, 197, 198, 199, 200, 201, 202, 207, 208, 209, 210, 211, 212, 213, 214, 215, 216, 217, 218, 219, 220, 221, 222, 223, 224, 225, 226, 227, 228, 229, 230, 231, 232, 233, 234, 235, 236, 237, 238, 239, 240, 241, 242] rfl rfl
set_option maxRecDepth 20000 in
theorem gX11_readsLine_X11_readsAct : GoodIn wsX11_readsLine (wsV RX11 345 RX11 yX11_readsAct wsX11_readsAct) := goodIn_app (goodIn_of _ (by decide +kernel)) ggX11_readsLine_X11_readsAct
set_option maxRecDepth 20000 in
theorem ggX11_readsLine_X11_fails : GoodIn wsX11_readsLine wsX11_fails := goodIn_r _ [72, 34, 73, 207, 208, 209, 210, 211, 212, 213, 214, 215, 216, 217, 218, 219, 220, 221, 222, 223, 224, 225, 226, 227, 228, 229, 230, 231, 232, 233, 234, 235, 236, 237, 238, 239, 240, 241, 242] rfl rfl
set_option maxRecDepth 20000 in
theorem gX11_readsLine_X11_fails : GoodIn wsX11_readsLine (wsV RX11 302 RX11 yX11_fails wsX11_fails) := goodIn_app (goodIn_of _ (by decide +kernel)) ggX11_readsLine_X11_fails
set_option maxRecDepth 20000 in
theorem ggX11_readsLine_X11_isGood : GoodIn wsX11_readsLine wsX11_isGood := goodIn_r _ [33, 34, 207, 208, 209, 210, 211, 212, 213, 214, 215, 216, 217, 218, 219, 220, 221, 222, 223, 224, 225, 226, 227, 228, 229, 230, 231, 232, 233, 234, 235, 236, 237, 238, 239, 240, 241, 242] rfl rfl
set_option maxRecDepth 20000 in
theorem gX11_readsLine_X11_isGood : GoodIn wsX11_readsLine (wsV RX11 296 RX11 yX11_isGood wsX11_isGood) := goodIn_app (goodIn_of _ (by decide +kernel)) ggX11_readsLine_X11_isGood
set_option maxRecDepth 20000 in
theorem ggX11_readsLine_X11_becomes : GoodIn wsX11_readsLine wsX11_becomes := goodIn_r _ [206, 21, 24, 25, 207, 208, 209, 210, 211, 212, 213, 214, 215, 216, 217, 218, 219, 220, 221, 222, 223, 224, 225, 226, 227, 228, 229, 230, 231, 232, 233, 234, 235, 236, 237, 238, 239, 240, 241, 242] rfl rfl
set_option maxRecDepth 20000 in
theorem gX11_readsLine_X11_becomes : GoodIn wsX11_readsLine (wsV RX11 199 RX11 yX11_becomes wsX11_becomes) := goodIn_app (goodIn_of _ (by decide +kernel)) ggX11_readsLine_X11_becomes
theorem dX11_readsLine_0 : decode cX11_readsLine 0 = .ok (.aload_n 0, 1) := by decide +kernel
theorem dX11_readsLine_1 : decode cX11_readsLine 1 = .ok (.getfield 271, 3) := by decide +kernel
theorem dX11_readsLine_4 : decode cX11_readsLine 4 = .ok (.istore_n 1, 1) := by decide +kernel
theorem dX11_readsLine_5 : decode cX11_readsLine 5 = .ok (.aload_n 0, 1) := by decide +kernel
theorem dX11_readsLine_6 : decode cX11_readsLine 6 = .ok (.getfield 277, 3) := by decide +kernel
theorem dX11_readsLine_9 : decode cX11_readsLine 9 = .ok (.iconst 1, 1) := by decide +kernel
theorem dX11_readsLine_10 : decode cX11_readsLine 10 = .ok (.if_icmp .ne 10, 3) := by decide +kernel
theorem dX11_readsLine_13 : decode cX11_readsLine 13 = .ok (.aload_n 0, 1) := by decide +kernel
theorem dX11_readsLine_14 : decode cX11_readsLine 14 = .ok (.getfield 274, 3) := by decide +kernel
theorem dX11_readsLine_17 : decode cX11_readsLine 17 = .ok (.goto 4, 3) := by decide +kernel
theorem dX11_readsLine_20 : decode cX11_readsLine 20 = .ok (.lconst 0, 1) := by decide +kernel
theorem dX11_readsLine_21 : decode cX11_readsLine 21 = .ok (.lstore_n 2, 1) := by decide +kernel
theorem dX11_readsLine_22 : decode cX11_readsLine 22 = .ok (.aload_n 0, 1) := by decide +kernel
theorem dX11_readsLine_23 : decode cX11_readsLine 23 = .ok (.bipush 89, 2) := by decide +kernel
theorem dX11_readsLine_25 : decode cX11_readsLine 25 = .ok (.invokevirtual 202, 3) := by decide +kernel
theorem dX11_readsLine_28 : decode cX11_readsLine 28 = .ok (.aload_n 0, 1) := by decide +kernel
theorem dX11_readsLine_29 : decode cX11_readsLine 29 = .ok (.ldc2_w 331, 3) := by decide +kernel
theorem dX11_readsLine_32 : decode cX11_readsLine 32 = .ok (.invokevirtual 333, 3) := by decide +kernel
theorem dX11_readsLine_35 : decode cX11_readsLine 35 = .ok (.ifCond .eq 10, 3) := by decide +kernel
theorem dX11_readsLine_38 : decode cX11_readsLine 38 = .ok (.aload_n 0, 1) := by decide +kernel
theorem dX11_readsLine_39 : decode cX11_readsLine 39 = .ok (.invokevirtual 337, 3) := by decide +kernel
theorem dX11_readsLine_42 : decode cX11_readsLine 42 = .ok (.goto 86, 3) := by decide +kernel
theorem dX11_readsLine_45 : decode cX11_readsLine 45 = .ok (.aload_n 0, 1) := by decide +kernel
theorem dX11_readsLine_46 : decode cX11_readsLine 46 = .ok (.ldc2_w 340, 3) := by decide +kernel
theorem dX11_readsLine_49 : decode cX11_readsLine 49 = .ok (.invokevirtual 333, 3) := by decide +kernel
theorem dX11_readsLine_52 : decode cX11_readsLine 52 = .ok (.ifCond .eq 10, 3) := by decide +kernel
theorem dX11_readsLine_55 : decode cX11_readsLine 55 = .ok (.aload_n 0, 1) := by decide +kernel
theorem dX11_readsLine_56 : decode cX11_readsLine 56 = .ok (.invokevirtual 342, 3) := by decide +kernel
theorem dX11_readsLine_59 : decode cX11_readsLine 59 = .ok (.goto 69, 3) := by decide +kernel
theorem dX11_readsLine_62 : decode cX11_readsLine 62 = .ok (.aload_n 0, 1) := by decide +kernel
theorem dX11_readsLine_63 : decode cX11_readsLine 63 = .ok (.ldc2_w 325, 3) := by decide +kernel
theorem dX11_readsLine_66 : decode cX11_readsLine 66 = .ok (.invokevirtual 333, 3) := by decide +kernel
theorem dX11_readsLine_69 : decode cX11_readsLine 69 = .ok (.ifCond .ne 33, 3) := by decide +kernel
theorem dX11_readsLine_72 : decode cX11_readsLine 72 = .ok (.aload_n 0, 1) := by decide +kernel
theorem dX11_readsLine_73 : decode cX11_readsLine 73 = .ok (.ldc2_w 329, 3) := by decide +kernel
theorem dX11_readsLine_76 : decode cX11_readsLine 76 = .ok (.invokevirtual 333, 3) := by decide +kernel
theorem dX11_readsLine_79 : decode cX11_readsLine 79 = .ok (.ifCond .ne 23, 3) := by decide +kernel
theorem dX11_readsLine_82 : decode cX11_readsLine 82 = .ok (.aload_n 0, 1) := by decide +kernel
theorem dX11_readsLine_83 : decode cX11_readsLine 83 = .ok (.ldc2_w 327, 3) := by decide +kernel
theorem dX11_readsLine_86 : decode cX11_readsLine 86 = .ok (.invokevirtual 333, 3) := by decide +kernel
theorem dX11_readsLine_89 : decode cX11_readsLine 89 = .ok (.ifCond .ne 13, 3) := by decide +kernel
theorem dX11_readsLine_92 : decode cX11_readsLine 92 = .ok (.aload_n 0, 1) := by decide +kernel
theorem dX11_readsLine_93 : decode cX11_readsLine 93 = .ok (.ldc2_w 323, 3) := by decide +kernel
theorem dX11_readsLine_96 : decode cX11_readsLine 96 = .ok (.invokevirtual 333, 3) := by decide +kernel
theorem dX11_readsLine_99 : decode cX11_readsLine 99 = .ok (.ifCond .eq 20, 3) := by decide +kernel
theorem dX11_readsLine_102 : decode cX11_readsLine 102 = .ok (.aload_n 0, 1) := by decide +kernel
theorem dX11_readsLine_103 : decode cX11_readsLine 103 = .ok (.lload_n 2, 1) := by decide +kernel
theorem dX11_readsLine_104 : decode cX11_readsLine 104 = .ok (.invokevirtual 345, 3) := by decide +kernel
theorem dX11_readsLine_107 : decode cX11_readsLine 107 = .ok (.ifCond .le 21, 3) := by decide +kernel
theorem dX11_readsLine_110 : decode cX11_readsLine 110 = .ok (.aload_n 0, 1) := by decide +kernel
theorem dX11_readsLine_111 : decode cX11_readsLine 111 = .ok (.iconst 3, 1) := by decide +kernel
theorem dX11_readsLine_112 : decode cX11_readsLine 112 = .ok (.iload_n 1, 1) := by decide +kernel
theorem dX11_readsLine_113 : decode cX11_readsLine 113 = .ok (.invokevirtual 302, 3) := by decide +kernel
theorem dX11_readsLine_116 : decode cX11_readsLine 116 = .ok (.goto 12, 3) := by decide +kernel
theorem dX11_readsLine_119 : decode cX11_readsLine 119 = .ok (.aload_n 0, 1) := by decide +kernel
theorem dX11_readsLine_120 : decode cX11_readsLine 120 = .ok (.iconst 1, 1) := by decide +kernel
theorem dX11_readsLine_121 : decode cX11_readsLine 121 = .ok (.aload_n 0, 1) := by decide +kernel
theorem dX11_readsLine_122 : decode cX11_readsLine 122 = .ok (.getfield 271, 3) := by decide +kernel
theorem dX11_readsLine_125 : decode cX11_readsLine 125 = .ok (.invokevirtual 302, 3) := by decide +kernel
theorem dX11_readsLine_128 : decode cX11_readsLine 128 = .ok (.aload_n 0, 1) := by decide +kernel
theorem dX11_readsLine_129 : decode cX11_readsLine 129 = .ok (.invokevirtual 296, 3) := by decide +kernel
theorem dX11_readsLine_132 : decode cX11_readsLine 132 = .ok (.ifCond .eq 9, 3) := by decide +kernel
theorem dX11_readsLine_135 : decode cX11_readsLine 135 = .ok (.aload_n 0, 1) := by decide +kernel
theorem dX11_readsLine_136 : decode cX11_readsLine 136 = .ok (.bipush 89, 2) := by decide +kernel
theorem dX11_readsLine_138 : decode cX11_readsLine 138 = .ok (.invokevirtual 199, 3) := by decide +kernel
theorem dX11_readsLine_141 : decode cX11_readsLine 141 = .ok (.return_, 1) := by decide +kernel
set_option maxRecDepth 20000 in
theorem ggX11_text_X11_takes : GoodIn wsX11_text wsX11_takes := goodIn_r _ [14, 5, 7, 15, 8, 16, 17, 18, 19, 20, 21, 22, 23, 13, 24, 2, 25, 26, 27, 28, 29, 30, 31, 222, 223, 224, 225, 226, 227, 228, 229, 230, 231, 232, 233, 234, 235, 236, 237, 238, 239, 240, 241, 242, 243, 244, 245, 246, 247, 248, 249, 250, 251, 252, 253, 254, 255, 256, 257] rfl rfl
set_option maxRecDepth 20000 in
theorem gX11_text_X11_takes : GoodIn wsX11_text (wsV RX11 299 RX11 yX11_takes wsX11_takes) := goodIn_app (goodIn_of _ (by decide +kernel)) ggX11_text_X11_takes
set_option maxRecDepth 20000 in
theorem ggX11_text_X11_hasWord : GoodIn wsX11_text wsX11_hasWord := goodIn_r _ [35, 8, 15, 36, 37, 38, 13, 39, 3, 10, 11, 12, 14, 5, 7, 16, 17, 18, 19, 20, 21, 22, 23, 24, 2, 25, 26, 27, 28, 29, 30, 31, 222, 223, 224, 225, 226, 227, 228, 229, 230, 231, 232, 233, 234, 235, 236, 237, 238, 239, 240, 241, 242, 243, 244, 245, 246, 247, 248, 249, 250, 251, 252, 253, 254, 255, 256, 257] rfl rfl
set_option maxRecDepth 20000 in
theorem gX11_text_X11_hasWord : GoodIn wsX11_text (wsV RX11 333 RX11 yX11_hasWord wsX11_hasWord) := goodIn_app (goodIn_of _ (by decide +kernel)) ggX11_text_X11_hasWord
set_option maxRecDepth 20000 in
theorem ggX11_text_X11_fails : GoodIn wsX11_text wsX11_fails := goodIn_r _ [43, 3, 4, 222, 223, 224, 225, 226, 227, 228, 229, 230, 231, 232, 233, 234, 235, 236, 237, 238, 239, 240, 241, 242, 243, 244, 245, 246, 247, 248, 249, 250, 251, 252, 253, 254, 255, 256, 257] rfl rfl
set_option maxRecDepth 20000 in
theorem gX11_text_X11_fails : GoodIn wsX11_text (wsV RX11 302 RX11 yX11_fails wsX11_fails) := goodIn_app (goodIn_of _ (by decide +kernel)) ggX11_text_X11_fails
set_option maxRecDepth 20000 in
theorem ggX11_text_X11_numeral : GoodIn wsX11_text wsX11_numeral := goodIn_r _ [47, 8, 7, 15, 36, 37, 38, 13, 39, 3, 40, 41, 42, 43, 4, 10, 11, 12, 14, 5, 16, 17, 18, 19, 20, 21, 22, 23, 24, 2, 25, 26, 27, 28, 29, 30, 31, 222, 223, 224, 225, 226, 227, 228, 229, 230, 231, 232, 233, 234, 235, 236, 237, 238, 239, 240, 241, 242, 243, 244, 245, 246, 247, 248, 249, 250, 251, 252, 253, 254, 255, 256, 257] rfl rfl
set_option maxRecDepth 20000 in
theorem gX11_text_X11_numeral : GoodIn wsX11_text (wsV RX11 308 RX11 yX11_numeral wsX11_numeral) := goodIn_app (goodIn_of _ (by decide +kernel)) ggX11_text_X11_numeral
set_option maxRecDepth 20000 in
theorem ggX11_text_X11_mustEnd : GoodIn wsX11_text wsX11_mustEnd := goodIn_r _ [51, 7, 36, 37, 38, 13, 39, 3, 52, 53, 54, 55, 8, 15, 10, 11, 12, 14, 5, 16, 17, 18, 19, 20, 21, 22, 23, 24, 2, 25, 26, 27, 28, 29, 30, 31, 40, 41, 42, 43, 4, 222, 223, 224, 225, 226, 227, 228, 229, 230, 231, 232, 233, 234, 235, 236, 237, 238, 239, 240, 241, 242, 243, 244, 245, 246, 247, 248, 249, 250, 251, 252, 253, 254, 255, 256, 257] rfl rfl
set_option maxRecDepth 20000 in
theorem gX11_text_X11_mustEnd : GoodIn wsX11_text (wsV RX11 320 RX11 yX11_mustEnd wsX11_mustEnd) := goodIn_app (goodIn_of _ (by decide +kernel)) ggX11_text_X11_mustEnd
set_option maxRecDepth 20000 in
theorem ggX11_text_X11_firsts : GoodIn wsX11_text wsX11_firsts := goodIn_r _ [59, 60, 222, 223, 224, 225, 226, 227, 228, 229, 230, 231, 232, 233, 234, 235, 236, 237, 238, 239, 240, 241, 242, 243, 244, 245, 246, 247, 248, 249, 250, 251, 252, 253, 254, 255, 256, 257] rfl rfl
set_option maxRecDepth 20000 in
theorem gX11_text_X11_firsts : GoodIn wsX11_text (wsV RX11 58 RX11 yX11_firsts wsX11_firsts) := goodIn_app (goodIn_of _ (by decide +kernel)) ggX11_text_X11_firsts
set_option maxRecDepth 20000 in
theorem ggX11_text_X11_isGood : GoodIn wsX11_text wsX11_isGood := goodIn_r _ [39, 3, 222, 223, 224, 225, 226, 227, 228, 229, 230, 231, 232, 233, 234, 235, 236, 237, 238, 239, 240, 241, 242, 243, 244, 245, 246, 247, 248, 249, 250, 251, 252, 253, 254, 255, 256, 257] rfl rfl
set_option maxRecDepth 20000 in
theorem gX11_text_X11_isGood : GoodIn wsX11_text (wsV RX11 296 RX11 yX11_isGood wsX11_isGood) := goodIn_app (goodIn_of _ (by decide +kernel)) ggX11_text_X11_isGood
set_option maxRecDepth 20000 in
theorem ggX11_text_X11_readsLine : GoodIn wsX11_text wsX11_readsLine := goodIn_r _ [64, 7, 8, 15, 65, 66, 67, 68, 69, 70, 71, 72, 73, 13, 74, 75, 76, 77, 78, 79, 80, 60, 81, 82, 83, 84, 32, 33, 34, 35, 36, 37, 38, 39, 3, 10, 11, 12, 14, 5, 16, 17, 18, 19, 20, 21, 22, 23, 24, 2, 25, 26, 27, 28, 29, 30, 31, 85, 86, 87, 88, 89, 90, 91, 92, 44, 45, 46, 47, 40, 41, 42, 43, 4, 93, 94, 95, 96, 52, 53, 54, 55, 97, 98, 99, 100, 101, 102, 103, 104, 105, 106, 107, 108, 109, 110, 111, 112, 113, 48, 49, 50, 51, 114, 115, 116, 117, 118, 119, 120, 121, 122, 123, 124, 125, 126, 127, 128, 129, 130, 131, 132, 133, 134, 135, 136, 137, 138, 139, 140, 141, 142, 143, 144, 145, 146, 147, 148, 149, 150, 151, 152, 153, 154, 155, 156, 157, 158, 159, 160, 161, 162, 163, 164, 165, 166, 167, 168, 169, 170, 171, 172, 173, 174, 175, 176, 177, 178, 179, 180, 181, 182, 183, 184, 185, 186, 187, 188, 189, 190, 191, 192, 193, 194, 195, 196, 197, 198, 199, 200, 201, 202, 203, 204, 205, 206, 207, 208, 209, 210, 211, 212, 213, 214, 215, 216, 217, 222, 223, 224, 225, 226, 227, 228, 229, 230, 231, 232, 233, 234, 235, 236, 237, 238, 239, 240, 241, 242, 243, 244, 245, 246, 247, 248, 249, 250, 251, 252, 253, 254, 255, 256, 257] rfl rfl
set_option maxRecDepth 20000 in
theorem gX11_text_X11_readsLine : GoodIn wsX11_text (wsV RX11 351 RX11 yX11_readsLine wsX11_readsLine) := goodIn_app (goodIn_of _ (by decide +kernel)) ggX11_text_X11_readsLine
set_option maxRecDepth 20000 in
theorem ggX11_text_X11_copies : GoodIn wsX11_text wsX11_copies := goodIn_r _ [221, 60, 222, 223, 224, 225, 226, 227, 228, 229, 230, 231, 232, 233, 234, 235, 236, 237, 238, 239, 240, 241, 242, 243, 244, 245, 246, 247, 248, 249, 250, 251, 252, 253, 254, 255, 256, 257] rfl rfl
set_option maxRecDepth 20000 in
theorem gX11_text_X11_copies : GoodIn wsX11_text (wsV RX11 175 RX11 yX11_copies wsX11_copies) := goodIn_app (goodIn_of _ (by decide +kernel)) ggX11_text_X11_copies
theorem dX11_text_0 : decode cX11_text 0 = .ok (.aload_n 0, 1) := by decide +kernel
theorem dX11_text_1 : decode cX11_text 1 = .ok (.aload_n 0, 1) := by decide +kernel
theorem dX11_text_2 : decode cX11_text 2 = .ok (.getfield 229, 3) := by decide +kernel
theorem dX11_text_5 : decode cX11_text 5 = .ok (.putfield 262, 3) := by decide +kernel
theorem dX11_text_8 : decode cX11_text 8 = .ok (.aload_n 0, 1) := by decide +kernel
theorem dX11_text_9 : decode cX11_text 9 = .ok (.iconst 0, 1) := by decide +kernel
theorem dX11_text_10 : decode cX11_text 10 = .ok (.putfield 229, 3) := by decide +kernel
theorem dX11_text_13 : decode cX11_text 13 = .ok (.aload_n 0, 1) := by decide +kernel
theorem dX11_text_14 : decode cX11_text 14 = .ok (.iconst 0, 1) := by decide +kernel
theorem dX11_text_15 : decode cX11_text 15 = .ok (.putfield 259, 3) := by decide +kernel
theorem dX11_text_18 : decode cX11_text 18 = .ok (.aload_n 0, 1) := by decide +kernel
theorem dX11_text_19 : decode cX11_text 19 = .ok (.iconst (-1), 1) := by decide +kernel
theorem dX11_text_20 : decode cX11_text 20 = .ok (.putfield 20, 3) := by decide +kernel
theorem dX11_text_23 : decode cX11_text 23 = .ok (.aload_n 0, 1) := by decide +kernel
theorem dX11_text_24 : decode cX11_text 24 = .ok (.iconst 0, 1) := by decide +kernel
theorem dX11_text_25 : decode cX11_text 25 = .ok (.putfield 265, 3) := by decide +kernel
theorem dX11_text_28 : decode cX11_text 28 = .ok (.aload_n 0, 1) := by decide +kernel
theorem dX11_text_29 : decode cX11_text 29 = .ok (.invokevirtual 299, 3) := by decide +kernel
theorem dX11_text_32 : decode cX11_text 32 = .ok (.aload_n 0, 1) := by decide +kernel
theorem dX11_text_33 : decode cX11_text 33 = .ok (.ldc2_w 349, 3) := by decide +kernel
theorem dX11_text_36 : decode cX11_text 36 = .ok (.invokevirtual 333, 3) := by decide +kernel
theorem dX11_text_39 : decode cX11_text 39 = .ok (.ifCond .ne 12, 3) := by decide +kernel
theorem dX11_text_42 : decode cX11_text 42 = .ok (.aload_n 0, 1) := by decide +kernel
theorem dX11_text_43 : decode cX11_text 43 = .ok (.iconst 1, 1) := by decide +kernel
theorem dX11_text_44 : decode cX11_text 44 = .ok (.aload_n 0, 1) := by decide +kernel
theorem dX11_text_45 : decode cX11_text 45 = .ok (.getfield 271, 3) := by decide +kernel
theorem dX11_text_48 : decode cX11_text 48 = .ok (.invokevirtual 302, 3) := by decide +kernel
theorem dX11_text_51 : decode cX11_text 51 = .ok (.aload_n 0, 1) := by decide +kernel
theorem dX11_text_52 : decode cX11_text 52 = .ok (.iconst 1, 1) := by decide +kernel
theorem dX11_text_53 : decode cX11_text 53 = .ok (.bipush 6, 2) := by decide +kernel
theorem dX11_text_55 : decode cX11_text 55 = .ok (.invokevirtual 308, 3) := by decide +kernel
theorem dX11_text_58 : decode cX11_text 58 = .ok (.istore_n 1, 1) := by decide +kernel
theorem dX11_text_59 : decode cX11_text 59 = .ok (.aload_n 0, 1) := by decide +kernel
theorem dX11_text_60 : decode cX11_text 60 = .ok (.iconst 1, 1) := by decide +kernel
theorem dX11_text_61 : decode cX11_text 61 = .ok (.bipush 6, 2) := by decide +kernel
theorem dX11_text_63 : decode cX11_text 63 = .ok (.invokevirtual 308, 3) := by decide +kernel
theorem dX11_text_66 : decode cX11_text 66 = .ok (.istore_n 2, 1) := by decide +kernel
theorem dX11_text_67 : decode cX11_text 67 = .ok (.aload_n 0, 1) := by decide +kernel
theorem dX11_text_68 : decode cX11_text 68 = .ok (.invokevirtual 320, 3) := by decide +kernel
theorem dX11_text_71 : decode cX11_text 71 = .ok (.aload_n 0, 1) := by decide +kernel
theorem dX11_text_72 : decode cX11_text 72 = .ok (.bipush 89, 2) := by decide +kernel
theorem dX11_text_74 : decode cX11_text 74 = .ok (.iload_n 1, 1) := by decide +kernel
theorem dX11_text_75 : decode cX11_text 75 = .ok (.iload_n 2, 1) := by decide +kernel
theorem dX11_text_76 : decode cX11_text 76 = .ok (.invokevirtual 58, 3) := by decide +kernel
theorem dX11_text_79 : decode cX11_text 79 = .ok (.iconst 0, 1) := by decide +kernel
theorem dX11_text_80 : decode cX11_text 80 = .ok (.istore_n 3, 1) := by decide +kernel
theorem dX11_text_81 : decode cX11_text 81 = .ok (.aload_n 0, 1) := by decide +kernel
theorem dX11_text_82 : decode cX11_text 82 = .ok (.invokevirtual 296, 3) := by decide +kernel
theorem dX11_text_85 : decode cX11_text 85 = .ok (.ifCond .eq 20, 3) := by decide +kernel
theorem dX11_text_88 : decode cX11_text 88 = .ok (.aload_n 0, 1) := by decide +kernel
theorem dX11_text_89 : decode cX11_text 89 = .ok (.getfield 277, 3) := by decide +kernel
theorem dX11_text_92 : decode cX11_text 92 = .ok (.ifCond .eq 13, 3) := by decide +kernel
theorem dX11_text_95 : decode cX11_text 95 = .ok (.aload_n 0, 1) := by decide +kernel
theorem dX11_text_96 : decode cX11_text 96 = .ok (.invokevirtual 351, 3) := by decide +kernel
theorem dX11_text_99 : decode cX11_text 99 = .ok (.iinc 3 1, 3) := by decide +kernel
theorem dX11_text_102 : decode cX11_text 102 = .ok (.goto (-21), 3) := by decide +kernel
theorem dX11_text_105 : decode cX11_text 105 = .ok (.aload_n 0, 1) := by decide +kernel
theorem dX11_text_106 : decode cX11_text 106 = .ok (.invokevirtual 296, 3) := by decide +kernel
theorem dX11_text_109 : decode cX11_text 109 = .ok (.ifCond .ne 5, 3) := by decide +kernel
theorem dX11_text_112 : decode cX11_text 112 = .ok (.iconst (-1), 1) := by decide +kernel
theorem dX11_text_113 : decode cX11_text 113 = .ok (.ireturn, 1) := by decide +kernel
theorem dX11_text_114 : decode cX11_text 114 = .ok (.aload_n 0, 1) := by decide +kernel
theorem dX11_text_115 : decode cX11_text 115 = .ok (.bipush 89, 2) := by decide +kernel
theorem dX11_text_117 : decode cX11_text 117 = .ok (.iconst 0, 1) := by decide +kernel
theorem dX11_text_118 : decode cX11_text 118 = .ok (.bipush 86, 2) := by decide +kernel
theorem dX11_text_120 : decode cX11_text 120 = .ok (.invokevirtual 175, 3) := by decide +kernel
theorem dX11_text_123 : decode cX11_text 123 = .ok (.aload_n 0, 1) := by decide +kernel
theorem dX11_text_124 : decode cX11_text 124 = .ok (.iconst 0, 1) := by decide +kernel
theorem dX11_text_125 : decode cX11_text 125 = .ok (.putfield 172, 3) := by decide +kernel
theorem dX11_text_128 : decode cX11_text 128 = .ok (.iload_n 3, 1) := by decide +kernel
theorem dX11_text_129 : decode cX11_text 129 = .ok (.ireturn, 1) := by decide +kernel
set_option maxRecDepth 20000 in
theorem ggX11_image_X11_isIn : GoodIn wsX11_image wsX11_isIn := goodIn_r _ [10] rfl rfl
set_option maxRecDepth 20000 in
theorem gX11_image_X11_isIn : GoodIn wsX11_image (va_wsS RX11 85 yX11_isIn wsX11_isIn) := goodIn_app (goodIn_of _ (by decide +kernel)) ggX11_image_X11_isIn
set_option maxRecDepth 20000 in
theorem ggX11_image_X11_copies : GoodIn wsX11_image wsX11_copies := goodIn_r _ [14, 1, 15, 16, 17, 18, 19, 20, 21, 22, 23, 24, 25, 26, 27, 28, 29, 30, 31, 32, 33, 34, 35, 36, 37, 38, 39, 40, 41, 42, 43, 44, 45, 46, 47, 48, 49, 50] rfl rfl
set_option maxRecDepth 20000 in
theorem gX11_image_X11_copies : GoodIn wsX11_image (wsV RX11 175 RX11 yX11_copies wsX11_copies) := goodIn_app (goodIn_of _ (by decide +kernel)) ggX11_image_X11_copies
theorem dX11_image_0 : decode cX11_image 0 = .ok (.iload_n 1, 1) := by decide +kernel
theorem dX11_image_1 : decode cX11_image 1 = .ok (.iconst 0, 1) := by decide +kernel
theorem dX11_image_2 : decode cX11_image 2 = .ok (.iconst 2, 1) := by decide +kernel
theorem dX11_image_3 : decode cX11_image 3 = .ok (.invokestatic 85, 3) := by decide +kernel
theorem dX11_image_6 : decode cX11_image 6 = .ok (.ifCond .ne 5, 3) := by decide +kernel
theorem dX11_image_9 : decode cX11_image 9 = .ok (.iconst 0, 1) := by decide +kernel
theorem dX11_image_10 : decode cX11_image 10 = .ok (.ireturn, 1) := by decide +kernel
theorem dX11_image_11 : decode cX11_image 11 = .ok (.sipush 1895, 3) := by decide +kernel
theorem dX11_image_14 : decode cX11_image 14 = .ok (.sipush 492, 3) := by decide +kernel
theorem dX11_image_17 : decode cX11_image 17 = .ok (.iload_n 1, 1) := by decide +kernel
theorem dX11_image_18 : decode cX11_image 18 = .ok (.imul, 1) := by decide +kernel
theorem dX11_image_19 : decode cX11_image 19 = .ok (.iadd, 1) := by decide +kernel
theorem dX11_image_20 : decode cX11_image 20 = .ok (.istore_n 2, 1) := by decide +kernel
theorem dX11_image_21 : decode cX11_image 21 = .ok (.aload_n 0, 1) := by decide +kernel
theorem dX11_image_22 : decode cX11_image 22 = .ok (.iconst 0, 1) := by decide +kernel
theorem dX11_image_23 : decode cX11_image 23 = .ok (.iload_n 2, 1) := by decide +kernel
theorem dX11_image_24 : decode cX11_image 24 = .ok (.bipush 89, 2) := by decide +kernel
theorem dX11_image_26 : decode cX11_image 26 = .ok (.invokevirtual 175, 3) := by decide +kernel
theorem dX11_image_29 : decode cX11_image 29 = .ok (.iconst 0, 1) := by decide +kernel
theorem dX11_image_30 : decode cX11_image 30 = .ok (.istore_n 3, 1) := by decide +kernel
theorem dX11_image_31 : decode cX11_image 31 = .ok (.iload_n 3, 1) := by decide +kernel
theorem dX11_image_32 : decode cX11_image 32 = .ok (.sipush 400, 3) := by decide +kernel
theorem dX11_image_35 : decode cX11_image 35 = .ok (.if_icmp .ge 26, 3) := by decide +kernel
theorem dX11_image_38 : decode cX11_image 38 = .ok (.aload_n 0, 1) := by decide +kernel
theorem dX11_image_39 : decode cX11_image 39 = .ok (.getfield 7, 3) := by decide +kernel
theorem dX11_image_42 : decode cX11_image 42 = .ok (.iload_n 2, 1) := by decide +kernel
theorem dX11_image_43 : decode cX11_image 43 = .ok (.bipush 89, 2) := by decide +kernel
theorem dX11_image_45 : decode cX11_image 45 = .ok (.iadd, 1) := by decide +kernel
theorem dX11_image_46 : decode cX11_image 46 = .ok (.iload_n 3, 1) := by decide +kernel
theorem dX11_image_47 : decode cX11_image 47 = .ok (.iadd, 1) := by decide +kernel
theorem dX11_image_48 : decode cX11_image 48 = .ok (.aload_n 0, 1) := by decide +kernel
theorem dX11_image_49 : decode cX11_image 49 = .ok (.getfield 13, 3) := by decide +kernel
theorem dX11_image_52 : decode cX11_image 52 = .ok (.iload_n 3, 1) := by decide +kernel
theorem dX11_image_53 : decode cX11_image 53 = .ok (.iaload, 1) := by decide +kernel
theorem dX11_image_54 : decode cX11_image 54 = .ok (.iastore, 1) := by decide +kernel
theorem dX11_image_55 : decode cX11_image 55 = .ok (.iinc 3 1, 3) := by decide +kernel
theorem dX11_image_58 : decode cX11_image 58 = .ok (.goto (-27), 3) := by decide +kernel
theorem dX11_image_61 : decode cX11_image 61 = .ok (.aload_n 0, 1) := by decide +kernel
theorem dX11_image_62 : decode cX11_image 62 = .ok (.getfield 7, 3) := by decide +kernel
theorem dX11_image_65 : decode cX11_image 65 = .ok (.iload_n 2, 1) := by decide +kernel
theorem dX11_image_66 : decode cX11_image 66 = .ok (.bipush 89, 2) := by decide +kernel
theorem dX11_image_68 : decode cX11_image 68 = .ok (.iadd, 1) := by decide +kernel
theorem dX11_image_69 : decode cX11_image 69 = .ok (.sipush 400, 3) := by decide +kernel
theorem dX11_image_72 : decode cX11_image 72 = .ok (.iadd, 1) := by decide +kernel
theorem dX11_image_73 : decode cX11_image 73 = .ok (.aload_n 0, 1) := by decide +kernel
theorem dX11_image_74 : decode cX11_image 74 = .ok (.getfield 229, 3) := by decide +kernel
theorem dX11_image_77 : decode cX11_image 77 = .ok (.iastore, 1) := by decide +kernel
theorem dX11_image_78 : decode cX11_image 78 = .ok (.aload_n 0, 1) := by decide +kernel
theorem dX11_image_79 : decode cX11_image 79 = .ok (.getfield 7, 3) := by decide +kernel
theorem dX11_image_82 : decode cX11_image 82 = .ok (.iload_n 2, 1) := by decide +kernel
theorem dX11_image_83 : decode cX11_image 83 = .ok (.bipush 89, 2) := by decide +kernel
theorem dX11_image_85 : decode cX11_image 85 = .ok (.iadd, 1) := by decide +kernel
theorem dX11_image_86 : decode cX11_image 86 = .ok (.sipush 400, 3) := by decide +kernel
theorem dX11_image_89 : decode cX11_image 89 = .ok (.iadd, 1) := by decide +kernel
theorem dX11_image_90 : decode cX11_image 90 = .ok (.iconst 1, 1) := by decide +kernel
theorem dX11_image_91 : decode cX11_image 91 = .ok (.iadd, 1) := by decide +kernel
theorem dX11_image_92 : decode cX11_image 92 = .ok (.aload_n 0, 1) := by decide +kernel
theorem dX11_image_93 : decode cX11_image 93 = .ok (.getfield 259, 3) := by decide +kernel
theorem dX11_image_96 : decode cX11_image 96 = .ok (.iastore, 1) := by decide +kernel
theorem dX11_image_97 : decode cX11_image 97 = .ok (.aload_n 0, 1) := by decide +kernel
theorem dX11_image_98 : decode cX11_image 98 = .ok (.getfield 7, 3) := by decide +kernel
theorem dX11_image_101 : decode cX11_image 101 = .ok (.iload_n 2, 1) := by decide +kernel
theorem dX11_image_102 : decode cX11_image 102 = .ok (.bipush 89, 2) := by decide +kernel
theorem dX11_image_104 : decode cX11_image 104 = .ok (.iadd, 1) := by decide +kernel
theorem dX11_image_105 : decode cX11_image 105 = .ok (.sipush 400, 3) := by decide +kernel
theorem dX11_image_108 : decode cX11_image 108 = .ok (.iadd, 1) := by decide +kernel
theorem dX11_image_109 : decode cX11_image 109 = .ok (.iconst 2, 1) := by decide +kernel
theorem dX11_image_110 : decode cX11_image 110 = .ok (.iadd, 1) := by decide +kernel
theorem dX11_image_111 : decode cX11_image 111 = .ok (.aload_n 0, 1) := by decide +kernel
theorem dX11_image_112 : decode cX11_image 112 = .ok (.getfield 20, 3) := by decide +kernel
theorem dX11_image_115 : decode cX11_image 115 = .ok (.iastore, 1) := by decide +kernel
theorem dX11_image_116 : decode cX11_image 116 = .ok (.aload_n 0, 1) := by decide +kernel
theorem dX11_image_117 : decode cX11_image 117 = .ok (.getfield 16, 3) := by decide +kernel
theorem dX11_image_120 : decode cX11_image 120 = .ok (.iload_n 1, 1) := by decide +kernel
theorem dX11_image_121 : decode cX11_image 121 = .ok (.iconst 1, 1) := by decide +kernel
theorem dX11_image_122 : decode cX11_image 122 = .ok (.bastore, 1) := by decide +kernel
theorem dX11_image_123 : decode cX11_image 123 = .ok (.iconst 1, 1) := by decide +kernel
theorem dX11_image_124 : decode cX11_image 124 = .ok (.ireturn, 1) := by decide +kernel
set_option maxRecDepth 20000 in
theorem ggX11_again_X11_isIn : GoodIn wsX11_again wsX11_isIn := goodIn_r _ [11] rfl rfl
set_option maxRecDepth 20000 in
theorem gX11_again_X11_isIn : GoodIn wsX11_again (va_wsS RX11 85 yX11_isIn wsX11_isIn) := goodIn_app (goodIn_of _ (by decide +kernel)) ggX11_again_X11_isIn
set_option maxRecDepth 20000 in
theorem ggX11_again_X11_copies : GoodIn wsX11_again wsX11_copies := goodIn_r _ [15, 3, 16, 17, 18, 19, 20, 21, 22, 23, 24, 25, 26, 27, 28, 29, 30, 31, 32, 33, 34, 35, 36, 37, 38, 39, 40, 41, 42, 43, 44, 45, 46, 47, 48, 49, 50, 51] rfl rfl
set_option maxRecDepth 20000 in
theorem gX11_again_X11_copies : GoodIn wsX11_again (wsV RX11 175 RX11 yX11_copies wsX11_copies) := goodIn_app (goodIn_of _ (by decide +kernel)) ggX11_again_X11_copies
theorem dX11_again_0 : decode cX11_again 0 = .ok (.iload_n 1, 1) := by decide +kernel
theorem dX11_again_1 : decode cX11_again 1 = .ok (.iconst 0, 1) := by decide +kernel
theorem dX11_again_2 : decode cX11_again 2 = .ok (.iconst 2, 1) := by decide +kernel
theorem dX11_again_3 : decode cX11_again 3 = .ok (.invokestatic 85, 3) := by decide +kernel
theorem dX11_again_6 : decode cX11_again 6 = .ok (.ifCond .eq 12, 3) := by decide +kernel
theorem dX11_again_9 : decode cX11_again 9 = .ok (.aload_n 0, 1) := by decide +kernel
theorem dX11_again_10 : decode cX11_again 10 = .ok (.getfield 16, 3) := by decide +kernel
theorem dX11_again_13 : decode cX11_again 13 = .ok (.iload_n 1, 1) := by decide +kernel
theorem dX11_again_14 : decode cX11_again 14 = .ok (.baload, 1) := by decide +kernel
theorem dX11_again_15 : decode cX11_again 15 = .ok (.ifCond .ne 5, 3) := by decide +kernel
theorem dX11_again_18 : decode cX11_again 18 = .ok (.iconst 0, 1) := by decide +kernel
theorem dX11_again_19 : decode cX11_again 19 = .ok (.ireturn, 1) := by decide +kernel
theorem dX11_again_20 : decode cX11_again 20 = .ok (.sipush 1895, 3) := by decide +kernel
theorem dX11_again_23 : decode cX11_again 23 = .ok (.sipush 492, 3) := by decide +kernel
theorem dX11_again_26 : decode cX11_again 26 = .ok (.iload_n 1, 1) := by decide +kernel
theorem dX11_again_27 : decode cX11_again 27 = .ok (.imul, 1) := by decide +kernel
theorem dX11_again_28 : decode cX11_again 28 = .ok (.iadd, 1) := by decide +kernel
theorem dX11_again_29 : decode cX11_again 29 = .ok (.istore_n 2, 1) := by decide +kernel
theorem dX11_again_30 : decode cX11_again 30 = .ok (.aload_n 0, 1) := by decide +kernel
theorem dX11_again_31 : decode cX11_again 31 = .ok (.iload_n 2, 1) := by decide +kernel
theorem dX11_again_32 : decode cX11_again 32 = .ok (.iconst 0, 1) := by decide +kernel
theorem dX11_again_33 : decode cX11_again 33 = .ok (.bipush 89, 2) := by decide +kernel
theorem dX11_again_35 : decode cX11_again 35 = .ok (.invokevirtual 175, 3) := by decide +kernel
theorem dX11_again_38 : decode cX11_again 38 = .ok (.iconst 0, 1) := by decide +kernel
theorem dX11_again_39 : decode cX11_again 39 = .ok (.istore_n 3, 1) := by decide +kernel
theorem dX11_again_40 : decode cX11_again 40 = .ok (.iload_n 3, 1) := by decide +kernel
theorem dX11_again_41 : decode cX11_again 41 = .ok (.sipush 400, 3) := by decide +kernel
theorem dX11_again_44 : decode cX11_again 44 = .ok (.if_icmp .ge 26, 3) := by decide +kernel
theorem dX11_again_47 : decode cX11_again 47 = .ok (.aload_n 0, 1) := by decide +kernel
theorem dX11_again_48 : decode cX11_again 48 = .ok (.getfield 13, 3) := by decide +kernel
theorem dX11_again_51 : decode cX11_again 51 = .ok (.iload_n 3, 1) := by decide +kernel
theorem dX11_again_52 : decode cX11_again 52 = .ok (.aload_n 0, 1) := by decide +kernel
theorem dX11_again_53 : decode cX11_again 53 = .ok (.getfield 7, 3) := by decide +kernel
theorem dX11_again_56 : decode cX11_again 56 = .ok (.iload_n 2, 1) := by decide +kernel
theorem dX11_again_57 : decode cX11_again 57 = .ok (.bipush 89, 2) := by decide +kernel
theorem dX11_again_59 : decode cX11_again 59 = .ok (.iadd, 1) := by decide +kernel
theorem dX11_again_60 : decode cX11_again 60 = .ok (.iload_n 3, 1) := by decide +kernel
theorem dX11_again_61 : decode cX11_again 61 = .ok (.iadd, 1) := by decide +kernel
theorem dX11_again_62 : decode cX11_again 62 = .ok (.iaload, 1) := by decide +kernel
theorem dX11_again_63 : decode cX11_again 63 = .ok (.iastore, 1) := by decide +kernel
theorem dX11_again_64 : decode cX11_again 64 = .ok (.iinc 3 1, 3) := by decide +kernel
theorem dX11_again_67 : decode cX11_again 67 = .ok (.goto (-27), 3) := by decide +kernel
theorem dX11_again_70 : decode cX11_again 70 = .ok (.aload_n 0, 1) := by decide +kernel
theorem dX11_again_71 : decode cX11_again 71 = .ok (.aload_n 0, 1) := by decide +kernel
theorem dX11_again_72 : decode cX11_again 72 = .ok (.getfield 7, 3) := by decide +kernel
theorem dX11_again_75 : decode cX11_again 75 = .ok (.iload_n 2, 1) := by decide +kernel
theorem dX11_again_76 : decode cX11_again 76 = .ok (.bipush 89, 2) := by decide +kernel
theorem dX11_again_78 : decode cX11_again 78 = .ok (.iadd, 1) := by decide +kernel
theorem dX11_again_79 : decode cX11_again 79 = .ok (.sipush 400, 3) := by decide +kernel
theorem dX11_again_82 : decode cX11_again 82 = .ok (.iadd, 1) := by decide +kernel
theorem dX11_again_83 : decode cX11_again 83 = .ok (.iaload, 1) := by decide +kernel
theorem dX11_again_84 : decode cX11_again 84 = .ok (.putfield 229, 3) := by decide +kernel
theorem dX11_again_87 : decode cX11_again 87 = .ok (.aload_n 0, 1) := by decide +kernel
theorem dX11_again_88 : decode cX11_again 88 = .ok (.aload_n 0, 1) := by decide +kernel
theorem dX11_again_89 : decode cX11_again 89 = .ok (.getfield 7, 3) := by decide +kernel
theorem dX11_again_92 : decode cX11_again 92 = .ok (.iload_n 2, 1) := by decide +kernel
theorem dX11_again_93 : decode cX11_again 93 = .ok (.bipush 89, 2) := by decide +kernel
theorem dX11_again_95 : decode cX11_again 95 = .ok (.iadd, 1) := by decide +kernel
theorem dX11_again_96 : decode cX11_again 96 = .ok (.sipush 400, 3) := by decide +kernel
theorem dX11_again_99 : decode cX11_again 99 = .ok (.iadd, 1) := by decide +kernel
theorem dX11_again_100 : decode cX11_again 100 = .ok (.iconst 1, 1) := by decide +kernel
theorem dX11_again_101 : decode cX11_again 101 = .ok (.iadd, 1) := by decide +kernel
theorem dX11_again_102 : decode cX11_again 102 = .ok (.iaload, 1) := by decide +kernel
theorem dX11_again_103 : decode cX11_again 103 = .ok (.putfield 259, 3) := by decide +kernel
theorem dX11_again_106 : decode cX11_again 106 = .ok (.aload_n 0, 1) := by decide +kernel
theorem dX11_again_107 : decode cX11_again 107 = .ok (.aload_n 0, 1) := by decide +kernel
theorem dX11_again_108 : decode cX11_again 108 = .ok (.getfield 7, 3) := by decide +kernel
theorem dX11_again_111 : decode cX11_again 111 = .ok (.iload_n 2, 1) := by decide +kernel
theorem dX11_again_112 : decode cX11_again 112 = .ok (.bipush 89, 2) := by decide +kernel
theorem dX11_again_114 : decode cX11_again 114 = .ok (.iadd, 1) := by decide +kernel
theorem dX11_again_115 : decode cX11_again 115 = .ok (.sipush 400, 3) := by decide +kernel
theorem dX11_again_118 : decode cX11_again 118 = .ok (.iadd, 1) := by decide +kernel
theorem dX11_again_119 : decode cX11_again 119 = .ok (.iconst 2, 1) := by decide +kernel
theorem dX11_again_120 : decode cX11_again 120 = .ok (.iadd, 1) := by decide +kernel
theorem dX11_again_121 : decode cX11_again 121 = .ok (.iaload, 1) := by decide +kernel
theorem dX11_again_122 : decode cX11_again 122 = .ok (.putfield 20, 3) := by decide +kernel
theorem dX11_again_125 : decode cX11_again 125 = .ok (.aload_n 0, 1) := by decide +kernel
theorem dX11_again_126 : decode cX11_again 126 = .ok (.iconst 0, 1) := by decide +kernel
theorem dX11_again_127 : decode cX11_again 127 = .ok (.putfield 172, 3) := by decide +kernel
theorem dX11_again_130 : decode cX11_again 130 = .ok (.iconst 1, 1) := by decide +kernel
theorem dX11_again_131 : decode cX11_again 131 = .ok (.ireturn, 1) := by decide +kernel
theorem dJ6_bitCount_0f7a4_0 : decode cJ6_bitCount_0f7a4 0 = .ok (.iload_n 0, 1) := by decide +kernel
theorem dJ6_bitCount_0f7a4_1 : decode cJ6_bitCount_0f7a4 1 = .ok (.iload_n 0, 1) := by decide +kernel
theorem dJ6_bitCount_0f7a4_2 : decode cJ6_bitCount_0f7a4 2 = .ok (.iconst 1, 1) := by decide +kernel
theorem dJ6_bitCount_0f7a4_3 : decode cJ6_bitCount_0f7a4 3 = .ok (.iushr, 1) := by decide +kernel
theorem dJ6_bitCount_0f7a4_4 : decode cJ6_bitCount_0f7a4 4 = .ok (.ldc_w 265, 3) := by decide +kernel
theorem dJ6_bitCount_0f7a4_7 : decode cJ6_bitCount_0f7a4 7 = .ok (.iand, 1) := by decide +kernel
theorem dJ6_bitCount_0f7a4_8 : decode cJ6_bitCount_0f7a4 8 = .ok (.isub, 1) := by decide +kernel
theorem dJ6_bitCount_0f7a4_9 : decode cJ6_bitCount_0f7a4 9 = .ok (.istore_n 0, 1) := by decide +kernel
theorem dJ6_bitCount_0f7a4_10 : decode cJ6_bitCount_0f7a4 10 = .ok (.iload_n 0, 1) := by decide +kernel
theorem dJ6_bitCount_0f7a4_11 : decode cJ6_bitCount_0f7a4 11 = .ok (.ldc_w 266, 3) := by decide +kernel
theorem dJ6_bitCount_0f7a4_14 : decode cJ6_bitCount_0f7a4 14 = .ok (.iand, 1) := by decide +kernel
theorem dJ6_bitCount_0f7a4_15 : decode cJ6_bitCount_0f7a4 15 = .ok (.iload_n 0, 1) := by decide +kernel
theorem dJ6_bitCount_0f7a4_16 : decode cJ6_bitCount_0f7a4 16 = .ok (.iconst 2, 1) := by decide +kernel
theorem dJ6_bitCount_0f7a4_17 : decode cJ6_bitCount_0f7a4 17 = .ok (.iushr, 1) := by decide +kernel
theorem dJ6_bitCount_0f7a4_18 : decode cJ6_bitCount_0f7a4 18 = .ok (.ldc_w 266, 3) := by decide +kernel
theorem dJ6_bitCount_0f7a4_21 : decode cJ6_bitCount_0f7a4 21 = .ok (.iand, 1) := by decide +kernel
theorem dJ6_bitCount_0f7a4_22 : decode cJ6_bitCount_0f7a4 22 = .ok (.iadd, 1) := by decide +kernel
theorem dJ6_bitCount_0f7a4_23 : decode cJ6_bitCount_0f7a4 23 = .ok (.istore_n 0, 1) := by decide +kernel
theorem dJ6_bitCount_0f7a4_24 : decode cJ6_bitCount_0f7a4 24 = .ok (.iload_n 0, 1) := by decide +kernel
theorem dJ6_bitCount_0f7a4_25 : decode cJ6_bitCount_0f7a4 25 = .ok (.iload_n 0, 1) := by decide +kernel
theorem dJ6_bitCount_0f7a4_26 : decode cJ6_bitCount_0f7a4 26 = .ok (.iconst 4, 1) := by decide +kernel
theorem dJ6_bitCount_0f7a4_27 : decode cJ6_bitCount_0f7a4 27 = .ok (.iushr, 1) := by decide +kernel
theorem dJ6_bitCount_0f7a4_28 : decode cJ6_bitCount_0f7a4 28 = .ok (.iadd, 1) := by decide +kernel
theorem dJ6_bitCount_0f7a4_29 : decode cJ6_bitCount_0f7a4 29 = .ok (.ldc_w 267, 3) := by decide +kernel
theorem dJ6_bitCount_0f7a4_32 : decode cJ6_bitCount_0f7a4 32 = .ok (.iand, 1) := by decide +kernel
theorem dJ6_bitCount_0f7a4_33 : decode cJ6_bitCount_0f7a4 33 = .ok (.istore_n 0, 1) := by decide +kernel
theorem dJ6_bitCount_0f7a4_34 : decode cJ6_bitCount_0f7a4 34 = .ok (.iload_n 0, 1) := by decide +kernel
theorem dJ6_bitCount_0f7a4_35 : decode cJ6_bitCount_0f7a4 35 = .ok (.iload_n 0, 1) := by decide +kernel
theorem dJ6_bitCount_0f7a4_36 : decode cJ6_bitCount_0f7a4 36 = .ok (.bipush 8, 2) := by decide +kernel
theorem dJ6_bitCount_0f7a4_38 : decode cJ6_bitCount_0f7a4 38 = .ok (.iushr, 1) := by decide +kernel
theorem dJ6_bitCount_0f7a4_39 : decode cJ6_bitCount_0f7a4 39 = .ok (.iadd, 1) := by decide +kernel
theorem dJ6_bitCount_0f7a4_40 : decode cJ6_bitCount_0f7a4 40 = .ok (.istore_n 0, 1) := by decide +kernel
theorem dJ6_bitCount_0f7a4_41 : decode cJ6_bitCount_0f7a4 41 = .ok (.iload_n 0, 1) := by decide +kernel
theorem dJ6_bitCount_0f7a4_42 : decode cJ6_bitCount_0f7a4 42 = .ok (.iload_n 0, 1) := by decide +kernel
theorem dJ6_bitCount_0f7a4_43 : decode cJ6_bitCount_0f7a4 43 = .ok (.bipush 16, 2) := by decide +kernel
theorem dJ6_bitCount_0f7a4_45 : decode cJ6_bitCount_0f7a4 45 = .ok (.iushr, 1) := by decide +kernel
theorem dJ6_bitCount_0f7a4_46 : decode cJ6_bitCount_0f7a4 46 = .ok (.iadd, 1) := by decide +kernel
theorem dJ6_bitCount_0f7a4_47 : decode cJ6_bitCount_0f7a4 47 = .ok (.istore_n 0, 1) := by decide +kernel
theorem dJ6_bitCount_0f7a4_48 : decode cJ6_bitCount_0f7a4 48 = .ok (.iload_n 0, 1) := by decide +kernel
theorem dJ6_bitCount_0f7a4_49 : decode cJ6_bitCount_0f7a4 49 = .ok (.bipush 63, 2) := by decide +kernel
theorem dJ6_bitCount_0f7a4_51 : decode cJ6_bitCount_0f7a4 51 = .ok (.iand, 1) := by decide +kernel
theorem dJ6_bitCount_0f7a4_52 : decode cJ6_bitCount_0f7a4 52 = .ok (.ireturn, 1) := by decide +kernel
theorem dJ9_abs_067f4_0 : decode cJ9_abs_067f4 0 = .ok (.lload_n 0, 1) := by decide +kernel
theorem dJ9_abs_067f4_1 : decode cJ9_abs_067f4 1 = .ok (.lconst 0, 1) := by decide +kernel
theorem dJ9_abs_067f4_2 : decode cJ9_abs_067f4 2 = .ok (.lcmp, 1) := by decide +kernel
theorem dJ9_abs_067f4_3 : decode cJ9_abs_067f4 3 = .ok (.ifCond .ge 8, 3) := by decide +kernel
theorem dJ9_abs_067f4_6 : decode cJ9_abs_067f4 6 = .ok (.lload_n 0, 1) := by decide +kernel
theorem dJ9_abs_067f4_7 : decode cJ9_abs_067f4 7 = .ok (.lneg, 1) := by decide +kernel
theorem dJ9_abs_067f4_8 : decode cJ9_abs_067f4 8 = .ok (.goto 4, 3) := by decide +kernel
theorem dJ9_abs_067f4_11 : decode cJ9_abs_067f4 11 = .ok (.lload_n 0, 1) := by decide +kernel
theorem dJ9_abs_067f4_12 : decode cJ9_abs_067f4 12 = .ok (.lreturn, 1) := by decide +kernel
theorem dJ9_min_7cf53_0 : decode cJ9_min_7cf53 0 = .ok (.iload_n 0, 1) := by decide +kernel
theorem dJ9_min_7cf53_1 : decode cJ9_min_7cf53 1 = .ok (.iload_n 1, 1) := by decide +kernel
theorem dJ9_min_7cf53_2 : decode cJ9_min_7cf53 2 = .ok (.if_icmp .gt 7, 3) := by decide +kernel
theorem dJ9_min_7cf53_5 : decode cJ9_min_7cf53 5 = .ok (.iload_n 0, 1) := by decide +kernel
theorem dJ9_min_7cf53_6 : decode cJ9_min_7cf53 6 = .ok (.goto 4, 3) := by decide +kernel
theorem dJ9_min_7cf53_9 : decode cJ9_min_7cf53 9 = .ok (.iload_n 1, 1) := by decide +kernel
theorem dJ9_min_7cf53_10 : decode cJ9_min_7cf53 10 = .ok (.ireturn, 1) := by decide +kernel
set_option maxRecDepth 20000 in
theorem ggJ0_length_8abf5_J0_coder_7d493 : GoodIn wsJ0_length_8abf5 wsJ0_coder_7d493 := goodIn_r _ [6, 7, 8] rfl rfl
set_option maxRecDepth 20000 in
theorem gJ0_length_8abf5_J0_coder_7d493 : GoodIn wsJ0_length_8abf5 (wsV RJ0 335 RJ0 yJ0_coder_7d493 wsJ0_coder_7d493) := goodIn_app (goodIn_of _ (by decide +kernel)) ggJ0_length_8abf5_J0_coder_7d493
theorem dJ0_length_8abf5_0 : decode cJ0_length_8abf5 0 = .ok (.aload_n 0, 1) := by decide +kernel
theorem dJ0_length_8abf5_1 : decode cJ0_length_8abf5 1 = .ok (.getfield 9, 3) := by decide +kernel
theorem dJ0_length_8abf5_4 : decode cJ0_length_8abf5 4 = .ok (.arraylength, 1) := by decide +kernel
theorem dJ0_length_8abf5_5 : decode cJ0_length_8abf5 5 = .ok (.aload_n 0, 1) := by decide +kernel
theorem dJ0_length_8abf5_6 : decode cJ0_length_8abf5 6 = .ok (.invokevirtual 335, 3) := by decide +kernel
theorem dJ0_length_8abf5_9 : decode cJ0_length_8abf5 9 = .ok (.ishr, 1) := by decide +kernel
theorem dJ0_length_8abf5_10 : decode cJ0_length_8abf5 10 = .ok (.ireturn, 1) := by decide +kernel
set_option maxRecDepth 20000 in
theorem ggJ0_charAt_5068e_J0_isLatin1_aae02 : GoodIn wsJ0_charAt_5068e wsJ0_isLatin1_aae02 := goodIn_r _ [6, 7, 8] rfl rfl
set_option maxRecDepth 20000 in
theorem gJ0_charAt_5068e_J0_isLatin1_aae02 : GoodIn wsJ0_charAt_5068e (wsV RJ0 492 RJ0 yJ0_isLatin1_aae02 wsJ0_isLatin1_aae02) := goodIn_app (goodIn_of _ (by decide +kernel)) ggJ0_charAt_5068e_J0_isLatin1_aae02
set_option maxRecDepth 20000 in
theorem ggJ0_charAt_5068e_J1_charAt_3b067 : GoodIn wsJ0_charAt_5068e wsJ1_charAt_3b067 := goodIn_r _ [12, 13, 14, 5, 15, 16, 17, 18, 19, 20] rfl rfl
set_option maxRecDepth 20000 in
theorem gJ0_charAt_5068e_J1_charAt_3b067 : GoodIn wsJ0_charAt_5068e (va_wsS RJ0 495 yJ1_charAt_3b067 wsJ1_charAt_3b067) := goodIn_app (goodIn_of _ (by decide +kernel)) ggJ0_charAt_5068e_J1_charAt_3b067
set_option maxRecDepth 20000 in
theorem ggJ0_charAt_5068e_J2_charAt_3b067 : GoodIn wsJ0_charAt_5068e wsJ2_charAt_3b067 := goodIn_r _ [24, 25, 26, 23, 27, 28, 29, 30, 31, 14, 5, 15, 16, 17, 18, 19, 20, 32, 33, 34, 35, 36, 37] rfl rfl
set_option maxRecDepth 20000 in
theorem gJ0_charAt_5068e_J2_charAt_3b067 : GoodIn wsJ0_charAt_5068e (va_wsS RJ0 498 yJ2_charAt_3b067 wsJ2_charAt_3b067) := goodIn_app (goodIn_of _ (by decide +kernel)) ggJ0_charAt_5068e_J2_charAt_3b067
theorem dJ0_charAt_5068e_0 : decode cJ0_charAt_5068e 0 = .ok (.aload_n 0, 1) := by decide +kernel
theorem dJ0_charAt_5068e_1 : decode cJ0_charAt_5068e 1 = .ok (.invokevirtual 492, 3) := by decide +kernel
theorem dJ0_charAt_5068e_4 : decode cJ0_charAt_5068e 4 = .ok (.ifCond .eq 12, 3) := by decide +kernel
theorem dJ0_charAt_5068e_7 : decode cJ0_charAt_5068e 7 = .ok (.aload_n 0, 1) := by decide +kernel
theorem dJ0_charAt_5068e_8 : decode cJ0_charAt_5068e 8 = .ok (.getfield 9, 3) := by decide +kernel
theorem dJ0_charAt_5068e_11 : decode cJ0_charAt_5068e 11 = .ok (.iload_n 1, 1) := by decide +kernel
theorem dJ0_charAt_5068e_12 : decode cJ0_charAt_5068e 12 = .ok (.invokestatic 495, 3) := by decide +kernel
theorem dJ0_charAt_5068e_15 : decode cJ0_charAt_5068e 15 = .ok (.ireturn, 1) := by decide +kernel
theorem dJ0_charAt_5068e_16 : decode cJ0_charAt_5068e 16 = .ok (.aload_n 0, 1) := by decide +kernel
theorem dJ0_charAt_5068e_17 : decode cJ0_charAt_5068e 17 = .ok (.getfield 9, 3) := by decide +kernel
theorem dJ0_charAt_5068e_20 : decode cJ0_charAt_5068e 20 = .ok (.iload_n 1, 1) := by decide +kernel
theorem dJ0_charAt_5068e_21 : decode cJ0_charAt_5068e 21 = .ok (.invokestatic 498, 3) := by decide +kernel
theorem dJ0_charAt_5068e_24 : decode cJ0_charAt_5068e 24 = .ok (.ireturn, 1) := by decide +kernel
theorem dJ0_coder_7d493_0 : decode cJ0_coder_7d493 0 = .ok (.getstatic 38, 3) := by decide +kernel
theorem dJ0_coder_7d493_3 : decode cJ0_coder_7d493 3 = .ok (.ifCond .eq 10, 3) := by decide +kernel
theorem dJ0_coder_7d493_6 : decode cJ0_coder_7d493 6 = .ok (.aload_n 0, 1) := by decide +kernel
theorem dJ0_coder_7d493_7 : decode cJ0_coder_7d493 7 = .ok (.getfield 15, 3) := by decide +kernel
theorem dJ0_coder_7d493_10 : decode cJ0_coder_7d493 10 = .ok (.goto 4, 3) := by decide +kernel
theorem dJ0_coder_7d493_13 : decode cJ0_coder_7d493 13 = .ok (.iconst 1, 1) := by decide +kernel
theorem dJ0_coder_7d493_14 : decode cJ0_coder_7d493 14 = .ok (.ireturn, 1) := by decide +kernel
theorem dJ0_isLatin1_aae02_0 : decode cJ0_isLatin1_aae02 0 = .ok (.getstatic 38, 3) := by decide +kernel
theorem dJ0_isLatin1_aae02_3 : decode cJ0_isLatin1_aae02 3 = .ok (.ifCond .eq 14, 3) := by decide +kernel
theorem dJ0_isLatin1_aae02_6 : decode cJ0_isLatin1_aae02 6 = .ok (.aload_n 0, 1) := by decide +kernel
theorem dJ0_isLatin1_aae02_7 : decode cJ0_isLatin1_aae02 7 = .ok (.getfield 15, 3) := by decide +kernel
theorem dJ0_isLatin1_aae02_10 : decode cJ0_isLatin1_aae02 10 = .ok (.ifCond .ne 7, 3) := by decide +kernel
theorem dJ0_isLatin1_aae02_13 : decode cJ0_isLatin1_aae02 13 = .ok (.iconst 1, 1) := by decide +kernel
theorem dJ0_isLatin1_aae02_14 : decode cJ0_isLatin1_aae02 14 = .ok (.goto 4, 3) := by decide +kernel
theorem dJ0_isLatin1_aae02_17 : decode cJ0_isLatin1_aae02 17 = .ok (.iconst 0, 1) := by decide +kernel
theorem dJ0_isLatin1_aae02_18 : decode cJ0_isLatin1_aae02 18 = .ok (.ireturn, 1) := by decide +kernel
set_option maxRecDepth 20000 in
theorem ggJ0_checkIndex_df160_J3_checkIndex_8e157 : GoodIn wsJ0_checkIndex_df160 wsJ3_checkIndex_8e157 := goodIn_r _ [5] rfl rfl
set_option maxRecDepth 20000 in
theorem gJ0_checkIndex_df160_J3_checkIndex_8e157 : GoodIn wsJ0_checkIndex_df160 (va_wsS RJ0 1059 yJ3_checkIndex_8e157 wsJ3_checkIndex_8e157) := goodIn_app (goodIn_of _ (by decide +kernel)) ggJ0_checkIndex_df160_J3_checkIndex_8e157
theorem dJ0_checkIndex_df160_0 : decode cJ0_checkIndex_df160 0 = .ok (.iload_n 0, 1) := by decide +kernel
theorem dJ0_checkIndex_df160_1 : decode cJ0_checkIndex_df160 1 = .ok (.iload_n 1, 1) := by decide +kernel
theorem dJ0_checkIndex_df160_2 : decode cJ0_checkIndex_df160 2 = .ok (.getstatic 1053, 3) := by decide +kernel
theorem dJ0_checkIndex_df160_5 : decode cJ0_checkIndex_df160 5 = .ok (.invokestatic 1059, 3) := by decide +kernel
theorem dJ0_checkIndex_df160_8 : decode cJ0_checkIndex_df160 8 = .ok (.pop, 1) := by decide +kernel
theorem dJ0_checkIndex_df160_9 : decode cJ0_checkIndex_df160 9 = .ok (.return_, 1) := by decide +kernel
set_option maxRecDepth 20000 in
theorem ggJ1_charAt_3b067_J0_checkIndex_df160 : GoodIn wsJ1_charAt_3b067 wsJ0_checkIndex_df160 := goodIn_r _ [4, 5, 6, 7, 8, 9] rfl rfl
set_option maxRecDepth 20000 in
theorem gJ1_charAt_3b067_J0_checkIndex_df160 : GoodIn wsJ1_charAt_3b067 (va_wsS RJ1 9 yJ0_checkIndex_df160 wsJ0_checkIndex_df160) := goodIn_app (goodIn_of _ (by decide +kernel)) ggJ1_charAt_3b067_J0_checkIndex_df160
theorem dJ1_charAt_3b067_0 : decode cJ1_charAt_3b067 0 = .ok (.iload_n 1, 1) := by decide +kernel
theorem dJ1_charAt_3b067_1 : decode cJ1_charAt_3b067 1 = .ok (.aload_n 0, 1) := by decide +kernel
theorem dJ1_charAt_3b067_2 : decode cJ1_charAt_3b067 2 = .ok (.arraylength, 1) := by decide +kernel
theorem dJ1_charAt_3b067_3 : decode cJ1_charAt_3b067 3 = .ok (.invokestatic 9, 3) := by decide +kernel
theorem dJ1_charAt_3b067_6 : decode cJ1_charAt_3b067 6 = .ok (.aload_n 0, 1) := by decide +kernel
theorem dJ1_charAt_3b067_7 : decode cJ1_charAt_3b067 7 = .ok (.iload_n 1, 1) := by decide +kernel
theorem dJ1_charAt_3b067_8 : decode cJ1_charAt_3b067 8 = .ok (.baload, 1) := by decide +kernel
theorem dJ1_charAt_3b067_9 : decode cJ1_charAt_3b067 9 = .ok (.sipush 255, 3) := by decide +kernel
theorem dJ1_charAt_3b067_12 : decode cJ1_charAt_3b067 12 = .ok (.iand, 1) := by decide +kernel
theorem dJ1_charAt_3b067_13 : decode cJ1_charAt_3b067 13 = .ok (.i2c, 1) := by decide +kernel
theorem dJ1_charAt_3b067_14 : decode cJ1_charAt_3b067 14 = .ok (.ireturn, 1) := by decide +kernel
set_option maxRecDepth 20000 in
theorem ggJ2_getChar_3b067_J2_length_9d52b : GoodIn wsJ2_getChar_3b067 wsJ2_length_9d52b := goodIn_r _ [7] rfl rfl
set_option maxRecDepth 20000 in
theorem gJ2_getChar_3b067_J2_length_9d52b : GoodIn wsJ2_getChar_3b067 (va_wsS RJ2 48 yJ2_length_9d52b wsJ2_length_9d52b) := goodIn_app (goodIn_of _ (by decide +kernel)) ggJ2_getChar_3b067_J2_length_9d52b
theorem dJ2_getChar_3b067_0 : decode cJ2_getChar_3b067 0 = .ok (.getstatic 44, 3) := by decide +kernel
theorem dJ2_getChar_3b067_3 : decode cJ2_getChar_3b067 3 = .ok (.ifCond .ne 25, 3) := by decide +kernel
theorem dJ2_getChar_3b067_6 : decode cJ2_getChar_3b067 6 = .ok (.iload_n 1, 1) := by decide +kernel
theorem dJ2_getChar_3b067_7 : decode cJ2_getChar_3b067 7 = .ok (.ifCond .lt 11, 3) := by decide +kernel
theorem dJ2_getChar_3b067_10 : decode cJ2_getChar_3b067 10 = .ok (.iload_n 1, 1) := by decide +kernel
theorem dJ2_getChar_3b067_11 : decode cJ2_getChar_3b067 11 = .ok (.aload_n 0, 1) := by decide +kernel
theorem dJ2_getChar_3b067_12 : decode cJ2_getChar_3b067 12 = .ok (.invokestatic 48, 3) := by decide +kernel
theorem dJ2_getChar_3b067_15 : decode cJ2_getChar_3b067 15 = .ok (.if_icmp .lt 13, 3) := by decide +kernel
theorem dJ2_getChar_3b067_18 : decode cJ2_getChar_3b067 18 = .ok (.new 52, 3) := by decide +kernel
theorem dJ2_getChar_3b067_21 : decode cJ2_getChar_3b067 21 = .ok (.dup, 1) := by decide +kernel
theorem dJ2_getChar_3b067_22 : decode cJ2_getChar_3b067 22 = .ok (.ldc 54, 2) := by decide +kernel
theorem dJ2_getChar_3b067_24 : decode cJ2_getChar_3b067 24 = .ok (.invokespecial 56, 3) := by decide +kernel
theorem dJ2_getChar_3b067_27 : decode cJ2_getChar_3b067 27 = .ok (.athrow, 1) := by decide +kernel
theorem dJ2_getChar_3b067_28 : decode cJ2_getChar_3b067 28 = .ok (.iload_n 1, 1) := by decide +kernel
theorem dJ2_getChar_3b067_29 : decode cJ2_getChar_3b067 29 = .ok (.iconst 1, 1) := by decide +kernel
theorem dJ2_getChar_3b067_30 : decode cJ2_getChar_3b067 30 = .ok (.ishl, 1) := by decide +kernel
theorem dJ2_getChar_3b067_31 : decode cJ2_getChar_3b067 31 = .ok (.istore_n 1, 1) := by decide +kernel
theorem dJ2_getChar_3b067_32 : decode cJ2_getChar_3b067 32 = .ok (.aload_n 0, 1) := by decide +kernel
theorem dJ2_getChar_3b067_33 : decode cJ2_getChar_3b067 33 = .ok (.iload_n 1, 1) := by decide +kernel
theorem dJ2_getChar_3b067_34 : decode cJ2_getChar_3b067 34 = .ok (.iinc 1 1, 3) := by decide +kernel
theorem dJ2_getChar_3b067_37 : decode cJ2_getChar_3b067 37 = .ok (.baload, 1) := by decide +kernel
theorem dJ2_getChar_3b067_38 : decode cJ2_getChar_3b067 38 = .ok (.sipush 255, 3) := by decide +kernel
theorem dJ2_getChar_3b067_41 : decode cJ2_getChar_3b067 41 = .ok (.iand, 1) := by decide +kernel
theorem dJ2_getChar_3b067_42 : decode cJ2_getChar_3b067 42 = .ok (.getstatic 59, 3) := by decide +kernel
theorem dJ2_getChar_3b067_45 : decode cJ2_getChar_3b067 45 = .ok (.ishl, 1) := by decide +kernel
theorem dJ2_getChar_3b067_46 : decode cJ2_getChar_3b067 46 = .ok (.aload_n 0, 1) := by decide +kernel
theorem dJ2_getChar_3b067_47 : decode cJ2_getChar_3b067 47 = .ok (.iload_n 1, 1) := by decide +kernel
theorem dJ2_getChar_3b067_48 : decode cJ2_getChar_3b067 48 = .ok (.baload, 1) := by decide +kernel
theorem dJ2_getChar_3b067_49 : decode cJ2_getChar_3b067 49 = .ok (.sipush 255, 3) := by decide +kernel
theorem dJ2_getChar_3b067_52 : decode cJ2_getChar_3b067 52 = .ok (.iand, 1) := by decide +kernel
theorem dJ2_getChar_3b067_53 : decode cJ2_getChar_3b067 53 = .ok (.getstatic 63, 3) := by decide +kernel
theorem dJ2_getChar_3b067_56 : decode cJ2_getChar_3b067 56 = .ok (.ishl, 1) := by decide +kernel
theorem dJ2_getChar_3b067_57 : decode cJ2_getChar_3b067 57 = .ok (.ior, 1) := by decide +kernel
theorem dJ2_getChar_3b067_58 : decode cJ2_getChar_3b067 58 = .ok (.i2c, 1) := by decide +kernel
theorem dJ2_getChar_3b067_59 : decode cJ2_getChar_3b067 59 = .ok (.ireturn, 1) := by decide +kernel
theorem dJ2_length_9d52b_0 : decode cJ2_length_9d52b 0 = .ok (.aload_n 0, 1) := by decide +kernel
theorem dJ2_length_9d52b_1 : decode cJ2_length_9d52b 1 = .ok (.arraylength, 1) := by decide +kernel
theorem dJ2_length_9d52b_2 : decode cJ2_length_9d52b 2 = .ok (.iconst 1, 1) := by decide +kernel
theorem dJ2_length_9d52b_3 : decode cJ2_length_9d52b 3 = .ok (.ishr, 1) := by decide +kernel
theorem dJ2_length_9d52b_4 : decode cJ2_length_9d52b 4 = .ok (.ireturn, 1) := by decide +kernel
set_option maxRecDepth 20000 in
theorem ggJ2_charAt_3b067_J2_checkIndex_2214a : GoodIn wsJ2_charAt_3b067 wsJ2_checkIndex_2214a := goodIn_r _ [4, 5, 6, 3, 7, 8, 9, 10, 11, 12, 13, 14, 15, 16] rfl rfl
set_option maxRecDepth 20000 in
theorem gJ2_charAt_3b067_J2_checkIndex_2214a : GoodIn wsJ2_charAt_3b067 (va_wsS RJ2 67 yJ2_checkIndex_2214a wsJ2_checkIndex_2214a) := goodIn_app (goodIn_of _ (by decide +kernel)) ggJ2_charAt_3b067_J2_checkIndex_2214a
set_option maxRecDepth 20000 in
theorem ggJ2_charAt_3b067_J2_getChar_3b067 : GoodIn wsJ2_charAt_3b067 wsJ2_getChar_3b067 := goodIn_r _ [19, 20, 21, 22, 5, 6, 3, 7] rfl rfl
set_option maxRecDepth 20000 in
theorem gJ2_charAt_3b067_J2_getChar_3b067 : GoodIn wsJ2_charAt_3b067 (va_wsS RJ2 71 yJ2_getChar_3b067 wsJ2_getChar_3b067) := goodIn_app (goodIn_of _ (by decide +kernel)) ggJ2_charAt_3b067_J2_getChar_3b067
theorem dJ2_charAt_3b067_0 : decode cJ2_charAt_3b067 0 = .ok (.iload_n 1, 1) := by decide +kernel
theorem dJ2_charAt_3b067_1 : decode cJ2_charAt_3b067 1 = .ok (.aload_n 0, 1) := by decide +kernel
theorem dJ2_charAt_3b067_2 : decode cJ2_charAt_3b067 2 = .ok (.invokestatic 67, 3) := by decide +kernel
theorem dJ2_charAt_3b067_5 : decode cJ2_charAt_3b067 5 = .ok (.aload_n 0, 1) := by decide +kernel
theorem dJ2_charAt_3b067_6 : decode cJ2_charAt_3b067 6 = .ok (.iload_n 1, 1) := by decide +kernel
theorem dJ2_charAt_3b067_7 : decode cJ2_charAt_3b067 7 = .ok (.invokestatic 71, 3) := by decide +kernel
theorem dJ2_charAt_3b067_10 : decode cJ2_charAt_3b067 10 = .ok (.ireturn, 1) := by decide +kernel
set_option maxRecDepth 20000 in
theorem ggJ2_checkIndex_2214a_J2_length_9d52b : GoodIn wsJ2_checkIndex_2214a wsJ2_length_9d52b := goodIn_r _ [4] rfl rfl
set_option maxRecDepth 20000 in
theorem gJ2_checkIndex_2214a_J2_length_9d52b : GoodIn wsJ2_checkIndex_2214a (va_wsS RJ2 48 yJ2_length_9d52b wsJ2_length_9d52b) := goodIn_app (goodIn_of _ (by decide +kernel)) ggJ2_checkIndex_2214a_J2_length_9d52b
set_option maxRecDepth 20000 in
theorem ggJ2_checkIndex_2214a_J0_checkIndex_df160 : GoodIn wsJ2_checkIndex_2214a wsJ0_checkIndex_df160 := goodIn_r _ [8, 9, 10, 11, 12, 13] rfl rfl
set_option maxRecDepth 20000 in
theorem gJ2_checkIndex_2214a_J0_checkIndex_df160 : GoodIn wsJ2_checkIndex_2214a (va_wsS RJ2 414 yJ0_checkIndex_df160 wsJ0_checkIndex_df160) := goodIn_app (goodIn_of _ (by decide +kernel)) ggJ2_checkIndex_2214a_J0_checkIndex_df160
theorem dJ2_checkIndex_2214a_0 : decode cJ2_checkIndex_2214a 0 = .ok (.iload_n 0, 1) := by decide +kernel
theorem dJ2_checkIndex_2214a_1 : decode cJ2_checkIndex_2214a 1 = .ok (.aload_n 1, 1) := by decide +kernel
theorem dJ2_checkIndex_2214a_2 : decode cJ2_checkIndex_2214a 2 = .ok (.invokestatic 48, 3) := by decide +kernel
theorem dJ2_checkIndex_2214a_5 : decode cJ2_checkIndex_2214a 5 = .ok (.invokestatic 414, 3) := by decide +kernel
theorem dJ2_checkIndex_2214a_8 : decode cJ2_checkIndex_2214a 8 = .ok (.return_, 1) := by decide +kernel
theorem dJ7_fill_53178_0 : decode cJ7_fill_53178 0 = .ok (.iconst 0, 1) := by decide +kernel
theorem dJ7_fill_53178_1 : decode cJ7_fill_53178 1 = .ok (.istore_n 2, 1) := by decide +kernel
theorem dJ7_fill_53178_2 : decode cJ7_fill_53178 2 = .ok (.aload_n 0, 1) := by decide +kernel
theorem dJ7_fill_53178_3 : decode cJ7_fill_53178 3 = .ok (.arraylength, 1) := by decide +kernel
theorem dJ7_fill_53178_4 : decode cJ7_fill_53178 4 = .ok (.istore_n 3, 1) := by decide +kernel
theorem dJ7_fill_53178_5 : decode cJ7_fill_53178 5 = .ok (.iload_n 2, 1) := by decide +kernel
theorem dJ7_fill_53178_6 : decode cJ7_fill_53178 6 = .ok (.iload_n 3, 1) := by decide +kernel
theorem dJ7_fill_53178_7 : decode cJ7_fill_53178 7 = .ok (.if_icmp .ge 13, 3) := by decide +kernel
theorem dJ7_fill_53178_10 : decode cJ7_fill_53178 10 = .ok (.aload_n 0, 1) := by decide +kernel
theorem dJ7_fill_53178_11 : decode cJ7_fill_53178 11 = .ok (.iload_n 2, 1) := by decide +kernel
theorem dJ7_fill_53178_12 : decode cJ7_fill_53178 12 = .ok (.iload_n 1, 1) := by decide +kernel
theorem dJ7_fill_53178_13 : decode cJ7_fill_53178 13 = .ok (.iastore, 1) := by decide +kernel
theorem dJ7_fill_53178_14 : decode cJ7_fill_53178 14 = .ok (.iinc 2 1, 3) := by decide +kernel
theorem dJ7_fill_53178_17 : decode cJ7_fill_53178 17 = .ok (.goto (-12), 3) := by decide +kernel
theorem dJ7_fill_53178_20 : decode cJ7_fill_53178 20 = .ok (.return_, 1) := by decide +kernel
theorem dJ3_checkIndex_8e157_0 : decode cJ3_checkIndex_8e157 0 = .ok (.iload_n 0, 1) := by decide +kernel
theorem dJ3_checkIndex_8e157_1 : decode cJ3_checkIndex_8e157 1 = .ok (.ifCond .lt 8, 3) := by decide +kernel
theorem dJ3_checkIndex_8e157_4 : decode cJ3_checkIndex_8e157 4 = .ok (.iload_n 0, 1) := by decide +kernel
theorem dJ3_checkIndex_8e157_5 : decode cJ3_checkIndex_8e157 5 = .ok (.iload_n 1, 1) := by decide +kernel
theorem dJ3_checkIndex_8e157_6 : decode cJ3_checkIndex_8e157 6 = .ok (.if_icmp .lt 10, 3) := by decide +kernel
theorem dJ3_checkIndex_8e157_9 : decode cJ3_checkIndex_8e157 9 = .ok (.aload_n 2, 1) := by decide +kernel
theorem dJ3_checkIndex_8e157_10 : decode cJ3_checkIndex_8e157 10 = .ok (.iload_n 0, 1) := by decide +kernel
theorem dJ3_checkIndex_8e157_11 : decode cJ3_checkIndex_8e157 11 = .ok (.iload_n 1, 1) := by decide +kernel
theorem dJ3_checkIndex_8e157_12 : decode cJ3_checkIndex_8e157 12 = .ok (.invokestatic 95, 3) := by decide +kernel
theorem dJ3_checkIndex_8e157_15 : decode cJ3_checkIndex_8e157 15 = .ok (.athrow, 1) := by decide +kernel
theorem dJ3_checkIndex_8e157_16 : decode cJ3_checkIndex_8e157 16 = .ok (.iload_n 0, 1) := by decide +kernel
theorem dJ3_checkIndex_8e157_17 : decode cJ3_checkIndex_8e157 17 = .ok (.ireturn, 1) := by decide +kernel
