theorem dX10_isTold_20 : decode cX10_isTold 20 = .ok (.bipush 99, 2) := by decide +kernel
theorem dX10_isTold_22 : decode cX10_isTold 22 = .ok (.if_icmp .gt 7, 3) := by decide +kernel
theorem dX10_isTold_25 : decode cX10_isTold 25 = .ok (.iconst 1, 1) := by decide +kernel
theorem dX10_isTold_26 : decode cX10_isTold 26 = .ok (.goto 4, 3) := by decide +kernel
theorem dX10_isTold_29 : decode cX10_isTold 29 = .ok (.iconst 0, 1) := by decide +kernel
theorem dX10_isTold_30 : decode cX10_isTold 30 = .ok (.ireturn, 1) := by decide +kernel
set_option maxRecDepth 20000 in
theorem ggX11_init_X11_firsts : GoodIn wsX11_init wsX11_firsts := goodIn_r _ [26, 5, 27, 28, 29, 30, 31, 32, 33, 34, 35, 36, 37, 38, 39, 40, 41, 42, 43, 44, 45, 46, 47, 48, 49, 50, 51, 52, 53, 54, 55, 56, 57, 58, 59, 60, 61, 62] rfl rfl
set_option maxRecDepth 20000 in
theorem gX11_init_X11_firsts : GoodIn wsX11_init (wsV RX11 58 RX11 yX11_firsts wsX11_firsts) := goodIn_app (goodIn_of _ (by decide +kernel)) ggX11_init_X11_firsts
theorem dX11_init_0 : decode cX11_init 0 = .ok (.aload_n 0, 1) := by decide +kernel
theorem dX11_init_1 : decode cX11_init 1 = .ok (.invokespecial 1, 3) := by decide +kernel
theorem dX11_init_4 : decode cX11_init 4 = .ok (.aload_n 0, 1) := by decide +kernel
theorem dX11_init_5 : decode cX11_init 5 = .ok (.sipush 3371, 3) := by decide +kernel
theorem dX11_init_8 : decode cX11_init 8 = .ok (.newarray .int, 2) := by decide +kernel
theorem dX11_init_10 : decode cX11_init 10 = .ok (.putfield 7, 3) := by decide +kernel
theorem dX11_init_13 : decode cX11_init 13 = .ok (.aload_n 0, 1) := by decide +kernel
theorem dX11_init_14 : decode cX11_init 14 = .ok (.sipush 400, 3) := by decide +kernel
theorem dX11_init_17 : decode cX11_init 17 = .ok (.newarray .int, 2) := by decide +kernel
theorem dX11_init_19 : decode cX11_init 19 = .ok (.putfield 13, 3) := by decide +kernel
theorem dX11_init_22 : decode cX11_init 22 = .ok (.aload_n 0, 1) := by decide +kernel
theorem dX11_init_23 : decode cX11_init 23 = .ok (.iconst 3, 1) := by decide +kernel
theorem dX11_init_24 : decode cX11_init 24 = .ok (.newarray .boolean, 2) := by decide +kernel
theorem dX11_init_26 : decode cX11_init 26 = .ok (.putfield 16, 3) := by decide +kernel
theorem dX11_init_29 : decode cX11_init 29 = .ok (.aload_n 0, 1) := by decide +kernel
theorem dX11_init_30 : decode cX11_init 30 = .ok (.iconst (-1), 1) := by decide +kernel
theorem dX11_init_31 : decode cX11_init 31 = .ok (.putfield 20, 3) := by decide +kernel
theorem dX11_init_34 : decode cX11_init 34 = .ok (.aload_n 0, 1) := by decide +kernel
theorem dX11_init_35 : decode cX11_init 35 = .ok (.bipush 42, 2) := by decide +kernel
theorem dX11_init_37 : decode cX11_init 37 = .ok (.newarray .int, 2) := by decide +kernel
theorem dX11_init_39 : decode cX11_init 39 = .ok (.putfield 24, 3) := by decide +kernel
theorem dX11_init_42 : decode cX11_init 42 = .ok (.aload_n 0, 1) := by decide +kernel
theorem dX11_init_43 : decode cX11_init 43 = .ok (.bipush 42, 2) := by decide +kernel
theorem dX11_init_45 : decode cX11_init 45 = .ok (.newarray .int, 2) := by decide +kernel
theorem dX11_init_47 : decode cX11_init 47 = .ok (.putfield 27, 3) := by decide +kernel
theorem dX11_init_50 : decode cX11_init 50 = .ok (.aload_n 0, 1) := by decide +kernel
theorem dX11_init_51 : decode cX11_init 51 = .ok (.bipush 6, 2) := by decide +kernel
theorem dX11_init_53 : decode cX11_init 53 = .ok (.newarray .int, 2) := by decide +kernel
theorem dX11_init_55 : decode cX11_init 55 = .ok (.putfield 30, 3) := by decide +kernel
theorem dX11_init_58 : decode cX11_init 58 = .ok (.aload_n 0, 1) := by decide +kernel
theorem dX11_init_59 : decode cX11_init 59 = .ok (.bipush 6, 2) := by decide +kernel
theorem dX11_init_61 : decode cX11_init 61 = .ok (.newarray .int, 2) := by decide +kernel
theorem dX11_init_63 : decode cX11_init 63 = .ok (.putfield 33, 3) := by decide +kernel
theorem dX11_init_66 : decode cX11_init 66 = .ok (.aload_n 0, 1) := by decide +kernel
theorem dX11_init_67 : decode cX11_init 67 = .ok (.bipush 6, 2) := by decide +kernel
theorem dX11_init_69 : decode cX11_init 69 = .ok (.newarray .int, 2) := by decide +kernel
theorem dX11_init_71 : decode cX11_init 71 = .ok (.putfield 36, 3) := by decide +kernel
theorem dX11_init_74 : decode cX11_init 74 = .ok (.aload_n 0, 1) := by decide +kernel
theorem dX11_init_75 : decode cX11_init 75 = .ok (.bipush 6, 2) := by decide +kernel
theorem dX11_init_77 : decode cX11_init 77 = .ok (.newarray .int, 2) := by decide +kernel
theorem dX11_init_79 : decode cX11_init 79 = .ok (.putfield 39, 3) := by decide +kernel
theorem dX11_init_82 : decode cX11_init 82 = .ok (.aload_n 0, 1) := by decide +kernel
theorem dX11_init_83 : decode cX11_init 83 = .ok (.bipush 6, 2) := by decide +kernel
theorem dX11_init_85 : decode cX11_init 85 = .ok (.newarray .boolean, 2) := by decide +kernel
theorem dX11_init_87 : decode cX11_init 87 = .ok (.putfield 42, 3) := by decide +kernel
theorem dX11_init_90 : decode cX11_init 90 = .ok (.aload_n 0, 1) := by decide +kernel
theorem dX11_init_91 : decode cX11_init 91 = .ok (.bipush 6, 2) := by decide +kernel
theorem dX11_init_93 : decode cX11_init 93 = .ok (.newarray .boolean, 2) := by decide +kernel
theorem dX11_init_95 : decode cX11_init 95 = .ok (.putfield 45, 3) := by decide +kernel
theorem dX11_init_98 : decode cX11_init 98 = .ok (.aload_n 0, 1) := by decide +kernel
theorem dX11_init_99 : decode cX11_init 99 = .ok (.bipush 6, 2) := by decide +kernel
theorem dX11_init_101 : decode cX11_init 101 = .ok (.newarray .long, 2) := by decide +kernel
theorem dX11_init_103 : decode cX11_init 103 = .ok (.putfield 48, 3) := by decide +kernel
theorem dX11_init_106 : decode cX11_init 106 = .ok (.aload_n 0, 1) := by decide +kernel
theorem dX11_init_107 : decode cX11_init 107 = .ok (.bipush 6, 2) := by decide +kernel
theorem dX11_init_109 : decode cX11_init 109 = .ok (.newarray .long, 2) := by decide +kernel
theorem dX11_init_111 : decode cX11_init 111 = .ok (.putfield 52, 3) := by decide +kernel
theorem dX11_init_114 : decode cX11_init 114 = .ok (.aload_n 0, 1) := by decide +kernel
theorem dX11_init_115 : decode cX11_init 115 = .ok (.bipush 6, 2) := by decide +kernel
theorem dX11_init_117 : decode cX11_init 117 = .ok (.newarray .boolean, 2) := by decide +kernel
theorem dX11_init_119 : decode cX11_init 119 = .ok (.putfield 55, 3) := by decide +kernel
theorem dX11_init_122 : decode cX11_init 122 = .ok (.aload_n 0, 1) := by decide +kernel
theorem dX11_init_123 : decode cX11_init 123 = .ok (.iconst 0, 1) := by decide +kernel
theorem dX11_init_124 : decode cX11_init 124 = .ok (.iconst 2, 1) := by decide +kernel
theorem dX11_init_125 : decode cX11_init 125 = .ok (.iconst 2, 1) := by decide +kernel
theorem dX11_init_126 : decode cX11_init 126 = .ok (.invokevirtual 58, 3) := by decide +kernel
theorem dX11_init_129 : decode cX11_init 129 = .ok (.return_, 1) := by decide +kernel
theorem dX11_firsts_0 : decode cX11_firsts 0 = .ok (.aload_n 0, 1) := by decide +kernel
theorem dX11_firsts_1 : decode cX11_firsts 1 = .ok (.getfield 7, 3) := by decide +kernel
theorem dX11_firsts_4 : decode cX11_firsts 4 = .ok (.iload_n 1, 1) := by decide +kernel
theorem dX11_firsts_5 : decode cX11_firsts 5 = .ok (.iconst 0, 1) := by decide +kernel
theorem dX11_firsts_6 : decode cX11_firsts 6 = .ok (.iadd, 1) := by decide +kernel
theorem dX11_firsts_7 : decode cX11_firsts 7 = .ok (.iload_n 2, 1) := by decide +kernel
theorem dX11_firsts_8 : decode cX11_firsts 8 = .ok (.iastore, 1) := by decide +kernel
theorem dX11_firsts_9 : decode cX11_firsts 9 = .ok (.aload_n 0, 1) := by decide +kernel
theorem dX11_firsts_10 : decode cX11_firsts 10 = .ok (.getfield 7, 3) := by decide +kernel
theorem dX11_firsts_13 : decode cX11_firsts 13 = .ok (.iload_n 1, 1) := by decide +kernel
theorem dX11_firsts_14 : decode cX11_firsts 14 = .ok (.iconst 1, 1) := by decide +kernel
theorem dX11_firsts_15 : decode cX11_firsts 15 = .ok (.iadd, 1) := by decide +kernel
theorem dX11_firsts_16 : decode cX11_firsts 16 = .ok (.iload_n 3, 1) := by decide +kernel
theorem dX11_firsts_17 : decode cX11_firsts 17 = .ok (.iastore, 1) := by decide +kernel
theorem dX11_firsts_18 : decode cX11_firsts 18 = .ok (.iconst 0, 1) := by decide +kernel
theorem dX11_firsts_19 : decode cX11_firsts 19 = .ok (.istore 4, 2) := by decide +kernel
theorem dX11_firsts_21 : decode cX11_firsts 21 = .ok (.iload 4, 2) := by decide +kernel
theorem dX11_firsts_23 : decode cX11_firsts 23 = .ok (.bipush 42, 2) := by decide +kernel
theorem dX11_firsts_25 : decode cX11_firsts 25 = .ok (.if_icmp .ge 34, 3) := by decide +kernel
theorem dX11_firsts_28 : decode cX11_firsts 28 = .ok (.aload_n 0, 1) := by decide +kernel
theorem dX11_firsts_29 : decode cX11_firsts 29 = .ok (.getfield 7, 3) := by decide +kernel
theorem dX11_firsts_32 : decode cX11_firsts 32 = .ok (.iload_n 1, 1) := by decide +kernel
theorem dX11_firsts_33 : decode cX11_firsts 33 = .ok (.iconst 2, 1) := by decide +kernel
theorem dX11_firsts_34 : decode cX11_firsts 34 = .ok (.iadd, 1) := by decide +kernel
theorem dX11_firsts_35 : decode cX11_firsts 35 = .ok (.iload 4, 2) := by decide +kernel
theorem dX11_firsts_37 : decode cX11_firsts 37 = .ok (.iadd, 1) := by decide +kernel
theorem dX11_firsts_38 : decode cX11_firsts 38 = .ok (.iconst 0, 1) := by decide +kernel
theorem dX11_firsts_39 : decode cX11_firsts 39 = .ok (.iastore, 1) := by decide +kernel
theorem dX11_firsts_40 : decode cX11_firsts 40 = .ok (.aload_n 0, 1) := by decide +kernel
theorem dX11_firsts_41 : decode cX11_firsts 41 = .ok (.getfield 7, 3) := by decide +kernel
theorem dX11_firsts_44 : decode cX11_firsts 44 = .ok (.iload_n 1, 1) := by decide +kernel
theorem dX11_firsts_45 : decode cX11_firsts 45 = .ok (.bipush 44, 2) := by decide +kernel
theorem dX11_firsts_47 : decode cX11_firsts 47 = .ok (.iadd, 1) := by decide +kernel
theorem dX11_firsts_48 : decode cX11_firsts 48 = .ok (.iload 4, 2) := by decide +kernel
theorem dX11_firsts_50 : decode cX11_firsts 50 = .ok (.iadd, 1) := by decide +kernel
theorem dX11_firsts_51 : decode cX11_firsts 51 = .ok (.iconst 1, 1) := by decide +kernel
theorem dX11_firsts_52 : decode cX11_firsts 52 = .ok (.iastore, 1) := by decide +kernel
theorem dX11_firsts_53 : decode cX11_firsts 53 = .ok (.iinc 4 1, 3) := by decide +kernel
theorem dX11_firsts_56 : decode cX11_firsts 56 = .ok (.goto (-35), 3) := by decide +kernel
theorem dX11_firsts_59 : decode cX11_firsts 59 = .ok (.return_, 1) := by decide +kernel
theorem dX11_isIn_0 : decode cX11_isIn 0 = .ok (.iload_n 0, 1) := by decide +kernel
theorem dX11_isIn_1 : decode cX11_isIn 1 = .ok (.iload_n 1, 1) := by decide +kernel
theorem dX11_isIn_2 : decode cX11_isIn 2 = .ok (.if_icmp .lt 12, 3) := by decide +kernel
theorem dX11_isIn_5 : decode cX11_isIn 5 = .ok (.iload_n 0, 1) := by decide +kernel
theorem dX11_isIn_6 : decode cX11_isIn 6 = .ok (.iload_n 2, 1) := by decide +kernel
theorem dX11_isIn_7 : decode cX11_isIn 7 = .ok (.if_icmp .gt 7, 3) := by decide +kernel
theorem dX11_isIn_10 : decode cX11_isIn 10 = .ok (.iconst 1, 1) := by decide +kernel
theorem dX11_isIn_11 : decode cX11_isIn 11 = .ok (.goto 4, 3) := by decide +kernel
theorem dX11_isIn_14 : decode cX11_isIn 14 = .ok (.iconst 0, 1) := by decide +kernel
theorem dX11_isIn_15 : decode cX11_isIn 15 = .ok (.ireturn, 1) := by decide +kernel
theorem dX11_copies_0 : decode cX11_copies 0 = .ok (.iconst 0, 1) := by decide +kernel
theorem dX11_copies_1 : decode cX11_copies 1 = .ok (.istore 4, 2) := by decide +kernel
theorem dX11_copies_3 : decode cX11_copies 3 = .ok (.iload 4, 2) := by decide +kernel
theorem dX11_copies_5 : decode cX11_copies 5 = .ok (.iload_n 3, 1) := by decide +kernel
theorem dX11_copies_6 : decode cX11_copies 6 = .ok (.if_icmp .ge 27, 3) := by decide +kernel
theorem dX11_copies_9 : decode cX11_copies 9 = .ok (.aload_n 0, 1) := by decide +kernel
theorem dX11_copies_10 : decode cX11_copies 10 = .ok (.getfield 7, 3) := by decide +kernel
theorem dX11_copies_13 : decode cX11_copies 13 = .ok (.iload_n 2, 1) := by decide +kernel
theorem dX11_copies_14 : decode cX11_copies 14 = .ok (.iload 4, 2) := by decide +kernel
theorem dX11_copies_16 : decode cX11_copies 16 = .ok (.iadd, 1) := by decide +kernel
theorem dX11_copies_17 : decode cX11_copies 17 = .ok (.aload_n 0, 1) := by decide +kernel
theorem dX11_copies_18 : decode cX11_copies 18 = .ok (.getfield 7, 3) := by decide +kernel
theorem dX11_copies_21 : decode cX11_copies 21 = .ok (.iload_n 1, 1) := by decide +kernel
theorem dX11_copies_22 : decode cX11_copies 22 = .ok (.iload 4, 2) := by decide +kernel
theorem dX11_copies_24 : decode cX11_copies 24 = .ok (.iadd, 1) := by decide +kernel
theorem dX11_copies_25 : decode cX11_copies 25 = .ok (.iaload, 1) := by decide +kernel
theorem dX11_copies_26 : decode cX11_copies 26 = .ok (.iastore, 1) := by decide +kernel
theorem dX11_copies_27 : decode cX11_copies 27 = .ok (.iinc 4 1, 3) := by decide +kernel
theorem dX11_copies_30 : decode cX11_copies 30 = .ok (.goto (-27), 3) := by decide +kernel
theorem dX11_copies_33 : decode cX11_copies 33 = .ok (.return_, 1) := by decide +kernel
theorem dX11_common_0 : decode cX11_common 0 = .ok (.lload_n 0, 1) := by decide +kernel
theorem dX11_common_1 : decode cX11_common 1 = .ok (.lconst 0, 1) := by decide +kernel
theorem dX11_common_2 : decode cX11_common 2 = .ok (.lcmp, 1) := by decide +kernel
theorem dX11_common_3 : decode cX11_common 3 = .ok (.ifCond .ge 8, 3) := by decide +kernel
theorem dX11_common_6 : decode cX11_common 6 = .ok (.lload_n 0, 1) := by decide +kernel
theorem dX11_common_7 : decode cX11_common 7 = .ok (.lneg, 1) := by decide +kernel
theorem dX11_common_8 : decode cX11_common 8 = .ok (.goto 4, 3) := by decide +kernel
theorem dX11_common_11 : decode cX11_common 11 = .ok (.lload_n 0, 1) := by decide +kernel
theorem dX11_common_12 : decode cX11_common 12 = .ok (.lstore 4, 2) := by decide +kernel
theorem dX11_common_14 : decode cX11_common 14 = .ok (.lload_n 2, 1) := by decide +kernel
theorem dX11_common_15 : decode cX11_common 15 = .ok (.lstore 6, 2) := by decide +kernel
theorem dX11_common_17 : decode cX11_common 17 = .ok (.lload 6, 2) := by decide +kernel
theorem dX11_common_19 : decode cX11_common 19 = .ok (.lconst 0, 1) := by decide +kernel
theorem dX11_common_20 : decode cX11_common 20 = .ok (.lcmp, 1) := by decide +kernel
theorem dX11_common_21 : decode cX11_common 21 = .ok (.ifCond .eq 21, 3) := by decide +kernel
theorem dX11_common_24 : decode cX11_common 24 = .ok (.lload 4, 2) := by decide +kernel
theorem dX11_common_26 : decode cX11_common 26 = .ok (.lload 6, 2) := by decide +kernel
theorem dX11_common_28 : decode cX11_common 28 = .ok (.lrem, 1) := by decide +kernel
theorem dX11_common_29 : decode cX11_common 29 = .ok (.lstore 8, 2) := by decide +kernel
theorem dX11_common_31 : decode cX11_common 31 = .ok (.lload 6, 2) := by decide +kernel
theorem dX11_common_33 : decode cX11_common 33 = .ok (.lstore 4, 2) := by decide +kernel
theorem dX11_common_35 : decode cX11_common 35 = .ok (.lload 8, 2) := by decide +kernel
theorem dX11_common_37 : decode cX11_common 37 = .ok (.lstore 6, 2) := by decide +kernel
theorem dX11_common_39 : decode cX11_common 39 = .ok (.goto (-22), 3) := by decide +kernel
theorem dX11_common_42 : decode cX11_common 42 = .ok (.lload 4, 2) := by decide +kernel
theorem dX11_common_44 : decode cX11_common 44 = .ok (.lreturn, 1) := by decide +kernel
set_option maxRecDepth 20000 in
theorem ggX11_comes_X11_common : GoodIn wsX11_comes wsX11_common := goodIn_r _ [9] rfl rfl
set_option maxRecDepth 20000 in
theorem gX11_comes_X11_common : GoodIn wsX11_comes (va_wsS RX11 62 yX11_common wsX11_common) := goodIn_app (goodIn_of _ (by decide +kernel)) ggX11_comes_X11_common
theorem dX11_comes_0 : decode cX11_comes 0 = .ok (.lload_n 1, 1) := by decide +kernel
theorem dX11_comes_1 : decode cX11_comes 1 = .ok (.lload_n 3, 1) := by decide +kernel
theorem dX11_comes_2 : decode cX11_comes 2 = .ok (.invokestatic 62, 3) := by decide +kernel
theorem dX11_comes_5 : decode cX11_comes 5 = .ok (.lstore 5, 2) := by decide +kernel
theorem dX11_comes_7 : decode cX11_comes 7 = .ok (.aload_n 0, 1) := by decide +kernel
theorem dX11_comes_8 : decode cX11_comes 8 = .ok (.lload_n 1, 1) := by decide +kernel
theorem dX11_comes_9 : decode cX11_comes 9 = .ok (.lload 5, 2) := by decide +kernel
theorem dX11_comes_11 : decode cX11_comes 11 = .ok (.ldiv, 1) := by decide +kernel
theorem dX11_comes_12 : decode cX11_comes 12 = .ok (.putfield 66, 3) := by decide +kernel
theorem dX11_comes_15 : decode cX11_comes 15 = .ok (.aload_n 0, 1) := by decide +kernel
theorem dX11_comes_16 : decode cX11_comes 16 = .ok (.lload_n 3, 1) := by decide +kernel
theorem dX11_comes_17 : decode cX11_comes 17 = .ok (.lload 5, 2) := by decide +kernel
theorem dX11_comes_19 : decode cX11_comes 19 = .ok (.ldiv, 1) := by decide +kernel
theorem dX11_comes_20 : decode cX11_comes 20 = .ok (.putfield 70, 3) := by decide +kernel
theorem dX11_comes_23 : decode cX11_comes 23 = .ok (.aload_n 0, 1) := by decide +kernel
theorem dX11_comes_24 : decode cX11_comes 24 = .ok (.aload_n 0, 1) := by decide +kernel
theorem dX11_comes_25 : decode cX11_comes 25 = .ok (.getfield 66, 3) := by decide +kernel
theorem dX11_comes_28 : decode cX11_comes 28 = .ok (.ldc2_w 73, 3) := by decide +kernel
theorem dX11_comes_31 : decode cX11_comes 31 = .ok (.lcmp, 1) := by decide +kernel
theorem dX11_comes_32 : decode cX11_comes 32 = .ok (.ifCond .gt 25, 3) := by decide +kernel
theorem dX11_comes_35 : decode cX11_comes 35 = .ok (.aload_n 0, 1) := by decide +kernel
theorem dX11_comes_36 : decode cX11_comes 36 = .ok (.getfield 66, 3) := by decide +kernel
theorem dX11_comes_39 : decode cX11_comes 39 = .ok (.ldc2_w 75, 3) := by decide +kernel
theorem dX11_comes_42 : decode cX11_comes 42 = .ok (.lcmp, 1) := by decide +kernel
theorem dX11_comes_43 : decode cX11_comes 43 = .ok (.ifCond .lt 14, 3) := by decide +kernel
theorem dX11_comes_46 : decode cX11_comes 46 = .ok (.aload_n 0, 1) := by decide +kernel
theorem dX11_comes_47 : decode cX11_comes 47 = .ok (.getfield 70, 3) := by decide +kernel
theorem dX11_comes_50 : decode cX11_comes 50 = .ok (.ldc2_w 73, 3) := by decide +kernel
theorem dX11_comes_53 : decode cX11_comes 53 = .ok (.lcmp, 1) := by decide +kernel
theorem dX11_comes_54 : decode cX11_comes 54 = .ok (.ifCond .le 7, 3) := by decide +kernel
theorem dX11_comes_57 : decode cX11_comes 57 = .ok (.iconst 1, 1) := by decide +kernel
theorem dX11_comes_58 : decode cX11_comes 58 = .ok (.goto 4, 3) := by decide +kernel
theorem dX11_comes_61 : decode cX11_comes 61 = .ok (.iconst 0, 1) := by decide +kernel
theorem dX11_comes_62 : decode cX11_comes 62 = .ok (.putfield 77, 3) := by decide +kernel
theorem dX11_comes_65 : decode cX11_comes 65 = .ok (.return_, 1) := by decide +kernel
set_option maxRecDepth 20000 in
theorem ggX11_times_X11_comes : GoodIn wsX11_times wsX11_comes := goodIn_r _ [5, 6, 7, 8, 9, 10, 11, 12, 4, 13, 14, 15, 16, 17, 18, 19, 20, 21, 22, 23, 24, 25, 26, 27, 28, 29, 30, 31, 32, 33, 34, 35, 36, 37, 38, 39, 40, 41, 42, 43, 44, 45, 46, 47, 48, 49] rfl rfl
set_option maxRecDepth 20000 in
theorem gX11_times_X11_comes : GoodIn wsX11_times (wsV RX11 81 RX11 yX11_comes wsX11_comes) := goodIn_app (goodIn_of _ (by decide +kernel)) ggX11_times_X11_comes
theorem dX11_times_0 : decode cX11_times 0 = .ok (.aload_n 0, 1) := by decide +kernel
theorem dX11_times_1 : decode cX11_times 1 = .ok (.lload_n 1, 1) := by decide +kernel
theorem dX11_times_2 : decode cX11_times 2 = .ok (.lload 5, 2) := by decide +kernel
theorem dX11_times_4 : decode cX11_times 4 = .ok (.lmul, 1) := by decide +kernel
theorem dX11_times_5 : decode cX11_times 5 = .ok (.lload_n 3, 1) := by decide +kernel
theorem dX11_times_6 : decode cX11_times 6 = .ok (.lload 7, 2) := by decide +kernel
theorem dX11_times_8 : decode cX11_times 8 = .ok (.lmul, 1) := by decide +kernel
theorem dX11_times_9 : decode cX11_times 9 = .ok (.invokevirtual 81, 3) := by decide +kernel
theorem dX11_times_12 : decode cX11_times 12 = .ok (.return_, 1) := by decide +kernel
set_option maxRecDepth 20000 in
theorem ggX11_plus_X11_comes : GoodIn wsX11_plus wsX11_comes := goodIn_r _ [5, 6, 7, 8, 9, 10, 11, 12, 4, 13, 14, 15, 16, 17, 18, 19, 20, 21, 22, 23, 24, 25, 26, 27, 28, 29, 30, 31, 32, 33, 34, 35, 36, 37, 38, 39, 40, 41, 42, 43, 44, 45, 46, 47, 48, 49] rfl rfl
set_option maxRecDepth 20000 in
theorem gX11_plus_X11_comes : GoodIn wsX11_plus (wsV RX11 81 RX11 yX11_comes wsX11_comes) := goodIn_app (goodIn_of _ (by decide +kernel)) ggX11_plus_X11_comes
theorem dX11_plus_0 : decode cX11_plus 0 = .ok (.aload_n 0, 1) := by decide +kernel
theorem dX11_plus_1 : decode cX11_plus 1 = .ok (.lload_n 1, 1) := by decide +kernel
theorem dX11_plus_2 : decode cX11_plus 2 = .ok (.lload 7, 2) := by decide +kernel
theorem dX11_plus_4 : decode cX11_plus 4 = .ok (.lmul, 1) := by decide +kernel
theorem dX11_plus_5 : decode cX11_plus 5 = .ok (.lload 5, 2) := by decide +kernel
theorem dX11_plus_7 : decode cX11_plus 7 = .ok (.lload_n 3, 1) := by decide +kernel
theorem dX11_plus_8 : decode cX11_plus 8 = .ok (.lmul, 1) := by decide +kernel
theorem dX11_plus_9 : decode cX11_plus 9 = .ok (.ladd, 1) := by decide +kernel
theorem dX11_plus_10 : decode cX11_plus 10 = .ok (.lload_n 3, 1) := by decide +kernel
theorem dX11_plus_11 : decode cX11_plus 11 = .ok (.lload 7, 2) := by decide +kernel
theorem dX11_plus_13 : decode cX11_plus 13 = .ok (.lmul, 1) := by decide +kernel
theorem dX11_plus_14 : decode cX11_plus 14 = .ok (.invokevirtual 81, 3) := by decide +kernel
theorem dX11_plus_17 : decode cX11_plus 17 = .ok (.return_, 1) := by decide +kernel
set_option maxRecDepth 20000 in
theorem ggX11_by_X11_comes : GoodIn wsX11_by wsX11_comes := goodIn_r _ [5, 6, 7, 8, 9, 10, 11, 12, 4, 13, 14, 15, 16, 17, 18, 19, 20, 21, 22, 23, 24, 25, 26, 27, 28, 29, 30, 31, 32, 33, 34, 35, 36, 37, 38, 39, 40, 41, 42, 43, 44, 45, 46, 47, 48, 49] rfl rfl
set_option maxRecDepth 20000 in
theorem gX11_by_X11_comes : GoodIn wsX11_by (wsV RX11 81 RX11 yX11_comes wsX11_comes) := goodIn_app (goodIn_of _ (by decide +kernel)) ggX11_by_X11_comes
theorem dX11_by_0 : decode cX11_by 0 = .ok (.aload_n 0, 1) := by decide +kernel
theorem dX11_by_1 : decode cX11_by 1 = .ok (.lload 5, 2) := by decide +kernel
theorem dX11_by_3 : decode cX11_by 3 = .ok (.lconst 0, 1) := by decide +kernel
theorem dX11_by_4 : decode cX11_by 4 = .ok (.lcmp, 1) := by decide +kernel
theorem dX11_by_5 : decode cX11_by 5 = .ok (.ifCond .ge 11, 3) := by decide +kernel
theorem dX11_by_8 : decode cX11_by 8 = .ok (.lload_n 1, 1) := by decide +kernel
theorem dX11_by_9 : decode cX11_by 9 = .ok (.lneg, 1) := by decide +kernel
theorem dX11_by_10 : decode cX11_by 10 = .ok (.lload 7, 2) := by decide +kernel
theorem dX11_by_12 : decode cX11_by 12 = .ok (.lmul, 1) := by decide +kernel
theorem dX11_by_13 : decode cX11_by 13 = .ok (.goto 7, 3) := by decide +kernel
theorem dX11_by_16 : decode cX11_by 16 = .ok (.lload_n 1, 1) := by decide +kernel
theorem dX11_by_17 : decode cX11_by 17 = .ok (.lload 7, 2) := by decide +kernel
theorem dX11_by_19 : decode cX11_by 19 = .ok (.lmul, 1) := by decide +kernel
theorem dX11_by_20 : decode cX11_by 20 = .ok (.lload 5, 2) := by decide +kernel
theorem dX11_by_22 : decode cX11_by 22 = .ok (.lconst 0, 1) := by decide +kernel
theorem dX11_by_23 : decode cX11_by 23 = .ok (.lcmp, 1) := by decide +kernel
theorem dX11_by_24 : decode cX11_by 24 = .ok (.ifCond .ge 11, 3) := by decide +kernel
theorem dX11_by_27 : decode cX11_by 27 = .ok (.lload_n 3, 1) := by decide +kernel
theorem dX11_by_28 : decode cX11_by 28 = .ok (.lneg, 1) := by decide +kernel
theorem dX11_by_29 : decode cX11_by 29 = .ok (.lload 5, 2) := by decide +kernel
theorem dX11_by_31 : decode cX11_by 31 = .ok (.lmul, 1) := by decide +kernel
theorem dX11_by_32 : decode cX11_by 32 = .ok (.goto 7, 3) := by decide +kernel
theorem dX11_by_35 : decode cX11_by 35 = .ok (.lload_n 3, 1) := by decide +kernel
theorem dX11_by_36 : decode cX11_by 36 = .ok (.lload 5, 2) := by decide +kernel
theorem dX11_by_38 : decode cX11_by 38 = .ok (.lmul, 1) := by decide +kernel
theorem dX11_by_39 : decode cX11_by 39 = .ok (.invokevirtual 81, 3) := by decide +kernel
theorem dX11_by_42 : decode cX11_by 42 = .ok (.return_, 1) := by decide +kernel
set_option maxRecDepth 20000 in
theorem ggX11_isTold_X11_isIn : GoodIn wsX11_isTold wsX11_isIn := goodIn_r _ [4] rfl rfl
set_option maxRecDepth 20000 in
theorem gX11_isTold_X11_isIn : GoodIn wsX11_isTold (va_wsS RX11 85 yX11_isIn wsX11_isIn) := goodIn_app (goodIn_of _ (by decide +kernel)) ggX11_isTold_X11_isIn
theorem dX11_isTold_0 : decode cX11_isTold 0 = .ok (.iload_n 0, 1) := by decide +kernel
theorem dX11_isTold_1 : decode cX11_isTold 1 = .ok (.sipush (-999), 3) := by decide +kernel
theorem dX11_isTold_4 : decode cX11_isTold 4 = .ok (.sipush 999, 3) := by decide +kernel
theorem dX11_isTold_7 : decode cX11_isTold 7 = .ok (.invokestatic 85, 3) := by decide +kernel
theorem dX11_isTold_10 : decode cX11_isTold 10 = .ok (.ifCond .eq 17, 3) := by decide +kernel
theorem dX11_isTold_13 : decode cX11_isTold 13 = .ok (.iload_n 1, 1) := by decide +kernel
theorem dX11_isTold_14 : decode cX11_isTold 14 = .ok (.iconst 1, 1) := by decide +kernel
theorem dX11_isTold_15 : decode cX11_isTold 15 = .ok (.bipush 99, 2) := by decide +kernel
theorem dX11_isTold_17 : decode cX11_isTold 17 = .ok (.invokestatic 85, 3) := by decide +kernel
theorem dX11_isTold_20 : decode cX11_isTold 20 = .ok (.ifCond .eq 7, 3) := by decide +kernel
theorem dX11_isTold_23 : decode cX11_isTold 23 = .ok (.iconst 1, 1) := by decide +kernel
theorem dX11_isTold_24 : decode cX11_isTold 24 = .ok (.goto 4, 3) := by decide +kernel
theorem dX11_isTold_27 : decode cX11_isTold 27 = .ok (.iconst 0, 1) := by decide +kernel
theorem dX11_isTold_28 : decode cX11_isTold 28 = .ok (.ireturn, 1) := by decide +kernel
theorem dX11_cell_0 : decode cX11_cell 0 = .ok (.bipush 7, 2) := by decide +kernel
theorem dX11_cell_2 : decode cX11_cell 2 = .ok (.iload_n 0, 1) := by decide +kernel
theorem dX11_cell_3 : decode cX11_cell 3 = .ok (.imul, 1) := by decide +kernel
theorem dX11_cell_4 : decode cX11_cell 4 = .ok (.iload_n 1, 1) := by decide +kernel
theorem dX11_cell_5 : decode cX11_cell 5 = .ok (.iadd, 1) := by decide +kernel
theorem dX11_cell_6 : decode cX11_cell 6 = .ok (.ireturn, 1) := by decide +kernel
set_option maxRecDepth 20000 in
theorem ggX11_laysCell_X11_cell : GoodIn wsX11_laysCell wsX11_cell := goodIn_r _ [6] rfl rfl
set_option maxRecDepth 20000 in
theorem gX11_laysCell_X11_cell : GoodIn wsX11_laysCell (va_wsS RX11 89 yX11_cell wsX11_cell) := goodIn_app (goodIn_of _ (by decide +kernel)) ggX11_laysCell_X11_cell
theorem dX11_laysCell_0 : decode cX11_laysCell 0 = .ok (.aload_n 0, 1) := by decide +kernel
theorem dX11_laysCell_1 : decode cX11_laysCell 1 = .ok (.getfield 24, 3) := by decide +kernel
theorem dX11_laysCell_4 : decode cX11_laysCell 4 = .ok (.iload_n 1, 1) := by decide +kernel
theorem dX11_laysCell_5 : decode cX11_laysCell 5 = .ok (.iload_n 2, 1) := by decide +kernel
theorem dX11_laysCell_6 : decode cX11_laysCell 6 = .ok (.invokestatic 89, 3) := by decide +kernel
theorem dX11_laysCell_9 : decode cX11_laysCell 9 = .ok (.lload_n 3, 1) := by decide +kernel
theorem dX11_laysCell_10 : decode cX11_laysCell 10 = .ok (.l2i, 1) := by decide +kernel
theorem dX11_laysCell_11 : decode cX11_laysCell 11 = .ok (.iastore, 1) := by decide +kernel
theorem dX11_laysCell_12 : decode cX11_laysCell 12 = .ok (.aload_n 0, 1) := by decide +kernel
theorem dX11_laysCell_13 : decode cX11_laysCell 13 = .ok (.getfield 27, 3) := by decide +kernel
theorem dX11_laysCell_16 : decode cX11_laysCell 16 = .ok (.iload_n 1, 1) := by decide +kernel
theorem dX11_laysCell_17 : decode cX11_laysCell 17 = .ok (.iload_n 2, 1) := by decide +kernel
theorem dX11_laysCell_18 : decode cX11_laysCell 18 = .ok (.invokestatic 89, 3) := by decide +kernel
theorem dX11_laysCell_21 : decode cX11_laysCell 21 = .ok (.lload 5, 2) := by decide +kernel
theorem dX11_laysCell_23 : decode cX11_laysCell 23 = .ok (.l2i, 1) := by decide +kernel
theorem dX11_laysCell_24 : decode cX11_laysCell 24 = .ok (.iastore, 1) := by decide +kernel
theorem dX11_laysCell_25 : decode cX11_laysCell 25 = .ok (.return_, 1) := by decide +kernel
set_option maxRecDepth 20000 in
theorem ggX11_inRow_X11_cell : GoodIn wsX11_inRow wsX11_cell := goodIn_r _ [7] rfl rfl
set_option maxRecDepth 20000 in
theorem gX11_inRow_X11_cell : GoodIn wsX11_inRow (va_wsS RX11 89 yX11_cell wsX11_cell) := goodIn_app (goodIn_of _ (by decide +kernel)) ggX11_inRow_X11_cell
theorem dX11_inRow_0 : decode cX11_inRow 0 = .ok (.iconst 0, 1) := by decide +kernel
theorem dX11_inRow_1 : decode cX11_inRow 1 = .ok (.istore_n 2, 1) := by decide +kernel
theorem dX11_inRow_2 : decode cX11_inRow 2 = .ok (.iconst 0, 1) := by decide +kernel
theorem dX11_inRow_3 : decode cX11_inRow 3 = .ok (.istore_n 3, 1) := by decide +kernel
theorem dX11_inRow_4 : decode cX11_inRow 4 = .ok (.iload_n 3, 1) := by decide +kernel
theorem dX11_inRow_5 : decode cX11_inRow 5 = .ok (.aload_n 0, 1) := by decide +kernel
theorem dX11_inRow_6 : decode cX11_inRow 6 = .ok (.getfield 93, 3) := by decide +kernel
theorem dX11_inRow_9 : decode cX11_inRow 9 = .ok (.if_icmp .ge 39, 3) := by decide +kernel
theorem dX11_inRow_12 : decode cX11_inRow 12 = .ok (.iload_n 2, 1) := by decide +kernel
theorem dX11_inRow_13 : decode cX11_inRow 13 = .ok (.aload_n 0, 1) := by decide +kernel
theorem dX11_inRow_14 : decode cX11_inRow 14 = .ok (.getfield 45, 3) := by decide +kernel
theorem dX11_inRow_17 : decode cX11_inRow 17 = .ok (.iload_n 3, 1) := by decide +kernel
theorem dX11_inRow_18 : decode cX11_inRow 18 = .ok (.baload, 1) := by decide +kernel
theorem dX11_inRow_19 : decode cX11_inRow 19 = .ok (.ifCond .eq 20, 3) := by decide +kernel
theorem dX11_inRow_22 : decode cX11_inRow 22 = .ok (.aload_n 0, 1) := by decide +kernel
theorem dX11_inRow_23 : decode cX11_inRow 23 = .ok (.getfield 24, 3) := by decide +kernel
theorem dX11_inRow_26 : decode cX11_inRow 26 = .ok (.iload_n 1, 1) := by decide +kernel
theorem dX11_inRow_27 : decode cX11_inRow 27 = .ok (.iload_n 3, 1) := by decide +kernel
theorem dX11_inRow_28 : decode cX11_inRow 28 = .ok (.invokestatic 89, 3) := by decide +kernel
theorem dX11_inRow_31 : decode cX11_inRow 31 = .ok (.iaload, 1) := by decide +kernel
theorem dX11_inRow_32 : decode cX11_inRow 32 = .ok (.ifCond .eq 7, 3) := by decide +kernel
theorem dX11_inRow_35 : decode cX11_inRow 35 = .ok (.iconst 1, 1) := by decide +kernel
theorem dX11_inRow_36 : decode cX11_inRow 36 = .ok (.goto 4, 3) := by decide +kernel
theorem dX11_inRow_39 : decode cX11_inRow 39 = .ok (.iconst 0, 1) := by decide +kernel
theorem dX11_inRow_40 : decode cX11_inRow 40 = .ok (.iadd, 1) := by decide +kernel
theorem dX11_inRow_41 : decode cX11_inRow 41 = .ok (.istore_n 2, 1) := by decide +kernel
theorem dX11_inRow_42 : decode cX11_inRow 42 = .ok (.iinc 3 1, 3) := by decide +kernel
theorem dX11_inRow_45 : decode cX11_inRow 45 = .ok (.goto (-41), 3) := by decide +kernel
theorem dX11_inRow_48 : decode cX11_inRow 48 = .ok (.iload_n 2, 1) := by decide +kernel
theorem dX11_inRow_49 : decode cX11_inRow 49 = .ok (.ireturn, 1) := by decide +kernel
set_option maxRecDepth 20000 in
theorem ggX11_inColumn_X11_cell : GoodIn wsX11_inColumn wsX11_cell := goodIn_r _ [7] rfl rfl
set_option maxRecDepth 20000 in
theorem gX11_inColumn_X11_cell : GoodIn wsX11_inColumn (va_wsS RX11 89 yX11_cell wsX11_cell) := goodIn_app (goodIn_of _ (by decide +kernel)) ggX11_inColumn_X11_cell
theorem dX11_inColumn_0 : decode cX11_inColumn 0 = .ok (.iconst 0, 1) := by decide +kernel
theorem dX11_inColumn_1 : decode cX11_inColumn 1 = .ok (.istore_n 2, 1) := by decide +kernel
theorem dX11_inColumn_2 : decode cX11_inColumn 2 = .ok (.iconst 0, 1) := by decide +kernel
theorem dX11_inColumn_3 : decode cX11_inColumn 3 = .ok (.istore_n 3, 1) := by decide +kernel
theorem dX11_inColumn_4 : decode cX11_inColumn 4 = .ok (.iload_n 3, 1) := by decide +kernel
theorem dX11_inColumn_5 : decode cX11_inColumn 5 = .ok (.aload_n 0, 1) := by decide +kernel
theorem dX11_inColumn_6 : decode cX11_inColumn 6 = .ok (.getfield 96, 3) := by decide +kernel
theorem dX11_inColumn_9 : decode cX11_inColumn 9 = .ok (.if_icmp .ge 39, 3) := by decide +kernel
theorem dX11_inColumn_12 : decode cX11_inColumn 12 = .ok (.iload_n 2, 1) := by decide +kernel
theorem dX11_inColumn_13 : decode cX11_inColumn 13 = .ok (.aload_n 0, 1) := by decide +kernel
theorem dX11_inColumn_14 : decode cX11_inColumn 14 = .ok (.getfield 42, 3) := by decide +kernel
theorem dX11_inColumn_17 : decode cX11_inColumn 17 = .ok (.iload_n 3, 1) := by decide +kernel
theorem dX11_inColumn_18 : decode cX11_inColumn 18 = .ok (.baload, 1) := by decide +kernel
theorem dX11_inColumn_19 : decode cX11_inColumn 19 = .ok (.ifCond .eq 20, 3) := by decide +kernel
theorem dX11_inColumn_22 : decode cX11_inColumn 22 = .ok (.aload_n 0, 1) := by decide +kernel
theorem dX11_inColumn_23 : decode cX11_inColumn 23 = .ok (.getfield 24, 3) := by decide +kernel
theorem dX11_inColumn_26 : decode cX11_inColumn 26 = .ok (.iload_n 3, 1) := by decide +kernel
theorem dX11_inColumn_27 : decode cX11_inColumn 27 = .ok (.iload_n 1, 1) := by decide +kernel
theorem dX11_inColumn_28 : decode cX11_inColumn 28 = .ok (.invokestatic 89, 3) := by decide +kernel
theorem dX11_inColumn_31 : decode cX11_inColumn 31 = .ok (.iaload, 1) := by decide +kernel
theorem dX11_inColumn_32 : decode cX11_inColumn 32 = .ok (.ifCond .eq 7, 3) := by decide +kernel
theorem dX11_inColumn_35 : decode cX11_inColumn 35 = .ok (.iconst 1, 1) := by decide +kernel
theorem dX11_inColumn_36 : decode cX11_inColumn 36 = .ok (.goto 4, 3) := by decide +kernel
theorem dX11_inColumn_39 : decode cX11_inColumn 39 = .ok (.iconst 0, 1) := by decide +kernel
theorem dX11_inColumn_40 : decode cX11_inColumn 40 = .ok (.iadd, 1) := by decide +kernel
theorem dX11_inColumn_41 : decode cX11_inColumn 41 = .ok (.istore_n 2, 1) := by decide +kernel
theorem dX11_inColumn_42 : decode cX11_inColumn 42 = .ok (.iinc 3 1, 3) := by decide +kernel
theorem dX11_inColumn_45 : decode cX11_inColumn 45 = .ok (.goto (-41), 3) := by decide +kernel
theorem dX11_inColumn_48 : decode cX11_inColumn 48 = .ok (.iload_n 2, 1) := by decide +kernel
theorem dX11_inColumn_49 : decode cX11_inColumn 49 = .ok (.ireturn, 1) := by decide +kernel
set_option maxRecDepth 20000 in
theorem ggX11_weight_X11_inRow : GoodIn wsX11_weight wsX11_inRow := goodIn_r _ [5, 6, 7, 8, 9, 10, 4, 11, 18, 19, 20, 21, 22, 23, 24, 25, 26, 27, 28, 29, 30, 31, 32, 33, 34, 35, 36, 37, 38, 39, 40, 41, 42, 43, 44, 45, 46, 47, 48, 49, 50, 51, 52, 53] rfl rfl
set_option maxRecDepth 20000 in
theorem gX11_weight_X11_inRow : GoodIn wsX11_weight (wsV RX11 99 RX11 yX11_inRow wsX11_inRow) := goodIn_app (goodIn_of _ (by decide +kernel)) ggX11_weight_X11_inRow
set_option maxRecDepth 20000 in
theorem ggX11_weight_X11_inColumn : GoodIn wsX11_weight wsX11_inColumn := goodIn_r _ [15, 16, 17, 8, 9, 10, 4, 11, 18, 19, 20, 21, 22, 23, 24, 25, 26, 27, 28, 29, 30, 31, 32, 33, 34, 35, 36, 37, 38, 39, 40, 41, 42, 43, 44, 45, 46, 47, 48, 49, 50, 51, 52, 53] rfl rfl
set_option maxRecDepth 20000 in
theorem gX11_weight_X11_inColumn : GoodIn wsX11_weight (wsV RX11 103 RX11 yX11_inColumn wsX11_inColumn) := goodIn_app (goodIn_of _ (by decide +kernel)) ggX11_weight_X11_inColumn
theorem dX11_weight_0 : decode cX11_weight 0 = .ok (.aload_n 0, 1) := by decide +kernel
theorem dX11_weight_1 : decode cX11_weight 1 = .ok (.iload_n 1, 1) := by decide +kernel
theorem dX11_weight_2 : decode cX11_weight 2 = .ok (.invokevirtual 99, 3) := by decide +kernel
theorem dX11_weight_5 : decode cX11_weight 5 = .ok (.iconst 1, 1) := by decide +kernel
theorem dX11_weight_6 : decode cX11_weight 6 = .ok (.isub, 1) := by decide +kernel
theorem dX11_weight_7 : decode cX11_weight 7 = .ok (.aload_n 0, 1) := by decide +kernel
theorem dX11_weight_8 : decode cX11_weight 8 = .ok (.iload_n 2, 1) := by decide +kernel
theorem dX11_weight_9 : decode cX11_weight 9 = .ok (.invokevirtual 103, 3) := by decide +kernel
theorem dX11_weight_12 : decode cX11_weight 12 = .ok (.iconst 1, 1) := by decide +kernel
theorem dX11_weight_13 : decode cX11_weight 13 = .ok (.isub, 1) := by decide +kernel
theorem dX11_weight_14 : decode cX11_weight 14 = .ok (.imul, 1) := by decide +kernel
theorem dX11_weight_15 : decode cX11_weight 15 = .ok (.ireturn, 1) := by decide +kernel
theorem dX11_isGreater_0 : decode cX11_isGreater 0 = .ok (.aload_n 0, 1) := by decide +kernel
theorem dX11_isGreater_1 : decode cX11_isGreater 1 = .ok (.getfield 24, 3) := by decide +kernel
theorem dX11_isGreater_4 : decode cX11_isGreater 4 = .ok (.iload_n 1, 1) := by decide +kernel
theorem dX11_isGreater_5 : decode cX11_isGreater 5 = .ok (.iaload, 1) := by decide +kernel
theorem dX11_isGreater_6 : decode cX11_isGreater 6 = .ok (.i2l, 1) := by decide +kernel
theorem dX11_isGreater_7 : decode cX11_isGreater 7 = .ok (.aload_n 0, 1) := by decide +kernel
theorem dX11_isGreater_8 : decode cX11_isGreater 8 = .ok (.getfield 27, 3) := by decide +kernel
theorem dX11_isGreater_11 : decode cX11_isGreater 11 = .ok (.iload_n 2, 1) := by decide +kernel
theorem dX11_isGreater_12 : decode cX11_isGreater 12 = .ok (.iaload, 1) := by decide +kernel
theorem dX11_isGreater_13 : decode cX11_isGreater 13 = .ok (.i2l, 1) := by decide +kernel
theorem dX11_isGreater_14 : decode cX11_isGreater 14 = .ok (.lmul, 1) := by decide +kernel
theorem dX11_isGreater_15 : decode cX11_isGreater 15 = .ok (.lstore_n 3, 1) := by decide +kernel
theorem dX11_isGreater_16 : decode cX11_isGreater 16 = .ok (.aload_n 0, 1) := by decide +kernel
theorem dX11_isGreater_17 : decode cX11_isGreater 17 = .ok (.getfield 24, 3) := by decide +kernel
theorem dX11_isGreater_20 : decode cX11_isGreater 20 = .ok (.iload_n 2, 1) := by decide +kernel
theorem dX11_isGreater_21 : decode cX11_isGreater 21 = .ok (.iaload, 1) := by decide +kernel
theorem dX11_isGreater_22 : decode cX11_isGreater 22 = .ok (.i2l, 1) := by decide +kernel
theorem dX11_isGreater_23 : decode cX11_isGreater 23 = .ok (.aload_n 0, 1) := by decide +kernel
theorem dX11_isGreater_24 : decode cX11_isGreater 24 = .ok (.getfield 27, 3) := by decide +kernel
theorem dX11_isGreater_27 : decode cX11_isGreater 27 = .ok (.iload_n 1, 1) := by decide +kernel
theorem dX11_isGreater_28 : decode cX11_isGreater 28 = .ok (.iaload, 1) := by decide +kernel
theorem dX11_isGreater_29 : decode cX11_isGreater 29 = .ok (.i2l, 1) := by decide +kernel
theorem dX11_isGreater_30 : decode cX11_isGreater 30 = .ok (.lmul, 1) := by decide +kernel
theorem dX11_isGreater_31 : decode cX11_isGreater 31 = .ok (.lstore 5, 2) := by decide +kernel
theorem dX11_isGreater_33 : decode cX11_isGreater 33 = .ok (.lload_n 3, 1) := by decide +kernel
theorem dX11_isGreater_34 : decode cX11_isGreater 34 = .ok (.lconst 0, 1) := by decide +kernel
theorem dX11_isGreater_35 : decode cX11_isGreater 35 = .ok (.lcmp, 1) := by decide +kernel
theorem dX11_isGreater_36 : decode cX11_isGreater 36 = .ok (.ifCond .ge 8, 3) := by decide +kernel
theorem dX11_isGreater_39 : decode cX11_isGreater 39 = .ok (.lload_n 3, 1) := by decide +kernel
theorem dX11_isGreater_40 : decode cX11_isGreater 40 = .ok (.lneg, 1) := by decide +kernel
theorem dX11_isGreater_41 : decode cX11_isGreater 41 = .ok (.goto 4, 3) := by decide +kernel
theorem dX11_isGreater_44 : decode cX11_isGreater 44 = .ok (.lload_n 3, 1) := by decide +kernel
theorem dX11_isGreater_45 : decode cX11_isGreater 45 = .ok (.lload 5, 2) := by decide +kernel
theorem dX11_isGreater_47 : decode cX11_isGreater 47 = .ok (.lconst 0, 1) := by decide +kernel
theorem dX11_isGreater_48 : decode cX11_isGreater 48 = .ok (.lcmp, 1) := by decide +kernel
theorem dX11_isGreater_49 : decode cX11_isGreater 49 = .ok (.ifCond .ge 9, 3) := by decide +kernel
theorem dX11_isGreater_52 : decode cX11_isGreater 52 = .ok (.lload 5, 2) := by decide +kernel
theorem dX11_isGreater_54 : decode cX11_isGreater 54 = .ok (.lneg, 1) := by decide +kernel
theorem dX11_isGreater_55 : decode cX11_isGreater 55 = .ok (.goto 5, 3) := by decide +kernel
theorem dX11_isGreater_58 : decode cX11_isGreater 58 = .ok (.lload 5, 2) := by decide +kernel
theorem dX11_isGreater_60 : decode cX11_isGreater 60 = .ok (.lcmp, 1) := by decide +kernel
theorem dX11_isGreater_61 : decode cX11_isGreater 61 = .ok (.ifCond .le 7, 3) := by decide +kernel
theorem dX11_isGreater_64 : decode cX11_isGreater 64 = .ok (.iconst 1, 1) := by decide +kernel
theorem dX11_isGreater_65 : decode cX11_isGreater 65 = .ok (.goto 4, 3) := by decide +kernel
theorem dX11_isGreater_68 : decode cX11_isGreater 68 = .ok (.iconst 0, 1) := by decide +kernel
theorem dX11_isGreater_69 : decode cX11_isGreater 69 = .ok (.ireturn, 1) := by decide +kernel
set_option maxRecDepth 20000 in
theorem ggX11_isBetter_X11_weight : GoodIn wsX11_isBetter wsX11_weight := goodIn_r _ [5, 6, 7, 8, 4, 9, 10, 11, 12, 13, 14, 15, 16, 17, 18, 19, 20, 21, 27, 28, 29, 30, 31, 32, 33, 34, 35, 36, 37, 38, 39, 40, 41, 42, 43, 44, 45, 46, 47, 48, 49, 50, 51, 52, 53, 54, 55, 56, 57, 58, 59, 60, 61, 62] rfl rfl
set_option maxRecDepth 20000 in
theorem gX11_isBetter_X11_weight : GoodIn wsX11_isBetter (wsV RX11 106 RX11 yX11_weight wsX11_weight) := goodIn_app (goodIn_of _ (by decide +kernel)) ggX11_isBetter_X11_weight
set_option maxRecDepth 20000 in
theorem ggX11_isBetter_X11_cell : GoodIn wsX11_isBetter wsX11_cell := goodIn_r _ [15] rfl rfl
set_option maxRecDepth 20000 in
theorem gX11_isBetter_X11_cell : GoodIn wsX11_isBetter (va_wsS RX11 89 yX11_cell wsX11_cell) := goodIn_app (goodIn_of _ (by decide +kernel)) ggX11_isBetter_X11_cell
set_option maxRecDepth 20000 in
theorem ggX11_isBetter_X11_isGreater : GoodIn wsX11_isBetter wsX11_isGreater := goodIn_r _ [25, 12, 26, 27, 28, 29, 30, 31, 32, 33, 34, 35, 36, 37, 38, 39, 40, 41, 42, 43, 44, 45, 46, 47, 48, 49, 50, 51, 52, 53, 54, 55, 56, 57, 58, 59, 60, 61, 62] rfl rfl
set_option maxRecDepth 20000 in
theorem gX11_isBetter_X11_isGreater : GoodIn wsX11_isBetter (wsV RX11 109 RX11 yX11_isGreater wsX11_isGreater) := goodIn_app (goodIn_of _ (by decide +kernel)) ggX11_isBetter_X11_isGreater
theorem dX11_isBetter_0 : decode cX11_isBetter 0 = .ok (.iload 4, 2) := by decide +kernel
theorem dX11_isBetter_2 : decode cX11_isBetter 2 = .ok (.iconst (-1), 1) := by decide +kernel
theorem dX11_isBetter_3 : decode cX11_isBetter 3 = .ok (.if_icmp .ne 5, 3) := by decide +kernel
theorem dX11_isBetter_6 : decode cX11_isBetter 6 = .ok (.iconst 1, 1) := by decide +kernel
theorem dX11_isBetter_7 : decode cX11_isBetter 7 = .ok (.ireturn, 1) := by decide +kernel
theorem dX11_isBetter_8 : decode cX11_isBetter 8 = .ok (.iload_n 1, 1) := by decide +kernel
theorem dX11_isBetter_9 : decode cX11_isBetter 9 = .ok (.ifCond .ne 15, 3) := by decide +kernel
theorem dX11_isBetter_12 : decode cX11_isBetter 12 = .ok (.iload_n 3, 1) := by decide +kernel
theorem dX11_isBetter_13 : decode cX11_isBetter 13 = .ok (.iload 5, 2) := by decide +kernel
theorem dX11_isBetter_15 : decode cX11_isBetter 15 = .ok (.if_icmp .ge 7, 3) := by decide +kernel
theorem dX11_isBetter_18 : decode cX11_isBetter 18 = .ok (.iconst 1, 1) := by decide +kernel
theorem dX11_isBetter_19 : decode cX11_isBetter 19 = .ok (.goto 4, 3) := by decide +kernel
theorem dX11_isBetter_22 : decode cX11_isBetter 22 = .ok (.iconst 0, 1) := by decide +kernel
theorem dX11_isBetter_23 : decode cX11_isBetter 23 = .ok (.ireturn, 1) := by decide +kernel
theorem dX11_isBetter_24 : decode cX11_isBetter 24 = .ok (.iload_n 1, 1) := by decide +kernel
theorem dX11_isBetter_25 : decode cX11_isBetter 25 = .ok (.iconst 1, 1) := by decide +kernel
theorem dX11_isBetter_26 : decode cX11_isBetter 26 = .ok (.if_icmp .ne 28, 3) := by decide +kernel
theorem dX11_isBetter_29 : decode cX11_isBetter 29 = .ok (.aload_n 0, 1) := by decide +kernel
theorem dX11_isBetter_30 : decode cX11_isBetter 30 = .ok (.iload_n 2, 1) := by decide +kernel
theorem dX11_isBetter_31 : decode cX11_isBetter 31 = .ok (.iload_n 3, 1) := by decide +kernel
theorem dX11_isBetter_32 : decode cX11_isBetter 32 = .ok (.invokevirtual 106, 3) := by decide +kernel
theorem dX11_isBetter_35 : decode cX11_isBetter 35 = .ok (.aload_n 0, 1) := by decide +kernel
theorem dX11_isBetter_36 : decode cX11_isBetter 36 = .ok (.iload 4, 2) := by decide +kernel
theorem dX11_isBetter_38 : decode cX11_isBetter 38 = .ok (.iload 5, 2) := by decide +kernel
theorem dX11_isBetter_40 : decode cX11_isBetter 40 = .ok (.invokevirtual 106, 3) := by decide +kernel
theorem dX11_isBetter_43 : decode cX11_isBetter 43 = .ok (.if_icmp .ge 7, 3) := by decide +kernel
theorem dX11_isBetter_46 : decode cX11_isBetter 46 = .ok (.iconst 1, 1) := by decide +kernel
theorem dX11_isBetter_47 : decode cX11_isBetter 47 = .ok (.goto 23, 3) := by decide +kernel
theorem dX11_isBetter_50 : decode cX11_isBetter 50 = .ok (.iconst 0, 1) := by decide +kernel
theorem dX11_isBetter_51 : decode cX11_isBetter 51 = .ok (.goto 19, 3) := by decide +kernel
theorem dX11_isBetter_54 : decode cX11_isBetter 54 = .ok (.aload_n 0, 1) := by decide +kernel
theorem dX11_isBetter_55 : decode cX11_isBetter 55 = .ok (.iload_n 2, 1) := by decide +kernel
theorem dX11_isBetter_56 : decode cX11_isBetter 56 = .ok (.iload_n 3, 1) := by decide +kernel
theorem dX11_isBetter_57 : decode cX11_isBetter 57 = .ok (.invokestatic 89, 3) := by decide +kernel
theorem dX11_isBetter_60 : decode cX11_isBetter 60 = .ok (.iload 4, 2) := by decide +kernel
theorem dX11_isBetter_62 : decode cX11_isBetter 62 = .ok (.iload 5, 2) := by decide +kernel
theorem dX11_isBetter_64 : decode cX11_isBetter 64 = .ok (.invokestatic 89, 3) := by decide +kernel
theorem dX11_isBetter_67 : decode cX11_isBetter 67 = .ok (.invokevirtual 109, 3) := by decide +kernel
theorem dX11_isBetter_70 : decode cX11_isBetter 70 = .ok (.ireturn, 1) := by decide +kernel
set_option maxRecDepth 20000 in
theorem ggX11_pivots_X11_cell : GoodIn wsX11_pivots wsX11_cell := goodIn_r _ [14] rfl rfl
set_option maxRecDepth 20000 in
theorem gX11_pivots_X11_cell : GoodIn wsX11_pivots (va_wsS RX11 89 yX11_cell wsX11_cell) := goodIn_app (goodIn_of _ (by decide +kernel)) ggX11_pivots_X11_cell
set_option maxRecDepth 20000 in
theorem ggX11_pivots_X11_isBetter : GoodIn wsX11_pivots wsX11_isBetter := goodIn_r _ [18, 19, 20, 21, 13, 22, 23, 24, 25, 26, 2, 4, 5, 11, 12, 14, 27, 28, 29, 30, 1, 3, 31, 32, 33, 34, 35, 36, 37, 38, 39, 40, 41, 42, 43, 44, 45, 46, 47, 48, 49, 50, 51, 52, 53, 54, 55, 56, 57, 58, 59, 60, 61, 62, 63, 64, 65, 66, 67, 68, 69, 70, 71] rfl rfl
set_option maxRecDepth 20000 in
theorem gX11_pivots_X11_isBetter : GoodIn wsX11_pivots (wsV RX11 113 RX11 yX11_isBetter wsX11_isBetter) := goodIn_app (goodIn_of _ (by decide +kernel)) ggX11_pivots_X11_isBetter
set_option maxRecDepth 20000 in
theorem ggX11_pivots_X11_weight : GoodIn wsX11_pivots wsX11_weight := goodIn_r _ [22, 23, 24, 25, 13, 26, 2, 4, 5, 11, 12, 14, 27, 28, 29, 30, 1, 3, 36, 37, 38, 39, 40, 41, 42, 43, 44, 45, 46, 47, 48, 49, 50, 51, 52, 53, 54, 55, 56, 57, 58, 59, 60, 61, 62, 63, 64, 65, 66, 67, 68, 69, 70, 71] rfl rfl
set_option maxRecDepth 20000 in
theorem gX11_pivots_X11_weight : GoodIn wsX11_pivots (wsV RX11 106 RX11 yX11_weight wsX11_weight) := goodIn_app (goodIn_of _ (by decide +kernel)) ggX11_pivots_X11_weight
theorem dX11_pivots_0 : decode cX11_pivots 0 = .ok (.iconst (-1), 1) := by decide +kernel
theorem dX11_pivots_1 : decode cX11_pivots 1 = .ok (.istore_n 2, 1) := by decide +kernel
theorem dX11_pivots_2 : decode cX11_pivots 2 = .ok (.iconst (-1), 1) := by decide +kernel
theorem dX11_pivots_3 : decode cX11_pivots 3 = .ok (.istore_n 3, 1) := by decide +kernel
theorem dX11_pivots_4 : decode cX11_pivots 4 = .ok (.iconst 0, 1) := by decide +kernel
theorem dX11_pivots_5 : decode cX11_pivots 5 = .ok (.istore 4, 2) := by decide +kernel
theorem dX11_pivots_7 : decode cX11_pivots 7 = .ok (.iload 4, 2) := by decide +kernel
theorem dX11_pivots_9 : decode cX11_pivots 9 = .ok (.aload_n 0, 1) := by decide +kernel
theorem dX11_pivots_10 : decode cX11_pivots 10 = .ok (.getfield 96, 3) := by decide +kernel
theorem dX11_pivots_13 : decode cX11_pivots 13 = .ok (.if_icmp .ge 85, 3) := by decide +kernel
theorem dX11_pivots_16 : decode cX11_pivots 16 = .ok (.iconst 0, 1) := by decide +kernel
theorem dX11_pivots_17 : decode cX11_pivots 17 = .ok (.istore 5, 2) := by decide +kernel
theorem dX11_pivots_19 : decode cX11_pivots 19 = .ok (.iload 5, 2) := by decide +kernel
theorem dX11_pivots_21 : decode cX11_pivots 21 = .ok (.aload_n 0, 1) := by decide +kernel
theorem dX11_pivots_22 : decode cX11_pivots 22 = .ok (.getfield 93, 3) := by decide +kernel
theorem dX11_pivots_25 : decode cX11_pivots 25 = .ok (.if_icmp .ge 67, 3) := by decide +kernel
theorem dX11_pivots_28 : decode cX11_pivots 28 = .ok (.aload_n 0, 1) := by decide +kernel
theorem dX11_pivots_29 : decode cX11_pivots 29 = .ok (.getfield 42, 3) := by decide +kernel
theorem dX11_pivots_32 : decode cX11_pivots 32 = .ok (.iload 4, 2) := by decide +kernel
theorem dX11_pivots_34 : decode cX11_pivots 34 = .ok (.baload, 1) := by decide +kernel
theorem dX11_pivots_35 : decode cX11_pivots 35 = .ok (.ifCond .eq 51, 3) := by decide +kernel
theorem dX11_pivots_38 : decode cX11_pivots 38 = .ok (.aload_n 0, 1) := by decide +kernel
theorem dX11_pivots_39 : decode cX11_pivots 39 = .ok (.getfield 45, 3) := by decide +kernel
theorem dX11_pivots_42 : decode cX11_pivots 42 = .ok (.iload 5, 2) := by decide +kernel
theorem dX11_pivots_44 : decode cX11_pivots 44 = .ok (.baload, 1) := by decide +kernel
theorem dX11_pivots_45 : decode cX11_pivots 45 = .ok (.ifCond .eq 41, 3) := by decide +kernel
theorem dX11_pivots_48 : decode cX11_pivots 48 = .ok (.aload_n 0, 1) := by decide +kernel
theorem dX11_pivots_49 : decode cX11_pivots 49 = .ok (.getfield 24, 3) := by decide +kernel
theorem dX11_pivots_52 : decode cX11_pivots 52 = .ok (.iload 4, 2) := by decide +kernel
theorem dX11_pivots_54 : decode cX11_pivots 54 = .ok (.iload 5, 2) := by decide +kernel
theorem dX11_pivots_56 : decode cX11_pivots 56 = .ok (.invokestatic 89, 3) := by decide +kernel
theorem dX11_pivots_59 : decode cX11_pivots 59 = .ok (.iaload, 1) := by decide +kernel
theorem dX11_pivots_60 : decode cX11_pivots 60 = .ok (.ifCond .eq 26, 3) := by decide +kernel
theorem dX11_pivots_63 : decode cX11_pivots 63 = .ok (.aload_n 0, 1) := by decide +kernel
theorem dX11_pivots_64 : decode cX11_pivots 64 = .ok (.iload_n 1, 1) := by decide +kernel
theorem dX11_pivots_65 : decode cX11_pivots 65 = .ok (.iload 4, 2) := by decide +kernel
theorem dX11_pivots_67 : decode cX11_pivots 67 = .ok (.iload 5, 2) := by decide +kernel
theorem dX11_pivots_69 : decode cX11_pivots 69 = .ok (.iload_n 2, 1) := by decide +kernel
theorem dX11_pivots_70 : decode cX11_pivots 70 = .ok (.iload_n 3, 1) := by decide +kernel
theorem dX11_pivots_71 : decode cX11_pivots 71 = .ok (.invokevirtual 113, 3) := by decide +kernel
theorem dX11_pivots_74 : decode cX11_pivots 74 = .ok (.ifCond .ne 6, 3) := by decide +kernel
theorem dX11_pivots_77 : decode cX11_pivots 77 = .ok (.goto 9, 3) := by decide +kernel
theorem dX11_pivots_80 : decode cX11_pivots 80 = .ok (.iload 4, 2) := by decide +kernel
theorem dX11_pivots_82 : decode cX11_pivots 82 = .ok (.istore_n 2, 1) := by decide +kernel
theorem dX11_pivots_83 : decode cX11_pivots 83 = .ok (.iload 5, 2) := by decide +kernel
theorem dX11_pivots_85 : decode cX11_pivots 85 = .ok (.istore_n 3, 1) := by decide +kernel
theorem dX11_pivots_86 : decode cX11_pivots 86 = .ok (.iinc 5 1, 3) := by decide +kernel
theorem dX11_pivots_89 : decode cX11_pivots 89 = .ok (.goto (-70), 3) := by decide +kernel
theorem dX11_pivots_92 : decode cX11_pivots 92 = .ok (.iinc 4 1, 3) := by decide +kernel
theorem dX11_pivots_95 : decode cX11_pivots 95 = .ok (.goto (-88), 3) := by decide +kernel
theorem dX11_pivots_98 : decode cX11_pivots 98 = .ok (.iload_n 2, 1) := by decide +kernel
theorem dX11_pivots_99 : decode cX11_pivots 99 = .ok (.iconst (-1), 1) := by decide +kernel
theorem dX11_pivots_100 : decode cX11_pivots 100 = .ok (.if_icmp .ne 5, 3) := by decide +kernel
theorem dX11_pivots_103 : decode cX11_pivots 103 = .ok (.iconst 0, 1) := by decide +kernel
theorem dX11_pivots_104 : decode cX11_pivots 104 = .ok (.ireturn, 1) := by decide +kernel
theorem dX11_pivots_105 : decode cX11_pivots 105 = .ok (.aload_n 0, 1) := by decide +kernel
theorem dX11_pivots_106 : decode cX11_pivots 106 = .ok (.getfield 30, 3) := by decide +kernel
theorem dX11_pivots_109 : decode cX11_pivots 109 = .ok (.aload_n 0, 1) := by decide +kernel
theorem dX11_pivots_110 : decode cX11_pivots 110 = .ok (.getfield 117, 3) := by decide +kernel
theorem dX11_pivots_113 : decode cX11_pivots 113 = .ok (.iload_n 2, 1) := by decide +kernel
theorem dX11_pivots_114 : decode cX11_pivots 114 = .ok (.iastore, 1) := by decide +kernel
theorem dX11_pivots_115 : decode cX11_pivots 115 = .ok (.aload_n 0, 1) := by decide +kernel
theorem dX11_pivots_116 : decode cX11_pivots 116 = .ok (.getfield 33, 3) := by decide +kernel
theorem dX11_pivots_119 : decode cX11_pivots 119 = .ok (.aload_n 0, 1) := by decide +kernel
theorem dX11_pivots_120 : decode cX11_pivots 120 = .ok (.getfield 117, 3) := by decide +kernel
theorem dX11_pivots_123 : decode cX11_pivots 123 = .ok (.iload_n 3, 1) := by decide +kernel
theorem dX11_pivots_124 : decode cX11_pivots 124 = .ok (.iastore, 1) := by decide +kernel
theorem dX11_pivots_125 : decode cX11_pivots 125 = .ok (.aload_n 0, 1) := by decide +kernel
theorem dX11_pivots_126 : decode cX11_pivots 126 = .ok (.getfield 36, 3) := by decide +kernel
theorem dX11_pivots_129 : decode cX11_pivots 129 = .ok (.aload_n 0, 1) := by decide +kernel
theorem dX11_pivots_130 : decode cX11_pivots 130 = .ok (.getfield 117, 3) := by decide +kernel
theorem dX11_pivots_133 : decode cX11_pivots 133 = .ok (.iconst 0, 1) := by decide +kernel
theorem dX11_pivots_134 : decode cX11_pivots 134 = .ok (.iastore, 1) := by decide +kernel
theorem dX11_pivots_135 : decode cX11_pivots 135 = .ok (.aload_n 0, 1) := by decide +kernel
theorem dX11_pivots_136 : decode cX11_pivots 136 = .ok (.getfield 39, 3) := by decide +kernel
theorem dX11_pivots_139 : decode cX11_pivots 139 = .ok (.aload_n 0, 1) := by decide +kernel
theorem dX11_pivots_140 : decode cX11_pivots 140 = .ok (.getfield 117, 3) := by decide +kernel
theorem dX11_pivots_143 : decode cX11_pivots 143 = .ok (.aload_n 0, 1) := by decide +kernel
theorem dX11_pivots_144 : decode cX11_pivots 144 = .ok (.iload_n 2, 1) := by decide +kernel
theorem dX11_pivots_145 : decode cX11_pivots 145 = .ok (.iload_n 3, 1) := by decide +kernel
theorem dX11_pivots_146 : decode cX11_pivots 146 = .ok (.invokevirtual 106, 3) := by decide +kernel
theorem dX11_pivots_149 : decode cX11_pivots 149 = .ok (.iastore, 1) := by decide +kernel
theorem dX11_pivots_150 : decode cX11_pivots 150 = .ok (.iconst 1, 1) := by decide +kernel
theorem dX11_pivots_151 : decode cX11_pivots 151 = .ok (.ireturn, 1) := by decide +kernel
theorem dX11_breaks_0 : decode cX11_breaks 0 = .ok (.aload_n 0, 1) := by decide +kernel
theorem dX11_breaks_1 : decode cX11_breaks 1 = .ok (.getfield 120, 3) := by decide +kernel
theorem dX11_breaks_4 : decode cX11_breaks 4 = .ok (.ifCond .eq 4, 3) := by decide +kernel
theorem dX11_breaks_7 : decode cX11_breaks 7 = .ok (.return_, 1) := by decide +kernel
theorem dX11_breaks_8 : decode cX11_breaks 8 = .ok (.aload_n 0, 1) := by decide +kernel
theorem dX11_breaks_9 : decode cX11_breaks 9 = .ok (.iconst 1, 1) := by decide +kernel
theorem dX11_breaks_10 : decode cX11_breaks 10 = .ok (.putfield 120, 3) := by decide +kernel
theorem dX11_breaks_13 : decode cX11_breaks 13 = .ok (.aload_n 0, 1) := by decide +kernel
theorem dX11_breaks_14 : decode cX11_breaks 14 = .ok (.iload_n 1, 1) := by decide +kernel
theorem dX11_breaks_15 : decode cX11_breaks 15 = .ok (.putfield 123, 3) := by decide +kernel
theorem dX11_breaks_18 : decode cX11_breaks 18 = .ok (.aload_n 0, 1) := by decide +kernel
theorem dX11_breaks_19 : decode cX11_breaks 19 = .ok (.iload_n 2, 1) := by decide +kernel
theorem dX11_breaks_20 : decode cX11_breaks 20 = .ok (.putfield 126, 3) := by decide +kernel
theorem dX11_breaks_23 : decode cX11_breaks 23 = .ok (.return_, 1) := by decide +kernel
set_option maxRecDepth 20000 in
theorem ggX11_adds_X11_cell : GoodIn wsX11_adds wsX11_cell := goodIn_r _ [12] rfl rfl
set_option maxRecDepth 20000 in
theorem gX11_adds_X11_cell : GoodIn wsX11_adds (va_wsS RX11 89 yX11_cell wsX11_cell) := goodIn_app (goodIn_of _ (by decide +kernel)) ggX11_adds_X11_cell
set_option maxRecDepth 20000 in
theorem ggX11_adds_X11_times : GoodIn wsX11_adds wsX11_times := goodIn_r _ [16, 17, 18, 19, 11, 20, 6, 7, 21, 22, 5, 23, 24, 25, 40, 41, 42, 43, 44, 45, 46, 47, 48, 49, 50, 51, 52, 53, 54, 55, 56, 57, 58, 59, 60, 61, 62, 63, 64, 65, 66, 67, 68, 69, 70, 71, 72, 73, 74, 75] rfl rfl
set_option maxRecDepth 20000 in
theorem gX11_adds_X11_times : GoodIn wsX11_adds (wsV RX11 129 RX11 yX11_times wsX11_times) := goodIn_app (goodIn_of _ (by decide +kernel)) ggX11_adds_X11_times
set_option maxRecDepth 20000 in
theorem ggX11_adds_X11_breaks : GoodIn wsX11_adds wsX11_breaks := goodIn_r _ [29, 2, 30, 31, 40, 41, 42, 43, 44, 45, 46, 47, 48, 49, 50, 51, 52, 53, 54, 55, 56, 57, 58, 59, 60, 61, 62, 63, 64, 65, 66, 67, 68, 69, 70, 71, 72, 73, 74, 75] rfl rfl
set_option maxRecDepth 20000 in
theorem gX11_adds_X11_breaks : GoodIn wsX11_adds (wsV RX11 133 RX11 yX11_breaks wsX11_breaks) := goodIn_app (goodIn_of _ (by decide +kernel)) ggX11_adds_X11_breaks
set_option maxRecDepth 20000 in
theorem ggX11_adds_X11_plus : GoodIn wsX11_adds wsX11_plus := goodIn_r _ [35, 17, 18, 19, 11, 20, 6, 7, 21, 22, 5, 23, 24, 25, 40, 41, 42, 43, 44, 45, 46, 47, 48, 49, 50, 51, 52, 53, 54, 55, 56, 57, 58, 59, 60, 61, 62, 63, 64, 65, 66, 67, 68, 69, 70, 71, 72, 73, 74, 75] rfl rfl
set_option maxRecDepth 20000 in
theorem gX11_adds_X11_plus : GoodIn wsX11_adds (wsV RX11 137 RX11 yX11_plus wsX11_plus) := goodIn_app (goodIn_of _ (by decide +kernel)) ggX11_adds_X11_plus
set_option maxRecDepth 20000 in
theorem ggX11_adds_X11_laysCell : GoodIn wsX11_adds wsX11_laysCell := goodIn_r _ [39, 3, 4, 9, 10, 11, 12, 40, 41, 42, 43, 44, 45, 46, 47, 48, 49, 50, 51, 52, 53, 54, 55, 56, 57, 58, 59, 60, 61, 62, 63, 64, 65, 66, 67, 68, 69, 70, 71, 72, 73, 74, 75] rfl rfl
set_option maxRecDepth 20000 in
theorem gX11_adds_X11_laysCell : GoodIn wsX11_adds (wsV RX11 143 RX11 yX11_laysCell wsX11_laysCell) := goodIn_app (goodIn_of _ (by decide +kernel)) ggX11_adds_X11_laysCell
theorem dX11_adds_0 : decode cX11_adds 0 = .ok (.iconst 0, 1) := by decide +kernel
theorem dX11_adds_1 : decode cX11_adds 1 = .ok (.istore 7, 2) := by decide +kernel
theorem dX11_adds_3 : decode cX11_adds 3 = .ok (.iload 7, 2) := by decide +kernel
theorem dX11_adds_5 : decode cX11_adds 5 = .ok (.aload_n 0, 1) := by decide +kernel
theorem dX11_adds_6 : decode cX11_adds 6 = .ok (.getfield 93, 3) := by decide +kernel
theorem dX11_adds_9 : decode cX11_adds 9 = .ok (.if_icmp .gt 177, 3) := by decide +kernel
theorem dX11_adds_12 : decode cX11_adds 12 = .ok (.aload_n 0, 1) := by decide +kernel
theorem dX11_adds_13 : decode cX11_adds 13 = .ok (.getfield 120, 3) := by decide +kernel
theorem dX11_adds_16 : decode cX11_adds 16 = .ok (.ifCond .ne 170, 3) := by decide +kernel
theorem dX11_adds_19 : decode cX11_adds 19 = .ok (.iload_n 1, 1) := by decide +kernel
theorem dX11_adds_20 : decode cX11_adds 20 = .ok (.iload 7, 2) := by decide +kernel
theorem dX11_adds_22 : decode cX11_adds 22 = .ok (.invokestatic 89, 3) := by decide +kernel
theorem dX11_adds_25 : decode cX11_adds 25 = .ok (.istore 8, 2) := by decide +kernel
theorem dX11_adds_27 : decode cX11_adds 27 = .ok (.aload_n 0, 1) := by decide +kernel
theorem dX11_adds_28 : decode cX11_adds 28 = .ok (.lload_n 3, 1) := by decide +kernel
theorem dX11_adds_29 : decode cX11_adds 29 = .ok (.lload 5, 2) := by decide +kernel
theorem dX11_adds_31 : decode cX11_adds 31 = .ok (.aload_n 0, 1) := by decide +kernel
theorem dX11_adds_32 : decode cX11_adds 32 = .ok (.getfield 24, 3) := by decide +kernel
theorem dX11_adds_35 : decode cX11_adds 35 = .ok (.iload_n 2, 1) := by decide +kernel
theorem dX11_adds_36 : decode cX11_adds 36 = .ok (.iload 7, 2) := by decide +kernel
theorem dX11_adds_38 : decode cX11_adds 38 = .ok (.invokestatic 89, 3) := by decide +kernel
theorem dX11_adds_41 : decode cX11_adds 41 = .ok (.iaload, 1) := by decide +kernel
theorem dX11_adds_42 : decode cX11_adds 42 = .ok (.i2l, 1) := by decide +kernel
theorem dX11_adds_43 : decode cX11_adds 43 = .ok (.aload_n 0, 1) := by decide +kernel
theorem dX11_adds_44 : decode cX11_adds 44 = .ok (.getfield 27, 3) := by decide +kernel
theorem dX11_adds_47 : decode cX11_adds 47 = .ok (.iload_n 2, 1) := by decide +kernel
theorem dX11_adds_48 : decode cX11_adds 48 = .ok (.iload 7, 2) := by decide +kernel
theorem dX11_adds_50 : decode cX11_adds 50 = .ok (.invokestatic 89, 3) := by decide +kernel
theorem dX11_adds_53 : decode cX11_adds 53 = .ok (.iaload, 1) := by decide +kernel
theorem dX11_adds_54 : decode cX11_adds 54 = .ok (.i2l, 1) := by decide +kernel
theorem dX11_adds_55 : decode cX11_adds 55 = .ok (.invokevirtual 129, 3) := by decide +kernel
theorem dX11_adds_58 : decode cX11_adds 58 = .ok (.aload_n 0, 1) := by decide +kernel
theorem dX11_adds_59 : decode cX11_adds 59 = .ok (.getfield 77, 3) := by decide +kernel
theorem dX11_adds_62 : decode cX11_adds 62 = .ok (.ifCond .eq 11, 3) := by decide +kernel
theorem dX11_adds_65 : decode cX11_adds 65 = .ok (.aload_n 0, 1) := by decide +kernel
theorem dX11_adds_66 : decode cX11_adds 66 = .ok (.iload_n 1, 1) := by decide +kernel
theorem dX11_adds_67 : decode cX11_adds 67 = .ok (.iload 7, 2) := by decide +kernel
theorem dX11_adds_69 : decode cX11_adds 69 = .ok (.invokevirtual 133, 3) := by decide +kernel
theorem dX11_adds_72 : decode cX11_adds 72 = .ok (.return_, 1) := by decide +kernel
theorem dX11_adds_73 : decode cX11_adds 73 = .ok (.aload_n 0, 1) := by decide +kernel
theorem dX11_adds_74 : decode cX11_adds 74 = .ok (.aload_n 0, 1) := by decide +kernel
theorem dX11_adds_75 : decode cX11_adds 75 = .ok (.getfield 24, 3) := by decide +kernel
theorem dX11_adds_78 : decode cX11_adds 78 = .ok (.iload 8, 2) := by decide +kernel
theorem dX11_adds_80 : decode cX11_adds 80 = .ok (.iaload, 1) := by decide +kernel
theorem dX11_adds_81 : decode cX11_adds 81 = .ok (.i2l, 1) := by decide +kernel
theorem dX11_adds_82 : decode cX11_adds 82 = .ok (.aload_n 0, 1) := by decide +kernel
theorem dX11_adds_83 : decode cX11_adds 83 = .ok (.getfield 27, 3) := by decide +kernel
theorem dX11_adds_86 : decode cX11_adds 86 = .ok (.iload 8, 2) := by decide +kernel
theorem dX11_adds_88 : decode cX11_adds 88 = .ok (.iaload, 1) := by decide +kernel
theorem dX11_adds_89 : decode cX11_adds 89 = .ok (.i2l, 1) := by decide +kernel
theorem dX11_adds_90 : decode cX11_adds 90 = .ok (.aload_n 0, 1) := by decide +kernel
theorem dX11_adds_91 : decode cX11_adds 91 = .ok (.getfield 66, 3) := by decide +kernel
theorem dX11_adds_94 : decode cX11_adds 94 = .ok (.aload_n 0, 1) := by decide +kernel
theorem dX11_adds_95 : decode cX11_adds 95 = .ok (.getfield 70, 3) := by decide +kernel
theorem dX11_adds_98 : decode cX11_adds 98 = .ok (.invokevirtual 137, 3) := by decide +kernel
theorem dX11_adds_101 : decode cX11_adds 101 = .ok (.aload_n 0, 1) := by decide +kernel
theorem dX11_adds_102 : decode cX11_adds 102 = .ok (.getfield 77, 3) := by decide +kernel
theorem dX11_adds_105 : decode cX11_adds 105 = .ok (.ifCond .eq 10, 3) := by decide +kernel
theorem dX11_adds_108 : decode cX11_adds 108 = .ok (.aload_n 0, 1) := by decide +kernel
theorem dX11_adds_109 : decode cX11_adds 109 = .ok (.iload_n 1, 1) := by decide +kernel
theorem dX11_adds_110 : decode cX11_adds 110 = .ok (.iload 7, 2) := by decide +kernel
theorem dX11_adds_112 : decode cX11_adds 112 = .ok (.invokevirtual 133, 3) := by decide +kernel
theorem dX11_adds_115 : decode cX11_adds 115 = .ok (.aload_n 0, 1) := by decide +kernel
theorem dX11_adds_116 : decode cX11_adds 116 = .ok (.getfield 120, 3) := by decide +kernel
theorem dX11_adds_119 : decode cX11_adds 119 = .ok (.ifCond .eq 4, 3) := by decide +kernel
theorem dX11_adds_122 : decode cX11_adds 122 = .ok (.return_, 1) := by decide +kernel
theorem dX11_adds_123 : decode cX11_adds 123 = .ok (.aload_n 0, 1) := by decide +kernel
theorem dX11_adds_124 : decode cX11_adds 124 = .ok (.dup, 1) := by decide +kernel
theorem dX11_adds_125 : decode cX11_adds 125 = .ok (.getfield 140, 3) := by decide +kernel
theorem dX11_adds_128 : decode cX11_adds 128 = .ok (.iload 7, 2) := by decide +kernel
theorem dX11_adds_130 : decode cX11_adds 130 = .ok (.aload_n 0, 1) := by decide +kernel
theorem dX11_adds_131 : decode cX11_adds 131 = .ok (.getfield 93, 3) := by decide +kernel
theorem dX11_adds_134 : decode cX11_adds 134 = .ok (.if_icmp .ge 26, 3) := by decide +kernel
theorem dX11_adds_137 : decode cX11_adds 137 = .ok (.aload_n 0, 1) := by decide +kernel
theorem dX11_adds_138 : decode cX11_adds 138 = .ok (.getfield 24, 3) := by decide +kernel
theorem dX11_adds_141 : decode cX11_adds 141 = .ok (.iload 8, 2) := by decide +kernel
theorem dX11_adds_143 : decode cX11_adds 143 = .ok (.iaload, 1) := by decide +kernel
theorem dX11_adds_144 : decode cX11_adds 144 = .ok (.ifCond .ne 16, 3) := by decide +kernel
theorem dX11_adds_147 : decode cX11_adds 147 = .ok (.aload_n 0, 1) := by decide +kernel
theorem dX11_adds_148 : decode cX11_adds 148 = .ok (.getfield 66, 3) := by decide +kernel
theorem dX11_adds_151 : decode cX11_adds 151 = .ok (.lconst 0, 1) := by decide +kernel
theorem dX11_adds_152 : decode cX11_adds 152 = .ok (.lcmp, 1) := by decide +kernel
theorem dX11_adds_153 : decode cX11_adds 153 = .ok (.ifCond .eq 7, 3) := by decide +kernel
theorem dX11_adds_156 : decode cX11_adds 156 = .ok (.iconst 1, 1) := by decide +kernel
theorem dX11_adds_157 : decode cX11_adds 157 = .ok (.goto 4, 3) := by decide +kernel
theorem dX11_adds_160 : decode cX11_adds 160 = .ok (.iconst 0, 1) := by decide +kernel
theorem dX11_adds_161 : decode cX11_adds 161 = .ok (.iadd, 1) := by decide +kernel
theorem dX11_adds_162 : decode cX11_adds 162 = .ok (.putfield 140, 3) := by decide +kernel
theorem dX11_adds_165 : decode cX11_adds 165 = .ok (.aload_n 0, 1) := by decide +kernel
theorem dX11_adds_166 : decode cX11_adds 166 = .ok (.iload_n 1, 1) := by decide +kernel
theorem dX11_adds_167 : decode cX11_adds 167 = .ok (.iload 7, 2) := by decide +kernel
theorem dX11_adds_169 : decode cX11_adds 169 = .ok (.aload_n 0, 1) := by decide +kernel
theorem dX11_adds_170 : decode cX11_adds 170 = .ok (.getfield 66, 3) := by decide +kernel
theorem dX11_adds_173 : decode cX11_adds 173 = .ok (.aload_n 0, 1) := by decide +kernel
theorem dX11_adds_174 : decode cX11_adds 174 = .ok (.getfield 70, 3) := by decide +kernel
theorem dX11_adds_177 : decode cX11_adds 177 = .ok (.invokevirtual 143, 3) := by decide +kernel
theorem dX11_adds_180 : decode cX11_adds 180 = .ok (.iinc 7 1, 3) := by decide +kernel
theorem dX11_adds_183 : decode cX11_adds 183 = .ok (.goto (-180), 3) := by decide +kernel
theorem dX11_adds_186 : decode cX11_adds 186 = .ok (.return_, 1) := by decide +kernel
set_option maxRecDepth 20000 in
theorem ggX11_clears_X11_cell : GoodIn wsX11_clears wsX11_cell := goodIn_r _ [16] rfl rfl
set_option maxRecDepth 20000 in
theorem gX11_clears_X11_cell : GoodIn wsX11_clears (va_wsS RX11 89 yX11_cell wsX11_cell) := goodIn_app (goodIn_of _ (by decide +kernel)) ggX11_clears_X11_cell
set_option maxRecDepth 20000 in
theorem ggX11_clears_X11_by : GoodIn wsX11_clears wsX11_by := goodIn_r _ [20, 21, 22, 23, 15, 24, 10, 11, 25, 26, 9, 27, 28, 29, 53, 54, 55, 56, 57, 58, 59, 60, 61, 62, 63, 64, 65, 66, 67, 68, 69, 70, 71, 72, 73, 74, 75, 76, 77, 78, 79, 80, 81, 82, 83, 84, 85, 86, 87, 88] rfl rfl
set_option maxRecDepth 20000 in
theorem gX11_clears_X11_by : GoodIn wsX11_clears (wsV RX11 147 RX11 yX11_by wsX11_by) := goodIn_app (goodIn_of _ (by decide +kernel)) ggX11_clears_X11_by
set_option maxRecDepth 20000 in
theorem ggX11_clears_X11_breaks : GoodIn wsX11_clears wsX11_breaks := goodIn_r _ [33, 5, 34, 35, 53, 54, 55, 56, 57, 58, 59, 60, 61, 62, 63, 64, 65, 66, 67, 68, 69, 70, 71, 72, 73, 74, 75, 76, 77, 78, 79, 80, 81, 82, 83, 84, 85, 86, 87, 88] rfl rfl
set_option maxRecDepth 20000 in
theorem gX11_clears_X11_breaks : GoodIn wsX11_clears (wsV RX11 133 RX11 yX11_breaks wsX11_breaks) := goodIn_app (goodIn_of _ (by decide +kernel)) ggX11_clears_X11_breaks
set_option maxRecDepth 20000 in
theorem ggX11_clears_X11_adds : GoodIn wsX11_clears wsX11_adds := goodIn_r _ [39, 40, 5, 7, 8, 9, 10, 11, 3, 13, 14, 15, 16, 41, 42, 43, 44, 21, 22, 23, 24, 25, 26, 27, 28, 29, 30, 31, 32, 33, 34, 35, 45, 46, 47, 48, 49, 50, 51, 52, 53, 54, 55, 56, 57, 58, 59, 60, 61, 62, 63, 64, 65, 66, 67, 68, 69, 70, 71, 72, 73, 74, 75, 76, 77, 78, 79, 80, 81, 82, 83, 84, 85, 86, 87, 88] rfl rfl
set_option maxRecDepth 20000 in
theorem gX11_clears_X11_adds : GoodIn wsX11_clears (wsV RX11 150 RX11 yX11_adds wsX11_adds) := goodIn_app (goodIn_of _ (by decide +kernel)) ggX11_clears_X11_adds
theorem dX11_clears_0 : decode cX11_clears 0 = .ok (.aload_n 0, 1) := by decide +kernel
theorem dX11_clears_1 : decode cX11_clears 1 = .ok (.getfield 30, 3) := by decide +kernel
theorem dX11_clears_4 : decode cX11_clears 4 = .ok (.iload_n 1, 1) := by decide +kernel
theorem dX11_clears_5 : decode cX11_clears 5 = .ok (.iaload, 1) := by decide +kernel
theorem dX11_clears_6 : decode cX11_clears 6 = .ok (.istore_n 2, 1) := by decide +kernel
theorem dX11_clears_7 : decode cX11_clears 7 = .ok (.aload_n 0, 1) := by decide +kernel
theorem dX11_clears_8 : decode cX11_clears 8 = .ok (.getfield 33, 3) := by decide +kernel
theorem dX11_clears_11 : decode cX11_clears 11 = .ok (.iload_n 1, 1) := by decide +kernel
theorem dX11_clears_12 : decode cX11_clears 12 = .ok (.iaload, 1) := by decide +kernel
theorem dX11_clears_13 : decode cX11_clears 13 = .ok (.istore_n 3, 1) := by decide +kernel
theorem dX11_clears_14 : decode cX11_clears 14 = .ok (.aload_n 0, 1) := by decide +kernel
theorem dX11_clears_15 : decode cX11_clears 15 = .ok (.iconst 0, 1) := by decide +kernel
theorem dX11_clears_16 : decode cX11_clears 16 = .ok (.putfield 140, 3) := by decide +kernel
theorem dX11_clears_19 : decode cX11_clears 19 = .ok (.iconst 0, 1) := by decide +kernel
theorem dX11_clears_20 : decode cX11_clears 20 = .ok (.istore 4, 2) := by decide +kernel
theorem dX11_clears_22 : decode cX11_clears 22 = .ok (.iload 4, 2) := by decide +kernel
theorem dX11_clears_24 : decode cX11_clears 24 = .ok (.aload_n 0, 1) := by decide +kernel
theorem dX11_clears_25 : decode cX11_clears 25 = .ok (.getfield 96, 3) := by decide +kernel
theorem dX11_clears_28 : decode cX11_clears 28 = .ok (.if_icmp .ge 132, 3) := by decide +kernel
theorem dX11_clears_31 : decode cX11_clears 31 = .ok (.aload_n 0, 1) := by decide +kernel
theorem dX11_clears_32 : decode cX11_clears 32 = .ok (.getfield 120, 3) := by decide +kernel
theorem dX11_clears_35 : decode cX11_clears 35 = .ok (.ifCond .ne 125, 3) := by decide +kernel
theorem dX11_clears_38 : decode cX11_clears 38 = .ok (.iload 4, 2) := by decide +kernel
theorem dX11_clears_40 : decode cX11_clears 40 = .ok (.iload_n 3, 1) := by decide +kernel
theorem dX11_clears_41 : decode cX11_clears 41 = .ok (.invokestatic 89, 3) := by decide +kernel
theorem dX11_clears_44 : decode cX11_clears 44 = .ok (.istore 5, 2) := by decide +kernel
theorem dX11_clears_46 : decode cX11_clears 46 = .ok (.iload 4, 2) := by decide +kernel
theorem dX11_clears_48 : decode cX11_clears 48 = .ok (.iload_n 2, 1) := by decide +kernel
theorem dX11_clears_49 : decode cX11_clears 49 = .ok (.if_icmp .eq 105, 3) := by decide +kernel
theorem dX11_clears_52 : decode cX11_clears 52 = .ok (.aload_n 0, 1) := by decide +kernel
theorem dX11_clears_53 : decode cX11_clears 53 = .ok (.getfield 42, 3) := by decide +kernel
theorem dX11_clears_56 : decode cX11_clears 56 = .ok (.iload 4, 2) := by decide +kernel
theorem dX11_clears_58 : decode cX11_clears 58 = .ok (.baload, 1) := by decide +kernel
theorem dX11_clears_59 : decode cX11_clears 59 = .ok (.ifCond .eq 95, 3) := by decide +kernel
theorem dX11_clears_62 : decode cX11_clears 62 = .ok (.aload_n 0, 1) := by decide +kernel
theorem dX11_clears_63 : decode cX11_clears 63 = .ok (.getfield 24, 3) := by decide +kernel
theorem dX11_clears_66 : decode cX11_clears 66 = .ok (.iload 5, 2) := by decide +kernel
theorem dX11_clears_68 : decode cX11_clears 68 = .ok (.iaload, 1) := by decide +kernel
theorem dX11_clears_69 : decode cX11_clears 69 = .ok (.ifCond .ne 6, 3) := by decide +kernel
theorem dX11_clears_72 : decode cX11_clears 72 = .ok (.goto 82, 3) := by decide +kernel
theorem dX11_clears_75 : decode cX11_clears 75 = .ok (.aload_n 0, 1) := by decide +kernel
theorem dX11_clears_76 : decode cX11_clears 76 = .ok (.aload_n 0, 1) := by decide +kernel
theorem dX11_clears_77 : decode cX11_clears 77 = .ok (.getfield 24, 3) := by decide +kernel
theorem dX11_clears_80 : decode cX11_clears 80 = .ok (.iload 5, 2) := by decide +kernel
theorem dX11_clears_82 : decode cX11_clears 82 = .ok (.iaload, 1) := by decide +kernel
theorem dX11_clears_83 : decode cX11_clears 83 = .ok (.i2l, 1) := by decide +kernel
theorem dX11_clears_84 : decode cX11_clears 84 = .ok (.aload_n 0, 1) := by decide +kernel
theorem dX11_clears_85 : decode cX11_clears 85 = .ok (.getfield 27, 3) := by decide +kernel
theorem dX11_clears_88 : decode cX11_clears 88 = .ok (.iload 5, 2) := by decide +kernel
theorem dX11_clears_90 : decode cX11_clears 90 = .ok (.iaload, 1) := by decide +kernel
theorem dX11_clears_91 : decode cX11_clears 91 = .ok (.i2l, 1) := by decide +kernel
theorem dX11_clears_92 : decode cX11_clears 92 = .ok (.aload_n 0, 1) := by decide +kernel
theorem dX11_clears_93 : decode cX11_clears 93 = .ok (.getfield 24, 3) := by decide +kernel
theorem dX11_clears_96 : decode cX11_clears 96 = .ok (.iload_n 2, 1) := by decide +kernel
theorem dX11_clears_97 : decode cX11_clears 97 = .ok (.iload_n 3, 1) := by decide +kernel
theorem dX11_clears_98 : decode cX11_clears 98 = .ok (.invokestatic 89, 3) := by decide +kernel
theorem dX11_clears_101 : decode cX11_clears 101 = .ok (.iaload, 1) := by decide +kernel
theorem dX11_clears_102 : decode cX11_clears 102 = .ok (.i2l, 1) := by decide +kernel
theorem dX11_clears_103 : decode cX11_clears 103 = .ok (.aload_n 0, 1) := by decide +kernel
theorem dX11_clears_104 : decode cX11_clears 104 = .ok (.getfield 27, 3) := by decide +kernel
theorem dX11_clears_107 : decode cX11_clears 107 = .ok (.iload_n 2, 1) := by decide +kernel
theorem dX11_clears_108 : decode cX11_clears 108 = .ok (.iload_n 3, 1) := by decide +kernel
theorem dX11_clears_109 : decode cX11_clears 109 = .ok (.invokestatic 89, 3) := by decide +kernel
theorem dX11_clears_112 : decode cX11_clears 112 = .ok (.iaload, 1) := by decide +kernel
theorem dX11_clears_113 : decode cX11_clears 113 = .ok (.i2l, 1) := by decide +kernel
theorem dX11_clears_114 : decode cX11_clears 114 = .ok (.invokevirtual 147, 3) := by decide +kernel
theorem dX11_clears_117 : decode cX11_clears 117 = .ok (.aload_n 0, 1) := by decide +kernel
theorem dX11_clears_118 : decode cX11_clears 118 = .ok (.getfield 77, 3) := by decide +kernel
theorem dX11_clears_121 : decode cX11_clears 121 = .ok (.ifCond .eq 10, 3) := by decide +kernel
theorem dX11_clears_124 : decode cX11_clears 124 = .ok (.aload_n 0, 1) := by decide +kernel
theorem dX11_clears_125 : decode cX11_clears 125 = .ok (.iload 4, 2) := by decide +kernel
theorem dX11_clears_127 : decode cX11_clears 127 = .ok (.iload_n 3, 1) := by decide +kernel
theorem dX11_clears_128 : decode cX11_clears 128 = .ok (.invokevirtual 133, 3) := by decide +kernel
theorem dX11_clears_131 : decode cX11_clears 131 = .ok (.aload_n 0, 1) := by decide +kernel
theorem dX11_clears_132 : decode cX11_clears 132 = .ok (.getfield 120, 3) := by decide +kernel
theorem dX11_clears_135 : decode cX11_clears 135 = .ok (.ifCond .ne 19, 3) := by decide +kernel
theorem dX11_clears_138 : decode cX11_clears 138 = .ok (.aload_n 0, 1) := by decide +kernel
theorem dX11_clears_139 : decode cX11_clears 139 = .ok (.iload 4, 2) := by decide +kernel
theorem dX11_clears_141 : decode cX11_clears 141 = .ok (.iload_n 2, 1) := by decide +kernel
theorem dX11_clears_142 : decode cX11_clears 142 = .ok (.aload_n 0, 1) := by decide +kernel
theorem dX11_clears_143 : decode cX11_clears 143 = .ok (.getfield 66, 3) := by decide +kernel
theorem dX11_clears_146 : decode cX11_clears 146 = .ok (.lneg, 1) := by decide +kernel
theorem dX11_clears_147 : decode cX11_clears 147 = .ok (.aload_n 0, 1) := by decide +kernel
theorem dX11_clears_148 : decode cX11_clears 148 = .ok (.getfield 70, 3) := by decide +kernel
theorem dX11_clears_151 : decode cX11_clears 151 = .ok (.invokevirtual 150, 3) := by decide +kernel
theorem dX11_clears_154 : decode cX11_clears 154 = .ok (.iinc 4 1, 3) := by decide +kernel
theorem dX11_clears_157 : decode cX11_clears 157 = .ok (.goto (-135), 3) := by decide +kernel
theorem dX11_clears_160 : decode cX11_clears 160 = .ok (.aload_n 0, 1) := by decide +kernel
theorem dX11_clears_161 : decode cX11_clears 161 = .ok (.getfield 36, 3) := by decide +kernel
theorem dX11_clears_164 : decode cX11_clears 164 = .ok (.iload_n 1, 1) := by decide +kernel
theorem dX11_clears_165 : decode cX11_clears 165 = .ok (.aload_n 0, 1) := by decide +kernel
theorem dX11_clears_166 : decode cX11_clears 166 = .ok (.getfield 140, 3) := by decide +kernel
theorem dX11_clears_169 : decode cX11_clears 169 = .ok (.iastore, 1) := by decide +kernel
theorem dX11_clears_170 : decode cX11_clears 170 = .ok (.return_, 1) := by decide +kernel
set_option maxRecDepth 20000 in
theorem ggX11_goes_X11_pivots : GoodIn wsX11_goes wsX11_pivots := goodIn_r _ [11, 12, 13, 3, 4, 14, 5, 1, 6, 15, 16, 17, 18, 10, 19, 20, 21, 22, 23, 24, 25, 26, 27, 28, 29, 30, 31, 32, 33, 34, 35, 36, 37, 38, 39, 40, 84, 85, 86, 87, 88, 89, 90, 91, 92, 93, 94, 95, 96, 97, 98, 99, 100, 101, 102, 103, 104, 105, 106, 107, 108, 109, 110, 111, 112, 113, 114, 115, 116, 117, 118, 119] rfl rfl
set_option maxRecDepth 20000 in
theorem gX11_goes_X11_pivots : GoodIn wsX11_goes (wsV RX11 153 RX11 yX11_pivots wsX11_pivots) := goodIn_app (goodIn_of _ (by decide +kernel)) ggX11_goes_X11_pivots
set_option maxRecDepth 20000 in
theorem ggX11_goes_X11_clears : GoodIn wsX11_goes wsX11_clears := goodIn_r _ [44, 5, 6, 45, 12, 2, 3, 14, 40, 46, 47, 48, 15, 17, 18, 10, 19, 49, 50, 51, 52, 53, 54, 55, 56, 57, 58, 59, 60, 61, 62, 63, 64, 65, 66, 67, 68, 69, 70, 71, 13, 72, 73, 74, 75, 76, 77, 78, 79, 80, 81, 82, 83, 84, 85, 86, 87, 88, 89, 90, 91, 92, 93, 94, 95, 96, 97, 98, 99, 100, 101, 102, 103, 104, 105, 106, 107, 108, 109, 110, 111, 112, 113, 114, 115, 116, 117, 118, 119] rfl rfl
set_option maxRecDepth 20000 in
theorem gX11_goes_X11_clears : GoodIn wsX11_goes (wsV RX11 157 RX11 yX11_clears wsX11_clears) := goodIn_app (goodIn_of _ (by decide +kernel)) ggX11_goes_X11_clears
theorem dX11_goes_0 : decode cX11_goes 0 = .ok (.aload_n 0, 1) := by decide +kernel
theorem dX11_goes_1 : decode cX11_goes 1 = .ok (.iconst 0, 1) := by decide +kernel
theorem dX11_goes_2 : decode cX11_goes 2 = .ok (.putfield 117, 3) := by decide +kernel
theorem dX11_goes_5 : decode cX11_goes 5 = .ok (.aload_n 0, 1) := by decide +kernel
theorem dX11_goes_6 : decode cX11_goes 6 = .ok (.iconst 0, 1) := by decide +kernel
theorem dX11_goes_7 : decode cX11_goes 7 = .ok (.putfield 120, 3) := by decide +kernel
theorem dX11_goes_10 : decode cX11_goes 10 = .ok (.iconst 0, 1) := by decide +kernel
theorem dX11_goes_11 : decode cX11_goes 11 = .ok (.istore_n 2, 1) := by decide +kernel
theorem dX11_goes_12 : decode cX11_goes 12 = .ok (.iload_n 2, 1) := by decide +kernel
theorem dX11_goes_13 : decode cX11_goes 13 = .ok (.bipush 6, 2) := by decide +kernel
theorem dX11_goes_15 : decode cX11_goes 15 = .ok (.if_icmp .ge 23, 3) := by decide +kernel
theorem dX11_goes_18 : decode cX11_goes 18 = .ok (.aload_n 0, 1) := by decide +kernel
theorem dX11_goes_19 : decode cX11_goes 19 = .ok (.getfield 42, 3) := by decide +kernel
theorem dX11_goes_22 : decode cX11_goes 22 = .ok (.iload_n 2, 1) := by decide +kernel
theorem dX11_goes_23 : decode cX11_goes 23 = .ok (.iconst 1, 1) := by decide +kernel
theorem dX11_goes_24 : decode cX11_goes 24 = .ok (.bastore, 1) := by decide +kernel
theorem dX11_goes_25 : decode cX11_goes 25 = .ok (.aload_n 0, 1) := by decide +kernel
theorem dX11_goes_26 : decode cX11_goes 26 = .ok (.getfield 45, 3) := by decide +kernel
theorem dX11_goes_29 : decode cX11_goes 29 = .ok (.iload_n 2, 1) := by decide +kernel
theorem dX11_goes_30 : decode cX11_goes 30 = .ok (.iconst 1, 1) := by decide +kernel
theorem dX11_goes_31 : decode cX11_goes 31 = .ok (.bastore, 1) := by decide +kernel
theorem dX11_goes_32 : decode cX11_goes 32 = .ok (.iinc 2 1, 3) := by decide +kernel
theorem dX11_goes_35 : decode cX11_goes 35 = .ok (.goto (-23), 3) := by decide +kernel
theorem dX11_goes_38 : decode cX11_goes 38 = .ok (.aload_n 0, 1) := by decide +kernel
theorem dX11_goes_39 : decode cX11_goes 39 = .ok (.getfield 120, 3) := by decide +kernel
theorem dX11_goes_42 : decode cX11_goes 42 = .ok (.ifCond .ne 62, 3) := by decide +kernel
theorem dX11_goes_45 : decode cX11_goes 45 = .ok (.aload_n 0, 1) := by decide +kernel
theorem dX11_goes_46 : decode cX11_goes 46 = .ok (.iload_n 1, 1) := by decide +kernel
theorem dX11_goes_47 : decode cX11_goes 47 = .ok (.invokevirtual 153, 3) := by decide +kernel
theorem dX11_goes_50 : decode cX11_goes 50 = .ok (.ifCond .eq 54, 3) := by decide +kernel
theorem dX11_goes_53 : decode cX11_goes 53 = .ok (.aload_n 0, 1) := by decide +kernel
theorem dX11_goes_54 : decode cX11_goes 54 = .ok (.aload_n 0, 1) := by decide +kernel
theorem dX11_goes_55 : decode cX11_goes 55 = .ok (.getfield 117, 3) := by decide +kernel
theorem dX11_goes_58 : decode cX11_goes 58 = .ok (.invokevirtual 157, 3) := by decide +kernel
theorem dX11_goes_61 : decode cX11_goes 61 = .ok (.aload_n 0, 1) := by decide +kernel
theorem dX11_goes_62 : decode cX11_goes 62 = .ok (.getfield 42, 3) := by decide +kernel
theorem dX11_goes_65 : decode cX11_goes 65 = .ok (.aload_n 0, 1) := by decide +kernel
theorem dX11_goes_66 : decode cX11_goes 66 = .ok (.getfield 30, 3) := by decide +kernel
theorem dX11_goes_69 : decode cX11_goes 69 = .ok (.aload_n 0, 1) := by decide +kernel
theorem dX11_goes_70 : decode cX11_goes 70 = .ok (.getfield 117, 3) := by decide +kernel
theorem dX11_goes_73 : decode cX11_goes 73 = .ok (.iaload, 1) := by decide +kernel
theorem dX11_goes_74 : decode cX11_goes 74 = .ok (.iconst 0, 1) := by decide +kernel
theorem dX11_goes_75 : decode cX11_goes 75 = .ok (.bastore, 1) := by decide +kernel
theorem dX11_goes_76 : decode cX11_goes 76 = .ok (.aload_n 0, 1) := by decide +kernel
theorem dX11_goes_77 : decode cX11_goes 77 = .ok (.getfield 45, 3) := by decide +kernel
theorem dX11_goes_80 : decode cX11_goes 80 = .ok (.aload_n 0, 1) := by decide +kernel
theorem dX11_goes_81 : decode cX11_goes 81 = .ok (.getfield 33, 3) := by decide +kernel
theorem dX11_goes_84 : decode cX11_goes 84 = .ok (.aload_n 0, 1) := by decide +kernel
theorem dX11_goes_85 : decode cX11_goes 85 = .ok (.getfield 117, 3) := by decide +kernel
theorem dX11_goes_88 : decode cX11_goes 88 = .ok (.iaload, 1) := by decide +kernel
theorem dX11_goes_89 : decode cX11_goes 89 = .ok (.iconst 0, 1) := by decide +kernel
theorem dX11_goes_90 : decode cX11_goes 90 = .ok (.bastore, 1) := by decide +kernel
theorem dX11_goes_91 : decode cX11_goes 91 = .ok (.aload_n 0, 1) := by decide +kernel
theorem dX11_goes_92 : decode cX11_goes 92 = .ok (.dup, 1) := by decide +kernel
theorem dX11_goes_93 : decode cX11_goes 93 = .ok (.getfield 117, 3) := by decide +kernel
theorem dX11_goes_96 : decode cX11_goes 96 = .ok (.iconst 1, 1) := by decide +kernel
theorem dX11_goes_97 : decode cX11_goes 97 = .ok (.iadd, 1) := by decide +kernel
theorem dX11_goes_98 : decode cX11_goes 98 = .ok (.putfield 117, 3) := by decide +kernel
theorem dX11_goes_101 : decode cX11_goes 101 = .ok (.goto (-63), 3) := by decide +kernel
theorem dX11_goes_104 : decode cX11_goes 104 = .ok (.return_, 1) := by decide +kernel
theorem dX11_fills_0 : decode cX11_fills 0 = .ok (.iconst 0, 1) := by decide +kernel
theorem dX11_fills_1 : decode cX11_fills 1 = .ok (.istore_n 1, 1) := by decide +kernel
theorem dX11_fills_2 : decode cX11_fills 2 = .ok (.iconst 0, 1) := by decide +kernel
theorem dX11_fills_3 : decode cX11_fills 3 = .ok (.istore_n 2, 1) := by decide +kernel
theorem dX11_fills_4 : decode cX11_fills 4 = .ok (.iload_n 2, 1) := by decide +kernel
theorem dX11_fills_5 : decode cX11_fills 5 = .ok (.aload_n 0, 1) := by decide +kernel
theorem dX11_fills_6 : decode cX11_fills 6 = .ok (.getfield 117, 3) := by decide +kernel
theorem dX11_fills_9 : decode cX11_fills 9 = .ok (.if_icmp .ge 18, 3) := by decide +kernel
theorem dX11_fills_12 : decode cX11_fills 12 = .ok (.iload_n 1, 1) := by decide +kernel
theorem dX11_fills_13 : decode cX11_fills 13 = .ok (.aload_n 0, 1) := by decide +kernel
theorem dX11_fills_14 : decode cX11_fills 14 = .ok (.getfield 36, 3) := by decide +kernel
theorem dX11_fills_17 : decode cX11_fills 17 = .ok (.iload_n 2, 1) := by decide +kernel
theorem dX11_fills_18 : decode cX11_fills 18 = .ok (.iaload, 1) := by decide +kernel
theorem dX11_fills_19 : decode cX11_fills 19 = .ok (.iadd, 1) := by decide +kernel
theorem dX11_fills_20 : decode cX11_fills 20 = .ok (.istore_n 1, 1) := by decide +kernel
theorem dX11_fills_21 : decode cX11_fills 21 = .ok (.iinc 2 1, 3) := by decide +kernel
theorem dX11_fills_24 : decode cX11_fills 24 = .ok (.goto (-20), 3) := by decide +kernel
theorem dX11_fills_27 : decode cX11_fills 27 = .ok (.iload_n 1, 1) := by decide +kernel
theorem dX11_fills_28 : decode cX11_fills 28 = .ok (.ireturn, 1) := by decide +kernel
theorem dX11_pivotOf_0 : decode cX11_pivotOf 0 = .ok (.iconst 0, 1) := by decide +kernel
theorem dX11_pivotOf_1 : decode cX11_pivotOf 1 = .ok (.istore_n 2, 1) := by decide +kernel
theorem dX11_pivotOf_2 : decode cX11_pivotOf 2 = .ok (.iload_n 2, 1) := by decide +kernel
theorem dX11_pivotOf_3 : decode cX11_pivotOf 3 = .ok (.aload_n 0, 1) := by decide +kernel
theorem dX11_pivotOf_4 : decode cX11_pivotOf 4 = .ok (.getfield 117, 3) := by decide +kernel
theorem dX11_pivotOf_7 : decode cX11_pivotOf 7 = .ok (.if_icmp .ge 21, 3) := by decide +kernel
theorem dX11_pivotOf_10 : decode cX11_pivotOf 10 = .ok (.aload_n 0, 1) := by decide +kernel
theorem dX11_pivotOf_11 : decode cX11_pivotOf 11 = .ok (.getfield 33, 3) := by decide +kernel
theorem dX11_pivotOf_14 : decode cX11_pivotOf 14 = .ok (.iload_n 2, 1) := by decide +kernel
theorem dX11_pivotOf_15 : decode cX11_pivotOf 15 = .ok (.iaload, 1) := by decide +kernel
theorem dX11_pivotOf_16 : decode cX11_pivotOf 16 = .ok (.iload_n 1, 1) := by decide +kernel
theorem dX11_pivotOf_17 : decode cX11_pivotOf 17 = .ok (.if_icmp .ne 5, 3) := by decide +kernel
theorem dX11_pivotOf_20 : decode cX11_pivotOf 20 = .ok (.iload_n 2, 1) := by decide +kernel
theorem dX11_pivotOf_21 : decode cX11_pivotOf 21 = .ok (.ireturn, 1) := by decide +kernel
theorem dX11_pivotOf_22 : decode cX11_pivotOf 22 = .ok (.iinc 2 1, 3) := by decide +kernel
theorem dX11_pivotOf_25 : decode cX11_pivotOf 25 = .ok (.goto (-23), 3) := by decide +kernel
theorem dX11_pivotOf_28 : decode cX11_pivotOf 28 = .ok (.iconst (-1), 1) := by decide +kernel
theorem dX11_pivotOf_29 : decode cX11_pivotOf 29 = .ok (.ireturn, 1) := by decide +kernel
set_option maxRecDepth 20000 in
theorem ggX11_kindNow_X11_cell : GoodIn wsX11_kindNow wsX11_cell := goodIn_r _ [9] rfl rfl
set_option maxRecDepth 20000 in
theorem gX11_kindNow_X11_cell : GoodIn wsX11_kindNow (va_wsS RX11 89 yX11_cell wsX11_cell) := goodIn_app (goodIn_of _ (by decide +kernel)) ggX11_kindNow_X11_cell
theorem dX11_kindNow_0 : decode cX11_kindNow 0 = .ok (.iconst 0, 1) := by decide +kernel
theorem dX11_kindNow_1 : decode cX11_kindNow 1 = .ok (.istore_n 1, 1) := by decide +kernel
theorem dX11_kindNow_2 : decode cX11_kindNow 2 = .ok (.iload_n 1, 1) := by decide +kernel
theorem dX11_kindNow_3 : decode cX11_kindNow 3 = .ok (.aload_n 0, 1) := by decide +kernel
theorem dX11_kindNow_4 : decode cX11_kindNow 4 = .ok (.getfield 96, 3) := by decide +kernel
theorem dX11_kindNow_7 : decode cX11_kindNow 7 = .ok (.if_icmp .ge 69, 3) := by decide +kernel
theorem dX11_kindNow_10 : decode cX11_kindNow 10 = .ok (.iconst 0, 1) := by decide +kernel
theorem dX11_kindNow_11 : decode cX11_kindNow 11 = .ok (.istore_n 2, 1) := by decide +kernel
theorem dX11_kindNow_12 : decode cX11_kindNow 12 = .ok (.iconst 0, 1) := by decide +kernel
theorem dX11_kindNow_13 : decode cX11_kindNow 13 = .ok (.istore_n 3, 1) := by decide +kernel
theorem dX11_kindNow_14 : decode cX11_kindNow 14 = .ok (.iload_n 3, 1) := by decide +kernel
theorem dX11_kindNow_15 : decode cX11_kindNow 15 = .ok (.aload_n 0, 1) := by decide +kernel
theorem dX11_kindNow_16 : decode cX11_kindNow 16 = .ok (.getfield 117, 3) := by decide +kernel
theorem dX11_kindNow_19 : decode cX11_kindNow 19 = .ok (.if_icmp .ge 29, 3) := by decide +kernel
theorem dX11_kindNow_22 : decode cX11_kindNow 22 = .ok (.iload_n 2, 1) := by decide +kernel
theorem dX11_kindNow_23 : decode cX11_kindNow 23 = .ok (.ifCond .ne 13, 3) := by decide +kernel
theorem dX11_kindNow_26 : decode cX11_kindNow 26 = .ok (.aload_n 0, 1) := by decide +kernel
theorem dX11_kindNow_27 : decode cX11_kindNow 27 = .ok (.getfield 30, 3) := by decide +kernel
theorem dX11_kindNow_30 : decode cX11_kindNow 30 = .ok (.iload_n 3, 1) := by decide +kernel
theorem dX11_kindNow_31 : decode cX11_kindNow 31 = .ok (.iaload, 1) := by decide +kernel
theorem dX11_kindNow_32 : decode cX11_kindNow 32 = .ok (.iload_n 1, 1) := by decide +kernel
theorem dX11_kindNow_33 : decode cX11_kindNow 33 = .ok (.if_icmp .ne 7, 3) := by decide +kernel
theorem dX11_kindNow_36 : decode cX11_kindNow 36 = .ok (.iconst 1, 1) := by decide +kernel
theorem dX11_kindNow_37 : decode cX11_kindNow 37 = .ok (.goto 4, 3) := by decide +kernel
theorem dX11_kindNow_40 : decode cX11_kindNow 40 = .ok (.iconst 0, 1) := by decide +kernel
theorem dX11_kindNow_41 : decode cX11_kindNow 41 = .ok (.istore_n 2, 1) := by decide +kernel
theorem dX11_kindNow_42 : decode cX11_kindNow 42 = .ok (.iinc 3 1, 3) := by decide +kernel
theorem dX11_kindNow_45 : decode cX11_kindNow 45 = .ok (.goto (-31), 3) := by decide +kernel
theorem dX11_kindNow_48 : decode cX11_kindNow 48 = .ok (.iload_n 2, 1) := by decide +kernel
theorem dX11_kindNow_49 : decode cX11_kindNow 49 = .ok (.ifCond .ne 21, 3) := by decide +kernel
theorem dX11_kindNow_52 : decode cX11_kindNow 52 = .ok (.aload_n 0, 1) := by decide +kernel
theorem dX11_kindNow_53 : decode cX11_kindNow 53 = .ok (.getfield 24, 3) := by decide +kernel
theorem dX11_kindNow_56 : decode cX11_kindNow 56 = .ok (.iload_n 1, 1) := by decide +kernel
theorem dX11_kindNow_57 : decode cX11_kindNow 57 = .ok (.aload_n 0, 1) := by decide +kernel
theorem dX11_kindNow_58 : decode cX11_kindNow 58 = .ok (.getfield 93, 3) := by decide +kernel
theorem dX11_kindNow_61 : decode cX11_kindNow 61 = .ok (.invokestatic 89, 3) := by decide +kernel
theorem dX11_kindNow_64 : decode cX11_kindNow 64 = .ok (.iaload, 1) := by decide +kernel
theorem dX11_kindNow_65 : decode cX11_kindNow 65 = .ok (.ifCond .eq 5, 3) := by decide +kernel
theorem dX11_kindNow_68 : decode cX11_kindNow 68 = .ok (.iconst 0, 1) := by decide +kernel
theorem dX11_kindNow_69 : decode cX11_kindNow 69 = .ok (.ireturn, 1) := by decide +kernel
theorem dX11_kindNow_70 : decode cX11_kindNow 70 = .ok (.iinc 1 1, 3) := by decide +kernel
theorem dX11_kindNow_73 : decode cX11_kindNow 73 = .ok (.goto (-71), 3) := by decide +kernel
theorem dX11_kindNow_76 : decode cX11_kindNow 76 = .ok (.aload_n 0, 1) := by decide +kernel
theorem dX11_kindNow_77 : decode cX11_kindNow 77 = .ok (.getfield 117, 3) := by decide +kernel
theorem dX11_kindNow_80 : decode cX11_kindNow 80 = .ok (.aload_n 0, 1) := by decide +kernel
theorem dX11_kindNow_81 : decode cX11_kindNow 81 = .ok (.getfield 93, 3) := by decide +kernel
theorem dX11_kindNow_84 : decode cX11_kindNow 84 = .ok (.if_icmp .ne 7, 3) := by decide +kernel
theorem dX11_kindNow_87 : decode cX11_kindNow 87 = .ok (.iconst 1, 1) := by decide +kernel
theorem dX11_kindNow_88 : decode cX11_kindNow 88 = .ok (.goto 4, 3) := by decide +kernel
theorem dX11_kindNow_91 : decode cX11_kindNow 91 = .ok (.iconst 2, 1) := by decide +kernel
theorem dX11_kindNow_92 : decode cX11_kindNow 92 = .ok (.ireturn, 1) := by decide +kernel
set_option maxRecDepth 20000 in
theorem ggX11_solves_X11_solvesOne : GoodIn wsX11_solves wsX11_solvesOne := goodIn_r _ [9, 10, 11, 12, 13, 14, 3, 1, 2, 15, 16, 17, 18, 19, 8, 20, 21, 22, 23, 24, 25, 26, 27, 28, 29, 30, 31, 32, 33, 34, 35, 36, 37, 38, 39, 40, 41, 42, 43, 44, 45, 46, 47, 48, 49, 50, 51, 52, 53, 54, 55, 56, 57, 58, 59, 60, 61, 62, 63, 64, 65, 66, 67, 68, 69, 70, 71, 72, 73, 74, 75, 76, 77] rfl rfl
set_option maxRecDepth 20000 in
theorem gX11_solves_X11_solvesOne : GoodIn wsX11_solves (wsV RX11 161 RX11 yX11_solvesOne wsX11_solvesOne) := goodIn_app (goodIn_of _ (by decide +kernel)) ggX11_solves_X11_solvesOne
theorem dX11_solves_0 : decode cX11_solves 0 = .ok (.iconst 0, 1) := by decide +kernel
theorem dX11_solves_1 : decode cX11_solves 1 = .ok (.istore_n 2, 1) := by decide +kernel
theorem dX11_solves_2 : decode cX11_solves 2 = .ok (.iload_n 2, 1) := by decide +kernel
theorem dX11_solves_3 : decode cX11_solves 3 = .ok (.bipush 6, 2) := by decide +kernel
theorem dX11_solves_5 : decode cX11_solves 5 = .ok (.if_icmp .ge 39, 3) := by decide +kernel
theorem dX11_solves_8 : decode cX11_solves 8 = .ok (.aload_n 0, 1) := by decide +kernel
theorem dX11_solves_9 : decode cX11_solves 9 = .ok (.getfield 48, 3) := by decide +kernel
theorem dX11_solves_12 : decode cX11_solves 12 = .ok (.iload_n 2, 1) := by decide +kernel
theorem dX11_solves_13 : decode cX11_solves 13 = .ok (.iload_n 2, 1) := by decide +kernel
theorem dX11_solves_14 : decode cX11_solves 14 = .ok (.iload_n 1, 1) := by decide +kernel
theorem dX11_solves_15 : decode cX11_solves 15 = .ok (.if_icmp .ne 7, 3) := by decide +kernel
theorem dX11_solves_18 : decode cX11_solves 18 = .ok (.lconst 1, 1) := by decide +kernel
theorem dX11_solves_19 : decode cX11_solves 19 = .ok (.goto 4, 3) := by decide +kernel
theorem dX11_solves_22 : decode cX11_solves 22 = .ok (.lconst 0, 1) := by decide +kernel
theorem dX11_solves_23 : decode cX11_solves 23 = .ok (.lastore, 1) := by decide +kernel
theorem dX11_solves_24 : decode cX11_solves 24 = .ok (.aload_n 0, 1) := by decide +kernel
theorem dX11_solves_25 : decode cX11_solves 25 = .ok (.getfield 52, 3) := by decide +kernel
theorem dX11_solves_28 : decode cX11_solves 28 = .ok (.iload_n 2, 1) := by decide +kernel
theorem dX11_solves_29 : decode cX11_solves 29 = .ok (.lconst 1, 1) := by decide +kernel
theorem dX11_solves_30 : decode cX11_solves 30 = .ok (.lastore, 1) := by decide +kernel
theorem dX11_solves_31 : decode cX11_solves 31 = .ok (.aload_n 0, 1) := by decide +kernel
theorem dX11_solves_32 : decode cX11_solves 32 = .ok (.getfield 55, 3) := by decide +kernel
theorem dX11_solves_35 : decode cX11_solves 35 = .ok (.iload_n 2, 1) := by decide +kernel
theorem dX11_solves_36 : decode cX11_solves 36 = .ok (.iconst 0, 1) := by decide +kernel
theorem dX11_solves_37 : decode cX11_solves 37 = .ok (.bastore, 1) := by decide +kernel
theorem dX11_solves_38 : decode cX11_solves 38 = .ok (.iinc 2 1, 3) := by decide +kernel
theorem dX11_solves_41 : decode cX11_solves 41 = .ok (.goto (-39), 3) := by decide +kernel
theorem dX11_solves_44 : decode cX11_solves 44 = .ok (.aload_n 0, 1) := by decide +kernel
theorem dX11_solves_45 : decode cX11_solves 45 = .ok (.getfield 117, 3) := by decide +kernel
theorem dX11_solves_48 : decode cX11_solves 48 = .ok (.iconst 1, 1) := by decide +kernel
theorem dX11_solves_49 : decode cX11_solves 49 = .ok (.isub, 1) := by decide +kernel
theorem dX11_solves_50 : decode cX11_solves 50 = .ok (.istore_n 2, 1) := by decide +kernel
theorem dX11_solves_51 : decode cX11_solves 51 = .ok (.iload_n 2, 1) := by decide +kernel
theorem dX11_solves_52 : decode cX11_solves 52 = .ok (.ifCond .lt 24, 3) := by decide +kernel
theorem dX11_solves_55 : decode cX11_solves 55 = .ok (.aload_n 0, 1) := by decide +kernel
theorem dX11_solves_56 : decode cX11_solves 56 = .ok (.iload_n 2, 1) := by decide +kernel
theorem dX11_solves_57 : decode cX11_solves 57 = .ok (.iload_n 1, 1) := by decide +kernel
theorem dX11_solves_58 : decode cX11_solves 58 = .ok (.iconst (-1), 1) := by decide +kernel
theorem dX11_solves_59 : decode cX11_solves 59 = .ok (.if_icmp .eq 7, 3) := by decide +kernel
theorem dX11_solves_62 : decode cX11_solves 62 = .ok (.iconst 1, 1) := by decide +kernel
theorem dX11_solves_63 : decode cX11_solves 63 = .ok (.goto 4, 3) := by decide +kernel
theorem dX11_solves_66 : decode cX11_solves 66 = .ok (.iconst 0, 1) := by decide +kernel
theorem dX11_solves_67 : decode cX11_solves 67 = .ok (.invokevirtual 161, 3) := by decide +kernel
theorem dX11_solves_70 : decode cX11_solves 70 = .ok (.iinc 2 (-1), 3) := by decide +kernel
theorem dX11_solves_73 : decode cX11_solves 73 = .ok (.goto (-22), 3) := by decide +kernel
theorem dX11_solves_76 : decode cX11_solves 76 = .ok (.return_, 1) := by decide +kernel
set_option maxRecDepth 20000 in
theorem ggX11_solvesOne_X11_cell : GoodIn wsX11_solvesOne wsX11_cell := goodIn_r _ [15] rfl rfl
set_option maxRecDepth 20000 in
theorem gX11_solvesOne_X11_cell : GoodIn wsX11_solvesOne (va_wsS RX11 89 yX11_cell wsX11_cell) := goodIn_app (goodIn_of _ (by decide +kernel)) ggX11_solvesOne_X11_cell
set_option maxRecDepth 20000 in
theorem ggX11_solvesOne_X11_times : GoodIn wsX11_solvesOne wsX11_times := goodIn_r _ [19, 20, 21, 22, 14, 23, 10, 11, 24, 25, 9, 26, 27, 28, 37, 38, 39, 40, 41, 42, 43, 44, 45, 46, 47, 48, 49, 50, 51, 52, 53, 54, 55, 56, 57, 58, 59, 60, 61, 62, 63, 64, 65, 66, 67, 68, 69, 70, 71, 72] rfl rfl
set_option maxRecDepth 20000 in
theorem gX11_solvesOne_X11_times : GoodIn wsX11_solvesOne (wsV RX11 129 RX11 yX11_times wsX11_times) := goodIn_app (goodIn_of _ (by decide +kernel)) ggX11_solvesOne_X11_times
set_option maxRecDepth 20000 in
theorem ggX11_solvesOne_X11_plus : GoodIn wsX11_solvesOne wsX11_plus := goodIn_r _ [32, 20, 21, 22, 14, 23, 10, 11, 24, 25, 9, 26, 27, 28, 37, 38, 39, 40, 41, 42, 43, 44, 45, 46, 47, 48, 49, 50, 51, 52, 53, 54, 55, 56, 57, 58, 59, 60, 61, 62, 63, 64, 65, 66, 67, 68, 69, 70, 71, 72] rfl rfl
set_option maxRecDepth 20000 in
theorem gX11_solvesOne_X11_plus : GoodIn wsX11_solvesOne (wsV RX11 137 RX11 yX11_plus wsX11_plus) := goodIn_app (goodIn_of _ (by decide +kernel)) ggX11_solvesOne_X11_plus
set_option maxRecDepth 20000 in
theorem ggX11_solvesOne_X11_by : GoodIn wsX11_solvesOne wsX11_by := goodIn_r _ [36, 20, 21, 22, 14, 23, 10, 11, 24, 25, 9, 26, 27, 28, 37, 38, 39, 40, 41, 42, 43, 44, 45, 46, 47, 48, 49, 50, 51, 52, 53, 54, 55, 56, 57, 58, 59, 60, 61, 62, 63, 64, 65, 66, 67, 68, 69, 70, 71, 72] rfl rfl
set_option maxRecDepth 20000 in
theorem gX11_solvesOne_X11_by : GoodIn wsX11_solvesOne (wsV RX11 147 RX11 yX11_by wsX11_by) := goodIn_app (goodIn_of _ (by decide +kernel)) ggX11_solvesOne_X11_by
theorem dX11_solvesOne_0 : decode cX11_solvesOne 0 = .ok (.aload_n 0, 1) := by decide +kernel
theorem dX11_solvesOne_1 : decode cX11_solvesOne 1 = .ok (.getfield 30, 3) := by decide +kernel
theorem dX11_solvesOne_4 : decode cX11_solvesOne 4 = .ok (.iload_n 1, 1) := by decide +kernel
theorem dX11_solvesOne_5 : decode cX11_solvesOne 5 = .ok (.iaload, 1) := by decide +kernel
theorem dX11_solvesOne_6 : decode cX11_solvesOne 6 = .ok (.istore_n 3, 1) := by decide +kernel
theorem dX11_solvesOne_7 : decode cX11_solvesOne 7 = .ok (.aload_n 0, 1) := by decide +kernel
theorem dX11_solvesOne_8 : decode cX11_solvesOne 8 = .ok (.getfield 33, 3) := by decide +kernel
theorem dX11_solvesOne_11 : decode cX11_solvesOne 11 = .ok (.iload_n 1, 1) := by decide +kernel
theorem dX11_solvesOne_12 : decode cX11_solvesOne 12 = .ok (.iaload, 1) := by decide +kernel
theorem dX11_solvesOne_13 : decode cX11_solvesOne 13 = .ok (.istore 4, 2) := by decide +kernel
theorem dX11_solvesOne_15 : decode cX11_solvesOne 15 = .ok (.iload_n 2, 1) := by decide +kernel
theorem dX11_solvesOne_16 : decode cX11_solvesOne 16 = .ok (.ifCond .eq 7, 3) := by decide +kernel
theorem dX11_solvesOne_19 : decode cX11_solvesOne 19 = .ok (.lconst 0, 1) := by decide +kernel
theorem dX11_solvesOne_20 : decode cX11_solvesOne 20 = .ok (.goto 17, 3) := by decide +kernel
theorem dX11_solvesOne_23 : decode cX11_solvesOne 23 = .ok (.aload_n 0, 1) := by decide +kernel
theorem dX11_solvesOne_24 : decode cX11_solvesOne 24 = .ok (.getfield 24, 3) := by decide +kernel
theorem dX11_solvesOne_27 : decode cX11_solvesOne 27 = .ok (.iload_n 3, 1) := by decide +kernel
theorem dX11_solvesOne_28 : decode cX11_solvesOne 28 = .ok (.aload_n 0, 1) := by decide +kernel
theorem dX11_solvesOne_29 : decode cX11_solvesOne 29 = .ok (.getfield 93, 3) := by decide +kernel
theorem dX11_solvesOne_32 : decode cX11_solvesOne 32 = .ok (.invokestatic 89, 3) := by decide +kernel
theorem dX11_solvesOne_35 : decode cX11_solvesOne 35 = .ok (.iaload, 1) := by decide +kernel
theorem dX11_solvesOne_36 : decode cX11_solvesOne 36 = .ok (.i2l, 1) := by decide +kernel
theorem dX11_solvesOne_37 : decode cX11_solvesOne 37 = .ok (.lstore 5, 2) := by decide +kernel
theorem dX11_solvesOne_39 : decode cX11_solvesOne 39 = .ok (.iload_n 2, 1) := by decide +kernel
theorem dX11_solvesOne_40 : decode cX11_solvesOne 40 = .ok (.ifCond .eq 7, 3) := by decide +kernel
theorem dX11_solvesOne_43 : decode cX11_solvesOne 43 = .ok (.lconst 1, 1) := by decide +kernel
theorem dX11_solvesOne_44 : decode cX11_solvesOne 44 = .ok (.goto 17, 3) := by decide +kernel
theorem dX11_solvesOne_47 : decode cX11_solvesOne 47 = .ok (.aload_n 0, 1) := by decide +kernel
theorem dX11_solvesOne_48 : decode cX11_solvesOne 48 = .ok (.getfield 27, 3) := by decide +kernel
theorem dX11_solvesOne_51 : decode cX11_solvesOne 51 = .ok (.iload_n 3, 1) := by decide +kernel
theorem dX11_solvesOne_52 : decode cX11_solvesOne 52 = .ok (.aload_n 0, 1) := by decide +kernel
theorem dX11_solvesOne_53 : decode cX11_solvesOne 53 = .ok (.getfield 93, 3) := by decide +kernel
theorem dX11_solvesOne_56 : decode cX11_solvesOne 56 = .ok (.invokestatic 89, 3) := by decide +kernel
theorem dX11_solvesOne_59 : decode cX11_solvesOne 59 = .ok (.iaload, 1) := by decide +kernel
theorem dX11_solvesOne_60 : decode cX11_solvesOne 60 = .ok (.i2l, 1) := by decide +kernel
theorem dX11_solvesOne_61 : decode cX11_solvesOne 61 = .ok (.lstore 7, 2) := by decide +kernel
theorem dX11_solvesOne_63 : decode cX11_solvesOne 63 = .ok (.iconst 0, 1) := by decide +kernel
theorem dX11_solvesOne_64 : decode cX11_solvesOne 64 = .ok (.istore 9, 2) := by decide +kernel
theorem dX11_solvesOne_66 : decode cX11_solvesOne 66 = .ok (.iconst 0, 1) := by decide +kernel
theorem dX11_solvesOne_67 : decode cX11_solvesOne 67 = .ok (.istore 10, 2) := by decide +kernel
theorem dX11_solvesOne_69 : decode cX11_solvesOne 69 = .ok (.iload 10, 2) := by decide +kernel
theorem dX11_solvesOne_71 : decode cX11_solvesOne 71 = .ok (.aload_n 0, 1) := by decide +kernel
theorem dX11_solvesOne_72 : decode cX11_solvesOne 72 = .ok (.getfield 93, 3) := by decide +kernel
theorem dX11_solvesOne_75 : decode cX11_solvesOne 75 = .ok (.if_icmp .ge 164, 3) := by decide +kernel
theorem dX11_solvesOne_78 : decode cX11_solvesOne 78 = .ok (.iload 10, 2) := by decide +kernel
theorem dX11_solvesOne_80 : decode cX11_solvesOne 80 = .ok (.iload 4, 2) := by decide +kernel
theorem dX11_solvesOne_82 : decode cX11_solvesOne 82 = .ok (.if_icmp .eq 151, 3) := by decide +kernel
theorem dX11_solvesOne_85 : decode cX11_solvesOne 85 = .ok (.aload_n 0, 1) := by decide +kernel
theorem dX11_solvesOne_86 : decode cX11_solvesOne 86 = .ok (.getfield 24, 3) := by decide +kernel
theorem dX11_solvesOne_89 : decode cX11_solvesOne 89 = .ok (.iload_n 3, 1) := by decide +kernel
theorem dX11_solvesOne_90 : decode cX11_solvesOne 90 = .ok (.iload 10, 2) := by decide +kernel
theorem dX11_solvesOne_92 : decode cX11_solvesOne 92 = .ok (.invokestatic 89, 3) := by decide +kernel
theorem dX11_solvesOne_95 : decode cX11_solvesOne 95 = .ok (.iaload, 1) := by decide +kernel
theorem dX11_solvesOne_96 : decode cX11_solvesOne 96 = .ok (.ifCond .ne 6, 3) := by decide +kernel
theorem dX11_solvesOne_99 : decode cX11_solvesOne 99 = .ok (.goto 134, 3) := by decide +kernel
theorem dX11_solvesOne_102 : decode cX11_solvesOne 102 = .ok (.iload 9, 2) := by decide +kernel
theorem dX11_solvesOne_104 : decode cX11_solvesOne 104 = .ok (.ifCond .ne 13, 3) := by decide +kernel
theorem dX11_solvesOne_107 : decode cX11_solvesOne 107 = .ok (.aload_n 0, 1) := by decide +kernel
theorem dX11_solvesOne_108 : decode cX11_solvesOne 108 = .ok (.getfield 55, 3) := by decide +kernel
theorem dX11_solvesOne_111 : decode cX11_solvesOne 111 = .ok (.iload 10, 2) := by decide +kernel
theorem dX11_solvesOne_113 : decode cX11_solvesOne 113 = .ok (.baload, 1) := by decide +kernel
theorem dX11_solvesOne_114 : decode cX11_solvesOne 114 = .ok (.ifCond .eq 7, 3) := by decide +kernel
theorem dX11_solvesOne_117 : decode cX11_solvesOne 117 = .ok (.iconst 1, 1) := by decide +kernel
theorem dX11_solvesOne_118 : decode cX11_solvesOne 118 = .ok (.goto 4, 3) := by decide +kernel
theorem dX11_solvesOne_121 : decode cX11_solvesOne 121 = .ok (.iconst 0, 1) := by decide +kernel
theorem dX11_solvesOne_122 : decode cX11_solvesOne 122 = .ok (.istore 9, 2) := by decide +kernel
theorem dX11_solvesOne_124 : decode cX11_solvesOne 124 = .ok (.iload 9, 2) := by decide +kernel
theorem dX11_solvesOne_126 : decode cX11_solvesOne 126 = .ok (.ifCond .eq 6, 3) := by decide +kernel
theorem dX11_solvesOne_129 : decode cX11_solvesOne 129 = .ok (.goto 104, 3) := by decide +kernel
theorem dX11_solvesOne_132 : decode cX11_solvesOne 132 = .ok (.aload_n 0, 1) := by decide +kernel
theorem dX11_solvesOne_133 : decode cX11_solvesOne 133 = .ok (.aload_n 0, 1) := by decide +kernel
theorem dX11_solvesOne_134 : decode cX11_solvesOne 134 = .ok (.getfield 24, 3) := by decide +kernel
theorem dX11_solvesOne_137 : decode cX11_solvesOne 137 = .ok (.iload_n 3, 1) := by decide +kernel
theorem dX11_solvesOne_138 : decode cX11_solvesOne 138 = .ok (.iload 10, 2) := by decide +kernel
theorem dX11_solvesOne_140 : decode cX11_solvesOne 140 = .ok (.invokestatic 89, 3) := by decide +kernel
theorem dX11_solvesOne_143 : decode cX11_solvesOne 143 = .ok (.iaload, 1) := by decide +kernel
theorem dX11_solvesOne_144 : decode cX11_solvesOne 144 = .ok (.i2l, 1) := by decide +kernel
theorem dX11_solvesOne_145 : decode cX11_solvesOne 145 = .ok (.aload_n 0, 1) := by decide +kernel
theorem dX11_solvesOne_146 : decode cX11_solvesOne 146 = .ok (.getfield 27, 3) := by decide +kernel
theorem dX11_solvesOne_149 : decode cX11_solvesOne 149 = .ok (.iload_n 3, 1) := by decide +kernel
theorem dX11_solvesOne_150 : decode cX11_solvesOne 150 = .ok (.iload 10, 2) := by decide +kernel
theorem dX11_solvesOne_152 : decode cX11_solvesOne 152 = .ok (.invokestatic 89, 3) := by decide +kernel
theorem dX11_solvesOne_155 : decode cX11_solvesOne 155 = .ok (.iaload, 1) := by decide +kernel
theorem dX11_solvesOne_156 : decode cX11_solvesOne 156 = .ok (.i2l, 1) := by decide +kernel
theorem dX11_solvesOne_157 : decode cX11_solvesOne 157 = .ok (.aload_n 0, 1) := by decide +kernel
theorem dX11_solvesOne_158 : decode cX11_solvesOne 158 = .ok (.getfield 48, 3) := by decide +kernel
theorem dX11_solvesOne_161 : decode cX11_solvesOne 161 = .ok (.iload 10, 2) := by decide +kernel
theorem dX11_solvesOne_163 : decode cX11_solvesOne 163 = .ok (.laload, 1) := by decide +kernel
theorem dX11_solvesOne_164 : decode cX11_solvesOne 164 = .ok (.aload_n 0, 1) := by decide +kernel
theorem dX11_solvesOne_165 : decode cX11_solvesOne 165 = .ok (.getfield 52, 3) := by decide +kernel
theorem dX11_solvesOne_168 : decode cX11_solvesOne 168 = .ok (.iload 10, 2) := by decide +kernel
theorem dX11_solvesOne_170 : decode cX11_solvesOne 170 = .ok (.laload, 1) := by decide +kernel
theorem dX11_solvesOne_171 : decode cX11_solvesOne 171 = .ok (.invokevirtual 129, 3) := by decide +kernel
theorem dX11_solvesOne_174 : decode cX11_solvesOne 174 = .ok (.aload_n 0, 1) := by decide +kernel
theorem dX11_solvesOne_175 : decode cX11_solvesOne 175 = .ok (.getfield 77, 3) := by decide +kernel
theorem dX11_solvesOne_178 : decode cX11_solvesOne 178 = .ok (.istore 9, 2) := by decide +kernel
theorem dX11_solvesOne_180 : decode cX11_solvesOne 180 = .ok (.iload 9, 2) := by decide +kernel
theorem dX11_solvesOne_182 : decode cX11_solvesOne 182 = .ok (.ifCond .ne 20, 3) := by decide +kernel
theorem dX11_solvesOne_185 : decode cX11_solvesOne 185 = .ok (.aload_n 0, 1) := by decide +kernel
theorem dX11_solvesOne_186 : decode cX11_solvesOne 186 = .ok (.lload 5, 2) := by decide +kernel
theorem dX11_solvesOne_188 : decode cX11_solvesOne 188 = .ok (.lload 7, 2) := by decide +kernel
theorem dX11_solvesOne_190 : decode cX11_solvesOne 190 = .ok (.aload_n 0, 1) := by decide +kernel
theorem dX11_solvesOne_191 : decode cX11_solvesOne 191 = .ok (.getfield 66, 3) := by decide +kernel
theorem dX11_solvesOne_194 : decode cX11_solvesOne 194 = .ok (.lneg, 1) := by decide +kernel
theorem dX11_solvesOne_195 : decode cX11_solvesOne 195 = .ok (.aload_n 0, 1) := by decide +kernel
theorem dX11_solvesOne_196 : decode cX11_solvesOne 196 = .ok (.getfield 70, 3) := by decide +kernel
theorem dX11_solvesOne_199 : decode cX11_solvesOne 199 = .ok (.invokevirtual 137, 3) := by decide +kernel
theorem dX11_solvesOne_202 : decode cX11_solvesOne 202 = .ok (.iload 9, 2) := by decide +kernel
theorem dX11_solvesOne_204 : decode cX11_solvesOne 204 = .ok (.ifCond .ne 10, 3) := by decide +kernel
theorem dX11_solvesOne_207 : decode cX11_solvesOne 207 = .ok (.aload_n 0, 1) := by decide +kernel
theorem dX11_solvesOne_208 : decode cX11_solvesOne 208 = .ok (.getfield 77, 3) := by decide +kernel
theorem dX11_solvesOne_211 : decode cX11_solvesOne 211 = .ok (.ifCond .eq 7, 3) := by decide +kernel
theorem dX11_solvesOne_214 : decode cX11_solvesOne 214 = .ok (.iconst 1, 1) := by decide +kernel
theorem dX11_solvesOne_215 : decode cX11_solvesOne 215 = .ok (.goto 4, 3) := by decide +kernel
theorem dX11_solvesOne_218 : decode cX11_solvesOne 218 = .ok (.iconst 0, 1) := by decide +kernel
theorem dX11_solvesOne_219 : decode cX11_solvesOne 219 = .ok (.istore 9, 2) := by decide +kernel
theorem dX11_solvesOne_221 : decode cX11_solvesOne 221 = .ok (.aload_n 0, 1) := by decide +kernel
theorem dX11_solvesOne_222 : decode cX11_solvesOne 222 = .ok (.getfield 66, 3) := by decide +kernel
theorem dX11_solvesOne_225 : decode cX11_solvesOne 225 = .ok (.lstore 5, 2) := by decide +kernel
theorem dX11_solvesOne_227 : decode cX11_solvesOne 227 = .ok (.aload_n 0, 1) := by decide +kernel
theorem dX11_solvesOne_228 : decode cX11_solvesOne 228 = .ok (.getfield 70, 3) := by decide +kernel
theorem dX11_solvesOne_231 : decode cX11_solvesOne 231 = .ok (.lstore 7, 2) := by decide +kernel
theorem dX11_solvesOne_233 : decode cX11_solvesOne 233 = .ok (.iinc 10 1, 3) := by decide +kernel
theorem dX11_solvesOne_236 : decode cX11_solvesOne 236 = .ok (.goto (-167), 3) := by decide +kernel
theorem dX11_solvesOne_239 : decode cX11_solvesOne 239 = .ok (.iload 9, 2) := by decide +kernel
theorem dX11_solvesOne_241 : decode cX11_solvesOne 241 = .ok (.ifCond .ne 35, 3) := by decide +kernel
theorem dX11_solvesOne_244 : decode cX11_solvesOne 244 = .ok (.aload_n 0, 1) := by decide +kernel
theorem dX11_solvesOne_245 : decode cX11_solvesOne 245 = .ok (.lload 5, 2) := by decide +kernel
theorem dX11_solvesOne_247 : decode cX11_solvesOne 247 = .ok (.lload 7, 2) := by decide +kernel
theorem dX11_solvesOne_249 : decode cX11_solvesOne 249 = .ok (.aload_n 0, 1) := by decide +kernel
theorem dX11_solvesOne_250 : decode cX11_solvesOne 250 = .ok (.getfield 24, 3) := by decide +kernel
theorem dX11_solvesOne_253 : decode cX11_solvesOne 253 = .ok (.iload_n 3, 1) := by decide +kernel
theorem dX11_solvesOne_254 : decode cX11_solvesOne 254 = .ok (.iload 4, 2) := by decide +kernel
theorem dX11_solvesOne_256 : decode cX11_solvesOne 256 = .ok (.invokestatic 89, 3) := by decide +kernel
theorem dX11_solvesOne_259 : decode cX11_solvesOne 259 = .ok (.iaload, 1) := by decide +kernel
theorem dX11_solvesOne_260 : decode cX11_solvesOne 260 = .ok (.i2l, 1) := by decide +kernel
theorem dX11_solvesOne_261 : decode cX11_solvesOne 261 = .ok (.aload_n 0, 1) := by decide +kernel
theorem dX11_solvesOne_262 : decode cX11_solvesOne 262 = .ok (.getfield 27, 3) := by decide +kernel
theorem dX11_solvesOne_265 : decode cX11_solvesOne 265 = .ok (.iload_n 3, 1) := by decide +kernel
theorem dX11_solvesOne_266 : decode cX11_solvesOne 266 = .ok (.iload 4, 2) := by decide +kernel
theorem dX11_solvesOne_268 : decode cX11_solvesOne 268 = .ok (.invokestatic 89, 3) := by decide +kernel
theorem dX11_solvesOne_271 : decode cX11_solvesOne 271 = .ok (.iaload, 1) := by decide +kernel
theorem dX11_solvesOne_272 : decode cX11_solvesOne 272 = .ok (.i2l, 1) := by decide +kernel
theorem dX11_solvesOne_273 : decode cX11_solvesOne 273 = .ok (.invokevirtual 147, 3) := by decide +kernel
theorem dX11_solvesOne_276 : decode cX11_solvesOne 276 = .ok (.aload_n 0, 1) := by decide +kernel
theorem dX11_solvesOne_277 : decode cX11_solvesOne 277 = .ok (.getfield 55, 3) := by decide +kernel
theorem dX11_solvesOne_280 : decode cX11_solvesOne 280 = .ok (.iload 4, 2) := by decide +kernel
theorem dX11_solvesOne_282 : decode cX11_solvesOne 282 = .ok (.iload 9, 2) := by decide +kernel
theorem dX11_solvesOne_284 : decode cX11_solvesOne 284 = .ok (.ifCond .ne 10, 3) := by decide +kernel
theorem dX11_solvesOne_287 : decode cX11_solvesOne 287 = .ok (.aload_n 0, 1) := by decide +kernel
theorem dX11_solvesOne_288 : decode cX11_solvesOne 288 = .ok (.getfield 77, 3) := by decide +kernel
theorem dX11_solvesOne_291 : decode cX11_solvesOne 291 = .ok (.ifCond .eq 7, 3) := by decide +kernel
theorem dX11_solvesOne_294 : decode cX11_solvesOne 294 = .ok (.iconst 1, 1) := by decide +kernel
theorem dX11_solvesOne_295 : decode cX11_solvesOne 295 = .ok (.goto 4, 3) := by decide +kernel
theorem dX11_solvesOne_298 : decode cX11_solvesOne 298 = .ok (.iconst 0, 1) := by decide +kernel
theorem dX11_solvesOne_299 : decode cX11_solvesOne 299 = .ok (.bastore, 1) := by decide +kernel
theorem dX11_solvesOne_300 : decode cX11_solvesOne 300 = .ok (.aload_n 0, 1) := by decide +kernel
theorem dX11_solvesOne_301 : decode cX11_solvesOne 301 = .ok (.getfield 48, 3) := by decide +kernel
theorem dX11_solvesOne_304 : decode cX11_solvesOne 304 = .ok (.iload 4, 2) := by decide +kernel
theorem dX11_solvesOne_306 : decode cX11_solvesOne 306 = .ok (.aload_n 0, 1) := by decide +kernel
theorem dX11_solvesOne_307 : decode cX11_solvesOne 307 = .ok (.getfield 66, 3) := by decide +kernel
theorem dX11_solvesOne_310 : decode cX11_solvesOne 310 = .ok (.lastore, 1) := by decide +kernel
theorem dX11_solvesOne_311 : decode cX11_solvesOne 311 = .ok (.aload_n 0, 1) := by decide +kernel
theorem dX11_solvesOne_312 : decode cX11_solvesOne 312 = .ok (.getfield 52, 3) := by decide +kernel
theorem dX11_solvesOne_315 : decode cX11_solvesOne 315 = .ok (.iload 4, 2) := by decide +kernel
theorem dX11_solvesOne_317 : decode cX11_solvesOne 317 = .ok (.aload_n 0, 1) := by decide +kernel
theorem dX11_solvesOne_318 : decode cX11_solvesOne 318 = .ok (.getfield 70, 3) := by decide +kernel
theorem dX11_solvesOne_321 : decode cX11_solvesOne 321 = .ok (.lastore, 1) := by decide +kernel
theorem dX11_solvesOne_322 : decode cX11_solvesOne 322 = .ok (.return_, 1) := by decide +kernel
theorem dX11_tells_0 : decode cX11_tells 0 = .ok (.iload_n 1, 1) := by decide +kernel
theorem dX11_tells_1 : decode cX11_tells 1 = .ok (.ifCond .eq 10, 3) := by decide +kernel
theorem dX11_tells_4 : decode cX11_tells 4 = .ok (.aload_n 0, 1) := by decide +kernel
theorem dX11_tells_5 : decode cX11_tells 5 = .ok (.getfield 70, 3) := by decide +kernel
theorem dX11_tells_8 : decode cX11_tells 8 = .ok (.goto 7, 3) := by decide +kernel
theorem dX11_tells_11 : decode cX11_tells 11 = .ok (.aload_n 0, 1) := by decide +kernel
theorem dX11_tells_12 : decode cX11_tells 12 = .ok (.getfield 66, 3) := by decide +kernel
theorem dX11_tells_15 : decode cX11_tells 15 = .ok (.l2i, 1) := by decide +kernel
theorem dX11_tells_16 : decode cX11_tells 16 = .ok (.ireturn, 1) := by decide +kernel
theorem dX11_has_0 : decode cX11_has 0 = .ok (.aload_n 0, 1) := by decide +kernel
theorem dX11_has_1 : decode cX11_has 1 = .ok (.getfield 55, 3) := by decide +kernel
theorem dX11_has_4 : decode cX11_has 4 = .ok (.iload_n 1, 1) := by decide +kernel
theorem dX11_has_5 : decode cX11_has 5 = .ok (.baload, 1) := by decide +kernel
theorem dX11_has_6 : decode cX11_has 6 = .ok (.ifCond .eq 8, 3) := by decide +kernel
theorem dX11_has_9 : decode cX11_has 9 = .ok (.ldc 165, 2) := by decide +kernel
theorem dX11_has_11 : decode cX11_has 11 = .ok (.goto 23, 3) := by decide +kernel
theorem dX11_has_14 : decode cX11_has 14 = .ok (.iload_n 2, 1) := by decide +kernel
theorem dX11_has_15 : decode cX11_has 15 = .ok (.ifCond .eq 12, 3) := by decide +kernel
theorem dX11_has_18 : decode cX11_has 18 = .ok (.aload_n 0, 1) := by decide +kernel
theorem dX11_has_19 : decode cX11_has 19 = .ok (.getfield 52, 3) := by decide +kernel
theorem dX11_has_22 : decode cX11_has 22 = .ok (.iload_n 1, 1) := by decide +kernel
theorem dX11_has_23 : decode cX11_has 23 = .ok (.laload, 1) := by decide +kernel
theorem dX11_has_24 : decode cX11_has 24 = .ok (.goto 9, 3) := by decide +kernel
theorem dX11_has_27 : decode cX11_has 27 = .ok (.aload_n 0, 1) := by decide +kernel
theorem dX11_has_28 : decode cX11_has 28 = .ok (.getfield 48, 3) := by decide +kernel
theorem dX11_has_31 : decode cX11_has 31 = .ok (.iload_n 1, 1) := by decide +kernel
theorem dX11_has_32 : decode cX11_has 32 = .ok (.laload, 1) := by decide +kernel
theorem dX11_has_33 : decode cX11_has 33 = .ok (.l2i, 1) := by decide +kernel
theorem dX11_has_34 : decode cX11_has 34 = .ok (.ireturn, 1) := by decide +kernel
set_option maxRecDepth 20000 in
theorem ggX11_hasDeterminant_X11_goes : GoodIn wsX11_hasDeterminant wsX11_goes := goodIn_r _ [16, 2, 1, 17, 18, 4, 5, 19, 20, 21, 15, 22, 3, 11, 8, 23, 24, 25, 26, 27, 28, 29, 30, 31, 32, 33, 34, 35, 36, 37, 38, 39, 40, 41, 42, 43, 44, 45, 46, 47, 9, 48, 49, 50, 51, 52, 10, 6, 7, 53, 54, 55, 56, 57, 58, 59, 60, 61, 62, 63, 64, 65, 66, 67, 68, 69, 70, 71, 72, 73, 74, 75, 76, 77, 78, 79, 80, 81, 82, 83, 84, 85, 86, 87, 92, 93, 94, 95, 96, 97, 98, 99, 100, 101, 102, 103, 104, 105, 106, 107, 108, 109, 110, 111, 112, 113, 114, 115, 116, 117, 118, 119, 120, 121, 122, 123, 124, 125, 126, 127] rfl rfl
set_option maxRecDepth 20000 in
theorem gX11_hasDeterminant_X11_goes : GoodIn wsX11_hasDeterminant (wsV RX11 166 RX11 yX11_goes wsX11_goes) := goodIn_app (goodIn_of _ (by decide +kernel)) ggX11_hasDeterminant_X11_goes
set_option maxRecDepth 20000 in
theorem ggX11_hasDeterminant_X11_comes : GoodIn wsX11_hasDeterminant wsX11_comes := goodIn_r _ [60, 6, 7, 61, 62, 10, 63, 64, 15, 65, 92, 93, 94, 95, 96, 97, 98, 99, 100, 101, 102, 103, 104, 105, 106, 107, 108, 109, 110, 111, 112, 113, 114, 115, 116, 117, 118, 119, 120, 121, 122, 123, 124, 125, 126, 127] rfl rfl
set_option maxRecDepth 20000 in
theorem gX11_hasDeterminant_X11_comes : GoodIn wsX11_hasDeterminant (wsV RX11 81 RX11 yX11_comes wsX11_comes) := goodIn_app (goodIn_of _ (by decide +kernel)) ggX11_hasDeterminant_X11_comes
set_option maxRecDepth 20000 in
theorem ggX11_hasDeterminant_X11_cell : GoodIn wsX11_hasDeterminant wsX11_cell := goodIn_r _ [27] rfl rfl
set_option maxRecDepth 20000 in
theorem gX11_hasDeterminant_X11_cell : GoodIn wsX11_hasDeterminant (va_wsS RX11 89 yX11_cell wsX11_cell) := goodIn_app (goodIn_of _ (by decide +kernel)) ggX11_hasDeterminant_X11_cell
set_option maxRecDepth 20000 in
theorem ggX11_hasDeterminant_X11_times : GoodIn wsX11_hasDeterminant wsX11_times := goodIn_r _ [79, 57, 58, 59, 15, 60, 6, 7, 61, 62, 10, 63, 64, 65, 92, 93, 94, 95, 96, 97, 98, 99, 100, 101, 102, 103, 104, 105, 106, 107, 108, 109, 110, 111, 112, 113, 114, 115, 116, 117, 118, 119, 120, 121, 122, 123, 124, 125, 126, 127] rfl rfl
set_option maxRecDepth 20000 in
theorem gX11_hasDeterminant_X11_times : GoodIn wsX11_hasDeterminant (wsV RX11 129 RX11 yX11_times wsX11_times) := goodIn_app (goodIn_of _ (by decide +kernel)) ggX11_hasDeterminant_X11_times
set_option maxRecDepth 20000 in
theorem ggX11_hasDeterminant_X11_pivotOf : GoodIn wsX11_hasDeterminant wsX11_pivotOf := goodIn_r _ [91, 2, 5, 92, 93, 94, 95, 96, 97, 98, 99, 100, 101, 102, 103, 104, 105, 106, 107, 108, 109, 110, 111, 112, 113, 114, 115, 116, 117, 118, 119, 120, 121, 122, 123, 124, 125, 126, 127] rfl rfl
set_option maxRecDepth 20000 in
theorem gX11_hasDeterminant_X11_pivotOf : GoodIn wsX11_hasDeterminant (wsV RX11 169 RX11 yX11_pivotOf wsX11_pivotOf) := goodIn_app (goodIn_of _ (by decide +kernel)) ggX11_hasDeterminant_X11_pivotOf
theorem dX11_hasDeterminant_0 : decode cX11_hasDeterminant 0 = .ok (.aload_n 0, 1) := by decide +kernel
theorem dX11_hasDeterminant_1 : decode cX11_hasDeterminant 1 = .ok (.iconst 1, 1) := by decide +kernel
theorem dX11_hasDeterminant_2 : decode cX11_hasDeterminant 2 = .ok (.invokevirtual 166, 3) := by decide +kernel
theorem dX11_hasDeterminant_5 : decode cX11_hasDeterminant 5 = .ok (.aload_n 0, 1) := by decide +kernel
theorem dX11_hasDeterminant_6 : decode cX11_hasDeterminant 6 = .ok (.getfield 120, 3) := by decide +kernel
theorem dX11_hasDeterminant_9 : decode cX11_hasDeterminant 9 = .ok (.ifCond .eq 5, 3) := by decide +kernel
theorem dX11_hasDeterminant_12 : decode cX11_hasDeterminant 12 = .ok (.iconst 0, 1) := by decide +kernel
theorem dX11_hasDeterminant_13 : decode cX11_hasDeterminant 13 = .ok (.ireturn, 1) := by decide +kernel
theorem dX11_hasDeterminant_14 : decode cX11_hasDeterminant 14 = .ok (.aload_n 0, 1) := by decide +kernel
theorem dX11_hasDeterminant_15 : decode cX11_hasDeterminant 15 = .ok (.aload_n 0, 1) := by decide +kernel
theorem dX11_hasDeterminant_16 : decode cX11_hasDeterminant 16 = .ok (.getfield 117, 3) := by decide +kernel
theorem dX11_hasDeterminant_19 : decode cX11_hasDeterminant 19 = .ok (.aload_n 0, 1) := by decide +kernel
theorem dX11_hasDeterminant_20 : decode cX11_hasDeterminant 20 = .ok (.getfield 96, 3) := by decide +kernel
theorem dX11_hasDeterminant_23 : decode cX11_hasDeterminant 23 = .ok (.if_icmp .ge 7, 3) := by decide +kernel
theorem dX11_hasDeterminant_26 : decode cX11_hasDeterminant 26 = .ok (.lconst 0, 1) := by decide +kernel
theorem dX11_hasDeterminant_27 : decode cX11_hasDeterminant 27 = .ok (.goto 4, 3) := by decide +kernel
theorem dX11_hasDeterminant_30 : decode cX11_hasDeterminant 30 = .ok (.lconst 1, 1) := by decide +kernel
theorem dX11_hasDeterminant_31 : decode cX11_hasDeterminant 31 = .ok (.lconst 1, 1) := by decide +kernel
theorem dX11_hasDeterminant_32 : decode cX11_hasDeterminant 32 = .ok (.invokevirtual 81, 3) := by decide +kernel
theorem dX11_hasDeterminant_35 : decode cX11_hasDeterminant 35 = .ok (.aload_n 0, 1) := by decide +kernel
theorem dX11_hasDeterminant_36 : decode cX11_hasDeterminant 36 = .ok (.getfield 117, 3) := by decide +kernel
theorem dX11_hasDeterminant_39 : decode cX11_hasDeterminant 39 = .ok (.aload_n 0, 1) := by decide +kernel
theorem dX11_hasDeterminant_40 : decode cX11_hasDeterminant 40 = .ok (.getfield 96, 3) := by decide +kernel
theorem dX11_hasDeterminant_43 : decode cX11_hasDeterminant 43 = .ok (.if_icmp .ge 5, 3) := by decide +kernel
theorem dX11_hasDeterminant_46 : decode cX11_hasDeterminant 46 = .ok (.iconst 1, 1) := by decide +kernel
theorem dX11_hasDeterminant_47 : decode cX11_hasDeterminant 47 = .ok (.ireturn, 1) := by decide +kernel
theorem dX11_hasDeterminant_48 : decode cX11_hasDeterminant 48 = .ok (.iconst 0, 1) := by decide +kernel
theorem dX11_hasDeterminant_49 : decode cX11_hasDeterminant 49 = .ok (.istore_n 1, 1) := by decide +kernel
theorem dX11_hasDeterminant_50 : decode cX11_hasDeterminant 50 = .ok (.iload_n 1, 1) := by decide +kernel
theorem dX11_hasDeterminant_51 : decode cX11_hasDeterminant 51 = .ok (.aload_n 0, 1) := by decide +kernel
theorem dX11_hasDeterminant_52 : decode cX11_hasDeterminant 52 = .ok (.getfield 117, 3) := by decide +kernel
theorem dX11_hasDeterminant_55 : decode cX11_hasDeterminant 55 = .ok (.if_icmp .ge 60, 3) := by decide +kernel
theorem dX11_hasDeterminant_58 : decode cX11_hasDeterminant 58 = .ok (.aload_n 0, 1) := by decide +kernel
theorem dX11_hasDeterminant_59 : decode cX11_hasDeterminant 59 = .ok (.getfield 30, 3) := by decide +kernel
theorem dX11_hasDeterminant_62 : decode cX11_hasDeterminant 62 = .ok (.iload_n 1, 1) := by decide +kernel
theorem dX11_hasDeterminant_63 : decode cX11_hasDeterminant 63 = .ok (.iaload, 1) := by decide +kernel
theorem dX11_hasDeterminant_64 : decode cX11_hasDeterminant 64 = .ok (.aload_n 0, 1) := by decide +kernel
theorem dX11_hasDeterminant_65 : decode cX11_hasDeterminant 65 = .ok (.getfield 33, 3) := by decide +kernel
theorem dX11_hasDeterminant_68 : decode cX11_hasDeterminant 68 = .ok (.iload_n 1, 1) := by decide +kernel
theorem dX11_hasDeterminant_69 : decode cX11_hasDeterminant 69 = .ok (.iaload, 1) := by decide +kernel
theorem dX11_hasDeterminant_70 : decode cX11_hasDeterminant 70 = .ok (.invokestatic 89, 3) := by decide +kernel
theorem dX11_hasDeterminant_73 : decode cX11_hasDeterminant 73 = .ok (.istore_n 2, 1) := by decide +kernel
theorem dX11_hasDeterminant_74 : decode cX11_hasDeterminant 74 = .ok (.aload_n 0, 1) := by decide +kernel
theorem dX11_hasDeterminant_75 : decode cX11_hasDeterminant 75 = .ok (.aload_n 0, 1) := by decide +kernel
theorem dX11_hasDeterminant_76 : decode cX11_hasDeterminant 76 = .ok (.getfield 66, 3) := by decide +kernel
theorem dX11_hasDeterminant_79 : decode cX11_hasDeterminant 79 = .ok (.aload_n 0, 1) := by decide +kernel
theorem dX11_hasDeterminant_80 : decode cX11_hasDeterminant 80 = .ok (.getfield 70, 3) := by decide +kernel
theorem dX11_hasDeterminant_83 : decode cX11_hasDeterminant 83 = .ok (.aload_n 0, 1) := by decide +kernel
theorem dX11_hasDeterminant_84 : decode cX11_hasDeterminant 84 = .ok (.getfield 24, 3) := by decide +kernel
theorem dX11_hasDeterminant_87 : decode cX11_hasDeterminant 87 = .ok (.iload_n 2, 1) := by decide +kernel
theorem dX11_hasDeterminant_88 : decode cX11_hasDeterminant 88 = .ok (.iaload, 1) := by decide +kernel
theorem dX11_hasDeterminant_89 : decode cX11_hasDeterminant 89 = .ok (.i2l, 1) := by decide +kernel
theorem dX11_hasDeterminant_90 : decode cX11_hasDeterminant 90 = .ok (.aload_n 0, 1) := by decide +kernel
theorem dX11_hasDeterminant_91 : decode cX11_hasDeterminant 91 = .ok (.getfield 27, 3) := by decide +kernel
theorem dX11_hasDeterminant_94 : decode cX11_hasDeterminant 94 = .ok (.iload_n 2, 1) := by decide +kernel
theorem dX11_hasDeterminant_95 : decode cX11_hasDeterminant 95 = .ok (.iaload, 1) := by decide +kernel
theorem dX11_hasDeterminant_96 : decode cX11_hasDeterminant 96 = .ok (.i2l, 1) := by decide +kernel
theorem dX11_hasDeterminant_97 : decode cX11_hasDeterminant 97 = .ok (.invokevirtual 129, 3) := by decide +kernel
theorem dX11_hasDeterminant_100 : decode cX11_hasDeterminant 100 = .ok (.aload_n 0, 1) := by decide +kernel
theorem dX11_hasDeterminant_101 : decode cX11_hasDeterminant 101 = .ok (.getfield 77, 3) := by decide +kernel
theorem dX11_hasDeterminant_104 : decode cX11_hasDeterminant 104 = .ok (.ifCond .eq 5, 3) := by decide +kernel
theorem dX11_hasDeterminant_107 : decode cX11_hasDeterminant 107 = .ok (.iconst 0, 1) := by decide +kernel
theorem dX11_hasDeterminant_108 : decode cX11_hasDeterminant 108 = .ok (.ireturn, 1) := by decide +kernel
theorem dX11_hasDeterminant_109 : decode cX11_hasDeterminant 109 = .ok (.iinc 1 1, 3) := by decide +kernel
theorem dX11_hasDeterminant_112 : decode cX11_hasDeterminant 112 = .ok (.goto (-62), 3) := by decide +kernel
theorem dX11_hasDeterminant_115 : decode cX11_hasDeterminant 115 = .ok (.iconst 0, 1) := by decide +kernel
theorem dX11_hasDeterminant_116 : decode cX11_hasDeterminant 116 = .ok (.istore_n 1, 1) := by decide +kernel
theorem dX11_hasDeterminant_117 : decode cX11_hasDeterminant 117 = .ok (.iconst 0, 1) := by decide +kernel
theorem dX11_hasDeterminant_118 : decode cX11_hasDeterminant 118 = .ok (.istore_n 2, 1) := by decide +kernel
theorem dX11_hasDeterminant_119 : decode cX11_hasDeterminant 119 = .ok (.iload_n 2, 1) := by decide +kernel
theorem dX11_hasDeterminant_120 : decode cX11_hasDeterminant 120 = .ok (.aload_n 0, 1) := by decide +kernel
theorem dX11_hasDeterminant_121 : decode cX11_hasDeterminant 121 = .ok (.getfield 93, 3) := by decide +kernel
theorem dX11_hasDeterminant_124 : decode cX11_hasDeterminant 124 = .ok (.if_icmp .ge 58, 3) := by decide +kernel
theorem dX11_hasDeterminant_127 : decode cX11_hasDeterminant 127 = .ok (.iload_n 2, 1) := by decide +kernel
theorem dX11_hasDeterminant_128 : decode cX11_hasDeterminant 128 = .ok (.iconst 1, 1) := by decide +kernel
theorem dX11_hasDeterminant_129 : decode cX11_hasDeterminant 129 = .ok (.iadd, 1) := by decide +kernel
theorem dX11_hasDeterminant_130 : decode cX11_hasDeterminant 130 = .ok (.istore_n 3, 1) := by decide +kernel
theorem dX11_hasDeterminant_131 : decode cX11_hasDeterminant 131 = .ok (.iload_n 3, 1) := by decide +kernel
theorem dX11_hasDeterminant_132 : decode cX11_hasDeterminant 132 = .ok (.aload_n 0, 1) := by decide +kernel
theorem dX11_hasDeterminant_133 : decode cX11_hasDeterminant 133 = .ok (.getfield 93, 3) := by decide +kernel
theorem dX11_hasDeterminant_136 : decode cX11_hasDeterminant 136 = .ok (.if_icmp .ge 40, 3) := by decide +kernel
theorem dX11_hasDeterminant_139 : decode cX11_hasDeterminant 139 = .ok (.iload_n 1, 1) := by decide +kernel
theorem dX11_hasDeterminant_140 : decode cX11_hasDeterminant 140 = .ok (.aload_n 0, 1) := by decide +kernel
theorem dX11_hasDeterminant_141 : decode cX11_hasDeterminant 141 = .ok (.getfield 30, 3) := by decide +kernel
theorem dX11_hasDeterminant_144 : decode cX11_hasDeterminant 144 = .ok (.aload_n 0, 1) := by decide +kernel
theorem dX11_hasDeterminant_145 : decode cX11_hasDeterminant 145 = .ok (.iload_n 2, 1) := by decide +kernel
theorem dX11_hasDeterminant_146 : decode cX11_hasDeterminant 146 = .ok (.invokevirtual 169, 3) := by decide +kernel
theorem dX11_hasDeterminant_149 : decode cX11_hasDeterminant 149 = .ok (.iaload, 1) := by decide +kernel
theorem dX11_hasDeterminant_150 : decode cX11_hasDeterminant 150 = .ok (.aload_n 0, 1) := by decide +kernel
theorem dX11_hasDeterminant_151 : decode cX11_hasDeterminant 151 = .ok (.getfield 30, 3) := by decide +kernel
theorem dX11_hasDeterminant_154 : decode cX11_hasDeterminant 154 = .ok (.aload_n 0, 1) := by decide +kernel
theorem dX11_hasDeterminant_155 : decode cX11_hasDeterminant 155 = .ok (.iload_n 3, 1) := by decide +kernel
theorem dX11_hasDeterminant_156 : decode cX11_hasDeterminant 156 = .ok (.invokevirtual 169, 3) := by decide +kernel
theorem dX11_hasDeterminant_159 : decode cX11_hasDeterminant 159 = .ok (.iaload, 1) := by decide +kernel
theorem dX11_hasDeterminant_160 : decode cX11_hasDeterminant 160 = .ok (.if_icmp .le 7, 3) := by decide +kernel
theorem dX11_hasDeterminant_163 : decode cX11_hasDeterminant 163 = .ok (.iconst 1, 1) := by decide +kernel
theorem dX11_hasDeterminant_164 : decode cX11_hasDeterminant 164 = .ok (.goto 4, 3) := by decide +kernel
theorem dX11_hasDeterminant_167 : decode cX11_hasDeterminant 167 = .ok (.iconst 0, 1) := by decide +kernel
theorem dX11_hasDeterminant_168 : decode cX11_hasDeterminant 168 = .ok (.iadd, 1) := by decide +kernel
theorem dX11_hasDeterminant_169 : decode cX11_hasDeterminant 169 = .ok (.istore_n 1, 1) := by decide +kernel
theorem dX11_hasDeterminant_170 : decode cX11_hasDeterminant 170 = .ok (.iinc 3 1, 3) := by decide +kernel
theorem dX11_hasDeterminant_173 : decode cX11_hasDeterminant 173 = .ok (.goto (-42), 3) := by decide +kernel
theorem dX11_hasDeterminant_176 : decode cX11_hasDeterminant 176 = .ok (.iinc 2 1, 3) := by decide +kernel
theorem dX11_hasDeterminant_179 : decode cX11_hasDeterminant 179 = .ok (.goto (-60), 3) := by decide +kernel
theorem dX11_hasDeterminant_182 : decode cX11_hasDeterminant 182 = .ok (.aload_n 0, 1) := by decide +kernel
theorem dX11_hasDeterminant_183 : decode cX11_hasDeterminant 183 = .ok (.iload_n 1, 1) := by decide +kernel
theorem dX11_hasDeterminant_184 : decode cX11_hasDeterminant 184 = .ok (.iconst 2, 1) := by decide +kernel
theorem dX11_hasDeterminant_185 : decode cX11_hasDeterminant 185 = .ok (.irem, 1) := by decide +kernel
theorem dX11_hasDeterminant_186 : decode cX11_hasDeterminant 186 = .ok (.iconst 1, 1) := by decide +kernel
theorem dX11_hasDeterminant_187 : decode cX11_hasDeterminant 187 = .ok (.if_icmp .ne 11, 3) := by decide +kernel
theorem dX11_hasDeterminant_190 : decode cX11_hasDeterminant 190 = .ok (.aload_n 0, 1) := by decide +kernel
theorem dX11_hasDeterminant_191 : decode cX11_hasDeterminant 191 = .ok (.getfield 66, 3) := by decide +kernel
theorem dX11_hasDeterminant_194 : decode cX11_hasDeterminant 194 = .ok (.lneg, 1) := by decide +kernel
theorem dX11_hasDeterminant_195 : decode cX11_hasDeterminant 195 = .ok (.goto 7, 3) := by decide +kernel
theorem dX11_hasDeterminant_198 : decode cX11_hasDeterminant 198 = .ok (.aload_n 0, 1) := by decide +kernel
theorem dX11_hasDeterminant_199 : decode cX11_hasDeterminant 199 = .ok (.getfield 66, 3) := by decide +kernel
theorem dX11_hasDeterminant_202 : decode cX11_hasDeterminant 202 = .ok (.putfield 66, 3) := by decide +kernel
theorem dX11_hasDeterminant_205 : decode cX11_hasDeterminant 205 = .ok (.iconst 1, 1) := by decide +kernel
theorem dX11_hasDeterminant_206 : decode cX11_hasDeterminant 206 = .ok (.ireturn, 1) := by decide +kernel
set_option maxRecDepth 20000 in
theorem ggX11_keeps_X11_copies : GoodIn wsX11_keeps wsX11_copies := goodIn_r _ [6, 7, 8, 9, 10, 11, 12, 13, 14, 15, 16, 17, 18, 19, 20, 21, 22, 23, 24, 25, 26, 27, 28, 29, 30, 31, 32, 33, 34, 35, 36, 37, 38, 39, 40, 41, 42, 43] rfl rfl
set_option maxRecDepth 20000 in
theorem gX11_keeps_X11_copies : GoodIn wsX11_keeps (wsV RX11 175 RX11 yX11_copies wsX11_copies) := goodIn_app (goodIn_of _ (by decide +kernel)) ggX11_keeps_X11_copies
theorem dX11_keeps_0 : decode cX11_keeps 0 = .ok (.aload_n 0, 1) := by decide +kernel
theorem dX11_keeps_1 : decode cX11_keeps 1 = .ok (.getfield 172, 3) := by decide +kernel
theorem dX11_keeps_4 : decode cX11_keeps 4 = .ok (.bipush 20, 2) := by decide +kernel
theorem dX11_keeps_6 : decode cX11_keeps 6 = .ok (.if_icmp .ne 26, 3) := by decide +kernel
theorem dX11_keeps_9 : decode cX11_keeps 9 = .ok (.aload_n 0, 1) := by decide +kernel
theorem dX11_keeps_10 : decode cX11_keeps 10 = .ok (.sipush 261, 3) := by decide +kernel
theorem dX11_keeps_13 : decode cX11_keeps 13 = .ok (.sipush 175, 3) := by decide +kernel
theorem dX11_keeps_16 : decode cX11_keeps 16 = .ok (.sipush 1634, 3) := by decide +kernel
theorem dX11_keeps_19 : decode cX11_keeps 19 = .ok (.invokevirtual 175, 3) := by decide +kernel
theorem dX11_keeps_22 : decode cX11_keeps 22 = .ok (.aload_n 0, 1) := by decide +kernel
theorem dX11_keeps_23 : decode cX11_keeps 23 = .ok (.dup, 1) := by decide +kernel
theorem dX11_keeps_24 : decode cX11_keeps 24 = .ok (.getfield 172, 3) := by decide +kernel
theorem dX11_keeps_27 : decode cX11_keeps 27 = .ok (.iconst 1, 1) := by decide +kernel
theorem dX11_keeps_28 : decode cX11_keeps 28 = .ok (.isub, 1) := by decide +kernel
theorem dX11_keeps_29 : decode cX11_keeps 29 = .ok (.putfield 172, 3) := by decide +kernel
theorem dX11_keeps_32 : decode cX11_keeps 32 = .ok (.aload_n 0, 1) := by decide +kernel
theorem dX11_keeps_33 : decode cX11_keeps 33 = .ok (.iconst 0, 1) := by decide +kernel
theorem dX11_keeps_34 : decode cX11_keeps 34 = .ok (.sipush 175, 3) := by decide +kernel
theorem dX11_keeps_37 : decode cX11_keeps 37 = .ok (.bipush 86, 2) := by decide +kernel
theorem dX11_keeps_39 : decode cX11_keeps 39 = .ok (.aload_n 0, 1) := by decide +kernel
theorem dX11_keeps_40 : decode cX11_keeps 40 = .ok (.getfield 172, 3) := by decide +kernel
theorem dX11_keeps_43 : decode cX11_keeps 43 = .ok (.imul, 1) := by decide +kernel
theorem dX11_keeps_44 : decode cX11_keeps 44 = .ok (.iadd, 1) := by decide +kernel
theorem dX11_keeps_45 : decode cX11_keeps 45 = .ok (.bipush 86, 2) := by decide +kernel
theorem dX11_keeps_47 : decode cX11_keeps 47 = .ok (.invokevirtual 175, 3) := by decide +kernel
theorem dX11_keeps_50 : decode cX11_keeps 50 = .ok (.aload_n 0, 1) := by decide +kernel
theorem dX11_keeps_51 : decode cX11_keeps 51 = .ok (.dup, 1) := by decide +kernel
theorem dX11_keeps_52 : decode cX11_keeps 52 = .ok (.getfield 172, 3) := by decide +kernel
theorem dX11_keeps_55 : decode cX11_keeps 55 = .ok (.iconst 1, 1) := by decide +kernel
theorem dX11_keeps_56 : decode cX11_keeps 56 = .ok (.iadd, 1) := by decide +kernel
theorem dX11_keeps_57 : decode cX11_keeps 57 = .ok (.putfield 172, 3) := by decide +kernel
theorem dX11_keeps_60 : decode cX11_keeps 60 = .ok (.return_, 1) := by decide +kernel
set_option maxRecDepth 20000 in
theorem ggX11_isRow_X11_isIn : GoodIn wsX11_isRow wsX11_isIn := goodIn_r _ [5] rfl rfl
set_option maxRecDepth 20000 in
theorem gX11_isRow_X11_isIn : GoodIn wsX11_isRow (va_wsS RX11 85 yX11_isIn wsX11_isIn) := goodIn_app (goodIn_of _ (by decide +kernel)) ggX11_isRow_X11_isIn
theorem dX11_isRow_0 : decode cX11_isRow 0 = .ok (.iload_n 1, 1) := by decide +kernel
theorem dX11_isRow_1 : decode cX11_isRow 1 = .ok (.iconst 0, 1) := by decide +kernel
theorem dX11_isRow_2 : decode cX11_isRow 2 = .ok (.aload_n 0, 1) := by decide +kernel
theorem dX11_isRow_3 : decode cX11_isRow 3 = .ok (.getfield 96, 3) := by decide +kernel
theorem dX11_isRow_6 : decode cX11_isRow 6 = .ok (.iconst 1, 1) := by decide +kernel
theorem dX11_isRow_7 : decode cX11_isRow 7 = .ok (.isub, 1) := by decide +kernel
theorem dX11_isRow_8 : decode cX11_isRow 8 = .ok (.invokestatic 85, 3) := by decide +kernel
theorem dX11_isRow_11 : decode cX11_isRow 11 = .ok (.ireturn, 1) := by decide +kernel
set_option maxRecDepth 20000 in
theorem ggX11_isPlace_X11_isRow : GoodIn wsX11_isPlace wsX11_isRow := goodIn_r _ [6, 7, 8, 9, 5, 10, 11, 12, 13, 14, 15, 16, 17, 18, 19, 20, 21, 22, 23, 24, 25, 26, 27, 28, 29, 30, 31, 32, 33, 34, 35, 36, 37, 38, 39, 40, 41, 42, 43, 44, 45, 46] rfl rfl
set_option maxRecDepth 20000 in
theorem gX11_isPlace_X11_isRow : GoodIn wsX11_isPlace (wsV RX11 178 RX11 yX11_isRow wsX11_isRow) := goodIn_app (goodIn_of _ (by decide +kernel)) ggX11_isPlace_X11_isRow
set_option maxRecDepth 20000 in
theorem ggX11_isPlace_X11_isIn : GoodIn wsX11_isPlace wsX11_isIn := goodIn_r _ [10] rfl rfl
set_option maxRecDepth 20000 in
theorem gX11_isPlace_X11_isIn : GoodIn wsX11_isPlace (va_wsS RX11 85 yX11_isIn wsX11_isIn) := goodIn_app (goodIn_of _ (by decide +kernel)) ggX11_isPlace_X11_isIn
theorem dX11_isPlace_0 : decode cX11_isPlace 0 = .ok (.aload_n 0, 1) := by decide +kernel
theorem dX11_isPlace_1 : decode cX11_isPlace 1 = .ok (.iload_n 1, 1) := by decide +kernel
theorem dX11_isPlace_2 : decode cX11_isPlace 2 = .ok (.invokevirtual 178, 3) := by decide +kernel
theorem dX11_isPlace_5 : decode cX11_isPlace 5 = .ok (.ifCond .eq 19, 3) := by decide +kernel
theorem dX11_isPlace_8 : decode cX11_isPlace 8 = .ok (.iload_n 2, 1) := by decide +kernel
theorem dX11_isPlace_9 : decode cX11_isPlace 9 = .ok (.iconst 0, 1) := by decide +kernel
theorem dX11_isPlace_10 : decode cX11_isPlace 10 = .ok (.aload_n 0, 1) := by decide +kernel
theorem dX11_isPlace_11 : decode cX11_isPlace 11 = .ok (.getfield 93, 3) := by decide +kernel
theorem dX11_isPlace_14 : decode cX11_isPlace 14 = .ok (.invokestatic 85, 3) := by decide +kernel
theorem dX11_isPlace_17 : decode cX11_isPlace 17 = .ok (.ifCond .eq 7, 3) := by decide +kernel
theorem dX11_isPlace_20 : decode cX11_isPlace 20 = .ok (.iconst 1, 1) := by decide +kernel
theorem dX11_isPlace_21 : decode cX11_isPlace 21 = .ok (.goto 4, 3) := by decide +kernel
theorem dX11_isPlace_24 : decode cX11_isPlace 24 = .ok (.iconst 0, 1) := by decide +kernel
theorem dX11_isPlace_25 : decode cX11_isPlace 25 = .ok (.ireturn, 1) := by decide +kernel
set_option maxRecDepth 20000 in
theorem ggX11_isNull_X11_cell : GoodIn wsX11_isNull wsX11_cell := goodIn_r _ [6] rfl rfl
set_option maxRecDepth 20000 in
theorem gX11_isNull_X11_cell : GoodIn wsX11_isNull (va_wsS RX11 89 yX11_cell wsX11_cell) := goodIn_app (goodIn_of _ (by decide +kernel)) ggX11_isNull_X11_cell
theorem dX11_isNull_0 : decode cX11_isNull 0 = .ok (.iconst 0, 1) := by decide +kernel
theorem dX11_isNull_1 : decode cX11_isNull 1 = .ok (.istore_n 2, 1) := by decide +kernel
theorem dX11_isNull_2 : decode cX11_isNull 2 = .ok (.iload_n 2, 1) := by decide +kernel
theorem dX11_isNull_3 : decode cX11_isNull 3 = .ok (.aload_n 0, 1) := by decide +kernel
theorem dX11_isNull_4 : decode cX11_isNull 4 = .ok (.getfield 93, 3) := by decide +kernel
theorem dX11_isNull_7 : decode cX11_isNull 7 = .ok (.if_icmp .gt 24, 3) := by decide +kernel
theorem dX11_isNull_10 : decode cX11_isNull 10 = .ok (.aload_n 0, 1) := by decide +kernel
theorem dX11_isNull_11 : decode cX11_isNull 11 = .ok (.getfield 24, 3) := by decide +kernel
theorem dX11_isNull_14 : decode cX11_isNull 14 = .ok (.iload_n 1, 1) := by decide +kernel
theorem dX11_isNull_15 : decode cX11_isNull 15 = .ok (.iload_n 2, 1) := by decide +kernel
theorem dX11_isNull_16 : decode cX11_isNull 16 = .ok (.invokestatic 89, 3) := by decide +kernel
theorem dX11_isNull_19 : decode cX11_isNull 19 = .ok (.iaload, 1) := by decide +kernel
theorem dX11_isNull_20 : decode cX11_isNull 20 = .ok (.ifCond .eq 5, 3) := by decide +kernel
theorem dX11_isNull_23 : decode cX11_isNull 23 = .ok (.iconst 0, 1) := by decide +kernel
theorem dX11_isNull_24 : decode cX11_isNull 24 = .ok (.ireturn, 1) := by decide +kernel
theorem dX11_isNull_25 : decode cX11_isNull 25 = .ok (.iinc 2 1, 3) := by decide +kernel
theorem dX11_isNull_28 : decode cX11_isNull 28 = .ok (.goto (-26), 3) := by decide +kernel
theorem dX11_isNull_31 : decode cX11_isNull 31 = .ok (.iconst 1, 1) := by decide +kernel
theorem dX11_isNull_32 : decode cX11_isNull 32 = .ok (.ireturn, 1) := by decide +kernel
set_option maxRecDepth 20000 in
theorem ggX11_sets_X11_isPlace : GoodIn wsX11_sets wsX11_isPlace := goodIn_r _ [9, 10, 11, 12, 13, 8, 14, 15, 16, 17, 18, 39, 40, 41, 42, 43, 44, 45, 46, 47, 48, 49, 50, 51, 52, 53, 54, 55, 56, 57, 58, 59, 60, 61, 62, 63, 64, 65, 66, 67, 68, 69, 70, 71, 72, 73, 74] rfl rfl
set_option maxRecDepth 20000 in
theorem gX11_sets_X11_isPlace : GoodIn wsX11_sets (wsV RX11 181 RX11 yX11_isPlace wsX11_isPlace) := goodIn_app (goodIn_of _ (by decide +kernel)) ggX11_sets_X11_isPlace
set_option maxRecDepth 20000 in
theorem ggX11_sets_X11_isTold : GoodIn wsX11_sets wsX11_isTold := goodIn_r _ [21, 16, 17, 8, 18] rfl rfl
set_option maxRecDepth 20000 in
theorem gX11_sets_X11_isTold : GoodIn wsX11_sets (va_wsS RX11 184 yX11_isTold wsX11_isTold) := goodIn_app (goodIn_of _ (by decide +kernel)) ggX11_sets_X11_isTold
set_option maxRecDepth 20000 in
theorem ggX11_sets_X11_comes : GoodIn wsX11_sets wsX11_comes := goodIn_r _ [25, 2, 4, 26, 27, 28, 29, 30, 8, 31, 39, 40, 41, 42, 43, 44, 45, 46, 47, 48, 49, 50, 51, 52, 53, 54, 55, 56, 57, 58, 59, 60, 61, 62, 63, 64, 65, 66, 67, 68, 69, 70, 71, 72, 73, 74] rfl rfl
set_option maxRecDepth 20000 in
theorem gX11_sets_X11_comes : GoodIn wsX11_sets (wsV RX11 81 RX11 yX11_comes wsX11_comes) := goodIn_app (goodIn_of _ (by decide +kernel)) ggX11_sets_X11_comes
set_option maxRecDepth 20000 in
theorem ggX11_sets_X11_cell : GoodIn wsX11_sets wsX11_cell := goodIn_r _ [34] rfl rfl
set_option maxRecDepth 20000 in
theorem gX11_sets_X11_cell : GoodIn wsX11_sets (va_wsS RX11 89 yX11_cell wsX11_cell) := goodIn_app (goodIn_of _ (by decide +kernel)) ggX11_sets_X11_cell
set_option maxRecDepth 20000 in
theorem ggX11_sets_X11_laysCell : GoodIn wsX11_sets wsX11_laysCell := goodIn_r _ [38, 1, 3, 32, 33, 8, 34, 39, 40, 41, 42, 43, 44, 45, 46, 47, 48, 49, 50, 51, 52, 53, 54, 55, 56, 57, 58, 59, 60, 61, 62, 63, 64, 65, 66, 67, 68, 69, 70, 71, 72, 73, 74] rfl rfl
set_option maxRecDepth 20000 in
theorem gX11_sets_X11_laysCell : GoodIn wsX11_sets (wsV RX11 143 RX11 yX11_laysCell wsX11_laysCell) := goodIn_app (goodIn_of _ (by decide +kernel)) ggX11_sets_X11_laysCell
theorem dX11_sets_0 : decode cX11_sets 0 = .ok (.aload_n 0, 1) := by decide +kernel
theorem dX11_sets_1 : decode cX11_sets 1 = .ok (.iload_n 1, 1) := by decide +kernel
theorem dX11_sets_2 : decode cX11_sets 2 = .ok (.iload_n 2, 1) := by decide +kernel
theorem dX11_sets_3 : decode cX11_sets 3 = .ok (.invokevirtual 181, 3) := by decide +kernel
theorem dX11_sets_6 : decode cX11_sets 6 = .ok (.ifCond .eq 12, 3) := by decide +kernel
theorem dX11_sets_9 : decode cX11_sets 9 = .ok (.iload_n 3, 1) := by decide +kernel
theorem dX11_sets_10 : decode cX11_sets 10 = .ok (.iload 4, 2) := by decide +kernel
theorem dX11_sets_12 : decode cX11_sets 12 = .ok (.invokestatic 184, 3) := by decide +kernel
theorem dX11_sets_15 : decode cX11_sets 15 = .ok (.ifCond .ne 5, 3) := by decide +kernel
theorem dX11_sets_18 : decode cX11_sets 18 = .ok (.iconst 1, 1) := by decide +kernel
theorem dX11_sets_19 : decode cX11_sets 19 = .ok (.ireturn, 1) := by decide +kernel
theorem dX11_sets_20 : decode cX11_sets 20 = .ok (.aload_n 0, 1) := by decide +kernel
theorem dX11_sets_21 : decode cX11_sets 21 = .ok (.iload_n 3, 1) := by decide +kernel
theorem dX11_sets_22 : decode cX11_sets 22 = .ok (.i2l, 1) := by decide +kernel
theorem dX11_sets_23 : decode cX11_sets 23 = .ok (.iload 4, 2) := by decide +kernel
theorem dX11_sets_25 : decode cX11_sets 25 = .ok (.i2l, 1) := by decide +kernel
theorem dX11_sets_26 : decode cX11_sets 26 = .ok (.invokevirtual 81, 3) := by decide +kernel
theorem dX11_sets_29 : decode cX11_sets 29 = .ok (.aload_n 0, 1) := by decide +kernel
theorem dX11_sets_30 : decode cX11_sets 30 = .ok (.getfield 24, 3) := by decide +kernel
theorem dX11_sets_33 : decode cX11_sets 33 = .ok (.iload_n 1, 1) := by decide +kernel
theorem dX11_sets_34 : decode cX11_sets 34 = .ok (.iload_n 2, 1) := by decide +kernel
theorem dX11_sets_35 : decode cX11_sets 35 = .ok (.invokestatic 89, 3) := by decide +kernel
theorem dX11_sets_38 : decode cX11_sets 38 = .ok (.iaload, 1) := by decide +kernel
theorem dX11_sets_39 : decode cX11_sets 39 = .ok (.i2l, 1) := by decide +kernel
theorem dX11_sets_40 : decode cX11_sets 40 = .ok (.aload_n 0, 1) := by decide +kernel
theorem dX11_sets_41 : decode cX11_sets 41 = .ok (.getfield 66, 3) := by decide +kernel
theorem dX11_sets_44 : decode cX11_sets 44 = .ok (.lcmp, 1) := by decide +kernel
theorem dX11_sets_45 : decode cX11_sets 45 = .ok (.ifCond .ne 24, 3) := by decide +kernel
theorem dX11_sets_48 : decode cX11_sets 48 = .ok (.aload_n 0, 1) := by decide +kernel
theorem dX11_sets_49 : decode cX11_sets 49 = .ok (.getfield 27, 3) := by decide +kernel
theorem dX11_sets_52 : decode cX11_sets 52 = .ok (.iload_n 1, 1) := by decide +kernel
theorem dX11_sets_53 : decode cX11_sets 53 = .ok (.iload_n 2, 1) := by decide +kernel
theorem dX11_sets_54 : decode cX11_sets 54 = .ok (.invokestatic 89, 3) := by decide +kernel
theorem dX11_sets_57 : decode cX11_sets 57 = .ok (.iaload, 1) := by decide +kernel
theorem dX11_sets_58 : decode cX11_sets 58 = .ok (.i2l, 1) := by decide +kernel
theorem dX11_sets_59 : decode cX11_sets 59 = .ok (.aload_n 0, 1) := by decide +kernel
theorem dX11_sets_60 : decode cX11_sets 60 = .ok (.getfield 70, 3) := by decide +kernel
theorem dX11_sets_63 : decode cX11_sets 63 = .ok (.lcmp, 1) := by decide +kernel
theorem dX11_sets_64 : decode cX11_sets 64 = .ok (.ifCond .ne 5, 3) := by decide +kernel
theorem dX11_sets_67 : decode cX11_sets 67 = .ok (.iconst 2, 1) := by decide +kernel
theorem dX11_sets_68 : decode cX11_sets 68 = .ok (.ireturn, 1) := by decide +kernel
theorem dX11_sets_69 : decode cX11_sets 69 = .ok (.aload_n 0, 1) := by decide +kernel
theorem dX11_sets_70 : decode cX11_sets 70 = .ok (.iload_n 1, 1) := by decide +kernel
theorem dX11_sets_71 : decode cX11_sets 71 = .ok (.iload_n 2, 1) := by decide +kernel
theorem dX11_sets_72 : decode cX11_sets 72 = .ok (.aload_n 0, 1) := by decide +kernel
theorem dX11_sets_73 : decode cX11_sets 73 = .ok (.getfield 66, 3) := by decide +kernel
theorem dX11_sets_76 : decode cX11_sets 76 = .ok (.aload_n 0, 1) := by decide +kernel
theorem dX11_sets_77 : decode cX11_sets 77 = .ok (.getfield 70, 3) := by decide +kernel
theorem dX11_sets_80 : decode cX11_sets 80 = .ok (.invokevirtual 143, 3) := by decide +kernel
theorem dX11_sets_83 : decode cX11_sets 83 = .ok (.iconst 0, 1) := by decide +kernel
theorem dX11_sets_84 : decode cX11_sets 84 = .ok (.ireturn, 1) := by decide +kernel
set_option maxRecDepth 20000 in
theorem ggX11_swaps_X11_isRow : GoodIn wsX11_swaps wsX11_isRow := goodIn_r _ [8, 9, 10, 11, 7, 12, 20, 21, 22, 23, 24, 25, 26, 27, 28, 29, 30, 31, 32, 33, 34, 35, 36, 37, 38, 39, 40, 41, 42, 43, 44, 45, 46, 47, 48, 49, 50, 51, 52, 53, 54, 55] rfl rfl
set_option maxRecDepth 20000 in
theorem gX11_swaps_X11_isRow : GoodIn wsX11_swaps (wsV RX11 178 RX11 yX11_isRow wsX11_isRow) := goodIn_app (goodIn_of _ (by decide +kernel)) ggX11_swaps_X11_isRow
set_option maxRecDepth 20000 in
theorem ggX11_swaps_X11_cell : GoodIn wsX11_swaps wsX11_cell := goodIn_r _ [15] rfl rfl
set_option maxRecDepth 20000 in
theorem gX11_swaps_X11_cell : GoodIn wsX11_swaps (va_wsS RX11 89 yX11_cell wsX11_cell) := goodIn_app (goodIn_of _ (by decide +kernel)) ggX11_swaps_X11_cell
set_option maxRecDepth 20000 in
theorem ggX11_swaps_X11_laysCell : GoodIn wsX11_swaps wsX11_laysCell := goodIn_r _ [19, 2, 3, 13, 14, 7, 15, 20, 21, 22, 23, 24, 25, 26, 27, 28, 29, 30, 31, 32, 33, 34, 35, 36, 37, 38, 39, 40, 41, 42, 43, 44, 45, 46, 47, 48, 49, 50, 51, 52, 53, 54, 55] rfl rfl
set_option maxRecDepth 20000 in
theorem gX11_swaps_X11_laysCell : GoodIn wsX11_swaps (wsV RX11 143 RX11 yX11_laysCell wsX11_laysCell) := goodIn_app (goodIn_of _ (by decide +kernel)) ggX11_swaps_X11_laysCell
theorem dX11_swaps_0 : decode cX11_swaps 0 = .ok (.aload_n 0, 1) := by decide +kernel
theorem dX11_swaps_1 : decode cX11_swaps 1 = .ok (.iload_n 1, 1) := by decide +kernel
theorem dX11_swaps_2 : decode cX11_swaps 2 = .ok (.invokevirtual 178, 3) := by decide +kernel
theorem dX11_swaps_5 : decode cX11_swaps 5 = .ok (.ifCond .eq 11, 3) := by decide +kernel
theorem dX11_swaps_8 : decode cX11_swaps 8 = .ok (.aload_n 0, 1) := by decide +kernel
theorem dX11_swaps_9 : decode cX11_swaps 9 = .ok (.iload_n 2, 1) := by decide +kernel
theorem dX11_swaps_10 : decode cX11_swaps 10 = .ok (.invokevirtual 178, 3) := by decide +kernel
theorem dX11_swaps_13 : decode cX11_swaps 13 = .ok (.ifCond .ne 5, 3) := by decide +kernel
theorem dX11_swaps_16 : decode cX11_swaps 16 = .ok (.iconst 1, 1) := by decide +kernel
theorem dX11_swaps_17 : decode cX11_swaps 17 = .ok (.ireturn, 1) := by decide +kernel
theorem dX11_swaps_18 : decode cX11_swaps 18 = .ok (.iconst 1, 1) := by decide +kernel
theorem dX11_swaps_19 : decode cX11_swaps 19 = .ok (.istore_n 3, 1) := by decide +kernel
theorem dX11_swaps_20 : decode cX11_swaps 20 = .ok (.iconst 0, 1) := by decide +kernel
theorem dX11_swaps_21 : decode cX11_swaps 21 = .ok (.istore 4, 2) := by decide +kernel
theorem dX11_swaps_23 : decode cX11_swaps 23 = .ok (.iload 4, 2) := by decide +kernel
theorem dX11_swaps_25 : decode cX11_swaps 25 = .ok (.aload_n 0, 1) := by decide +kernel
theorem dX11_swaps_26 : decode cX11_swaps 26 = .ok (.getfield 93, 3) := by decide +kernel
theorem dX11_swaps_29 : decode cX11_swaps 29 = .ok (.if_icmp .gt 123, 3) := by decide +kernel
theorem dX11_swaps_32 : decode cX11_swaps 32 = .ok (.iload_n 1, 1) := by decide +kernel
theorem dX11_swaps_33 : decode cX11_swaps 33 = .ok (.iload 4, 2) := by decide +kernel
theorem dX11_swaps_35 : decode cX11_swaps 35 = .ok (.invokestatic 89, 3) := by decide +kernel
theorem dX11_swaps_38 : decode cX11_swaps 38 = .ok (.istore 5, 2) := by decide +kernel
theorem dX11_swaps_40 : decode cX11_swaps 40 = .ok (.iload_n 2, 1) := by decide +kernel
theorem dX11_swaps_41 : decode cX11_swaps 41 = .ok (.iload 4, 2) := by decide +kernel
theorem dX11_swaps_43 : decode cX11_swaps 43 = .ok (.invokestatic 89, 3) := by decide +kernel
theorem dX11_swaps_46 : decode cX11_swaps 46 = .ok (.istore 6, 2) := by decide +kernel
theorem dX11_swaps_48 : decode cX11_swaps 48 = .ok (.aload_n 0, 1) := by decide +kernel
theorem dX11_swaps_49 : decode cX11_swaps 49 = .ok (.getfield 24, 3) := by decide +kernel
theorem dX11_swaps_52 : decode cX11_swaps 52 = .ok (.iload 5, 2) := by decide +kernel
theorem dX11_swaps_54 : decode cX11_swaps 54 = .ok (.iaload, 1) := by decide +kernel
theorem dX11_swaps_55 : decode cX11_swaps 55 = .ok (.i2l, 1) := by decide +kernel
theorem dX11_swaps_56 : decode cX11_swaps 56 = .ok (.lstore 7, 2) := by decide +kernel
theorem dX11_swaps_58 : decode cX11_swaps 58 = .ok (.aload_n 0, 1) := by decide +kernel
theorem dX11_swaps_59 : decode cX11_swaps 59 = .ok (.getfield 27, 3) := by decide +kernel
theorem dX11_swaps_62 : decode cX11_swaps 62 = .ok (.iload 5, 2) := by decide +kernel
theorem dX11_swaps_64 : decode cX11_swaps 64 = .ok (.iaload, 1) := by decide +kernel
theorem dX11_swaps_65 : decode cX11_swaps 65 = .ok (.i2l, 1) := by decide +kernel
theorem dX11_swaps_66 : decode cX11_swaps 66 = .ok (.lstore 9, 2) := by decide +kernel
theorem dX11_swaps_68 : decode cX11_swaps 68 = .ok (.iload_n 3, 1) := by decide +kernel
theorem dX11_swaps_69 : decode cX11_swaps 69 = .ok (.ifCond .eq 41, 3) := by decide +kernel
theorem dX11_swaps_72 : decode cX11_swaps 72 = .ok (.aload_n 0, 1) := by decide +kernel
theorem dX11_swaps_73 : decode cX11_swaps 73 = .ok (.getfield 24, 3) := by decide +kernel
theorem dX11_swaps_76 : decode cX11_swaps 76 = .ok (.iload 5, 2) := by decide +kernel
theorem dX11_swaps_78 : decode cX11_swaps 78 = .ok (.iaload, 1) := by decide +kernel
theorem dX11_swaps_79 : decode cX11_swaps 79 = .ok (.aload_n 0, 1) := by decide +kernel
theorem dX11_swaps_80 : decode cX11_swaps 80 = .ok (.getfield 24, 3) := by decide +kernel
theorem dX11_swaps_83 : decode cX11_swaps 83 = .ok (.iload 6, 2) := by decide +kernel
theorem dX11_swaps_85 : decode cX11_swaps 85 = .ok (.iaload, 1) := by decide +kernel
theorem dX11_swaps_86 : decode cX11_swaps 86 = .ok (.if_icmp .ne 24, 3) := by decide +kernel
theorem dX11_swaps_89 : decode cX11_swaps 89 = .ok (.aload_n 0, 1) := by decide +kernel
theorem dX11_swaps_90 : decode cX11_swaps 90 = .ok (.getfield 27, 3) := by decide +kernel
theorem dX11_swaps_93 : decode cX11_swaps 93 = .ok (.iload 5, 2) := by decide +kernel
theorem dX11_swaps_95 : decode cX11_swaps 95 = .ok (.iaload, 1) := by decide +kernel
theorem dX11_swaps_96 : decode cX11_swaps 96 = .ok (.aload_n 0, 1) := by decide +kernel
theorem dX11_swaps_97 : decode cX11_swaps 97 = .ok (.getfield 27, 3) := by decide +kernel
theorem dX11_swaps_100 : decode cX11_swaps 100 = .ok (.iload 6, 2) := by decide +kernel
theorem dX11_swaps_102 : decode cX11_swaps 102 = .ok (.iaload, 1) := by decide +kernel
theorem dX11_swaps_103 : decode cX11_swaps 103 = .ok (.if_icmp .ne 7, 3) := by decide +kernel
theorem dX11_swaps_106 : decode cX11_swaps 106 = .ok (.iconst 1, 1) := by decide +kernel
theorem dX11_swaps_107 : decode cX11_swaps 107 = .ok (.goto 4, 3) := by decide +kernel
theorem dX11_swaps_110 : decode cX11_swaps 110 = .ok (.iconst 0, 1) := by decide +kernel
theorem dX11_swaps_111 : decode cX11_swaps 111 = .ok (.istore_n 3, 1) := by decide +kernel
theorem dX11_swaps_112 : decode cX11_swaps 112 = .ok (.aload_n 0, 1) := by decide +kernel
theorem dX11_swaps_113 : decode cX11_swaps 113 = .ok (.iload_n 1, 1) := by decide +kernel
theorem dX11_swaps_114 : decode cX11_swaps 114 = .ok (.iload 4, 2) := by decide +kernel
theorem dX11_swaps_116 : decode cX11_swaps 116 = .ok (.aload_n 0, 1) := by decide +kernel
theorem dX11_swaps_117 : decode cX11_swaps 117 = .ok (.getfield 24, 3) := by decide +kernel
theorem dX11_swaps_120 : decode cX11_swaps 120 = .ok (.iload 6, 2) := by decide +kernel
theorem dX11_swaps_122 : decode cX11_swaps 122 = .ok (.iaload, 1) := by decide +kernel
theorem dX11_swaps_123 : decode cX11_swaps 123 = .ok (.i2l, 1) := by decide +kernel
theorem dX11_swaps_124 : decode cX11_swaps 124 = .ok (.aload_n 0, 1) := by decide +kernel
theorem dX11_swaps_125 : decode cX11_swaps 125 = .ok (.getfield 27, 3) := by decide +kernel
theorem dX11_swaps_128 : decode cX11_swaps 128 = .ok (.iload 6, 2) := by decide +kernel
theorem dX11_swaps_130 : decode cX11_swaps 130 = .ok (.iaload, 1) := by decide +kernel
theorem dX11_swaps_131 : decode cX11_swaps 131 = .ok (.i2l, 1) := by decide +kernel
theorem dX11_swaps_132 : decode cX11_swaps 132 = .ok (.invokevirtual 143, 3) := by decide +kernel
theorem dX11_swaps_135 : decode cX11_swaps 135 = .ok (.aload_n 0, 1) := by decide +kernel
theorem dX11_swaps_136 : decode cX11_swaps 136 = .ok (.iload_n 2, 1) := by decide +kernel
theorem dX11_swaps_137 : decode cX11_swaps 137 = .ok (.iload 4, 2) := by decide +kernel
theorem dX11_swaps_139 : decode cX11_swaps 139 = .ok (.lload 7, 2) := by decide +kernel
theorem dX11_swaps_141 : decode cX11_swaps 141 = .ok (.lload 9, 2) := by decide +kernel
theorem dX11_swaps_143 : decode cX11_swaps 143 = .ok (.invokevirtual 143, 3) := by decide +kernel
theorem dX11_swaps_146 : decode cX11_swaps 146 = .ok (.iinc 4 1, 3) := by decide +kernel
theorem dX11_swaps_149 : decode cX11_swaps 149 = .ok (.goto (-126), 3) := by decide +kernel
theorem dX11_swaps_152 : decode cX11_swaps 152 = .ok (.iload_n 3, 1) := by decide +kernel
theorem dX11_swaps_153 : decode cX11_swaps 153 = .ok (.ifCond .eq 7, 3) := by decide +kernel
theorem dX11_swaps_156 : decode cX11_swaps 156 = .ok (.iconst 2, 1) := by decide +kernel
theorem dX11_swaps_157 : decode cX11_swaps 157 = .ok (.goto 4, 3) := by decide +kernel
theorem dX11_swaps_160 : decode cX11_swaps 160 = .ok (.iconst 0, 1) := by decide +kernel
theorem dX11_swaps_161 : decode cX11_swaps 161 = .ok (.ireturn, 1) := by decide +kernel
set_option maxRecDepth 20000 in
theorem ggX11_scales_X11_isRow : GoodIn wsX11_scales wsX11_isRow := goodIn_r _ [11, 12, 13, 14, 10, 15, 50, 51, 52, 53, 54, 55, 56, 57, 58, 59, 60, 61, 62, 63, 64, 65, 66, 67, 68, 69, 70, 71, 72, 73, 74, 75, 76, 77, 78, 79, 80, 81, 82, 83, 84, 85] rfl rfl
set_option maxRecDepth 20000 in
theorem gX11_scales_X11_isRow : GoodIn wsX11_scales (wsV RX11 178 RX11 yX11_isRow wsX11_isRow) := goodIn_app (goodIn_of _ (by decide +kernel)) ggX11_scales_X11_isRow
set_option maxRecDepth 20000 in
theorem ggX11_scales_X11_isTold : GoodIn wsX11_scales wsX11_isTold := goodIn_r _ [18, 13, 14, 10, 15] rfl rfl
set_option maxRecDepth 20000 in
theorem gX11_scales_X11_isTold : GoodIn wsX11_scales (va_wsS RX11 184 yX11_isTold wsX11_isTold) := goodIn_app (goodIn_of _ (by decide +kernel)) ggX11_scales_X11_isTold
set_option maxRecDepth 20000 in
theorem ggX11_scales_X11_isNull : GoodIn wsX11_scales wsX11_isNull := goodIn_r _ [22, 1, 2, 23, 24, 10, 25, 50, 51, 52, 53, 54, 55, 56, 57, 58, 59, 60, 61, 62, 63, 64, 65, 66, 67, 68, 69, 70, 71, 72, 73, 74, 75, 76, 77, 78, 79, 80, 81, 82, 83, 84, 85] rfl rfl
set_option maxRecDepth 20000 in
theorem gX11_scales_X11_isNull : GoodIn wsX11_scales (wsV RX11 187 RX11 yX11_isNull wsX11_isNull) := goodIn_app (goodIn_of _ (by decide +kernel)) ggX11_scales_X11_isNull
set_option maxRecDepth 20000 in
theorem ggX11_scales_X11_cell : GoodIn wsX11_scales wsX11_cell := goodIn_r _ [25] rfl rfl
set_option maxRecDepth 20000 in
theorem gX11_scales_X11_cell : GoodIn wsX11_scales (va_wsS RX11 89 yX11_cell wsX11_cell) := goodIn_app (goodIn_of _ (by decide +kernel)) ggX11_scales_X11_cell
set_option maxRecDepth 20000 in
theorem ggX11_scales_X11_times : GoodIn wsX11_scales wsX11_times := goodIn_r _ [29, 30, 31, 32, 10, 33, 5, 6, 34, 35, 4, 36, 37, 38, 50, 51, 52, 53, 54, 55, 56, 57, 58, 59, 60, 61, 62, 63, 64, 65, 66, 67, 68, 69, 70, 71, 72, 73, 74, 75, 76, 77, 78, 79, 80, 81, 82, 83, 84, 85] rfl rfl
set_option maxRecDepth 20000 in
theorem gX11_scales_X11_times : GoodIn wsX11_scales (wsV RX11 129 RX11 yX11_times wsX11_times) := goodIn_app (goodIn_of _ (by decide +kernel)) ggX11_scales_X11_times
set_option maxRecDepth 20000 in
theorem ggX11_scales_X11_breaks : GoodIn wsX11_scales wsX11_breaks := goodIn_r _ [42, 43, 44, 45, 50, 51, 52, 53, 54, 55, 56, 57, 58, 59, 60, 61, 62, 63, 64, 65, 66, 67, 68, 69, 70, 71, 72, 73, 74, 75, 76, 77, 78, 79, 80, 81, 82, 83, 84, 85] rfl rfl
set_option maxRecDepth 20000 in
theorem gX11_scales_X11_breaks : GoodIn wsX11_scales (wsV RX11 133 RX11 yX11_breaks wsX11_breaks) := goodIn_app (goodIn_of _ (by decide +kernel)) ggX11_scales_X11_breaks
set_option maxRecDepth 20000 in
theorem ggX11_scales_X11_laysCell : GoodIn wsX11_scales wsX11_laysCell := goodIn_r _ [49, 2, 3, 23, 24, 10, 25, 50, 51, 52, 53, 54, 55, 56, 57, 58, 59, 60, 61, 62, 63, 64, 65, 66, 67, 68, 69, 70, 71, 72, 73, 74, 75, 76, 77, 78, 79, 80, 81, 82, 83, 84, 85] rfl rfl
set_option maxRecDepth 20000 in
theorem gX11_scales_X11_laysCell : GoodIn wsX11_scales (wsV RX11 143 RX11 yX11_laysCell wsX11_laysCell) := goodIn_app (goodIn_of _ (by decide +kernel)) ggX11_scales_X11_laysCell
theorem dX11_scales_0 : decode cX11_scales 0 = .ok (.aload_n 0, 1) := by decide +kernel
theorem dX11_scales_1 : decode cX11_scales 1 = .ok (.iload_n 1, 1) := by decide +kernel
theorem dX11_scales_2 : decode cX11_scales 2 = .ok (.invokevirtual 178, 3) := by decide +kernel
theorem dX11_scales_5 : decode cX11_scales 5 = .ok (.ifCond .eq 11, 3) := by decide +kernel
theorem dX11_scales_8 : decode cX11_scales 8 = .ok (.iload_n 2, 1) := by decide +kernel
theorem dX11_scales_9 : decode cX11_scales 9 = .ok (.iload_n 3, 1) := by decide +kernel
theorem dX11_scales_10 : decode cX11_scales 10 = .ok (.invokestatic 184, 3) := by decide +kernel
theorem dX11_scales_13 : decode cX11_scales 13 = .ok (.ifCond .ne 5, 3) := by decide +kernel
theorem dX11_scales_16 : decode cX11_scales 16 = .ok (.iconst 1, 1) := by decide +kernel
theorem dX11_scales_17 : decode cX11_scales 17 = .ok (.ireturn, 1) := by decide +kernel
theorem dX11_scales_18 : decode cX11_scales 18 = .ok (.iload_n 2, 1) := by decide +kernel
theorem dX11_scales_19 : decode cX11_scales 19 = .ok (.ifCond .eq 16, 3) := by decide +kernel
theorem dX11_scales_22 : decode cX11_scales 22 = .ok (.iload_n 2, 1) := by decide +kernel
theorem dX11_scales_23 : decode cX11_scales 23 = .ok (.iload_n 3, 1) := by decide +kernel
theorem dX11_scales_24 : decode cX11_scales 24 = .ok (.if_icmp .eq 11, 3) := by decide +kernel
theorem dX11_scales_27 : decode cX11_scales 27 = .ok (.aload_n 0, 1) := by decide +kernel
theorem dX11_scales_28 : decode cX11_scales 28 = .ok (.iload_n 1, 1) := by decide +kernel
theorem dX11_scales_29 : decode cX11_scales 29 = .ok (.invokevirtual 187, 3) := by decide +kernel
theorem dX11_scales_32 : decode cX11_scales 32 = .ok (.ifCond .eq 5, 3) := by decide +kernel
theorem dX11_scales_35 : decode cX11_scales 35 = .ok (.iconst 2, 1) := by decide +kernel
theorem dX11_scales_36 : decode cX11_scales 36 = .ok (.ireturn, 1) := by decide +kernel
theorem dX11_scales_37 : decode cX11_scales 37 = .ok (.iconst 0, 1) := by decide +kernel
theorem dX11_scales_38 : decode cX11_scales 38 = .ok (.istore 4, 2) := by decide +kernel
theorem dX11_scales_40 : decode cX11_scales 40 = .ok (.iload 4, 2) := by decide +kernel
theorem dX11_scales_42 : decode cX11_scales 42 = .ok (.aload_n 0, 1) := by decide +kernel
theorem dX11_scales_43 : decode cX11_scales 43 = .ok (.getfield 93, 3) := by decide +kernel
theorem dX11_scales_46 : decode cX11_scales 46 = .ok (.if_icmp .gt 72, 3) := by decide +kernel
theorem dX11_scales_49 : decode cX11_scales 49 = .ok (.aload_n 0, 1) := by decide +kernel
theorem dX11_scales_50 : decode cX11_scales 50 = .ok (.aload_n 0, 1) := by decide +kernel
theorem dX11_scales_51 : decode cX11_scales 51 = .ok (.getfield 24, 3) := by decide +kernel
theorem dX11_scales_54 : decode cX11_scales 54 = .ok (.iload_n 1, 1) := by decide +kernel
theorem dX11_scales_55 : decode cX11_scales 55 = .ok (.iload 4, 2) := by decide +kernel
theorem dX11_scales_57 : decode cX11_scales 57 = .ok (.invokestatic 89, 3) := by decide +kernel
theorem dX11_scales_60 : decode cX11_scales 60 = .ok (.iaload, 1) := by decide +kernel
theorem dX11_scales_61 : decode cX11_scales 61 = .ok (.i2l, 1) := by decide +kernel
theorem dX11_scales_62 : decode cX11_scales 62 = .ok (.aload_n 0, 1) := by decide +kernel
theorem dX11_scales_63 : decode cX11_scales 63 = .ok (.getfield 27, 3) := by decide +kernel
theorem dX11_scales_66 : decode cX11_scales 66 = .ok (.iload_n 1, 1) := by decide +kernel
theorem dX11_scales_67 : decode cX11_scales 67 = .ok (.iload 4, 2) := by decide +kernel
theorem dX11_scales_69 : decode cX11_scales 69 = .ok (.invokestatic 89, 3) := by decide +kernel
theorem dX11_scales_72 : decode cX11_scales 72 = .ok (.iaload, 1) := by decide +kernel
theorem dX11_scales_73 : decode cX11_scales 73 = .ok (.i2l, 1) := by decide +kernel
theorem dX11_scales_74 : decode cX11_scales 74 = .ok (.iload_n 2, 1) := by decide +kernel
theorem dX11_scales_75 : decode cX11_scales 75 = .ok (.i2l, 1) := by decide +kernel
theorem dX11_scales_76 : decode cX11_scales 76 = .ok (.iload_n 3, 1) := by decide +kernel
theorem dX11_scales_77 : decode cX11_scales 77 = .ok (.i2l, 1) := by decide +kernel
theorem dX11_scales_78 : decode cX11_scales 78 = .ok (.invokevirtual 129, 3) := by decide +kernel
theorem dX11_scales_81 : decode cX11_scales 81 = .ok (.aload_n 0, 1) := by decide +kernel
theorem dX11_scales_82 : decode cX11_scales 82 = .ok (.getfield 77, 3) := by decide +kernel
theorem dX11_scales_85 : decode cX11_scales 85 = .ok (.ifCond .eq 12, 3) := by decide +kernel
theorem dX11_scales_88 : decode cX11_scales 88 = .ok (.aload_n 0, 1) := by decide +kernel
theorem dX11_scales_89 : decode cX11_scales 89 = .ok (.iload_n 1, 1) := by decide +kernel
theorem dX11_scales_90 : decode cX11_scales 90 = .ok (.iload 4, 2) := by decide +kernel
theorem dX11_scales_92 : decode cX11_scales 92 = .ok (.invokevirtual 133, 3) := by decide +kernel
theorem dX11_scales_95 : decode cX11_scales 95 = .ok (.iconst 3, 1) := by decide +kernel
theorem dX11_scales_96 : decode cX11_scales 96 = .ok (.ireturn, 1) := by decide +kernel
theorem dX11_scales_97 : decode cX11_scales 97 = .ok (.aload_n 0, 1) := by decide +kernel
theorem dX11_scales_98 : decode cX11_scales 98 = .ok (.iload_n 1, 1) := by decide +kernel
theorem dX11_scales_99 : decode cX11_scales 99 = .ok (.iload 4, 2) := by decide +kernel
theorem dX11_scales_101 : decode cX11_scales 101 = .ok (.aload_n 0, 1) := by decide +kernel
theorem dX11_scales_102 : decode cX11_scales 102 = .ok (.getfield 66, 3) := by decide +kernel
theorem dX11_scales_105 : decode cX11_scales 105 = .ok (.aload_n 0, 1) := by decide +kernel
theorem dX11_scales_106 : decode cX11_scales 106 = .ok (.getfield 70, 3) := by decide +kernel
theorem dX11_scales_109 : decode cX11_scales 109 = .ok (.invokevirtual 143, 3) := by decide +kernel
theorem dX11_scales_112 : decode cX11_scales 112 = .ok (.iinc 4 1, 3) := by decide +kernel
theorem dX11_scales_115 : decode cX11_scales 115 = .ok (.goto (-75), 3) := by decide +kernel
theorem dX11_scales_118 : decode cX11_scales 118 = .ok (.iconst 0, 1) := by decide +kernel
theorem dX11_scales_119 : decode cX11_scales 119 = .ok (.ireturn, 1) := by decide +kernel
set_option maxRecDepth 20000 in
theorem ggX11_addsTo_X11_isRow : GoodIn wsX11_addsTo wsX11_isRow := goodIn_r _ [8, 9, 10, 11, 7, 12, 59, 60, 61, 62, 63, 64, 65, 66, 67, 68, 69, 70, 71, 72, 73, 74, 75, 76, 77, 78, 79, 80, 81, 82, 83, 84, 85, 86, 87, 88, 89, 90, 91, 92, 93, 94] rfl rfl
set_option maxRecDepth 20000 in
theorem gX11_addsTo_X11_isRow : GoodIn wsX11_addsTo (wsV RX11 178 RX11 yX11_isRow wsX11_isRow) := goodIn_app (goodIn_of _ (by decide +kernel)) ggX11_addsTo_X11_isRow
set_option maxRecDepth 20000 in
theorem ggX11_addsTo_X11_isTold : GoodIn wsX11_addsTo wsX11_isTold := goodIn_r _ [15, 10, 11, 7, 12] rfl rfl
set_option maxRecDepth 20000 in
theorem gX11_addsTo_X11_isTold : GoodIn wsX11_addsTo (va_wsS RX11 184 yX11_isTold wsX11_isTold) := goodIn_app (goodIn_of _ (by decide +kernel)) ggX11_addsTo_X11_isTold
set_option maxRecDepth 20000 in
theorem ggX11_addsTo_X11_isNull : GoodIn wsX11_addsTo wsX11_isNull := goodIn_r _ [19, 20, 21, 22, 23, 7, 24, 59, 60, 61, 62, 63, 64, 65, 66, 67, 68, 69, 70, 71, 72, 73, 74, 75, 76, 77, 78, 79, 80, 81, 82, 83, 84, 85, 86, 87, 88, 89, 90, 91, 92, 93, 94] rfl rfl
set_option maxRecDepth 20000 in
theorem gX11_addsTo_X11_isNull : GoodIn wsX11_addsTo (wsV RX11 187 RX11 yX11_isNull wsX11_isNull) := goodIn_app (goodIn_of _ (by decide +kernel)) ggX11_addsTo_X11_isNull
set_option maxRecDepth 20000 in
theorem ggX11_addsTo_X11_comes : GoodIn wsX11_addsTo wsX11_comes := goodIn_r _ [28, 1, 2, 29, 30, 31, 32, 33, 7, 34, 59, 60, 61, 62, 63, 64, 65, 66, 67, 68, 69, 70, 71, 72, 73, 74, 75, 76, 77, 78, 79, 80, 81, 82, 83, 84, 85, 86, 87, 88, 89, 90, 91, 92, 93, 94] rfl rfl
set_option maxRecDepth 20000 in
theorem gX11_addsTo_X11_comes : GoodIn wsX11_addsTo (wsV RX11 81 RX11 yX11_comes wsX11_comes) := goodIn_app (goodIn_of _ (by decide +kernel)) ggX11_addsTo_X11_comes
set_option maxRecDepth 20000 in
theorem ggX11_addsTo_X11_adds : GoodIn wsX11_addsTo wsX11_adds := goodIn_r _ [38, 20, 3, 21, 39, 31, 1, 2, 40, 22, 23, 7, 24, 41, 42, 43, 44, 25, 26, 27, 28, 29, 30, 32, 33, 34, 45, 46, 47, 48, 49, 50, 51, 52, 53, 54, 55, 56, 57, 58, 59, 60, 61, 62, 63, 64, 65, 66, 67, 68, 69, 70, 71, 72, 73, 74, 75, 76, 77, 78, 79, 80, 81, 82, 83, 84, 85, 86, 87, 88, 89, 90, 91, 92, 93, 94] rfl rfl
set_option maxRecDepth 20000 in
theorem gX11_addsTo_X11_adds : GoodIn wsX11_addsTo (wsV RX11 150 RX11 yX11_adds wsX11_adds) := goodIn_app (goodIn_of _ (by decide +kernel)) ggX11_addsTo_X11_adds
theorem dX11_addsTo_0 : decode cX11_addsTo 0 = .ok (.aload_n 0, 1) := by decide +kernel
theorem dX11_addsTo_1 : decode cX11_addsTo 1 = .ok (.iload_n 1, 1) := by decide +kernel
theorem dX11_addsTo_2 : decode cX11_addsTo 2 = .ok (.invokevirtual 178, 3) := by decide +kernel
theorem dX11_addsTo_5 : decode cX11_addsTo 5 = .ok (.ifCond .eq 20, 3) := by decide +kernel
theorem dX11_addsTo_8 : decode cX11_addsTo 8 = .ok (.aload_n 0, 1) := by decide +kernel
theorem dX11_addsTo_9 : decode cX11_addsTo 9 = .ok (.iload_n 2, 1) := by decide +kernel
theorem dX11_addsTo_10 : decode cX11_addsTo 10 = .ok (.invokevirtual 178, 3) := by decide +kernel
theorem dX11_addsTo_13 : decode cX11_addsTo 13 = .ok (.ifCond .eq 12, 3) := by decide +kernel
theorem dX11_addsTo_16 : decode cX11_addsTo 16 = .ok (.iload_n 3, 1) := by decide +kernel
theorem dX11_addsTo_17 : decode cX11_addsTo 17 = .ok (.iload 4, 2) := by decide +kernel
theorem dX11_addsTo_19 : decode cX11_addsTo 19 = .ok (.invokestatic 184, 3) := by decide +kernel
theorem dX11_addsTo_22 : decode cX11_addsTo 22 = .ok (.ifCond .ne 5, 3) := by decide +kernel
theorem dX11_addsTo_25 : decode cX11_addsTo 25 = .ok (.iconst 1, 1) := by decide +kernel
theorem dX11_addsTo_26 : decode cX11_addsTo 26 = .ok (.ireturn, 1) := by decide +kernel
theorem dX11_addsTo_27 : decode cX11_addsTo 27 = .ok (.iload_n 1, 1) := by decide +kernel
theorem dX11_addsTo_28 : decode cX11_addsTo 28 = .ok (.iload_n 2, 1) := by decide +kernel
theorem dX11_addsTo_29 : decode cX11_addsTo 29 = .ok (.if_icmp .eq 15, 3) := by decide +kernel
theorem dX11_addsTo_32 : decode cX11_addsTo 32 = .ok (.iload_n 3, 1) := by decide +kernel
theorem dX11_addsTo_33 : decode cX11_addsTo 33 = .ok (.ifCond .eq 11, 3) := by decide +kernel
theorem dX11_addsTo_36 : decode cX11_addsTo 36 = .ok (.aload_n 0, 1) := by decide +kernel
theorem dX11_addsTo_37 : decode cX11_addsTo 37 = .ok (.iload_n 2, 1) := by decide +kernel
theorem dX11_addsTo_38 : decode cX11_addsTo 38 = .ok (.invokevirtual 187, 3) := by decide +kernel
theorem dX11_addsTo_41 : decode cX11_addsTo 41 = .ok (.ifCond .eq 5, 3) := by decide +kernel
theorem dX11_addsTo_44 : decode cX11_addsTo 44 = .ok (.iconst 2, 1) := by decide +kernel
theorem dX11_addsTo_45 : decode cX11_addsTo 45 = .ok (.ireturn, 1) := by decide +kernel
theorem dX11_addsTo_46 : decode cX11_addsTo 46 = .ok (.aload_n 0, 1) := by decide +kernel
theorem dX11_addsTo_47 : decode cX11_addsTo 47 = .ok (.iload_n 3, 1) := by decide +kernel
theorem dX11_addsTo_48 : decode cX11_addsTo 48 = .ok (.i2l, 1) := by decide +kernel
theorem dX11_addsTo_49 : decode cX11_addsTo 49 = .ok (.iload 4, 2) := by decide +kernel
theorem dX11_addsTo_51 : decode cX11_addsTo 51 = .ok (.i2l, 1) := by decide +kernel
theorem dX11_addsTo_52 : decode cX11_addsTo 52 = .ok (.invokevirtual 81, 3) := by decide +kernel
theorem dX11_addsTo_55 : decode cX11_addsTo 55 = .ok (.aload_n 0, 1) := by decide +kernel
theorem dX11_addsTo_56 : decode cX11_addsTo 56 = .ok (.iload_n 1, 1) := by decide +kernel
theorem dX11_addsTo_57 : decode cX11_addsTo 57 = .ok (.iload_n 2, 1) := by decide +kernel
theorem dX11_addsTo_58 : decode cX11_addsTo 58 = .ok (.aload_n 0, 1) := by decide +kernel
theorem dX11_addsTo_59 : decode cX11_addsTo 59 = .ok (.getfield 66, 3) := by decide +kernel
theorem dX11_addsTo_62 : decode cX11_addsTo 62 = .ok (.aload_n 0, 1) := by decide +kernel
theorem dX11_addsTo_63 : decode cX11_addsTo 63 = .ok (.getfield 70, 3) := by decide +kernel
theorem dX11_addsTo_66 : decode cX11_addsTo 66 = .ok (.invokevirtual 150, 3) := by decide +kernel
theorem dX11_addsTo_69 : decode cX11_addsTo 69 = .ok (.aload_n 0, 1) := by decide +kernel
theorem dX11_addsTo_70 : decode cX11_addsTo 70 = .ok (.getfield 120, 3) := by decide +kernel
theorem dX11_addsTo_73 : decode cX11_addsTo 73 = .ok (.ifCond .eq 7, 3) := by decide +kernel
theorem dX11_addsTo_76 : decode cX11_addsTo 76 = .ok (.iconst 3, 1) := by decide +kernel
theorem dX11_addsTo_77 : decode cX11_addsTo 77 = .ok (.goto 4, 3) := by decide +kernel
theorem dX11_addsTo_80 : decode cX11_addsTo 80 = .ok (.iconst 0, 1) := by decide +kernel
theorem dX11_addsTo_81 : decode cX11_addsTo 81 = .ok (.ireturn, 1) := by decide +kernel
set_option maxRecDepth 20000 in
theorem ggX11_reduces_X11_isIn : GoodIn wsX11_reduces wsX11_isIn := goodIn_r _ [11] rfl rfl
set_option maxRecDepth 20000 in
theorem gX11_reduces_X11_isIn : GoodIn wsX11_reduces (va_wsS RX11 85 yX11_isIn wsX11_isIn) := goodIn_app (goodIn_of _ (by decide +kernel)) ggX11_reduces_X11_isIn
set_option maxRecDepth 20000 in
theorem ggX11_reduces_X11_goes : GoodIn wsX11_reduces wsX11_goes := goodIn_r _ [15, 16, 1, 17, 18, 19, 20, 21, 22, 23, 10, 24, 2, 3, 4, 25, 26, 27, 28, 29, 30, 31, 32, 33, 34, 35, 36, 37, 38, 39, 40, 41, 42, 43, 44, 45, 46, 47, 48, 49, 7, 50, 51, 52, 53, 54, 55, 56, 57, 58, 59, 60, 61, 62, 63, 64, 65, 66, 67, 68, 69, 70, 71, 72, 73, 74, 75, 76, 77, 78, 79, 80, 81, 82, 83, 84, 85, 86, 87, 88, 89, 90, 91, 92, 93, 94, 95, 96, 97, 98, 99, 100, 101, 102, 103, 104, 105, 106, 107, 108, 109, 110, 111, 112, 113, 114, 115, 116, 117, 118, 119, 120, 121, 122, 123, 124, 125, 126, 127, 128] rfl rfl
set_option maxRecDepth 20000 in
theorem gX11_reduces_X11_goes : GoodIn wsX11_reduces (wsV RX11 166 RX11 yX11_goes wsX11_goes) := goodIn_app (goodIn_of _ (by decide +kernel)) ggX11_reduces_X11_goes
set_option maxRecDepth 20000 in
theorem ggX11_reduces_X11_cell : GoodIn wsX11_reduces wsX11_cell := goodIn_r _ [29] rfl rfl
set_option maxRecDepth 20000 in
theorem gX11_reduces_X11_cell : GoodIn wsX11_reduces (va_wsS RX11 89 yX11_cell wsX11_cell) := goodIn_app (goodIn_of _ (by decide +kernel)) ggX11_reduces_X11_cell
theorem dX11_reduces_0 : decode cX11_reduces 0 = .ok (.iload_n 1, 1) := by decide +kernel
theorem dX11_reduces_1 : decode cX11_reduces 1 = .ok (.iconst 0, 1) := by decide +kernel
theorem dX11_reduces_2 : decode cX11_reduces 2 = .ok (.iconst 2, 1) := by decide +kernel
theorem dX11_reduces_3 : decode cX11_reduces 3 = .ok (.invokestatic 85, 3) := by decide +kernel
theorem dX11_reduces_6 : decode cX11_reduces 6 = .ok (.ifCond .ne 5, 3) := by decide +kernel
theorem dX11_reduces_9 : decode cX11_reduces 9 = .ok (.iconst 1, 1) := by decide +kernel
theorem dX11_reduces_10 : decode cX11_reduces 10 = .ok (.ireturn, 1) := by decide +kernel
theorem dX11_reduces_11 : decode cX11_reduces 11 = .ok (.aload_n 0, 1) := by decide +kernel
theorem dX11_reduces_12 : decode cX11_reduces 12 = .ok (.iload_n 1, 1) := by decide +kernel
theorem dX11_reduces_13 : decode cX11_reduces 13 = .ok (.invokevirtual 166, 3) := by decide +kernel
theorem dX11_reduces_16 : decode cX11_reduces 16 = .ok (.aload_n 0, 1) := by decide +kernel
theorem dX11_reduces_17 : decode cX11_reduces 17 = .ok (.getfield 120, 3) := by decide +kernel
theorem dX11_reduces_20 : decode cX11_reduces 20 = .ok (.ifCond .eq 5, 3) := by decide +kernel
theorem dX11_reduces_23 : decode cX11_reduces 23 = .ok (.iconst 3, 1) := by decide +kernel
theorem dX11_reduces_24 : decode cX11_reduces 24 = .ok (.ireturn, 1) := by decide +kernel
theorem dX11_reduces_25 : decode cX11_reduces 25 = .ok (.iconst 0, 1) := by decide +kernel
theorem dX11_reduces_26 : decode cX11_reduces 26 = .ok (.istore_n 2, 1) := by decide +kernel
theorem dX11_reduces_27 : decode cX11_reduces 27 = .ok (.iload_n 2, 1) := by decide +kernel
theorem dX11_reduces_28 : decode cX11_reduces 28 = .ok (.aload_n 0, 1) := by decide +kernel
theorem dX11_reduces_29 : decode cX11_reduces 29 = .ok (.getfield 96, 3) := by decide +kernel
theorem dX11_reduces_32 : decode cX11_reduces 32 = .ok (.if_icmp .ge 88, 3) := by decide +kernel
theorem dX11_reduces_35 : decode cX11_reduces 35 = .ok (.iconst 0, 1) := by decide +kernel
theorem dX11_reduces_36 : decode cX11_reduces 36 = .ok (.istore_n 3, 1) := by decide +kernel
theorem dX11_reduces_37 : decode cX11_reduces 37 = .ok (.iload_n 3, 1) := by decide +kernel
theorem dX11_reduces_38 : decode cX11_reduces 38 = .ok (.aload_n 0, 1) := by decide +kernel
theorem dX11_reduces_39 : decode cX11_reduces 39 = .ok (.getfield 93, 3) := by decide +kernel
theorem dX11_reduces_42 : decode cX11_reduces 42 = .ok (.if_icmp .gt 72, 3) := by decide +kernel
theorem dX11_reduces_45 : decode cX11_reduces 45 = .ok (.aload_n 0, 1) := by decide +kernel
theorem dX11_reduces_46 : decode cX11_reduces 46 = .ok (.getfield 24, 3) := by decide +kernel
theorem dX11_reduces_49 : decode cX11_reduces 49 = .ok (.iload_n 2, 1) := by decide +kernel
theorem dX11_reduces_50 : decode cX11_reduces 50 = .ok (.iload_n 3, 1) := by decide +kernel
theorem dX11_reduces_51 : decode cX11_reduces 51 = .ok (.invokestatic 89, 3) := by decide +kernel
theorem dX11_reduces_54 : decode cX11_reduces 54 = .ok (.iaload, 1) := by decide +kernel
theorem dX11_reduces_55 : decode cX11_reduces 55 = .ok (.aload_n 0, 1) := by decide +kernel
theorem dX11_reduces_56 : decode cX11_reduces 56 = .ok (.getfield 7, 3) := by decide +kernel
theorem dX11_reduces_59 : decode cX11_reduces 59 = .ok (.aload_n 0, 1) := by decide +kernel
theorem dX11_reduces_60 : decode cX11_reduces 60 = .ok (.getfield 190, 3) := by decide +kernel
theorem dX11_reduces_63 : decode cX11_reduces 63 = .ok (.iconst 2, 1) := by decide +kernel
theorem dX11_reduces_64 : decode cX11_reduces 64 = .ok (.iadd, 1) := by decide +kernel
theorem dX11_reduces_65 : decode cX11_reduces 65 = .ok (.iload_n 2, 1) := by decide +kernel
theorem dX11_reduces_66 : decode cX11_reduces 66 = .ok (.iload_n 3, 1) := by decide +kernel
theorem dX11_reduces_67 : decode cX11_reduces 67 = .ok (.invokestatic 89, 3) := by decide +kernel
theorem dX11_reduces_70 : decode cX11_reduces 70 = .ok (.iadd, 1) := by decide +kernel
theorem dX11_reduces_71 : decode cX11_reduces 71 = .ok (.iaload, 1) := by decide +kernel
theorem dX11_reduces_72 : decode cX11_reduces 72 = .ok (.if_icmp .ne 34, 3) := by decide +kernel
theorem dX11_reduces_75 : decode cX11_reduces 75 = .ok (.aload_n 0, 1) := by decide +kernel
theorem dX11_reduces_76 : decode cX11_reduces 76 = .ok (.getfield 27, 3) := by decide +kernel
theorem dX11_reduces_79 : decode cX11_reduces 79 = .ok (.iload_n 2, 1) := by decide +kernel
theorem dX11_reduces_80 : decode cX11_reduces 80 = .ok (.iload_n 3, 1) := by decide +kernel
theorem dX11_reduces_81 : decode cX11_reduces 81 = .ok (.invokestatic 89, 3) := by decide +kernel
theorem dX11_reduces_84 : decode cX11_reduces 84 = .ok (.iaload, 1) := by decide +kernel
theorem dX11_reduces_85 : decode cX11_reduces 85 = .ok (.aload_n 0, 1) := by decide +kernel
theorem dX11_reduces_86 : decode cX11_reduces 86 = .ok (.getfield 7, 3) := by decide +kernel
theorem dX11_reduces_89 : decode cX11_reduces 89 = .ok (.aload_n 0, 1) := by decide +kernel
theorem dX11_reduces_90 : decode cX11_reduces 90 = .ok (.getfield 190, 3) := by decide +kernel
theorem dX11_reduces_93 : decode cX11_reduces 93 = .ok (.bipush 44, 2) := by decide +kernel
theorem dX11_reduces_95 : decode cX11_reduces 95 = .ok (.iadd, 1) := by decide +kernel
theorem dX11_reduces_96 : decode cX11_reduces 96 = .ok (.iload_n 2, 1) := by decide +kernel
theorem dX11_reduces_97 : decode cX11_reduces 97 = .ok (.iload_n 3, 1) := by decide +kernel
theorem dX11_reduces_98 : decode cX11_reduces 98 = .ok (.invokestatic 89, 3) := by decide +kernel
theorem dX11_reduces_101 : decode cX11_reduces 101 = .ok (.iadd, 1) := by decide +kernel
theorem dX11_reduces_102 : decode cX11_reduces 102 = .ok (.iaload, 1) := by decide +kernel
theorem dX11_reduces_103 : decode cX11_reduces 103 = .ok (.if_icmp .eq 5, 3) := by decide +kernel
theorem dX11_reduces_106 : decode cX11_reduces 106 = .ok (.iconst 0, 1) := by decide +kernel
theorem dX11_reduces_107 : decode cX11_reduces 107 = .ok (.ireturn, 1) := by decide +kernel
theorem dX11_reduces_108 : decode cX11_reduces 108 = .ok (.iinc 3 1, 3) := by decide +kernel
theorem dX11_reduces_111 : decode cX11_reduces 111 = .ok (.goto (-74), 3) := by decide +kernel
theorem dX11_reduces_114 : decode cX11_reduces 114 = .ok (.iinc 2 1, 3) := by decide +kernel
theorem dX11_reduces_117 : decode cX11_reduces 117 = .ok (.goto (-90), 3) := by decide +kernel
theorem dX11_reduces_120 : decode cX11_reduces 120 = .ok (.iconst 2, 1) := by decide +kernel
theorem dX11_reduces_121 : decode cX11_reduces 121 = .ok (.ireturn, 1) := by decide +kernel
set_option maxRecDepth 20000 in
theorem ggX11_begins_X11_laysFrom : GoodIn wsX11_begins wsX11_laysFrom := goodIn_r _ [7, 8, 9, 10, 11, 12, 13, 14, 15, 16, 17, 18, 19, 20, 21, 22, 23, 24, 25, 26, 27, 28, 29, 30, 31, 32, 33, 34, 35, 36, 37, 38, 39, 40, 41, 42, 43, 44, 45, 46, 47, 48] rfl rfl
set_option maxRecDepth 20000 in
theorem gX11_begins_X11_laysFrom : GoodIn wsX11_begins (wsV RX11 193 RX11 yX11_laysFrom wsX11_laysFrom) := goodIn_app (goodIn_of _ (by decide +kernel)) ggX11_begins_X11_laysFrom
theorem dX11_begins_0 : decode cX11_begins 0 = .ok (.aload_n 0, 1) := by decide +kernel
theorem dX11_begins_1 : decode cX11_begins 1 = .ok (.iload_n 1, 1) := by decide +kernel
theorem dX11_begins_2 : decode cX11_begins 2 = .ok (.putfield 190, 3) := by decide +kernel
theorem dX11_begins_5 : decode cX11_begins 5 = .ok (.aload_n 0, 1) := by decide +kernel
theorem dX11_begins_6 : decode cX11_begins 6 = .ok (.iload_n 1, 1) := by decide +kernel
theorem dX11_begins_7 : decode cX11_begins 7 = .ok (.invokevirtual 193, 3) := by decide +kernel
theorem dX11_begins_10 : decode cX11_begins 10 = .ok (.aload_n 0, 1) := by decide +kernel
theorem dX11_begins_11 : decode cX11_begins 11 = .ok (.iconst 0, 1) := by decide +kernel
theorem dX11_begins_12 : decode cX11_begins 12 = .ok (.putfield 120, 3) := by decide +kernel
theorem dX11_begins_15 : decode cX11_begins 15 = .ok (.return_, 1) := by decide +kernel
theorem dX11_laysFrom_0 : decode cX11_laysFrom 0 = .ok (.aload_n 0, 1) := by decide +kernel
theorem dX11_laysFrom_1 : decode cX11_laysFrom 1 = .ok (.aload_n 0, 1) := by decide +kernel
theorem dX11_laysFrom_2 : decode cX11_laysFrom 2 = .ok (.getfield 7, 3) := by decide +kernel
theorem dX11_laysFrom_5 : decode cX11_laysFrom 5 = .ok (.iload_n 1, 1) := by decide +kernel
theorem dX11_laysFrom_6 : decode cX11_laysFrom 6 = .ok (.iconst 0, 1) := by decide +kernel
theorem dX11_laysFrom_7 : decode cX11_laysFrom 7 = .ok (.iadd, 1) := by decide +kernel
theorem dX11_laysFrom_8 : decode cX11_laysFrom 8 = .ok (.iaload, 1) := by decide +kernel
theorem dX11_laysFrom_9 : decode cX11_laysFrom 9 = .ok (.putfield 96, 3) := by decide +kernel
theorem dX11_laysFrom_12 : decode cX11_laysFrom 12 = .ok (.aload_n 0, 1) := by decide +kernel
theorem dX11_laysFrom_13 : decode cX11_laysFrom 13 = .ok (.aload_n 0, 1) := by decide +kernel
theorem dX11_laysFrom_14 : decode cX11_laysFrom 14 = .ok (.getfield 7, 3) := by decide +kernel
theorem dX11_laysFrom_17 : decode cX11_laysFrom 17 = .ok (.iload_n 1, 1) := by decide +kernel
theorem dX11_laysFrom_18 : decode cX11_laysFrom 18 = .ok (.iconst 1, 1) := by decide +kernel
theorem dX11_laysFrom_19 : decode cX11_laysFrom 19 = .ok (.iadd, 1) := by decide +kernel
theorem dX11_laysFrom_20 : decode cX11_laysFrom 20 = .ok (.iaload, 1) := by decide +kernel
theorem dX11_laysFrom_21 : decode cX11_laysFrom 21 = .ok (.putfield 93, 3) := by decide +kernel
theorem dX11_laysFrom_24 : decode cX11_laysFrom 24 = .ok (.iconst 0, 1) := by decide +kernel
theorem dX11_laysFrom_25 : decode cX11_laysFrom 25 = .ok (.istore_n 2, 1) := by decide +kernel
theorem dX11_laysFrom_26 : decode cX11_laysFrom 26 = .ok (.iload_n 2, 1) := by decide +kernel
theorem dX11_laysFrom_27 : decode cX11_laysFrom 27 = .ok (.bipush 42, 2) := by decide +kernel
theorem dX11_laysFrom_29 : decode cX11_laysFrom 29 = .ok (.if_icmp .ge 42, 3) := by decide +kernel
theorem dX11_laysFrom_32 : decode cX11_laysFrom 32 = .ok (.aload_n 0, 1) := by decide +kernel
theorem dX11_laysFrom_33 : decode cX11_laysFrom 33 = .ok (.getfield 24, 3) := by decide +kernel
theorem dX11_laysFrom_36 : decode cX11_laysFrom 36 = .ok (.iload_n 2, 1) := by decide +kernel
theorem dX11_laysFrom_37 : decode cX11_laysFrom 37 = .ok (.aload_n 0, 1) := by decide +kernel
theorem dX11_laysFrom_38 : decode cX11_laysFrom 38 = .ok (.getfield 7, 3) := by decide +kernel
theorem dX11_laysFrom_41 : decode cX11_laysFrom 41 = .ok (.iload_n 1, 1) := by decide +kernel
theorem dX11_laysFrom_42 : decode cX11_laysFrom 42 = .ok (.iconst 2, 1) := by decide +kernel
theorem dX11_laysFrom_43 : decode cX11_laysFrom 43 = .ok (.iadd, 1) := by decide +kernel
theorem dX11_laysFrom_44 : decode cX11_laysFrom 44 = .ok (.iload_n 2, 1) := by decide +kernel
theorem dX11_laysFrom_45 : decode cX11_laysFrom 45 = .ok (.iadd, 1) := by decide +kernel
theorem dX11_laysFrom_46 : decode cX11_laysFrom 46 = .ok (.iaload, 1) := by decide +kernel
theorem dX11_laysFrom_47 : decode cX11_laysFrom 47 = .ok (.iastore, 1) := by decide +kernel
theorem dX11_laysFrom_48 : decode cX11_laysFrom 48 = .ok (.aload_n 0, 1) := by decide +kernel
theorem dX11_laysFrom_49 : decode cX11_laysFrom 49 = .ok (.getfield 27, 3) := by decide +kernel
theorem dX11_laysFrom_52 : decode cX11_laysFrom 52 = .ok (.iload_n 2, 1) := by decide +kernel
theorem dX11_laysFrom_53 : decode cX11_laysFrom 53 = .ok (.aload_n 0, 1) := by decide +kernel
theorem dX11_laysFrom_54 : decode cX11_laysFrom 54 = .ok (.getfield 7, 3) := by decide +kernel
theorem dX11_laysFrom_57 : decode cX11_laysFrom 57 = .ok (.iload_n 1, 1) := by decide +kernel
theorem dX11_laysFrom_58 : decode cX11_laysFrom 58 = .ok (.bipush 44, 2) := by decide +kernel
theorem dX11_laysFrom_60 : decode cX11_laysFrom 60 = .ok (.iadd, 1) := by decide +kernel
theorem dX11_laysFrom_61 : decode cX11_laysFrom 61 = .ok (.iload_n 2, 1) := by decide +kernel
theorem dX11_laysFrom_62 : decode cX11_laysFrom 62 = .ok (.iadd, 1) := by decide +kernel
theorem dX11_laysFrom_63 : decode cX11_laysFrom 63 = .ok (.iaload, 1) := by decide +kernel
theorem dX11_laysFrom_64 : decode cX11_laysFrom 64 = .ok (.iastore, 1) := by decide +kernel
theorem dX11_laysFrom_65 : decode cX11_laysFrom 65 = .ok (.iinc 2 1, 3) := by decide +kernel
theorem dX11_laysFrom_68 : decode cX11_laysFrom 68 = .ok (.goto (-42), 3) := by decide +kernel
theorem dX11_laysFrom_71 : decode cX11_laysFrom 71 = .ok (.return_, 1) := by decide +kernel
theorem dX11_becomes_0 : decode cX11_becomes 0 = .ok (.iconst 0, 1) := by decide +kernel
theorem dX11_becomes_1 : decode cX11_becomes 1 = .ok (.istore_n 2, 1) := by decide +kernel
theorem dX11_becomes_2 : decode cX11_becomes 2 = .ok (.iload_n 2, 1) := by decide +kernel
theorem dX11_becomes_3 : decode cX11_becomes 3 = .ok (.bipush 42, 2) := by decide +kernel
theorem dX11_becomes_5 : decode cX11_becomes 5 = .ok (.if_icmp .ge 42, 3) := by decide +kernel
theorem dX11_becomes_8 : decode cX11_becomes 8 = .ok (.aload_n 0, 1) := by decide +kernel
theorem dX11_becomes_9 : decode cX11_becomes 9 = .ok (.getfield 7, 3) := by decide +kernel
theorem dX11_becomes_12 : decode cX11_becomes 12 = .ok (.iload_n 1, 1) := by decide +kernel
theorem dX11_becomes_13 : decode cX11_becomes 13 = .ok (.iconst 2, 1) := by decide +kernel
theorem dX11_becomes_14 : decode cX11_becomes 14 = .ok (.iadd, 1) := by decide +kernel
theorem dX11_becomes_15 : decode cX11_becomes 15 = .ok (.iload_n 2, 1) := by decide +kernel
theorem dX11_becomes_16 : decode cX11_becomes 16 = .ok (.iadd, 1) := by decide +kernel
theorem dX11_becomes_17 : decode cX11_becomes 17 = .ok (.aload_n 0, 1) := by decide +kernel
theorem dX11_becomes_18 : decode cX11_becomes 18 = .ok (.getfield 24, 3) := by decide +kernel
theorem dX11_becomes_21 : decode cX11_becomes 21 = .ok (.iload_n 2, 1) := by decide +kernel
theorem dX11_becomes_22 : decode cX11_becomes 22 = .ok (.iaload, 1) := by decide +kernel
theorem dX11_becomes_23 : decode cX11_becomes 23 = .ok (.iastore, 1) := by decide +kernel
theorem dX11_becomes_24 : decode cX11_becomes 24 = .ok (.aload_n 0, 1) := by decide +kernel
theorem dX11_becomes_25 : decode cX11_becomes 25 = .ok (.getfield 7, 3) := by decide +kernel
theorem dX11_becomes_28 : decode cX11_becomes 28 = .ok (.iload_n 1, 1) := by decide +kernel
theorem dX11_becomes_29 : decode cX11_becomes 29 = .ok (.bipush 44, 2) := by decide +kernel
theorem dX11_becomes_31 : decode cX11_becomes 31 = .ok (.iadd, 1) := by decide +kernel
theorem dX11_becomes_32 : decode cX11_becomes 32 = .ok (.iload_n 2, 1) := by decide +kernel
theorem dX11_becomes_33 : decode cX11_becomes 33 = .ok (.iadd, 1) := by decide +kernel
theorem dX11_becomes_34 : decode cX11_becomes 34 = .ok (.aload_n 0, 1) := by decide +kernel
theorem dX11_becomes_35 : decode cX11_becomes 35 = .ok (.getfield 27, 3) := by decide +kernel
theorem dX11_becomes_38 : decode cX11_becomes 38 = .ok (.iload_n 2, 1) := by decide +kernel
theorem dX11_becomes_39 : decode cX11_becomes 39 = .ok (.iaload, 1) := by decide +kernel
theorem dX11_becomes_40 : decode cX11_becomes 40 = .ok (.iastore, 1) := by decide +kernel
theorem dX11_becomes_41 : decode cX11_becomes 41 = .ok (.iinc 2 1, 3) := by decide +kernel
theorem dX11_becomes_44 : decode cX11_becomes 44 = .ok (.goto (-42), 3) := by decide +kernel
theorem dX11_becomes_47 : decode cX11_becomes 47 = .ok (.return_, 1) := by decide +kernel
set_option maxRecDepth 20000 in
theorem ggX11_acted_X11_keeps : GoodIn wsX11_acted wsX11_keeps := goodIn_r _ [8, 9, 10, 11, 12, 7, 13, 1, 20, 21, 22, 23, 24, 25, 26, 27, 28, 29, 30, 31, 32, 33, 34, 35, 36, 37, 38, 39, 40, 41, 42, 43, 44, 45, 46, 47, 48, 49, 50, 51, 52, 53, 54, 55] rfl rfl
set_option maxRecDepth 20000 in
theorem gX11_acted_X11_keeps : GoodIn wsX11_acted (wsV RX11 196 RX11 yX11_keeps wsX11_keeps) := goodIn_app (goodIn_of _ (by decide +kernel)) ggX11_acted_X11_keeps
set_option maxRecDepth 20000 in
theorem ggX11_acted_X11_becomes : GoodIn wsX11_acted wsX11_becomes := goodIn_r _ [17, 1, 18, 19, 20, 21, 22, 23, 24, 25, 26, 27, 28, 29, 30, 31, 32, 33, 34, 35, 36, 37, 38, 39, 40, 41, 42, 43, 44, 45, 46, 47, 48, 49, 50, 51, 52, 53, 54, 55] rfl rfl
set_option maxRecDepth 20000 in
theorem gX11_acted_X11_becomes : GoodIn wsX11_acted (wsV RX11 199 RX11 yX11_becomes wsX11_becomes) := goodIn_app (goodIn_of _ (by decide +kernel)) ggX11_acted_X11_becomes
theorem dX11_acted_0 : decode cX11_acted 0 = .ok (.aload_n 0, 1) := by decide +kernel
theorem dX11_acted_1 : decode cX11_acted 1 = .ok (.getfield 7, 3) := by decide +kernel
theorem dX11_acted_4 : decode cX11_acted 4 = .ok (.bipush 86, 2) := by decide +kernel
theorem dX11_acted_6 : decode cX11_acted 6 = .ok (.iload_n 1, 1) := by decide +kernel
theorem dX11_acted_7 : decode cX11_acted 7 = .ok (.iastore, 1) := by decide +kernel
theorem dX11_acted_8 : decode cX11_acted 8 = .ok (.aload_n 0, 1) := by decide +kernel
theorem dX11_acted_9 : decode cX11_acted 9 = .ok (.getfield 7, 3) := by decide +kernel
theorem dX11_acted_12 : decode cX11_acted 12 = .ok (.bipush 87, 2) := by decide +kernel
theorem dX11_acted_14 : decode cX11_acted 14 = .ok (.aload_n 0, 1) := by decide +kernel
theorem dX11_acted_15 : decode cX11_acted 15 = .ok (.getfield 123, 3) := by decide +kernel
theorem dX11_acted_18 : decode cX11_acted 18 = .ok (.iastore, 1) := by decide +kernel
theorem dX11_acted_19 : decode cX11_acted 19 = .ok (.aload_n 0, 1) := by decide +kernel
theorem dX11_acted_20 : decode cX11_acted 20 = .ok (.getfield 7, 3) := by decide +kernel
theorem dX11_acted_23 : decode cX11_acted 23 = .ok (.bipush 88, 2) := by decide +kernel
theorem dX11_acted_25 : decode cX11_acted 25 = .ok (.aload_n 0, 1) := by decide +kernel
theorem dX11_acted_26 : decode cX11_acted 26 = .ok (.getfield 126, 3) := by decide +kernel
theorem dX11_acted_29 : decode cX11_acted 29 = .ok (.iastore, 1) := by decide +kernel
theorem dX11_acted_30 : decode cX11_acted 30 = .ok (.iload_n 1, 1) := by decide +kernel
theorem dX11_acted_31 : decode cX11_acted 31 = .ok (.ifCond .le 5, 3) := by decide +kernel
theorem dX11_acted_34 : decode cX11_acted 34 = .ok (.iload_n 1, 1) := by decide +kernel
theorem dX11_acted_35 : decode cX11_acted 35 = .ok (.ireturn, 1) := by decide +kernel
theorem dX11_acted_36 : decode cX11_acted 36 = .ok (.aload_n 0, 1) := by decide +kernel
theorem dX11_acted_37 : decode cX11_acted 37 = .ok (.invokevirtual 196, 3) := by decide +kernel
theorem dX11_acted_40 : decode cX11_acted 40 = .ok (.aload_n 0, 1) := by decide +kernel
theorem dX11_acted_41 : decode cX11_acted 41 = .ok (.iconst 0, 1) := by decide +kernel
theorem dX11_acted_42 : decode cX11_acted 42 = .ok (.invokevirtual 199, 3) := by decide +kernel
theorem dX11_acted_45 : decode cX11_acted 45 = .ok (.iconst 0, 1) := by decide +kernel
theorem dX11_acted_46 : decode cX11_acted 46 = .ok (.ireturn, 1) := by decide +kernel
set_option maxRecDepth 20000 in
theorem ggX11_set_X11_begins : GoodIn wsX11_set wsX11_begins := goodIn_r _ [5, 6, 7, 8, 9, 10, 4, 11, 12, 13, 14, 15, 16, 73, 74, 75, 76, 77, 78, 79, 80, 81, 82, 83, 84, 85, 86, 87, 88, 89, 90, 91, 92, 93, 94, 95, 96, 97, 98, 99, 100, 101, 102, 103, 104, 105, 106, 107, 108] rfl rfl
set_option maxRecDepth 20000 in
theorem gX11_set_X11_begins : GoodIn wsX11_set (wsV RX11 202 RX11 yX11_begins wsX11_begins) := goodIn_app (goodIn_of _ (by decide +kernel)) ggX11_set_X11_begins
set_option maxRecDepth 20000 in
theorem ggX11_set_X11_sets : GoodIn wsX11_set wsX11_sets := goodIn_r _ [20, 15, 21, 16, 22, 23, 24, 25, 4, 26, 14, 27, 28, 29, 30, 13, 31, 32, 33, 34, 35, 36, 37, 38, 39, 40, 41, 42, 43, 44, 45, 46, 47, 48, 49, 50, 51, 52, 53, 73, 74, 75, 76, 77, 78, 79, 80, 81, 82, 83, 84, 85, 86, 87, 88, 89, 90, 91, 92, 93, 94, 95, 96, 97, 98, 99, 100, 101, 102, 103, 104, 105, 106, 107, 108] rfl rfl
set_option maxRecDepth 20000 in
theorem gX11_set_X11_sets : GoodIn wsX11_set (wsV RX11 205 RX11 yX11_sets wsX11_sets) := goodIn_app (goodIn_of _ (by decide +kernel)) ggX11_set_X11_sets
set_option maxRecDepth 20000 in
theorem ggX11_set_X11_acted : GoodIn wsX11_set wsX11_acted := goodIn_r _ [57, 12, 58, 59, 60, 61, 62, 4, 63, 64, 65, 66, 67, 68, 69, 70, 71, 72, 15, 16, 73, 74, 75, 76, 77, 78, 79, 80, 81, 82, 83, 84, 85, 86, 87, 88, 89, 90, 91, 92, 93, 94, 95, 96, 97, 98, 99, 100, 101, 102, 103, 104, 105, 106, 107, 108] rfl rfl
set_option maxRecDepth 20000 in
theorem gX11_set_X11_acted : GoodIn wsX11_set (wsV RX11 209 RX11 yX11_acted wsX11_acted) := goodIn_app (goodIn_of _ (by decide +kernel)) ggX11_set_X11_acted
theorem dX11_set_0 : decode cX11_set 0 = .ok (.aload_n 0, 1) := by decide +kernel
theorem dX11_set_1 : decode cX11_set 1 = .ok (.iconst 0, 1) := by decide +kernel
theorem dX11_set_2 : decode cX11_set 2 = .ok (.invokevirtual 202, 3) := by decide +kernel
theorem dX11_set_5 : decode cX11_set 5 = .ok (.aload_n 0, 1) := by decide +kernel
theorem dX11_set_6 : decode cX11_set 6 = .ok (.aload_n 0, 1) := by decide +kernel
theorem dX11_set_7 : decode cX11_set 7 = .ok (.iload_n 1, 1) := by decide +kernel
theorem dX11_set_8 : decode cX11_set 8 = .ok (.iload_n 2, 1) := by decide +kernel
theorem dX11_set_9 : decode cX11_set 9 = .ok (.iload_n 3, 1) := by decide +kernel
theorem dX11_set_10 : decode cX11_set 10 = .ok (.iload 4, 2) := by decide +kernel
theorem dX11_set_12 : decode cX11_set 12 = .ok (.invokevirtual 205, 3) := by decide +kernel
theorem dX11_set_15 : decode cX11_set 15 = .ok (.invokevirtual 209, 3) := by decide +kernel
theorem dX11_set_18 : decode cX11_set 18 = .ok (.ireturn, 1) := by decide +kernel
set_option maxRecDepth 20000 in
theorem ggX11_swap_X11_begins : GoodIn wsX11_swap wsX11_begins := goodIn_r _ [5, 6, 7, 8, 9, 10, 4, 11, 12, 13, 14, 15, 16, 54, 55, 56, 57, 58, 59, 60, 61, 62, 63, 64, 65, 66, 67, 68, 69, 70, 71, 72, 73, 74, 75, 76, 77, 78, 79, 80, 81, 82, 83, 84, 85, 86, 87, 88, 89] rfl rfl
set_option maxRecDepth 20000 in
theorem gX11_swap_X11_begins : GoodIn wsX11_swap (wsV RX11 202 RX11 yX11_begins wsX11_begins) := goodIn_app (goodIn_of _ (by decide +kernel)) ggX11_swap_X11_begins
set_option maxRecDepth 20000 in
theorem ggX11_swap_X11_swaps : GoodIn wsX11_swap wsX11_swaps := goodIn_r _ [20, 14, 15, 16, 21, 22, 23, 4, 24, 13, 25, 26, 27, 28, 29, 30, 31, 32, 33, 34, 54, 55, 56, 57, 58, 59, 60, 61, 62, 63, 64, 65, 66, 67, 68, 69, 70, 71, 72, 73, 74, 75, 76, 77, 78, 79, 80, 81, 82, 83, 84, 85, 86, 87, 88, 89] rfl rfl
set_option maxRecDepth 20000 in
theorem gX11_swap_X11_swaps : GoodIn wsX11_swap (wsV RX11 212 RX11 yX11_swaps wsX11_swaps) := goodIn_app (goodIn_of _ (by decide +kernel)) ggX11_swap_X11_swaps
set_option maxRecDepth 20000 in
theorem ggX11_swap_X11_acted : GoodIn wsX11_swap wsX11_acted := goodIn_r _ [38, 12, 39, 40, 41, 42, 43, 4, 44, 45, 46, 47, 48, 49, 50, 51, 52, 53, 15, 16, 54, 55, 56, 57, 58, 59, 60, 61, 62, 63, 64, 65, 66, 67, 68, 69, 70, 71, 72, 73, 74, 75, 76, 77, 78, 79, 80, 81, 82, 83, 84, 85, 86, 87, 88, 89] rfl rfl
set_option maxRecDepth 20000 in
theorem gX11_swap_X11_acted : GoodIn wsX11_swap (wsV RX11 209 RX11 yX11_acted wsX11_acted) := goodIn_app (goodIn_of _ (by decide +kernel)) ggX11_swap_X11_acted
theorem dX11_swap_0 : decode cX11_swap 0 = .ok (.aload_n 0, 1) := by decide +kernel
theorem dX11_swap_1 : decode cX11_swap 1 = .ok (.iconst 0, 1) := by decide +kernel
theorem dX11_swap_2 : decode cX11_swap 2 = .ok (.invokevirtual 202, 3) := by decide +kernel
theorem dX11_swap_5 : decode cX11_swap 5 = .ok (.aload_n 0, 1) := by decide +kernel
theorem dX11_swap_6 : decode cX11_swap 6 = .ok (.aload_n 0, 1) := by decide +kernel
theorem dX11_swap_7 : decode cX11_swap 7 = .ok (.iload_n 1, 1) := by decide +kernel
theorem dX11_swap_8 : decode cX11_swap 8 = .ok (.iload_n 2, 1) := by decide +kernel
theorem dX11_swap_9 : decode cX11_swap 9 = .ok (.invokevirtual 212, 3) := by decide +kernel
theorem dX11_swap_12 : decode cX11_swap 12 = .ok (.invokevirtual 209, 3) := by decide +kernel
theorem dX11_swap_15 : decode cX11_swap 15 = .ok (.ireturn, 1) := by decide +kernel
set_option maxRecDepth 20000 in
theorem ggX11_scale_X11_begins : GoodIn wsX11_scale wsX11_begins := goodIn_r _ [5, 6, 7, 8, 9, 10, 4, 11, 12, 13, 14, 15, 16, 81, 82, 83, 84, 85, 86, 87, 88, 89, 90, 91, 92, 93, 94, 95, 96, 97, 98, 99, 100, 101, 102, 103, 104, 105, 106, 107, 108, 109, 110, 111, 112, 113, 114, 115, 116] rfl rfl
set_option maxRecDepth 20000 in
theorem gX11_scale_X11_begins : GoodIn wsX11_scale (wsV RX11 202 RX11 yX11_begins wsX11_begins) := goodIn_app (goodIn_of _ (by decide +kernel)) ggX11_scale_X11_begins
set_option maxRecDepth 20000 in
theorem ggX11_scale_X11_scales : GoodIn wsX11_scale wsX11_scales := goodIn_r _ [20, 14, 15, 16, 21, 22, 23, 24, 25, 26, 4, 27, 13, 28, 29, 30, 31, 32, 33, 34, 35, 36, 37, 38, 39, 40, 41, 42, 43, 44, 45, 46, 47, 48, 49, 50, 51, 52, 53, 54, 55, 56, 57, 7, 58, 59, 60, 61, 62, 63, 81, 82, 83, 84, 85, 86, 87, 88, 89, 90, 91, 92, 93, 94, 95, 96, 97, 98, 99, 100, 101, 102, 103, 104, 105, 106, 107, 108, 109, 110, 111, 112, 113, 114, 115, 116] rfl rfl
set_option maxRecDepth 20000 in
theorem gX11_scale_X11_scales : GoodIn wsX11_scale (wsV RX11 215 RX11 yX11_scales wsX11_scales) := goodIn_app (goodIn_of _ (by decide +kernel)) ggX11_scale_X11_scales
set_option maxRecDepth 20000 in
theorem ggX11_scale_X11_acted : GoodIn wsX11_scale wsX11_acted := goodIn_r _ [67, 12, 58, 59, 68, 69, 70, 4, 71, 72, 73, 74, 75, 76, 77, 78, 79, 80, 15, 16, 81, 82, 83, 84, 85, 86, 87, 88, 89, 90, 91, 92, 93, 94, 95, 96, 97, 98, 99, 100, 101, 102, 103, 104, 105, 106, 107, 108, 109, 110, 111, 112, 113, 114, 115, 116] rfl rfl
set_option maxRecDepth 20000 in
theorem gX11_scale_X11_acted : GoodIn wsX11_scale (wsV RX11 209 RX11 yX11_acted wsX11_acted) := goodIn_app (goodIn_of _ (by decide +kernel)) ggX11_scale_X11_acted
theorem dX11_scale_0 : decode cX11_scale 0 = .ok (.aload_n 0, 1) := by decide +kernel
theorem dX11_scale_1 : decode cX11_scale 1 = .ok (.iconst 0, 1) := by decide +kernel
theorem dX11_scale_2 : decode cX11_scale 2 = .ok (.invokevirtual 202, 3) := by decide +kernel
theorem dX11_scale_5 : decode cX11_scale 5 = .ok (.aload_n 0, 1) := by decide +kernel
theorem dX11_scale_6 : decode cX11_scale 6 = .ok (.aload_n 0, 1) := by decide +kernel
theorem dX11_scale_7 : decode cX11_scale 7 = .ok (.iload_n 1, 1) := by decide +kernel
theorem dX11_scale_8 : decode cX11_scale 8 = .ok (.iload_n 2, 1) := by decide +kernel
theorem dX11_scale_9 : decode cX11_scale 9 = .ok (.iload_n 3, 1) := by decide +kernel
theorem dX11_scale_10 : decode cX11_scale 10 = .ok (.invokevirtual 215, 3) := by decide +kernel
theorem dX11_scale_13 : decode cX11_scale 13 = .ok (.invokevirtual 209, 3) := by decide +kernel
theorem dX11_scale_16 : decode cX11_scale 16 = .ok (.ireturn, 1) := by decide +kernel
set_option maxRecDepth 20000 in
theorem ggX11_add_X11_begins : GoodIn wsX11_add wsX11_begins := goodIn_r _ [5, 6, 7, 8, 9, 10, 4, 11, 12, 13, 14, 15, 16, 90, 91, 92, 93, 94, 95, 96, 97, 98, 99, 100, 101, 102, 103, 104, 105, 106, 107, 108, 109, 110, 111, 112, 113, 114, 115, 116, 117, 118, 119, 120, 121, 122, 123, 124, 125] rfl rfl
set_option maxRecDepth 20000 in
theorem gX11_add_X11_begins : GoodIn wsX11_add (wsV RX11 202 RX11 yX11_begins wsX11_begins) := goodIn_app (goodIn_of _ (by decide +kernel)) ggX11_add_X11_begins
set_option maxRecDepth 20000 in
theorem ggX11_add_X11_addsTo : GoodIn wsX11_add wsX11_addsTo := goodIn_r _ [20, 21, 22, 7, 23, 24, 25, 4, 26, 13, 27, 28, 29, 30, 31, 32, 33, 34, 35, 36, 14, 15, 37, 38, 39, 40, 41, 42, 43, 44, 45, 46, 47, 48, 49, 50, 51, 52, 53, 16, 54, 55, 56, 57, 58, 59, 60, 61, 62, 63, 64, 65, 66, 67, 68, 69, 70, 71, 72, 90, 91, 92, 93, 94, 95, 96, 97, 98, 99, 100, 101, 102, 103, 104, 105, 106, 107, 108, 109, 110, 111, 112, 113, 114, 115, 116, 117, 118, 119, 120, 121, 122, 123, 124, 125] rfl rfl
set_option maxRecDepth 20000 in
theorem gX11_add_X11_addsTo : GoodIn wsX11_add (wsV RX11 219 RX11 yX11_addsTo wsX11_addsTo) := goodIn_app (goodIn_of _ (by decide +kernel)) ggX11_add_X11_addsTo
set_option maxRecDepth 20000 in
theorem ggX11_add_X11_acted : GoodIn wsX11_add wsX11_acted := goodIn_r _ [76, 12, 63, 64, 77, 78, 79, 4, 80, 81, 82, 83, 84, 85, 86, 87, 88, 89, 15, 16, 90, 91, 92, 93, 94, 95, 96, 97, 98, 99, 100, 101, 102, 103, 104, 105, 106, 107, 108, 109, 110, 111, 112, 113, 114, 115, 116, 117, 118, 119, 120, 121, 122, 123, 124, 125] rfl rfl
set_option maxRecDepth 20000 in
theorem gX11_add_X11_acted : GoodIn wsX11_add (wsV RX11 209 RX11 yX11_acted wsX11_acted) := goodIn_app (goodIn_of _ (by decide +kernel)) ggX11_add_X11_acted
theorem dX11_add_0 : decode cX11_add 0 = .ok (.aload_n 0, 1) := by decide +kernel
theorem dX11_add_1 : decode cX11_add 1 = .ok (.iconst 0, 1) := by decide +kernel
theorem dX11_add_2 : decode cX11_add 2 = .ok (.invokevirtual 202, 3) := by decide +kernel
theorem dX11_add_5 : decode cX11_add 5 = .ok (.aload_n 0, 1) := by decide +kernel
theorem dX11_add_6 : decode cX11_add 6 = .ok (.aload_n 0, 1) := by decide +kernel
theorem dX11_add_7 : decode cX11_add 7 = .ok (.iload_n 1, 1) := by decide +kernel
theorem dX11_add_8 : decode cX11_add 8 = .ok (.iload_n 2, 1) := by decide +kernel
theorem dX11_add_9 : decode cX11_add 9 = .ok (.iload_n 3, 1) := by decide +kernel
theorem dX11_add_10 : decode cX11_add 10 = .ok (.iload 4, 2) := by decide +kernel
theorem dX11_add_12 : decode cX11_add 12 = .ok (.invokevirtual 219, 3) := by decide +kernel
theorem dX11_add_15 : decode cX11_add 15 = .ok (.invokevirtual 209, 3) := by decide +kernel
theorem dX11_add_18 : decode cX11_add 18 = .ok (.ireturn, 1) := by decide +kernel
set_option maxRecDepth 20000 in
theorem ggX11_reduce_X11_begins : GoodIn wsX11_reduce wsX11_begins := goodIn_r _ [5, 6, 7, 8, 9, 10, 4, 11, 12, 13, 14, 15, 16, 122, 123, 124, 125, 126, 127, 128, 129, 130, 131, 132, 133, 134, 135, 136, 137, 138, 139, 140, 141, 142, 143, 144, 145, 146, 147, 148, 149, 150, 151, 152, 153, 154, 155, 156, 157] rfl rfl
set_option maxRecDepth 20000 in
theorem gX11_reduce_X11_begins : GoodIn wsX11_reduce (wsV RX11 202 RX11 yX11_begins wsX11_begins) := goodIn_app (goodIn_of _ (by decide +kernel)) ggX11_reduce_X11_begins
set_option maxRecDepth 20000 in
theorem ggX11_reduce_X11_reduces : GoodIn wsX11_reduce wsX11_reduces := goodIn_r _ [20, 7, 13, 14, 15, 12, 6, 16, 21, 22, 4, 23, 24, 25, 26, 27, 28, 29, 30, 31, 32, 33, 34, 35, 36, 37, 38, 39, 40, 41, 42, 43, 44, 45, 46, 47, 48, 49, 50, 51, 52, 53, 54, 55, 56, 57, 58, 59, 60, 61, 62, 63, 64, 65, 66, 67, 68, 69, 70, 71, 72, 73, 74, 75, 76, 77, 78, 79, 80, 81, 82, 83, 84, 85, 86, 87, 88, 89, 90, 91, 92, 93, 94, 95, 96, 97, 98, 99, 100, 101, 102, 103, 104, 122, 123, 124, 125, 126, 127, 128, 129, 130, 131, 132, 133, 134, 135, 136, 137, 138, 139, 140, 141, 142, 143, 144, 145, 146, 147, 148, 149, 150, 151, 152, 153, 154, 155, 156, 157] rfl rfl
set_option maxRecDepth 20000 in
theorem gX11_reduce_X11_reduces : GoodIn wsX11_reduce (wsV RX11 222 RX11 yX11_reduces wsX11_reduces) := goodIn_app (goodIn_of _ (by decide +kernel)) ggX11_reduce_X11_reduces
set_option maxRecDepth 20000 in
theorem ggX11_reduce_X11_acted : GoodIn wsX11_reduce wsX11_acted := goodIn_r _ [108, 12, 87, 88, 109, 110, 111, 4, 112, 113, 114, 115, 116, 117, 118, 119, 120, 121, 15, 16, 122, 123, 124, 125, 126, 127, 128, 129, 130, 131, 132, 133, 134, 135, 136, 137, 138, 139, 140, 141, 142, 143, 144, 145, 146, 147, 148, 149, 150, 151, 152, 153, 154, 155, 156, 157] rfl rfl
set_option maxRecDepth 20000 in
theorem gX11_reduce_X11_acted : GoodIn wsX11_reduce (wsV RX11 209 RX11 yX11_acted wsX11_acted) := goodIn_app (goodIn_of _ (by decide +kernel)) ggX11_reduce_X11_acted
theorem dX11_reduce_0 : decode cX11_reduce 0 = .ok (.aload_n 0, 1) := by decide +kernel
theorem dX11_reduce_1 : decode cX11_reduce 1 = .ok (.iconst 0, 1) := by decide +kernel
theorem dX11_reduce_2 : decode cX11_reduce 2 = .ok (.invokevirtual 202, 3) := by decide +kernel
theorem dX11_reduce_5 : decode cX11_reduce 5 = .ok (.aload_n 0, 1) := by decide +kernel
theorem dX11_reduce_6 : decode cX11_reduce 6 = .ok (.aload_n 0, 1) := by decide +kernel
theorem dX11_reduce_7 : decode cX11_reduce 7 = .ok (.iload_n 1, 1) := by decide +kernel
theorem dX11_reduce_8 : decode cX11_reduce 8 = .ok (.invokevirtual 222, 3) := by decide +kernel
theorem dX11_reduce_11 : decode cX11_reduce 11 = .ok (.invokevirtual 209, 3) := by decide +kernel
theorem dX11_reduce_14 : decode cX11_reduce 14 = .ok (.ireturn, 1) := by decide +kernel
set_option maxRecDepth 20000 in
theorem ggX11_why_X11_isIn : GoodIn wsX11_why wsX11_isIn := goodIn_r _ [5] rfl rfl
set_option maxRecDepth 20000 in
theorem gX11_why_X11_isIn : GoodIn wsX11_why (va_wsS RX11 85 yX11_isIn wsX11_isIn) := goodIn_app (goodIn_of _ (by decide +kernel)) ggX11_why_X11_isIn
theorem dX11_why_0 : decode cX11_why 0 = .ok (.iload_n 1, 1) := by decide +kernel
theorem dX11_why_1 : decode cX11_why 1 = .ok (.iconst 0, 1) := by decide +kernel
theorem dX11_why_2 : decode cX11_why 2 = .ok (.iconst 1, 1) := by decide +kernel
theorem dX11_why_3 : decode cX11_why 3 = .ok (.invokestatic 85, 3) := by decide +kernel
theorem dX11_why_6 : decode cX11_why 6 = .ok (.ifCond .eq 12, 3) := by decide +kernel
theorem dX11_why_9 : decode cX11_why 9 = .ok (.iload_n 2, 1) := by decide +kernel
theorem dX11_why_10 : decode cX11_why 10 = .ok (.iconst 0, 1) := by decide +kernel
theorem dX11_why_11 : decode cX11_why 11 = .ok (.iconst 2, 1) := by decide +kernel
theorem dX11_why_12 : decode cX11_why 12 = .ok (.invokestatic 85, 3) := by decide +kernel
theorem dX11_why_15 : decode cX11_why 15 = .ok (.ifCond .ne 5, 3) := by decide +kernel
theorem dX11_why_18 : decode cX11_why 18 = .ok (.iconst (-1), 1) := by decide +kernel
theorem dX11_why_19 : decode cX11_why 19 = .ok (.ireturn, 1) := by decide +kernel
theorem dX11_why_20 : decode cX11_why 20 = .ok (.aload_n 0, 1) := by decide +kernel
theorem dX11_why_21 : decode cX11_why 21 = .ok (.getfield 7, 3) := by decide +kernel
theorem dX11_why_24 : decode cX11_why 24 = .ok (.bipush 86, 2) := by decide +kernel
theorem dX11_why_26 : decode cX11_why 26 = .ok (.iaload, 1) := by decide +kernel
theorem dX11_why_27 : decode cX11_why 27 = .ok (.ifCond .eq 19, 3) := by decide +kernel
theorem dX11_why_30 : decode cX11_why 30 = .ok (.iload_n 1, 1) := by decide +kernel
theorem dX11_why_31 : decode cX11_why 31 = .ok (.iconst 1, 1) := by decide +kernel
theorem dX11_why_32 : decode cX11_why 32 = .ok (.if_icmp .ne 16, 3) := by decide +kernel
theorem dX11_why_35 : decode cX11_why 35 = .ok (.aload_n 0, 1) := by decide +kernel
theorem dX11_why_36 : decode cX11_why 36 = .ok (.getfield 7, 3) := by decide +kernel
theorem dX11_why_39 : decode cX11_why 39 = .ok (.bipush 86, 2) := by decide +kernel
theorem dX11_why_41 : decode cX11_why 41 = .ok (.iaload, 1) := by decide +kernel
theorem dX11_why_42 : decode cX11_why 42 = .ok (.iconst 3, 1) := by decide +kernel
theorem dX11_why_43 : decode cX11_why 43 = .ok (.if_icmp .eq 5, 3) := by decide +kernel
theorem dX11_why_46 : decode cX11_why 46 = .ok (.iconst 0, 1) := by decide +kernel
theorem dX11_why_47 : decode cX11_why 47 = .ok (.ireturn, 1) := by decide +kernel
theorem dX11_why_48 : decode cX11_why 48 = .ok (.iload_n 1, 1) := by decide +kernel
theorem dX11_why_49 : decode cX11_why 49 = .ok (.ifCond .ne 19, 3) := by decide +kernel
theorem dX11_why_52 : decode cX11_why 52 = .ok (.iload_n 2, 1) := by decide +kernel
theorem dX11_why_53 : decode cX11_why 53 = .ok (.ifCond .ne 13, 3) := by decide +kernel
theorem dX11_why_56 : decode cX11_why 56 = .ok (.aload_n 0, 1) := by decide +kernel
theorem dX11_why_57 : decode cX11_why 57 = .ok (.getfield 7, 3) := by decide +kernel
theorem dX11_why_60 : decode cX11_why 60 = .ok (.bipush 86, 2) := by decide +kernel
theorem dX11_why_62 : decode cX11_why 62 = .ok (.iaload, 1) := by decide +kernel
theorem dX11_why_63 : decode cX11_why 63 = .ok (.goto 4, 3) := by decide +kernel
theorem dX11_why_66 : decode cX11_why 66 = .ok (.iconst (-1), 1) := by decide +kernel
theorem dX11_why_67 : decode cX11_why 67 = .ok (.ireturn, 1) := by decide +kernel
theorem dX11_why_68 : decode cX11_why 68 = .ok (.iload_n 2, 1) := by decide +kernel
theorem dX11_why_69 : decode cX11_why 69 = .ok (.ifCond .ne 7, 3) := by decide +kernel
theorem dX11_why_72 : decode cX11_why 72 = .ok (.iconst 4, 1) := by decide +kernel
theorem dX11_why_73 : decode cX11_why 73 = .ok (.goto 12, 3) := by decide +kernel
theorem dX11_why_76 : decode cX11_why 76 = .ok (.aload_n 0, 1) := by decide +kernel
theorem dX11_why_77 : decode cX11_why 77 = .ok (.getfield 7, 3) := by decide +kernel
theorem dX11_why_80 : decode cX11_why 80 = .ok (.bipush 86, 2) := by decide +kernel
theorem dX11_why_82 : decode cX11_why 82 = .ok (.iload_n 2, 1) := by decide +kernel
theorem dX11_why_83 : decode cX11_why 83 = .ok (.iadd, 1) := by decide +kernel
theorem dX11_why_84 : decode cX11_why 84 = .ok (.iaload, 1) := by decide +kernel
theorem dX11_why_85 : decode cX11_why 85 = .ok (.ireturn, 1) := by decide +kernel
set_option maxRecDepth 20000 in
theorem ggX11_undo_X11_copies : GoodIn wsX11_undo wsX11_copies := goodIn_r _ [6, 7, 8, 9, 10, 11, 12, 13, 14, 15, 16, 17, 18, 19, 20, 21, 22, 23, 24, 25, 26, 27, 28, 29, 30, 31, 32, 33, 34, 35, 36, 37, 38, 39, 40, 41, 42, 43] rfl rfl
set_option maxRecDepth 20000 in
theorem gX11_undo_X11_copies : GoodIn wsX11_undo (wsV RX11 175 RX11 yX11_copies wsX11_copies) := goodIn_app (goodIn_of _ (by decide +kernel)) ggX11_undo_X11_copies
theorem dX11_undo_0 : decode cX11_undo 0 = .ok (.aload_n 0, 1) := by decide +kernel
theorem dX11_undo_1 : decode cX11_undo 1 = .ok (.getfield 172, 3) := by decide +kernel
theorem dX11_undo_4 : decode cX11_undo 4 = .ok (.ifCond .ne 5, 3) := by decide +kernel
theorem dX11_undo_7 : decode cX11_undo 7 = .ok (.iconst (-1), 1) := by decide +kernel
theorem dX11_undo_8 : decode cX11_undo 8 = .ok (.ireturn, 1) := by decide +kernel
theorem dX11_undo_9 : decode cX11_undo 9 = .ok (.aload_n 0, 1) := by decide +kernel
theorem dX11_undo_10 : decode cX11_undo 10 = .ok (.dup, 1) := by decide +kernel
theorem dX11_undo_11 : decode cX11_undo 11 = .ok (.getfield 172, 3) := by decide +kernel
theorem dX11_undo_14 : decode cX11_undo 14 = .ok (.iconst 1, 1) := by decide +kernel
theorem dX11_undo_15 : decode cX11_undo 15 = .ok (.isub, 1) := by decide +kernel
theorem dX11_undo_16 : decode cX11_undo 16 = .ok (.putfield 172, 3) := by decide +kernel
theorem dX11_undo_19 : decode cX11_undo 19 = .ok (.aload_n 0, 1) := by decide +kernel
theorem dX11_undo_20 : decode cX11_undo 20 = .ok (.sipush 175, 3) := by decide +kernel
theorem dX11_undo_23 : decode cX11_undo 23 = .ok (.bipush 86, 2) := by decide +kernel
theorem dX11_undo_25 : decode cX11_undo 25 = .ok (.aload_n 0, 1) := by decide +kernel
theorem dX11_undo_26 : decode cX11_undo 26 = .ok (.getfield 172, 3) := by decide +kernel
theorem dX11_undo_29 : decode cX11_undo 29 = .ok (.imul, 1) := by decide +kernel
theorem dX11_undo_30 : decode cX11_undo 30 = .ok (.iadd, 1) := by decide +kernel
theorem dX11_undo_31 : decode cX11_undo 31 = .ok (.iconst 0, 1) := by decide +kernel
theorem dX11_undo_32 : decode cX11_undo 32 = .ok (.bipush 86, 2) := by decide +kernel
theorem dX11_undo_34 : decode cX11_undo 34 = .ok (.invokevirtual 175, 3) := by decide +kernel
theorem dX11_undo_37 : decode cX11_undo 37 = .ok (.aload_n 0, 1) := by decide +kernel
theorem dX11_undo_38 : decode cX11_undo 38 = .ok (.getfield 172, 3) := by decide +kernel
theorem dX11_undo_41 : decode cX11_undo 41 = .ok (.ireturn, 1) := by decide +kernel
set_option maxRecDepth 20000 in
theorem ggX11_entry_X11_begins : GoodIn wsX11_entry wsX11_begins := goodIn_r _ [8, 9, 10, 11, 12, 13, 7, 14, 15, 16, 17, 2, 1, 32, 33, 34, 35, 36, 37, 38, 39, 40, 41, 42, 43, 44, 45, 46, 47, 48, 49, 50, 51, 52, 53, 54, 55, 56, 57, 58, 59, 60, 61, 62, 63, 64, 65, 66, 67] rfl rfl
set_option maxRecDepth 20000 in
theorem gX11_entry_X11_begins : GoodIn wsX11_entry (wsV RX11 202 RX11 yX11_begins wsX11_begins) := goodIn_app (goodIn_of _ (by decide +kernel)) ggX11_entry_X11_begins
set_option maxRecDepth 20000 in
theorem ggX11_entry_X11_isPlace : GoodIn wsX11_entry wsX11_isPlace := goodIn_r _ [21, 17, 22, 23, 24, 7, 25, 16, 26, 27, 28, 32, 33, 34, 35, 36, 37, 38, 39, 40, 41, 42, 43, 44, 45, 46, 47, 48, 49, 50, 51, 52, 53, 54, 55, 56, 57, 58, 59, 60, 61, 62, 63, 64, 65, 66, 67] rfl rfl
set_option maxRecDepth 20000 in
theorem gX11_entry_X11_isPlace : GoodIn wsX11_entry (wsV RX11 181 RX11 yX11_isPlace wsX11_isPlace) := goodIn_app (goodIn_of _ (by decide +kernel)) ggX11_entry_X11_isPlace
set_option maxRecDepth 20000 in
theorem ggX11_entry_X11_cell : GoodIn wsX11_entry wsX11_cell := goodIn_r _ [31] rfl rfl
set_option maxRecDepth 20000 in
theorem gX11_entry_X11_cell : GoodIn wsX11_entry (va_wsS RX11 89 yX11_cell wsX11_cell) := goodIn_app (goodIn_of _ (by decide +kernel)) ggX11_entry_X11_cell
theorem dX11_entry_0 : decode cX11_entry 0 = .ok (.aload_n 0, 1) := by decide +kernel
theorem dX11_entry_1 : decode cX11_entry 1 = .ok (.iconst 0, 1) := by decide +kernel
theorem dX11_entry_2 : decode cX11_entry 2 = .ok (.invokevirtual 202, 3) := by decide +kernel
theorem dX11_entry_5 : decode cX11_entry 5 = .ok (.aload_n 0, 1) := by decide +kernel
theorem dX11_entry_6 : decode cX11_entry 6 = .ok (.iload_n 1, 1) := by decide +kernel
theorem dX11_entry_7 : decode cX11_entry 7 = .ok (.iload_n 2, 1) := by decide +kernel
theorem dX11_entry_8 : decode cX11_entry 8 = .ok (.invokevirtual 181, 3) := by decide +kernel
theorem dX11_entry_11 : decode cX11_entry 11 = .ok (.ifCond .eq 33, 3) := by decide +kernel
theorem dX11_entry_14 : decode cX11_entry 14 = .ok (.iload_n 3, 1) := by decide +kernel
theorem dX11_entry_15 : decode cX11_entry 15 = .ok (.ifCond .eq 16, 3) := by decide +kernel
theorem dX11_entry_18 : decode cX11_entry 18 = .ok (.aload_n 0, 1) := by decide +kernel
theorem dX11_entry_19 : decode cX11_entry 19 = .ok (.getfield 27, 3) := by decide +kernel
theorem dX11_entry_22 : decode cX11_entry 22 = .ok (.iload_n 1, 1) := by decide +kernel
theorem dX11_entry_23 : decode cX11_entry 23 = .ok (.iload_n 2, 1) := by decide +kernel
theorem dX11_entry_24 : decode cX11_entry 24 = .ok (.invokestatic 89, 3) := by decide +kernel
theorem dX11_entry_27 : decode cX11_entry 27 = .ok (.iaload, 1) := by decide +kernel
theorem dX11_entry_28 : decode cX11_entry 28 = .ok (.goto 18, 3) := by decide +kernel
theorem dX11_entry_31 : decode cX11_entry 31 = .ok (.aload_n 0, 1) := by decide +kernel
theorem dX11_entry_32 : decode cX11_entry 32 = .ok (.getfield 24, 3) := by decide +kernel
theorem dX11_entry_35 : decode cX11_entry 35 = .ok (.iload_n 1, 1) := by decide +kernel
theorem dX11_entry_36 : decode cX11_entry 36 = .ok (.iload_n 2, 1) := by decide +kernel
theorem dX11_entry_37 : decode cX11_entry 37 = .ok (.invokestatic 89, 3) := by decide +kernel
theorem dX11_entry_40 : decode cX11_entry 40 = .ok (.iaload, 1) := by decide +kernel
theorem dX11_entry_41 : decode cX11_entry 41 = .ok (.goto 5, 3) := by decide +kernel
theorem dX11_entry_44 : decode cX11_entry 44 = .ok (.ldc 165, 2) := by decide +kernel
theorem dX11_entry_46 : decode cX11_entry 46 = .ok (.ireturn, 1) := by decide +kernel
set_option maxRecDepth 20000 in
theorem ggX11_leastFill_X11_begins : GoodIn wsX11_leastFill wsX11_begins := goodIn_r _ [6, 7, 1, 8, 9, 10, 5, 11, 12, 13, 14, 15, 16, 102, 103, 104, 105, 106, 107, 108, 109, 110, 111, 112, 113, 114, 115, 116, 117, 118, 119, 120, 121, 122, 123, 124, 125, 126, 127, 128, 129, 130, 131, 132, 133, 134, 135, 136, 137] rfl rfl
set_option maxRecDepth 20000 in
theorem gX11_leastFill_X11_begins : GoodIn wsX11_leastFill (wsV RX11 202 RX11 yX11_begins wsX11_begins) := goodIn_app (goodIn_of _ (by decide +kernel)) ggX11_leastFill_X11_begins
set_option maxRecDepth 20000 in
theorem ggX11_leastFill_X11_goes : GoodIn wsX11_leastFill wsX11_goes := goodIn_r _ [20, 21, 1, 22, 23, 24, 25, 26, 27, 28, 5, 29, 13, 14, 15, 30, 31, 32, 33, 34, 35, 36, 37, 38, 39, 40, 41, 42, 43, 44, 45, 46, 47, 48, 49, 50, 51, 52, 53, 54, 16, 55, 56, 57, 58, 59, 60, 61, 62, 63, 64, 65, 66, 67, 68, 69, 70, 71, 72, 73, 74, 75, 76, 77, 78, 79, 80, 81, 82, 83, 84, 85, 86, 87, 88, 89, 90, 91, 92, 93, 94, 95, 96, 97, 102, 103, 104, 105, 106, 107, 108, 109, 110, 111, 112, 113, 114, 115, 116, 117, 118, 119, 120, 121, 122, 123, 124, 125, 126, 127, 128, 129, 130, 131, 132, 133, 134, 135, 136, 137] rfl rfl
set_option maxRecDepth 20000 in
theorem gX11_leastFill_X11_goes : GoodIn wsX11_leastFill (wsV RX11 166 RX11 yX11_goes wsX11_goes) := goodIn_app (goodIn_of _ (by decide +kernel)) ggX11_leastFill_X11_goes
set_option maxRecDepth 20000 in
theorem ggX11_leastFill_X11_fills : GoodIn wsX11_leastFill wsX11_fills := goodIn_r _ [101, 21, 30, 102, 103, 104, 105, 106, 107, 108, 109, 110, 111, 112, 113, 114, 115, 116, 117, 118, 119, 120, 121, 122, 123, 124, 125, 126, 127, 128, 129, 130, 131, 132, 133, 134, 135, 136, 137] rfl rfl
set_option maxRecDepth 20000 in
theorem gX11_leastFill_X11_fills : GoodIn wsX11_leastFill (wsV RX11 225 RX11 yX11_fills wsX11_fills) := goodIn_app (goodIn_of _ (by decide +kernel)) ggX11_leastFill_X11_fills
theorem dX11_leastFill_0 : decode cX11_leastFill 0 = .ok (.iconst (-1), 1) := by decide +kernel
theorem dX11_leastFill_1 : decode cX11_leastFill 1 = .ok (.istore_n 1, 1) := by decide +kernel
theorem dX11_leastFill_2 : decode cX11_leastFill 2 = .ok (.iconst 0, 1) := by decide +kernel
theorem dX11_leastFill_3 : decode cX11_leastFill 3 = .ok (.istore_n 2, 1) := by decide +kernel
theorem dX11_leastFill_4 : decode cX11_leastFill 4 = .ok (.iconst 0, 1) := by decide +kernel
theorem dX11_leastFill_5 : decode cX11_leastFill 5 = .ok (.istore_n 3, 1) := by decide +kernel
theorem dX11_leastFill_6 : decode cX11_leastFill 6 = .ok (.iload_n 3, 1) := by decide +kernel
theorem dX11_leastFill_7 : decode cX11_leastFill 7 = .ok (.iconst 3, 1) := by decide +kernel
theorem dX11_leastFill_8 : decode cX11_leastFill 8 = .ok (.if_icmp .ge 49, 3) := by decide +kernel
theorem dX11_leastFill_11 : decode cX11_leastFill 11 = .ok (.aload_n 0, 1) := by decide +kernel
theorem dX11_leastFill_12 : decode cX11_leastFill 12 = .ok (.iconst 0, 1) := by decide +kernel
theorem dX11_leastFill_13 : decode cX11_leastFill 13 = .ok (.invokevirtual 202, 3) := by decide +kernel
theorem dX11_leastFill_16 : decode cX11_leastFill 16 = .ok (.aload_n 0, 1) := by decide +kernel
theorem dX11_leastFill_17 : decode cX11_leastFill 17 = .ok (.iload_n 3, 1) := by decide +kernel
theorem dX11_leastFill_18 : decode cX11_leastFill 18 = .ok (.invokevirtual 166, 3) := by decide +kernel
theorem dX11_leastFill_21 : decode cX11_leastFill 21 = .ok (.aload_n 0, 1) := by decide +kernel
theorem dX11_leastFill_22 : decode cX11_leastFill 22 = .ok (.getfield 120, 3) := by decide +kernel
theorem dX11_leastFill_25 : decode cX11_leastFill 25 = .ok (.ifCond .ne 26, 3) := by decide +kernel
theorem dX11_leastFill_28 : decode cX11_leastFill 28 = .ok (.iload_n 1, 1) := by decide +kernel
theorem dX11_leastFill_29 : decode cX11_leastFill 29 = .ok (.iconst (-1), 1) := by decide +kernel
theorem dX11_leastFill_30 : decode cX11_leastFill 30 = .ok (.if_icmp .eq 14, 3) := by decide +kernel
theorem dX11_leastFill_33 : decode cX11_leastFill 33 = .ok (.aload_n 0, 1) := by decide +kernel
theorem dX11_leastFill_34 : decode cX11_leastFill 34 = .ok (.invokevirtual 225, 3) := by decide +kernel
theorem dX11_leastFill_37 : decode cX11_leastFill 37 = .ok (.iload_n 2, 1) := by decide +kernel
theorem dX11_leastFill_38 : decode cX11_leastFill 38 = .ok (.if_icmp .lt 6, 3) := by decide +kernel
theorem dX11_leastFill_41 : decode cX11_leastFill 41 = .ok (.goto 10, 3) := by decide +kernel
theorem dX11_leastFill_44 : decode cX11_leastFill 44 = .ok (.iload_n 3, 1) := by decide +kernel
theorem dX11_leastFill_45 : decode cX11_leastFill 45 = .ok (.istore_n 1, 1) := by decide +kernel
theorem dX11_leastFill_46 : decode cX11_leastFill 46 = .ok (.aload_n 0, 1) := by decide +kernel
theorem dX11_leastFill_47 : decode cX11_leastFill 47 = .ok (.invokevirtual 225, 3) := by decide +kernel
theorem dX11_leastFill_50 : decode cX11_leastFill 50 = .ok (.istore_n 2, 1) := by decide +kernel
theorem dX11_leastFill_51 : decode cX11_leastFill 51 = .ok (.iinc 3 1, 3) := by decide +kernel
theorem dX11_leastFill_54 : decode cX11_leastFill 54 = .ok (.goto (-48), 3) := by decide +kernel
theorem dX11_leastFill_57 : decode cX11_leastFill 57 = .ok (.iload_n 1, 1) := by decide +kernel
theorem dX11_leastFill_58 : decode cX11_leastFill 58 = .ok (.ireturn, 1) := by decide +kernel
set_option maxRecDepth 20000 in
theorem ggX11_count_X11_begins : GoodIn wsX11_count wsX11_begins := goodIn_r _ [10, 11, 12, 13, 14, 15, 9, 16, 17, 1, 2, 3, 18, 108, 109, 110, 111, 112, 113, 114, 115, 116, 117, 118, 119, 120, 121, 122, 123, 124, 125, 126, 127, 128, 129, 130, 131, 132, 133, 134, 135, 136, 137, 138, 139, 140, 141, 142, 143] rfl rfl
set_option maxRecDepth 20000 in
theorem gX11_count_X11_begins : GoodIn wsX11_count (wsV RX11 202 RX11 yX11_begins wsX11_begins) := goodIn_app (goodIn_of _ (by decide +kernel)) ggX11_count_X11_begins
set_option maxRecDepth 20000 in
theorem ggX11_count_X11_cell : GoodIn wsX11_count wsX11_cell := goodIn_r _ [21] rfl rfl
set_option maxRecDepth 20000 in
theorem gX11_count_X11_cell : GoodIn wsX11_count (va_wsS RX11 89 yX11_cell wsX11_cell) := goodIn_app (goodIn_of _ (by decide +kernel)) ggX11_count_X11_cell
set_option maxRecDepth 20000 in
theorem ggX11_count_X11_leastFill : GoodIn wsX11_count wsX11_leastFill := goodIn_r _ [25, 12, 6, 7, 8, 9, 10, 11, 13, 14, 15, 16, 17, 1, 2, 3, 18, 26, 27, 28, 29, 30, 31, 32, 33, 34, 35, 36, 37, 38, 39, 40, 19, 20, 21, 41, 42, 43, 44, 45, 46, 47, 48, 49, 50, 51, 52, 53, 54, 55, 56, 57, 58, 59, 60, 61, 62, 63, 64, 65, 66, 67, 68, 69, 70, 71, 72, 73, 74, 75, 76, 77, 78, 79, 80, 81, 82, 83, 84, 85, 86, 87, 88, 89, 90, 91, 92, 93, 94, 95, 96, 97, 98, 99, 100, 101, 102, 103, 104, 105, 106, 107, 108, 109, 110, 111, 112, 113, 114, 115, 116, 117, 118, 119, 120, 121, 122, 123, 124, 125, 126, 127, 128, 129, 130, 131, 132, 133, 134, 135, 136, 137, 138, 139, 140, 141, 142, 143] rfl rfl
set_option maxRecDepth 20000 in
theorem gX11_count_X11_leastFill : GoodIn wsX11_count (wsV RX11 232 RX11 yX11_leastFill wsX11_leastFill) := goodIn_app (goodIn_of _ (by decide +kernel)) ggX11_count_X11_leastFill
theorem dX11_count_0 : decode cX11_count 0 = .ok (.aload_n 0, 1) := by decide +kernel
theorem dX11_count_1 : decode cX11_count 1 = .ok (.iconst 0, 1) := by decide +kernel
theorem dX11_count_2 : decode cX11_count 2 = .ok (.invokevirtual 202, 3) := by decide +kernel
theorem dX11_count_5 : decode cX11_count 5 = .ok (.iconst 0, 1) := by decide +kernel
theorem dX11_count_6 : decode cX11_count 6 = .ok (.istore_n 2, 1) := by decide +kernel
theorem dX11_count_7 : decode cX11_count 7 = .ok (.iconst 0, 1) := by decide +kernel
theorem dX11_count_8 : decode cX11_count 8 = .ok (.istore_n 3, 1) := by decide +kernel
theorem dX11_count_9 : decode cX11_count 9 = .ok (.iload_n 3, 1) := by decide +kernel
theorem dX11_count_10 : decode cX11_count 10 = .ok (.aload_n 0, 1) := by decide +kernel
theorem dX11_count_11 : decode cX11_count 11 = .ok (.getfield 96, 3) := by decide +kernel
theorem dX11_count_14 : decode cX11_count 14 = .ok (.if_icmp .ge 49, 3) := by decide +kernel
theorem dX11_count_17 : decode cX11_count 17 = .ok (.iconst 0, 1) := by decide +kernel
theorem dX11_count_18 : decode cX11_count 18 = .ok (.istore 4, 2) := by decide +kernel
theorem dX11_count_20 : decode cX11_count 20 = .ok (.iload 4, 2) := by decide +kernel
theorem dX11_count_22 : decode cX11_count 22 = .ok (.aload_n 0, 1) := by decide +kernel
theorem dX11_count_23 : decode cX11_count 23 = .ok (.getfield 93, 3) := by decide +kernel
theorem dX11_count_26 : decode cX11_count 26 = .ok (.if_icmp .ge 31, 3) := by decide +kernel
theorem dX11_count_29 : decode cX11_count 29 = .ok (.iload_n 2, 1) := by decide +kernel
theorem dX11_count_30 : decode cX11_count 30 = .ok (.aload_n 0, 1) := by decide +kernel
theorem dX11_count_31 : decode cX11_count 31 = .ok (.getfield 24, 3) := by decide +kernel
theorem dX11_count_34 : decode cX11_count 34 = .ok (.iload_n 3, 1) := by decide +kernel
theorem dX11_count_35 : decode cX11_count 35 = .ok (.iload 4, 2) := by decide +kernel
theorem dX11_count_37 : decode cX11_count 37 = .ok (.invokestatic 89, 3) := by decide +kernel
theorem dX11_count_40 : decode cX11_count 40 = .ok (.iaload, 1) := by decide +kernel
theorem dX11_count_41 : decode cX11_count 41 = .ok (.ifCond .eq 7, 3) := by decide +kernel
theorem dX11_count_44 : decode cX11_count 44 = .ok (.iconst 1, 1) := by decide +kernel
theorem dX11_count_45 : decode cX11_count 45 = .ok (.goto 4, 3) := by decide +kernel
theorem dX11_count_48 : decode cX11_count 48 = .ok (.iconst 0, 1) := by decide +kernel
theorem dX11_count_49 : decode cX11_count 49 = .ok (.iadd, 1) := by decide +kernel
theorem dX11_count_50 : decode cX11_count 50 = .ok (.istore_n 2, 1) := by decide +kernel
theorem dX11_count_51 : decode cX11_count 51 = .ok (.iinc 4 1, 3) := by decide +kernel
theorem dX11_count_54 : decode cX11_count 54 = .ok (.goto (-34), 3) := by decide +kernel
theorem dX11_count_57 : decode cX11_count 57 = .ok (.iinc 3 1, 3) := by decide +kernel
theorem dX11_count_60 : decode cX11_count 60 = .ok (.goto (-51), 3) := by decide +kernel
theorem dX11_count_63 : decode cX11_count 63 = .ok (.iload_n 1, 1) := by decide +kernel
theorem dX11_count_64 : decode cX11_count 64 = .ok (.tableswitch 67 0 5 #[40, 45, 50, 52, 57, 62], 40) := by decide +kernel
theorem dX11_count_104 : decode cX11_count 104 = .ok (.aload_n 0, 1) := by decide +kernel
theorem dX11_count_105 : decode cX11_count 105 = .ok (.getfield 96, 3) := by decide +kernel
theorem dX11_count_108 : decode cX11_count 108 = .ok (.ireturn, 1) := by decide +kernel
theorem dX11_count_109 : decode cX11_count 109 = .ok (.aload_n 0, 1) := by decide +kernel
theorem dX11_count_110 : decode cX11_count 110 = .ok (.getfield 93, 3) := by decide +kernel
theorem dX11_count_113 : decode cX11_count 113 = .ok (.ireturn, 1) := by decide +kernel
theorem dX11_count_114 : decode cX11_count 114 = .ok (.iload_n 2, 1) := by decide +kernel
theorem dX11_count_115 : decode cX11_count 115 = .ok (.ireturn, 1) := by decide +kernel
theorem dX11_count_116 : decode cX11_count 116 = .ok (.aload_n 0, 1) := by decide +kernel
theorem dX11_count_117 : decode cX11_count 117 = .ok (.getfield 172, 3) := by decide +kernel
theorem dX11_count_120 : decode cX11_count 120 = .ok (.ireturn, 1) := by decide +kernel
theorem dX11_count_121 : decode cX11_count 121 = .ok (.aload_n 0, 1) := by decide +kernel
theorem dX11_count_122 : decode cX11_count 122 = .ok (.getfield 229, 3) := by decide +kernel
theorem dX11_count_125 : decode cX11_count 125 = .ok (.ireturn, 1) := by decide +kernel
theorem dX11_count_126 : decode cX11_count 126 = .ok (.aload_n 0, 1) := by decide +kernel
theorem dX11_count_127 : decode cX11_count 127 = .ok (.invokevirtual 232, 3) := by decide +kernel
theorem dX11_count_130 : decode cX11_count 130 = .ok (.ireturn, 1) := by decide +kernel
theorem dX11_count_131 : decode cX11_count 131 = .ok (.iconst (-1), 1) := by decide +kernel
theorem dX11_count_132 : decode cX11_count 132 = .ok (.ireturn, 1) := by decide +kernel
set_option maxRecDepth 20000 in
theorem ggX11_pattern_X11_begins : GoodIn wsX11_pattern wsX11_begins := goodIn_r _ [8, 9, 10, 11, 12, 13, 7, 14, 15, 2, 1, 3, 16, 23, 24, 25, 26, 27, 28, 29, 30, 31, 32, 33, 34, 35, 36, 37, 38, 39, 40, 41, 42, 43, 44, 45, 46, 47, 48, 49, 50, 51, 52, 53, 54, 55, 56, 57, 58] rfl rfl
set_option maxRecDepth 20000 in
theorem gX11_pattern_X11_begins : GoodIn wsX11_pattern (wsV RX11 202 RX11 yX11_begins wsX11_begins) := goodIn_app (goodIn_of _ (by decide +kernel)) ggX11_pattern_X11_begins
set_option maxRecDepth 20000 in
theorem ggX11_pattern_X11_isIn : GoodIn wsX11_pattern wsX11_isIn := goodIn_r _ [19] rfl rfl
set_option maxRecDepth 20000 in
theorem gX11_pattern_X11_isIn : GoodIn wsX11_pattern (va_wsS RX11 85 yX11_isIn wsX11_isIn) := goodIn_app (goodIn_of _ (by decide +kernel)) ggX11_pattern_X11_isIn
set_option maxRecDepth 20000 in
theorem ggX11_pattern_X11_cell : GoodIn wsX11_pattern wsX11_cell := goodIn_r _ [22] rfl rfl
set_option maxRecDepth 20000 in
theorem gX11_pattern_X11_cell : GoodIn wsX11_pattern (va_wsS RX11 89 yX11_cell wsX11_cell) := goodIn_app (goodIn_of _ (by decide +kernel)) ggX11_pattern_X11_cell
theorem dX11_pattern_0 : decode cX11_pattern 0 = .ok (.aload_n 0, 1) := by decide +kernel
theorem dX11_pattern_1 : decode cX11_pattern 1 = .ok (.iconst 0, 1) := by decide +kernel
theorem dX11_pattern_2 : decode cX11_pattern 2 = .ok (.invokevirtual 202, 3) := by decide +kernel
theorem dX11_pattern_5 : decode cX11_pattern 5 = .ok (.iload_n 1, 1) := by decide +kernel
theorem dX11_pattern_6 : decode cX11_pattern 6 = .ok (.iconst 0, 1) := by decide +kernel
theorem dX11_pattern_7 : decode cX11_pattern 7 = .ok (.iload_n 2, 1) := by decide +kernel
theorem dX11_pattern_8 : decode cX11_pattern 8 = .ok (.ifCond .eq 10, 3) := by decide +kernel
theorem dX11_pattern_11 : decode cX11_pattern 11 = .ok (.aload_n 0, 1) := by decide +kernel
theorem dX11_pattern_12 : decode cX11_pattern 12 = .ok (.getfield 93, 3) := by decide +kernel
theorem dX11_pattern_15 : decode cX11_pattern 15 = .ok (.goto 9, 3) := by decide +kernel
theorem dX11_pattern_18 : decode cX11_pattern 18 = .ok (.aload_n 0, 1) := by decide +kernel
theorem dX11_pattern_19 : decode cX11_pattern 19 = .ok (.getfield 96, 3) := by decide +kernel
theorem dX11_pattern_22 : decode cX11_pattern 22 = .ok (.iconst 1, 1) := by decide +kernel
theorem dX11_pattern_23 : decode cX11_pattern 23 = .ok (.isub, 1) := by decide +kernel
theorem dX11_pattern_24 : decode cX11_pattern 24 = .ok (.invokestatic 85, 3) := by decide +kernel
theorem dX11_pattern_27 : decode cX11_pattern 27 = .ok (.ifCond .ne 5, 3) := by decide +kernel
theorem dX11_pattern_30 : decode cX11_pattern 30 = .ok (.iconst (-1), 1) := by decide +kernel
theorem dX11_pattern_31 : decode cX11_pattern 31 = .ok (.ireturn, 1) := by decide +kernel
theorem dX11_pattern_32 : decode cX11_pattern 32 = .ok (.iconst 0, 1) := by decide +kernel
theorem dX11_pattern_33 : decode cX11_pattern 33 = .ok (.istore_n 3, 1) := by decide +kernel
theorem dX11_pattern_34 : decode cX11_pattern 34 = .ok (.iconst 0, 1) := by decide +kernel
theorem dX11_pattern_35 : decode cX11_pattern 35 = .ok (.istore 4, 2) := by decide +kernel
theorem dX11_pattern_37 : decode cX11_pattern 37 = .ok (.iload 4, 2) := by decide +kernel
theorem dX11_pattern_39 : decode cX11_pattern 39 = .ok (.iload_n 2, 1) := by decide +kernel
theorem dX11_pattern_40 : decode cX11_pattern 40 = .ok (.ifCond .eq 10, 3) := by decide +kernel
theorem dX11_pattern_43 : decode cX11_pattern 43 = .ok (.aload_n 0, 1) := by decide +kernel
theorem dX11_pattern_44 : decode cX11_pattern 44 = .ok (.getfield 96, 3) := by decide +kernel
theorem dX11_pattern_47 : decode cX11_pattern 47 = .ok (.goto 9, 3) := by decide +kernel
theorem dX11_pattern_50 : decode cX11_pattern 50 = .ok (.aload_n 0, 1) := by decide +kernel
theorem dX11_pattern_51 : decode cX11_pattern 51 = .ok (.getfield 93, 3) := by decide +kernel
theorem dX11_pattern_54 : decode cX11_pattern 54 = .ok (.iconst 1, 1) := by decide +kernel
theorem dX11_pattern_55 : decode cX11_pattern 55 = .ok (.iadd, 1) := by decide +kernel
theorem dX11_pattern_56 : decode cX11_pattern 56 = .ok (.if_icmp .ge 47, 3) := by decide +kernel
theorem dX11_pattern_59 : decode cX11_pattern 59 = .ok (.iload_n 3, 1) := by decide +kernel
theorem dX11_pattern_60 : decode cX11_pattern 60 = .ok (.aload_n 0, 1) := by decide +kernel
theorem dX11_pattern_61 : decode cX11_pattern 61 = .ok (.getfield 24, 3) := by decide +kernel
theorem dX11_pattern_64 : decode cX11_pattern 64 = .ok (.iload_n 2, 1) := by decide +kernel
theorem dX11_pattern_65 : decode cX11_pattern 65 = .ok (.ifCond .eq 12, 3) := by decide +kernel
theorem dX11_pattern_68 : decode cX11_pattern 68 = .ok (.iload 4, 2) := by decide +kernel
theorem dX11_pattern_70 : decode cX11_pattern 70 = .ok (.iload_n 1, 1) := by decide +kernel
theorem dX11_pattern_71 : decode cX11_pattern 71 = .ok (.invokestatic 89, 3) := by decide +kernel
theorem dX11_pattern_74 : decode cX11_pattern 74 = .ok (.goto 9, 3) := by decide +kernel
theorem dX11_pattern_77 : decode cX11_pattern 77 = .ok (.iload_n 1, 1) := by decide +kernel
theorem dX11_pattern_78 : decode cX11_pattern 78 = .ok (.iload 4, 2) := by decide +kernel
theorem dX11_pattern_80 : decode cX11_pattern 80 = .ok (.invokestatic 89, 3) := by decide +kernel
theorem dX11_pattern_83 : decode cX11_pattern 83 = .ok (.iaload, 1) := by decide +kernel
theorem dX11_pattern_84 : decode cX11_pattern 84 = .ok (.ifCond .eq 10, 3) := by decide +kernel
theorem dX11_pattern_87 : decode cX11_pattern 87 = .ok (.iconst 1, 1) := by decide +kernel
theorem dX11_pattern_88 : decode cX11_pattern 88 = .ok (.iload 4, 2) := by decide +kernel
theorem dX11_pattern_90 : decode cX11_pattern 90 = .ok (.ishl, 1) := by decide +kernel
theorem dX11_pattern_91 : decode cX11_pattern 91 = .ok (.goto 4, 3) := by decide +kernel
theorem dX11_pattern_94 : decode cX11_pattern 94 = .ok (.iconst 0, 1) := by decide +kernel
theorem dX11_pattern_95 : decode cX11_pattern 95 = .ok (.ior, 1) := by decide +kernel
theorem dX11_pattern_96 : decode cX11_pattern 96 = .ok (.istore_n 3, 1) := by decide +kernel
theorem dX11_pattern_97 : decode cX11_pattern 97 = .ok (.iinc 4 1, 3) := by decide +kernel
theorem dX11_pattern_100 : decode cX11_pattern 100 = .ok (.goto (-63), 3) := by decide +kernel
theorem dX11_pattern_103 : decode cX11_pattern 103 = .ok (.iload_n 3, 1) := by decide +kernel
theorem dX11_pattern_104 : decode cX11_pattern 104 = .ok (.ireturn, 1) := by decide +kernel
set_option maxRecDepth 20000 in
theorem ggX11_pivot_X11_begins : GoodIn wsX11_pivot wsX11_begins := goodIn_r _ [14, 15, 2, 16, 17, 18, 13, 19, 20, 21, 22, 8, 9, 106, 107, 108, 109, 110, 111, 112, 113, 114, 115, 116, 117, 118, 119, 120, 121, 122, 123, 124, 125, 126, 127, 128, 129, 130, 131, 132, 133, 134, 135, 136, 137, 138, 139, 140, 141] rfl rfl
set_option maxRecDepth 20000 in
theorem gX11_pivot_X11_begins : GoodIn wsX11_pivot (wsV RX11 202 RX11 yX11_begins wsX11_begins) := goodIn_app (goodIn_of _ (by decide +kernel)) ggX11_pivot_X11_begins
set_option maxRecDepth 20000 in
theorem ggX11_pivot_X11_isIn : GoodIn wsX11_pivot wsX11_isIn := goodIn_r _ [25] rfl rfl
set_option maxRecDepth 20000 in
theorem gX11_pivot_X11_isIn : GoodIn wsX11_pivot (va_wsS RX11 85 yX11_isIn wsX11_isIn) := goodIn_app (goodIn_of _ (by decide +kernel)) ggX11_pivot_X11_isIn
set_option maxRecDepth 20000 in
theorem ggX11_pivot_X11_goes : GoodIn wsX11_pivot wsX11_goes := goodIn_r _ [29, 3, 2, 30, 31, 4, 5, 32, 33, 34, 13, 35, 21, 22, 8, 6, 7, 36, 37, 38, 39, 40, 41, 42, 43, 44, 45, 46, 47, 48, 49, 50, 51, 52, 53, 54, 55, 56, 57, 58, 9, 59, 60, 61, 62, 63, 64, 65, 66, 67, 68, 69, 70, 71, 72, 73, 74, 75, 76, 77, 78, 79, 80, 81, 82, 83, 84, 85, 86, 87, 88, 89, 90, 91, 92, 93, 94, 95, 96, 97, 98, 99, 100, 101, 106, 107, 108, 109, 110, 111, 112, 113, 114, 115, 116, 117, 118, 119, 120, 121, 122, 123, 124, 125, 126, 127, 128, 129, 130, 131, 132, 133, 134, 135, 136, 137, 138, 139, 140, 141] rfl rfl
set_option maxRecDepth 20000 in
theorem gX11_pivot_X11_goes : GoodIn wsX11_pivot (wsV RX11 166 RX11 yX11_goes wsX11_goes) := goodIn_app (goodIn_of _ (by decide +kernel)) ggX11_pivot_X11_goes
set_option maxRecDepth 20000 in
theorem ggX11_pivot_X11_fills : GoodIn wsX11_pivot wsX11_fills := goodIn_r _ [105, 3, 6, 106, 107, 108, 109, 110, 111, 112, 113, 114, 115, 116, 117, 118, 119, 120, 121, 122, 123, 124, 125, 126, 127, 128, 129, 130, 131, 132, 133, 134, 135, 136, 137, 138, 139, 140, 141] rfl rfl
set_option maxRecDepth 20000 in
theorem gX11_pivot_X11_fills : GoodIn wsX11_pivot (wsV RX11 225 RX11 yX11_fills wsX11_fills) := goodIn_app (goodIn_of _ (by decide +kernel)) ggX11_pivot_X11_fills
set_option maxRecDepth 20000 in
theorem ggX11_pivot_X11_cell : GoodIn wsX11_pivot wsX11_cell := goodIn_r _ [38] rfl rfl
set_option maxRecDepth 20000 in
theorem gX11_pivot_X11_cell : GoodIn wsX11_pivot (va_wsS RX11 89 yX11_cell wsX11_cell) := goodIn_app (goodIn_of _ (by decide +kernel)) ggX11_pivot_X11_cell
theorem dX11_pivot_0 : decode cX11_pivot 0 = .ok (.aload_n 0, 1) := by decide +kernel
theorem dX11_pivot_1 : decode cX11_pivot 1 = .ok (.iconst 0, 1) := by decide +kernel
theorem dX11_pivot_2 : decode cX11_pivot 2 = .ok (.invokevirtual 202, 3) := by decide +kernel
theorem dX11_pivot_5 : decode cX11_pivot 5 = .ok (.iload_n 1, 1) := by decide +kernel
theorem dX11_pivot_6 : decode cX11_pivot 6 = .ok (.iconst 0, 1) := by decide +kernel
theorem dX11_pivot_7 : decode cX11_pivot 7 = .ok (.iconst 2, 1) := by decide +kernel
theorem dX11_pivot_8 : decode cX11_pivot 8 = .ok (.invokestatic 85, 3) := by decide +kernel
theorem dX11_pivot_11 : decode cX11_pivot 11 = .ok (.ifCond .ne 6, 3) := by decide +kernel
theorem dX11_pivot_14 : decode cX11_pivot 14 = .ok (.ldc 165, 2) := by decide +kernel
theorem dX11_pivot_16 : decode cX11_pivot 16 = .ok (.ireturn, 1) := by decide +kernel
theorem dX11_pivot_17 : decode cX11_pivot 17 = .ok (.aload_n 0, 1) := by decide +kernel
theorem dX11_pivot_18 : decode cX11_pivot 18 = .ok (.iload_n 1, 1) := by decide +kernel
theorem dX11_pivot_19 : decode cX11_pivot 19 = .ok (.invokevirtual 166, 3) := by decide +kernel
theorem dX11_pivot_22 : decode cX11_pivot 22 = .ok (.aload_n 0, 1) := by decide +kernel
theorem dX11_pivot_23 : decode cX11_pivot 23 = .ok (.getfield 120, 3) := by decide +kernel
theorem dX11_pivot_26 : decode cX11_pivot 26 = .ok (.ifCond .eq 6, 3) := by decide +kernel
theorem dX11_pivot_29 : decode cX11_pivot 29 = .ok (.ldc 165, 2) := by decide +kernel
theorem dX11_pivot_31 : decode cX11_pivot 31 = .ok (.ireturn, 1) := by decide +kernel
theorem dX11_pivot_32 : decode cX11_pivot 32 = .ok (.iload_n 2, 1) := by decide +kernel
theorem dX11_pivot_33 : decode cX11_pivot 33 = .ok (.iconst (-1), 1) := by decide +kernel
theorem dX11_pivot_34 : decode cX11_pivot 34 = .ok (.if_icmp .ne 29, 3) := by decide +kernel
theorem dX11_pivot_37 : decode cX11_pivot 37 = .ok (.iload_n 3, 1) := by decide +kernel
theorem dX11_pivot_38 : decode cX11_pivot 38 = .ok (.ifCond .ne 10, 3) := by decide +kernel
theorem dX11_pivot_41 : decode cX11_pivot 41 = .ok (.aload_n 0, 1) := by decide +kernel
