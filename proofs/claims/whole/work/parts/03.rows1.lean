set_option maxRecDepth 20000 in
theorem ggX0_init_X1_init : GoodIn wsX0_init wsX1_init := goodIn_r _ [14, 15, 2, 3, 16, 17, 18, 19, 20, 21, 9, 10, 22, 23, 24, 25, 26, 27, 28, 29, 30, 31, 32, 33, 34, 35, 40, 41, 42] rfl rfl
set_option maxRecDepth 20000 in
theorem gX0_init_X1_init : GoodIn wsX0_init (wsX1_init) := ggX0_init_X1_init
set_option maxRecDepth 20000 in
theorem ggX0_init_X3_init : GoodIn wsX0_init wsX3_init := goodIn_r _ [24, 25, 2, 3, 26, 40, 41, 42] rfl rfl
set_option maxRecDepth 20000 in
theorem gX0_init_X3_init_n20 : GoodIn wsX0_init (wsX3_init) := ggX0_init_X3_init
theorem dX0_init_0 : decode cX0_init 0 = .ok (.aload_n 0, 1) := by decide +kernel
theorem dX0_init_1 : decode cX0_init 1 = .ok (.invokespecial 3, 3) := by decide +kernel
theorem dX0_init_4 : decode cX0_init 4 = .ok (.aload_n 0, 1) := by decide +kernel
theorem dX0_init_5 : decode cX0_init 5 = .ok (.new 9, 3) := by decide +kernel
theorem dX0_init_8 : decode cX0_init 8 = .ok (.dup, 1) := by decide +kernel
theorem dX0_init_9 : decode cX0_init 9 = .ok (.invokespecial 11, 3) := by decide +kernel
theorem dX0_init_12 : decode cX0_init 12 = .ok (.putfield 12, 3) := by decide +kernel
theorem dX0_init_15 : decode cX0_init 15 = .ok (.aload_n 0, 1) := by decide +kernel
theorem dX0_init_16 : decode cX0_init 16 = .ok (.new 18, 3) := by decide +kernel
theorem dX0_init_19 : decode cX0_init 19 = .ok (.dup, 1) := by decide +kernel
theorem dX0_init_20 : decode cX0_init 20 = .ok (.invokespecial 20, 3) := by decide +kernel
theorem dX0_init_23 : decode cX0_init 23 = .ok (.putfield 21, 3) := by decide +kernel
theorem dX0_init_26 : decode cX0_init 26 = .ok (.return_, 1) := by decide +kernel
set_option maxRecDepth 20000 in
theorem ggX0_tell_X1_hasRow : GoodIn wsX0_tell wsX1_hasRow := goodIn_r _ [7, 8, 67, 68, 69, 70, 71] rfl rfl
set_option maxRecDepth 20000 in
theorem gX0_tell_X1_hasRow : GoodIn wsX0_tell (wsV RX0 25 RX1 yX1_hasRow wsX1_hasRow) := goodIn_app (goodIn_of _ (by decide +kernel)) ggX0_tell_X1_hasRow
set_option maxRecDepth 20000 in
theorem ggX0_tell_X1_hasColumnOrSide : GoodIn wsX0_tell wsX1_hasColumnOrSide := goodIn_r _ [12, 13, 67, 68, 69, 70, 71] rfl rfl
set_option maxRecDepth 20000 in
theorem gX0_tell_X1_hasColumnOrSide : GoodIn wsX0_tell (wsV RX0 29 RX1 yX1_hasColumnOrSide wsX1_hasColumnOrSide) := goodIn_app (goodIn_of _ (by decide +kernel)) ggX0_tell_X1_hasColumnOrSide
set_option maxRecDepth 20000 in
theorem ggX0_tell_X10_isTold : GoodIn wsX0_tell wsX10_isTold := goodIn_r _ [16] rfl rfl
set_option maxRecDepth 20000 in
theorem gX0_tell_X10_isTold_n32 : GoodIn wsX0_tell (wsX10_isTold) := ggX0_tell_X10_isTold
set_option maxRecDepth 20000 in
theorem ggX0_tell_X3_start : GoodIn wsX0_tell wsX3_start := goodIn_r _ [21, 22, 23, 24, 25, 20, 26, 27, 28, 29, 30, 31, 32, 33, 34, 72, 73, 74] rfl rfl
set_option maxRecDepth 20000 in
theorem gX0_tell_X3_start : GoodIn wsX0_tell (wsV RX0 36 RX3 yX3_start wsX3_start) := goodIn_app (goodIn_of _ (by decide +kernel)) ggX0_tell_X3_start
set_option maxRecDepth 20000 in
theorem ggX0_tell_X1_isAt : GoodIn wsX0_tell wsX1_isAt := goodIn_r _ [38, 39, 40, 41, 42, 43, 6, 44, 45, 46, 47, 48, 49, 50, 72, 73, 74, 67, 68, 69, 70, 71] rfl rfl
set_option maxRecDepth 20000 in
theorem gX0_tell_X1_isAt : GoodIn wsX0_tell (wsV RX0 40 RX1 yX1_isAt wsX1_isAt) := goodIn_app (goodIn_of _ (by decide +kernel)) ggX0_tell_X1_isAt
set_option maxRecDepth 20000 in
theorem ggX0_tell_X1_copy : GoodIn wsX0_tell wsX1_copy := goodIn_r _ [54, 8, 13, 45, 55, 56, 57, 58, 50, 67, 68, 69, 70, 71] rfl rfl
set_option maxRecDepth 20000 in
theorem gX0_tell_X1_copy : GoodIn wsX0_tell (wsV RX0 44 RX1 yX1_copy wsX1_copy) := goodIn_app (goodIn_of _ (by decide +kernel)) ggX0_tell_X1_copy
set_option maxRecDepth 20000 in
theorem ggX0_tell_X1_put : GoodIn wsX0_tell wsX1_put := goodIn_r _ [62, 45, 39, 50, 40, 67, 68, 69, 70, 71, 72, 73, 74] rfl rfl
set_option maxRecDepth 20000 in
theorem gX0_tell_X1_put : GoodIn wsX0_tell (wsV RX0 48 RX1 yX1_put wsX1_put) := goodIn_app (goodIn_of _ (by decide +kernel)) ggX0_tell_X1_put
theorem dX0_tell_0 : decode cX0_tell 0 = .ok (.aload_n 1, 1) := by decide +kernel
theorem dX0_tell_1 : decode cX0_tell 1 = .ok (.iload_n 2, 1) := by decide +kernel
theorem dX0_tell_2 : decode cX0_tell 2 = .ok (.invokevirtual 25, 3) := by decide +kernel
theorem dX0_tell_5 : decode cX0_tell 5 = .ok (.ifCond .eq 21, 3) := by decide +kernel
theorem dX0_tell_8 : decode cX0_tell 8 = .ok (.aload_n 1, 1) := by decide +kernel
theorem dX0_tell_9 : decode cX0_tell 9 = .ok (.iload_n 3, 1) := by decide +kernel
theorem dX0_tell_10 : decode cX0_tell 10 = .ok (.invokevirtual 29, 3) := by decide +kernel
theorem dX0_tell_13 : decode cX0_tell 13 = .ok (.ifCond .eq 13, 3) := by decide +kernel
theorem dX0_tell_16 : decode cX0_tell 16 = .ok (.iload 4, 2) := by decide +kernel
theorem dX0_tell_18 : decode cX0_tell 18 = .ok (.iload 5, 2) := by decide +kernel
theorem dX0_tell_20 : decode cX0_tell 20 = .ok (.invokestatic 32, 3) := by decide +kernel
theorem dX0_tell_23 : decode cX0_tell 23 = .ok (.ifCond .ne 5, 3) := by decide +kernel
theorem dX0_tell_26 : decode cX0_tell 26 = .ok (.iconst 1, 1) := by decide +kernel
theorem dX0_tell_27 : decode cX0_tell 27 = .ok (.ireturn, 1) := by decide +kernel
theorem dX0_tell_28 : decode cX0_tell 28 = .ok (.aload_n 0, 1) := by decide +kernel
theorem dX0_tell_29 : decode cX0_tell 29 = .ok (.getfield 21, 3) := by decide +kernel
theorem dX0_tell_32 : decode cX0_tell 32 = .ok (.iload 4, 2) := by decide +kernel
theorem dX0_tell_34 : decode cX0_tell 34 = .ok (.i2l, 1) := by decide +kernel
theorem dX0_tell_35 : decode cX0_tell 35 = .ok (.iload 5, 2) := by decide +kernel
theorem dX0_tell_37 : decode cX0_tell 37 = .ok (.i2l, 1) := by decide +kernel
theorem dX0_tell_38 : decode cX0_tell 38 = .ok (.invokevirtual 36, 3) := by decide +kernel
theorem dX0_tell_41 : decode cX0_tell 41 = .ok (.aload_n 1, 1) := by decide +kernel
theorem dX0_tell_42 : decode cX0_tell 42 = .ok (.iload_n 2, 1) := by decide +kernel
theorem dX0_tell_43 : decode cX0_tell 43 = .ok (.iload_n 3, 1) := by decide +kernel
theorem dX0_tell_44 : decode cX0_tell 44 = .ok (.aload_n 0, 1) := by decide +kernel
theorem dX0_tell_45 : decode cX0_tell 45 = .ok (.getfield 21, 3) := by decide +kernel
theorem dX0_tell_48 : decode cX0_tell 48 = .ok (.invokevirtual 40, 3) := by decide +kernel
theorem dX0_tell_51 : decode cX0_tell 51 = .ok (.ifCond .eq 5, 3) := by decide +kernel
theorem dX0_tell_54 : decode cX0_tell 54 = .ok (.iconst 2, 1) := by decide +kernel
theorem dX0_tell_55 : decode cX0_tell 55 = .ok (.ireturn, 1) := by decide +kernel
theorem dX0_tell_56 : decode cX0_tell 56 = .ok (.aload_n 0, 1) := by decide +kernel
theorem dX0_tell_57 : decode cX0_tell 57 = .ok (.getfield 12, 3) := by decide +kernel
theorem dX0_tell_60 : decode cX0_tell 60 = .ok (.aload_n 1, 1) := by decide +kernel
theorem dX0_tell_61 : decode cX0_tell 61 = .ok (.invokevirtual 44, 3) := by decide +kernel
theorem dX0_tell_64 : decode cX0_tell 64 = .ok (.aload_n 0, 1) := by decide +kernel
theorem dX0_tell_65 : decode cX0_tell 65 = .ok (.getfield 12, 3) := by decide +kernel
theorem dX0_tell_68 : decode cX0_tell 68 = .ok (.iload_n 2, 1) := by decide +kernel
theorem dX0_tell_69 : decode cX0_tell 69 = .ok (.iload_n 3, 1) := by decide +kernel
theorem dX0_tell_70 : decode cX0_tell 70 = .ok (.aload_n 0, 1) := by decide +kernel
theorem dX0_tell_71 : decode cX0_tell 71 = .ok (.getfield 21, 3) := by decide +kernel
theorem dX0_tell_74 : decode cX0_tell 74 = .ok (.invokevirtual 48, 3) := by decide +kernel
theorem dX0_tell_77 : decode cX0_tell 77 = .ok (.iconst 0, 1) := by decide +kernel
theorem dX0_tell_78 : decode cX0_tell 78 = .ok (.ireturn, 1) := by decide +kernel
set_option maxRecDepth 20000 in
theorem ggX0_exchange_X1_hasRow : GoodIn wsX0_exchange wsX1_hasRow := goodIn_r _ [8, 9, 59, 60, 61, 62, 63] rfl rfl
set_option maxRecDepth 20000 in
theorem gX0_exchange_X1_hasRow : GoodIn wsX0_exchange (wsV RX0 25 RX1 yX1_hasRow wsX1_hasRow) := goodIn_app (goodIn_of _ (by decide +kernel)) ggX0_exchange_X1_hasRow
set_option maxRecDepth 20000 in
theorem ggX0_exchange_X1_copy : GoodIn wsX0_exchange wsX1_copy := goodIn_r _ [13, 9, 14, 15, 16, 17, 18, 19, 20, 59, 60, 61, 62, 63] rfl rfl
set_option maxRecDepth 20000 in
theorem gX0_exchange_X1_copy : GoodIn wsX0_exchange (wsV RX0 44 RX1 yX1_copy wsX1_copy) := goodIn_app (goodIn_of _ (by decide +kernel)) ggX0_exchange_X1_copy
set_option maxRecDepth 20000 in
theorem ggX0_exchange_X3_load : GoodIn wsX0_exchange wsX3_load := goodIn_r _ [25, 26, 27, 28, 29, 30, 31, 7, 32, 15, 33, 34, 35, 36, 20, 64, 65, 66, 59, 60, 61, 62, 63] rfl rfl
set_option maxRecDepth 20000 in
theorem gX0_exchange_X3_load : GoodIn wsX0_exchange (wsV RX0 56 RX3 yX3_load wsX3_load) := goodIn_app (goodIn_of _ (by decide +kernel)) ggX0_exchange_X3_load
set_option maxRecDepth 20000 in
theorem ggX0_exchange_X1_put : GoodIn wsX0_exchange wsX1_put := goodIn_r _ [40, 15, 41, 20, 42, 59, 60, 61, 62, 63, 64, 65, 66] rfl rfl
set_option maxRecDepth 20000 in
theorem gX0_exchange_X1_put : GoodIn wsX0_exchange (wsV RX0 48 RX1 yX1_put wsX1_put) := goodIn_app (goodIn_of _ (by decide +kernel)) ggX0_exchange_X1_put
set_option maxRecDepth 20000 in
theorem ggX0_exchange_X1_isSame : GoodIn wsX0_exchange wsX1_isSame := goodIn_r _ [46, 9, 14, 47, 48, 22, 23, 24, 25, 26, 27, 28, 29, 30, 31, 7, 32, 15, 33, 34, 35, 36, 20, 49, 50, 51, 52, 41, 42, 53, 54, 59, 60, 61, 62, 63, 64, 65, 66] rfl rfl
set_option maxRecDepth 20000 in
theorem gX0_exchange_X1_isSame : GoodIn wsX0_exchange (wsV RX0 60 RX1 yX1_isSame wsX1_isSame) := goodIn_app (goodIn_of _ (by decide +kernel)) ggX0_exchange_X1_isSame
theorem dX0_exchange_0 : decode cX0_exchange 0 = .ok (.aload_n 1, 1) := by decide +kernel
theorem dX0_exchange_1 : decode cX0_exchange 1 = .ok (.iload_n 2, 1) := by decide +kernel
theorem dX0_exchange_2 : decode cX0_exchange 2 = .ok (.invokevirtual 25, 3) := by decide +kernel
theorem dX0_exchange_5 : decode cX0_exchange 5 = .ok (.ifCond .eq 11, 3) := by decide +kernel
theorem dX0_exchange_8 : decode cX0_exchange 8 = .ok (.aload_n 1, 1) := by decide +kernel
theorem dX0_exchange_9 : decode cX0_exchange 9 = .ok (.iload_n 3, 1) := by decide +kernel
theorem dX0_exchange_10 : decode cX0_exchange 10 = .ok (.invokevirtual 25, 3) := by decide +kernel
theorem dX0_exchange_13 : decode cX0_exchange 13 = .ok (.ifCond .ne 5, 3) := by decide +kernel
theorem dX0_exchange_16 : decode cX0_exchange 16 = .ok (.iconst 1, 1) := by decide +kernel
theorem dX0_exchange_17 : decode cX0_exchange 17 = .ok (.ireturn, 1) := by decide +kernel
theorem dX0_exchange_18 : decode cX0_exchange 18 = .ok (.aload_n 0, 1) := by decide +kernel
theorem dX0_exchange_19 : decode cX0_exchange 19 = .ok (.getfield 12, 3) := by decide +kernel
theorem dX0_exchange_22 : decode cX0_exchange 22 = .ok (.aload_n 1, 1) := by decide +kernel
theorem dX0_exchange_23 : decode cX0_exchange 23 = .ok (.invokevirtual 44, 3) := by decide +kernel
theorem dX0_exchange_26 : decode cX0_exchange 26 = .ok (.iconst 0, 1) := by decide +kernel
theorem dX0_exchange_27 : decode cX0_exchange 27 = .ok (.istore 4, 2) := by decide +kernel
theorem dX0_exchange_29 : decode cX0_exchange 29 = .ok (.iload 4, 2) := by decide +kernel
theorem dX0_exchange_31 : decode cX0_exchange 31 = .ok (.aload_n 1, 1) := by decide +kernel
theorem dX0_exchange_32 : decode cX0_exchange 32 = .ok (.getfield 52, 3) := by decide +kernel
theorem dX0_exchange_35 : decode cX0_exchange 35 = .ok (.if_icmp .gt 59, 3) := by decide +kernel
theorem dX0_exchange_38 : decode cX0_exchange 38 = .ok (.aload_n 0, 1) := by decide +kernel
theorem dX0_exchange_39 : decode cX0_exchange 39 = .ok (.getfield 21, 3) := by decide +kernel
theorem dX0_exchange_42 : decode cX0_exchange 42 = .ok (.aload_n 1, 1) := by decide +kernel
theorem dX0_exchange_43 : decode cX0_exchange 43 = .ok (.iload_n 2, 1) := by decide +kernel
theorem dX0_exchange_44 : decode cX0_exchange 44 = .ok (.iload 4, 2) := by decide +kernel
theorem dX0_exchange_46 : decode cX0_exchange 46 = .ok (.invokevirtual 56, 3) := by decide +kernel
theorem dX0_exchange_49 : decode cX0_exchange 49 = .ok (.aload_n 0, 1) := by decide +kernel
theorem dX0_exchange_50 : decode cX0_exchange 50 = .ok (.getfield 12, 3) := by decide +kernel
theorem dX0_exchange_53 : decode cX0_exchange 53 = .ok (.iload_n 3, 1) := by decide +kernel
theorem dX0_exchange_54 : decode cX0_exchange 54 = .ok (.iload 4, 2) := by decide +kernel
theorem dX0_exchange_56 : decode cX0_exchange 56 = .ok (.aload_n 0, 1) := by decide +kernel
theorem dX0_exchange_57 : decode cX0_exchange 57 = .ok (.getfield 21, 3) := by decide +kernel
theorem dX0_exchange_60 : decode cX0_exchange 60 = .ok (.invokevirtual 48, 3) := by decide +kernel
theorem dX0_exchange_63 : decode cX0_exchange 63 = .ok (.aload_n 0, 1) := by decide +kernel
theorem dX0_exchange_64 : decode cX0_exchange 64 = .ok (.getfield 21, 3) := by decide +kernel
theorem dX0_exchange_67 : decode cX0_exchange 67 = .ok (.aload_n 1, 1) := by decide +kernel
theorem dX0_exchange_68 : decode cX0_exchange 68 = .ok (.iload_n 3, 1) := by decide +kernel
theorem dX0_exchange_69 : decode cX0_exchange 69 = .ok (.iload 4, 2) := by decide +kernel
theorem dX0_exchange_71 : decode cX0_exchange 71 = .ok (.invokevirtual 56, 3) := by decide +kernel
theorem dX0_exchange_74 : decode cX0_exchange 74 = .ok (.aload_n 0, 1) := by decide +kernel
theorem dX0_exchange_75 : decode cX0_exchange 75 = .ok (.getfield 12, 3) := by decide +kernel
theorem dX0_exchange_78 : decode cX0_exchange 78 = .ok (.iload_n 2, 1) := by decide +kernel
theorem dX0_exchange_79 : decode cX0_exchange 79 = .ok (.iload 4, 2) := by decide +kernel
theorem dX0_exchange_81 : decode cX0_exchange 81 = .ok (.aload_n 0, 1) := by decide +kernel
theorem dX0_exchange_82 : decode cX0_exchange 82 = .ok (.getfield 21, 3) := by decide +kernel
theorem dX0_exchange_85 : decode cX0_exchange 85 = .ok (.invokevirtual 48, 3) := by decide +kernel
theorem dX0_exchange_88 : decode cX0_exchange 88 = .ok (.iinc 4 1, 3) := by decide +kernel
theorem dX0_exchange_91 : decode cX0_exchange 91 = .ok (.goto (-62), 3) := by decide +kernel
theorem dX0_exchange_94 : decode cX0_exchange 94 = .ok (.aload_n 0, 1) := by decide +kernel
theorem dX0_exchange_95 : decode cX0_exchange 95 = .ok (.getfield 12, 3) := by decide +kernel
theorem dX0_exchange_98 : decode cX0_exchange 98 = .ok (.aload_n 1, 1) := by decide +kernel
theorem dX0_exchange_99 : decode cX0_exchange 99 = .ok (.invokevirtual 60, 3) := by decide +kernel
theorem dX0_exchange_102 : decode cX0_exchange 102 = .ok (.ifCond .eq 7, 3) := by decide +kernel
theorem dX0_exchange_105 : decode cX0_exchange 105 = .ok (.iconst 2, 1) := by decide +kernel
theorem dX0_exchange_106 : decode cX0_exchange 106 = .ok (.goto 4, 3) := by decide +kernel
theorem dX0_exchange_109 : decode cX0_exchange 109 = .ok (.iconst 0, 1) := by decide +kernel
theorem dX0_exchange_110 : decode cX0_exchange 110 = .ok (.ireturn, 1) := by decide +kernel
set_option maxRecDepth 20000 in
theorem ggX0_stretch_X1_hasRow : GoodIn wsX0_stretch wsX1_hasRow := goodIn_r _ [9, 10, 77, 78, 79, 80, 81] rfl rfl
set_option maxRecDepth 20000 in
theorem gX0_stretch_X1_hasRow : GoodIn wsX0_stretch (wsV RX0 25 RX1 yX1_hasRow wsX1_hasRow) := goodIn_app (goodIn_of _ (by decide +kernel)) ggX0_stretch_X1_hasRow
set_option maxRecDepth 20000 in
theorem ggX0_stretch_X10_isTold : GoodIn wsX0_stretch wsX10_isTold := goodIn_r _ [13] rfl rfl
set_option maxRecDepth 20000 in
theorem gX0_stretch_X10_isTold_n32 : GoodIn wsX0_stretch (wsX10_isTold) := ggX0_stretch_X10_isTold
set_option maxRecDepth 20000 in
theorem ggX0_stretch_X1_rowBits : GoodIn wsX0_stretch wsX1_rowBits := goodIn_r _ [17, 18, 19, 20, 21, 8, 22, 23, 77, 78, 79, 80, 81] rfl rfl
set_option maxRecDepth 20000 in
theorem gX0_stretch_X1_rowBits : GoodIn wsX0_stretch (wsV RX0 64 RX1 yX1_rowBits wsX1_rowBits) := goodIn_app (goodIn_of _ (by decide +kernel)) ggX0_stretch_X1_rowBits
set_option maxRecDepth 20000 in
theorem ggX0_stretch_X1_copy : GoodIn wsX0_stretch wsX1_copy := goodIn_r _ [27, 10, 18, 23, 28, 29, 30, 31, 32, 77, 78, 79, 80, 81] rfl rfl
set_option maxRecDepth 20000 in
theorem gX0_stretch_X1_copy : GoodIn wsX0_stretch (wsV RX0 44 RX1 yX1_copy wsX1_copy) := goodIn_app (goodIn_of _ (by decide +kernel)) ggX0_stretch_X1_copy
set_option maxRecDepth 20000 in
theorem ggX0_stretch_X3_load : GoodIn wsX0_stretch wsX3_load := goodIn_r _ [37, 38, 39, 40, 41, 20, 21, 8, 22, 23, 42, 43, 44, 45, 32, 82, 83, 84, 77, 78, 79, 80, 81] rfl rfl
set_option maxRecDepth 20000 in
theorem gX0_stretch_X3_load : GoodIn wsX0_stretch (wsV RX0 56 RX3 yX3_load wsX3_load) := goodIn_app (goodIn_of _ (by decide +kernel)) ggX0_stretch_X3_load
set_option maxRecDepth 20000 in
theorem ggX0_stretch_X3_times : GoodIn wsX0_stretch wsX3_times := goodIn_r _ [49, 39, 40, 50, 51, 52, 36, 53, 38, 54, 55, 56, 57, 58, 59, 82, 83, 84] rfl rfl
set_option maxRecDepth 20000 in
theorem gX0_stretch_X3_times : GoodIn wsX0_stretch (wsV RX0 68 RX3 yX3_times wsX3_times) := goodIn_app (goodIn_of _ (by decide +kernel)) ggX0_stretch_X3_times
set_option maxRecDepth 20000 in
theorem ggX0_stretch_X0_refuseLong : GoodIn wsX0_stretch wsX0_refuseLong := goodIn_r _ [64, 65, 66, 73, 74, 75, 76] rfl rfl
set_option maxRecDepth 20000 in
theorem gX0_stretch_X0_refuseLong : GoodIn wsX0_stretch (wsV RX0 75 RX0 yX0_refuseLong wsX0_refuseLong) := goodIn_app (goodIn_of _ (by decide +kernel)) ggX0_stretch_X0_refuseLong
set_option maxRecDepth 20000 in
theorem ggX0_stretch_X1_put : GoodIn wsX0_stretch wsX1_put := goodIn_r _ [70, 23, 71, 32, 72, 77, 78, 79, 80, 81, 82, 83, 84] rfl rfl
set_option maxRecDepth 20000 in
theorem gX0_stretch_X1_put : GoodIn wsX0_stretch (wsV RX0 48 RX1 yX1_put wsX1_put) := goodIn_app (goodIn_of _ (by decide +kernel)) ggX0_stretch_X1_put
theorem dX0_stretch_0 : decode cX0_stretch 0 = .ok (.aload_n 1, 1) := by decide +kernel
theorem dX0_stretch_1 : decode cX0_stretch 1 = .ok (.iload_n 2, 1) := by decide +kernel
theorem dX0_stretch_2 : decode cX0_stretch 2 = .ok (.invokevirtual 25, 3) := by decide +kernel
theorem dX0_stretch_5 : decode cX0_stretch 5 = .ok (.ifCond .eq 12, 3) := by decide +kernel
theorem dX0_stretch_8 : decode cX0_stretch 8 = .ok (.iload_n 3, 1) := by decide +kernel
theorem dX0_stretch_9 : decode cX0_stretch 9 = .ok (.iload 4, 2) := by decide +kernel
theorem dX0_stretch_11 : decode cX0_stretch 11 = .ok (.invokestatic 32, 3) := by decide +kernel
theorem dX0_stretch_14 : decode cX0_stretch 14 = .ok (.ifCond .ne 5, 3) := by decide +kernel
theorem dX0_stretch_17 : decode cX0_stretch 17 = .ok (.iconst 1, 1) := by decide +kernel
theorem dX0_stretch_18 : decode cX0_stretch 18 = .ok (.ireturn, 1) := by decide +kernel
theorem dX0_stretch_19 : decode cX0_stretch 19 = .ok (.iload_n 3, 1) := by decide +kernel
theorem dX0_stretch_20 : decode cX0_stretch 20 = .ok (.ifCond .eq 17, 3) := by decide +kernel
theorem dX0_stretch_23 : decode cX0_stretch 23 = .ok (.iload_n 3, 1) := by decide +kernel
theorem dX0_stretch_24 : decode cX0_stretch 24 = .ok (.iload 4, 2) := by decide +kernel
theorem dX0_stretch_26 : decode cX0_stretch 26 = .ok (.if_icmp .eq 11, 3) := by decide +kernel
theorem dX0_stretch_29 : decode cX0_stretch 29 = .ok (.aload_n 1, 1) := by decide +kernel
theorem dX0_stretch_30 : decode cX0_stretch 30 = .ok (.iload_n 2, 1) := by decide +kernel
theorem dX0_stretch_31 : decode cX0_stretch 31 = .ok (.invokevirtual 64, 3) := by decide +kernel
theorem dX0_stretch_34 : decode cX0_stretch 34 = .ok (.ifCond .ne 5, 3) := by decide +kernel
theorem dX0_stretch_37 : decode cX0_stretch 37 = .ok (.iconst 2, 1) := by decide +kernel
theorem dX0_stretch_38 : decode cX0_stretch 38 = .ok (.ireturn, 1) := by decide +kernel
theorem dX0_stretch_39 : decode cX0_stretch 39 = .ok (.aload_n 0, 1) := by decide +kernel
theorem dX0_stretch_40 : decode cX0_stretch 40 = .ok (.getfield 12, 3) := by decide +kernel
theorem dX0_stretch_43 : decode cX0_stretch 43 = .ok (.aload_n 1, 1) := by decide +kernel
theorem dX0_stretch_44 : decode cX0_stretch 44 = .ok (.invokevirtual 44, 3) := by decide +kernel
theorem dX0_stretch_47 : decode cX0_stretch 47 = .ok (.iconst 0, 1) := by decide +kernel
theorem dX0_stretch_48 : decode cX0_stretch 48 = .ok (.istore 5, 2) := by decide +kernel
theorem dX0_stretch_50 : decode cX0_stretch 50 = .ok (.iload 5, 2) := by decide +kernel
theorem dX0_stretch_52 : decode cX0_stretch 52 = .ok (.aload_n 1, 1) := by decide +kernel
theorem dX0_stretch_53 : decode cX0_stretch 53 = .ok (.getfield 52, 3) := by decide +kernel
theorem dX0_stretch_56 : decode cX0_stretch 56 = .ok (.if_icmp .gt 64, 3) := by decide +kernel
theorem dX0_stretch_59 : decode cX0_stretch 59 = .ok (.aload_n 0, 1) := by decide +kernel
theorem dX0_stretch_60 : decode cX0_stretch 60 = .ok (.getfield 21, 3) := by decide +kernel
theorem dX0_stretch_63 : decode cX0_stretch 63 = .ok (.aload_n 1, 1) := by decide +kernel
theorem dX0_stretch_64 : decode cX0_stretch 64 = .ok (.iload_n 2, 1) := by decide +kernel
theorem dX0_stretch_65 : decode cX0_stretch 65 = .ok (.iload 5, 2) := by decide +kernel
theorem dX0_stretch_67 : decode cX0_stretch 67 = .ok (.invokevirtual 56, 3) := by decide +kernel
theorem dX0_stretch_70 : decode cX0_stretch 70 = .ok (.aload_n 0, 1) := by decide +kernel
theorem dX0_stretch_71 : decode cX0_stretch 71 = .ok (.getfield 21, 3) := by decide +kernel
theorem dX0_stretch_74 : decode cX0_stretch 74 = .ok (.iload_n 3, 1) := by decide +kernel
theorem dX0_stretch_75 : decode cX0_stretch 75 = .ok (.i2l, 1) := by decide +kernel
theorem dX0_stretch_76 : decode cX0_stretch 76 = .ok (.iload 4, 2) := by decide +kernel
theorem dX0_stretch_78 : decode cX0_stretch 78 = .ok (.i2l, 1) := by decide +kernel
theorem dX0_stretch_79 : decode cX0_stretch 79 = .ok (.invokevirtual 68, 3) := by decide +kernel
theorem dX0_stretch_82 : decode cX0_stretch 82 = .ok (.aload_n 0, 1) := by decide +kernel
theorem dX0_stretch_83 : decode cX0_stretch 83 = .ok (.getfield 21, 3) := by decide +kernel
theorem dX0_stretch_86 : decode cX0_stretch 86 = .ok (.getfield 71, 3) := by decide +kernel
theorem dX0_stretch_89 : decode cX0_stretch 89 = .ok (.ifCond .eq 11, 3) := by decide +kernel
theorem dX0_stretch_92 : decode cX0_stretch 92 = .ok (.aload_n 0, 1) := by decide +kernel
theorem dX0_stretch_93 : decode cX0_stretch 93 = .ok (.iload_n 2, 1) := by decide +kernel
theorem dX0_stretch_94 : decode cX0_stretch 94 = .ok (.iload 5, 2) := by decide +kernel
theorem dX0_stretch_96 : decode cX0_stretch 96 = .ok (.invokevirtual 75, 3) := by decide +kernel
theorem dX0_stretch_99 : decode cX0_stretch 99 = .ok (.ireturn, 1) := by decide +kernel
theorem dX0_stretch_100 : decode cX0_stretch 100 = .ok (.aload_n 0, 1) := by decide +kernel
theorem dX0_stretch_101 : decode cX0_stretch 101 = .ok (.getfield 12, 3) := by decide +kernel
theorem dX0_stretch_104 : decode cX0_stretch 104 = .ok (.iload_n 2, 1) := by decide +kernel
theorem dX0_stretch_105 : decode cX0_stretch 105 = .ok (.iload 5, 2) := by decide +kernel
theorem dX0_stretch_107 : decode cX0_stretch 107 = .ok (.aload_n 0, 1) := by decide +kernel
theorem dX0_stretch_108 : decode cX0_stretch 108 = .ok (.getfield 21, 3) := by decide +kernel
theorem dX0_stretch_111 : decode cX0_stretch 111 = .ok (.invokevirtual 48, 3) := by decide +kernel
theorem dX0_stretch_114 : decode cX0_stretch 114 = .ok (.iinc 5 1, 3) := by decide +kernel
theorem dX0_stretch_117 : decode cX0_stretch 117 = .ok (.goto (-67), 3) := by decide +kernel
theorem dX0_stretch_120 : decode cX0_stretch 120 = .ok (.iconst 0, 1) := by decide +kernel
theorem dX0_stretch_121 : decode cX0_stretch 121 = .ok (.ireturn, 1) := by decide +kernel
set_option maxRecDepth 20000 in
theorem ggX0_addRow_X1_hasRow : GoodIn wsX0_addRow wsX1_hasRow := goodIn_r _ [9, 10, 95, 96, 97, 98, 99] rfl rfl
set_option maxRecDepth 20000 in
theorem gX0_addRow_X1_hasRow : GoodIn wsX0_addRow (wsV RX0 25 RX1 yX1_hasRow wsX1_hasRow) := goodIn_app (goodIn_of _ (by decide +kernel)) ggX0_addRow_X1_hasRow
set_option maxRecDepth 20000 in
theorem ggX0_addRow_X10_isTold : GoodIn wsX0_addRow wsX10_isTold := goodIn_r _ [13] rfl rfl
set_option maxRecDepth 20000 in
theorem gX0_addRow_X10_isTold_n32 : GoodIn wsX0_addRow (wsX10_isTold) := ggX0_addRow_X10_isTold
set_option maxRecDepth 20000 in
theorem ggX0_addRow_X1_rowBits : GoodIn wsX0_addRow wsX1_rowBits := goodIn_r _ [17, 18, 19, 20, 21, 8, 22, 23, 95, 96, 97, 98, 99] rfl rfl
set_option maxRecDepth 20000 in
theorem gX0_addRow_X1_rowBits : GoodIn wsX0_addRow (wsV RX0 64 RX1 yX1_rowBits wsX1_rowBits) := goodIn_app (goodIn_of _ (by decide +kernel)) ggX0_addRow_X1_rowBits
set_option maxRecDepth 20000 in
theorem ggX0_addRow_X1_copy : GoodIn wsX0_addRow wsX1_copy := goodIn_r _ [27, 10, 18, 23, 28, 29, 30, 31, 32, 95, 96, 97, 98, 99] rfl rfl
set_option maxRecDepth 20000 in
theorem gX0_addRow_X1_copy : GoodIn wsX0_addRow (wsV RX0 44 RX1 yX1_copy wsX1_copy) := goodIn_app (goodIn_of _ (by decide +kernel)) ggX0_addRow_X1_copy
set_option maxRecDepth 20000 in
theorem ggX0_addRow_X3_start : GoodIn wsX0_addRow wsX3_start := goodIn_r _ [37, 38, 39, 40, 41, 36, 42, 43, 44, 45, 46, 47, 48, 49, 50, 92, 93, 94] rfl rfl
set_option maxRecDepth 20000 in
theorem gX0_addRow_X3_start : GoodIn wsX0_addRow (wsV RX0 36 RX3 yX3_start wsX3_start) := goodIn_app (goodIn_of _ (by decide +kernel)) ggX0_addRow_X3_start
set_option maxRecDepth 20000 in
theorem ggX0_addRow_X1_addTimes : GoodIn wsX0_addRow wsX1_addTimes := goodIn_r _ [54, 18, 55, 56, 57, 58, 59, 36, 60, 38, 43, 44, 61, 20, 21, 8, 22, 23, 62, 63, 64, 65, 32, 66, 67, 68, 69, 39, 40, 41, 42, 45, 46, 47, 48, 49, 50, 19, 70, 71, 72, 73, 74, 75, 76, 77, 78, 79, 80, 95, 96, 97, 98, 99, 92, 93, 94] rfl rfl
set_option maxRecDepth 20000 in
theorem gX0_addRow_X1_addTimes : GoodIn wsX0_addRow (wsV RX0 86 RX1 yX1_addTimes wsX1_addTimes) := goodIn_app (goodIn_of _ (by decide +kernel)) ggX0_addRow_X1_addTimes
set_option maxRecDepth 20000 in
theorem ggX0_addRow_X0_refuseLong : GoodIn wsX0_addRow wsX0_refuseLong := goodIn_r _ [85, 86, 87, 88, 89, 90, 91] rfl rfl
set_option maxRecDepth 20000 in
theorem gX0_addRow_X0_refuseLong : GoodIn wsX0_addRow (wsV RX0 75 RX0 yX0_refuseLong wsX0_refuseLong) := goodIn_app (goodIn_of _ (by decide +kernel)) ggX0_addRow_X0_refuseLong
theorem dX0_addRow_0 : decode cX0_addRow 0 = .ok (.aload_n 1, 1) := by decide +kernel
theorem dX0_addRow_1 : decode cX0_addRow 1 = .ok (.iload_n 2, 1) := by decide +kernel
theorem dX0_addRow_2 : decode cX0_addRow 2 = .ok (.invokevirtual 25, 3) := by decide +kernel
theorem dX0_addRow_5 : decode cX0_addRow 5 = .ok (.ifCond .eq 21, 3) := by decide +kernel
theorem dX0_addRow_8 : decode cX0_addRow 8 = .ok (.aload_n 1, 1) := by decide +kernel
theorem dX0_addRow_9 : decode cX0_addRow 9 = .ok (.iload_n 3, 1) := by decide +kernel
theorem dX0_addRow_10 : decode cX0_addRow 10 = .ok (.invokevirtual 25, 3) := by decide +kernel
theorem dX0_addRow_13 : decode cX0_addRow 13 = .ok (.ifCond .eq 13, 3) := by decide +kernel
theorem dX0_addRow_16 : decode cX0_addRow 16 = .ok (.iload 4, 2) := by decide +kernel
theorem dX0_addRow_18 : decode cX0_addRow 18 = .ok (.iload 5, 2) := by decide +kernel
theorem dX0_addRow_20 : decode cX0_addRow 20 = .ok (.invokestatic 32, 3) := by decide +kernel
theorem dX0_addRow_23 : decode cX0_addRow 23 = .ok (.ifCond .ne 5, 3) := by decide +kernel
theorem dX0_addRow_26 : decode cX0_addRow 26 = .ok (.iconst 1, 1) := by decide +kernel
theorem dX0_addRow_27 : decode cX0_addRow 27 = .ok (.ireturn, 1) := by decide +kernel
theorem dX0_addRow_28 : decode cX0_addRow 28 = .ok (.iload_n 2, 1) := by decide +kernel
theorem dX0_addRow_29 : decode cX0_addRow 29 = .ok (.iload_n 3, 1) := by decide +kernel
theorem dX0_addRow_30 : decode cX0_addRow 30 = .ok (.if_icmp .eq 16, 3) := by decide +kernel
theorem dX0_addRow_33 : decode cX0_addRow 33 = .ok (.iload 4, 2) := by decide +kernel
theorem dX0_addRow_35 : decode cX0_addRow 35 = .ok (.ifCond .eq 11, 3) := by decide +kernel
theorem dX0_addRow_38 : decode cX0_addRow 38 = .ok (.aload_n 1, 1) := by decide +kernel
theorem dX0_addRow_39 : decode cX0_addRow 39 = .ok (.iload_n 3, 1) := by decide +kernel
theorem dX0_addRow_40 : decode cX0_addRow 40 = .ok (.invokevirtual 64, 3) := by decide +kernel
theorem dX0_addRow_43 : decode cX0_addRow 43 = .ok (.ifCond .ne 5, 3) := by decide +kernel
theorem dX0_addRow_46 : decode cX0_addRow 46 = .ok (.iconst 2, 1) := by decide +kernel
theorem dX0_addRow_47 : decode cX0_addRow 47 = .ok (.ireturn, 1) := by decide +kernel
theorem dX0_addRow_48 : decode cX0_addRow 48 = .ok (.aload_n 0, 1) := by decide +kernel
theorem dX0_addRow_49 : decode cX0_addRow 49 = .ok (.getfield 12, 3) := by decide +kernel
theorem dX0_addRow_52 : decode cX0_addRow 52 = .ok (.aload_n 1, 1) := by decide +kernel
theorem dX0_addRow_53 : decode cX0_addRow 53 = .ok (.invokevirtual 44, 3) := by decide +kernel
theorem dX0_addRow_56 : decode cX0_addRow 56 = .ok (.aload_n 0, 1) := by decide +kernel
theorem dX0_addRow_57 : decode cX0_addRow 57 = .ok (.getfield 21, 3) := by decide +kernel
theorem dX0_addRow_60 : decode cX0_addRow 60 = .ok (.iload 4, 2) := by decide +kernel
theorem dX0_addRow_62 : decode cX0_addRow 62 = .ok (.i2l, 1) := by decide +kernel
theorem dX0_addRow_63 : decode cX0_addRow 63 = .ok (.iload 5, 2) := by decide +kernel
theorem dX0_addRow_65 : decode cX0_addRow 65 = .ok (.i2l, 1) := by decide +kernel
theorem dX0_addRow_66 : decode cX0_addRow 66 = .ok (.invokevirtual 36, 3) := by decide +kernel
theorem dX0_addRow_69 : decode cX0_addRow 69 = .ok (.aload_n 0, 1) := by decide +kernel
theorem dX0_addRow_70 : decode cX0_addRow 70 = .ok (.getfield 12, 3) := by decide +kernel
theorem dX0_addRow_73 : decode cX0_addRow 73 = .ok (.iload_n 2, 1) := by decide +kernel
theorem dX0_addRow_74 : decode cX0_addRow 74 = .ok (.iload_n 3, 1) := by decide +kernel
theorem dX0_addRow_75 : decode cX0_addRow 75 = .ok (.aload_n 0, 1) := by decide +kernel
theorem dX0_addRow_76 : decode cX0_addRow 76 = .ok (.getfield 21, 3) := by decide +kernel
theorem dX0_addRow_79 : decode cX0_addRow 79 = .ok (.getfield 79, 3) := by decide +kernel
theorem dX0_addRow_82 : decode cX0_addRow 82 = .ok (.aload_n 0, 1) := by decide +kernel
theorem dX0_addRow_83 : decode cX0_addRow 83 = .ok (.getfield 21, 3) := by decide +kernel
theorem dX0_addRow_86 : decode cX0_addRow 86 = .ok (.getfield 83, 3) := by decide +kernel
theorem dX0_addRow_89 : decode cX0_addRow 89 = .ok (.invokevirtual 86, 3) := by decide +kernel
theorem dX0_addRow_92 : decode cX0_addRow 92 = .ok (.istore 6, 2) := by decide +kernel
theorem dX0_addRow_94 : decode cX0_addRow 94 = .ok (.iload 6, 2) := by decide +kernel
theorem dX0_addRow_96 : decode cX0_addRow 96 = .ok (.iconst (-1), 1) := by decide +kernel
theorem dX0_addRow_97 : decode cX0_addRow 97 = .ok (.if_icmp .ne 7, 3) := by decide +kernel
theorem dX0_addRow_100 : decode cX0_addRow 100 = .ok (.iconst 0, 1) := by decide +kernel
theorem dX0_addRow_101 : decode cX0_addRow 101 = .ok (.goto 10, 3) := by decide +kernel
theorem dX0_addRow_104 : decode cX0_addRow 104 = .ok (.aload_n 0, 1) := by decide +kernel
theorem dX0_addRow_105 : decode cX0_addRow 105 = .ok (.iload_n 2, 1) := by decide +kernel
theorem dX0_addRow_106 : decode cX0_addRow 106 = .ok (.iload 6, 2) := by decide +kernel
theorem dX0_addRow_108 : decode cX0_addRow 108 = .ok (.invokevirtual 75, 3) := by decide +kernel
theorem dX0_addRow_111 : decode cX0_addRow 111 = .ok (.ireturn, 1) := by decide +kernel
set_option maxRecDepth 20000 in
theorem ggX0_takeSwept_X0_refuseLong : GoodIn wsX0_takeSwept wsX0_refuseLong := goodIn_r _ [10, 11, 12, 69, 70, 71, 72] rfl rfl
set_option maxRecDepth 20000 in
theorem gX0_takeSwept_X0_refuseLong : GoodIn wsX0_takeSwept (wsV RX0 75 RX0 yX0_refuseLong wsX0_refuseLong) := goodIn_app (goodIn_of _ (by decide +kernel)) ggX0_takeSwept_X0_refuseLong
set_option maxRecDepth 20000 in
theorem ggX0_takeSwept_X1_copy : GoodIn wsX0_takeSwept wsX1_copy := goodIn_r _ [17, 18, 19, 20, 21, 22, 23, 24, 25, 73, 74, 75, 76, 77] rfl rfl
set_option maxRecDepth 20000 in
theorem gX0_takeSwept_X1_copy : GoodIn wsX0_takeSwept (wsV RX0 44 RX1 yX1_copy wsX1_copy) := goodIn_app (goodIn_of _ (by decide +kernel)) ggX0_takeSwept_X1_copy
set_option maxRecDepth 20000 in
theorem ggX0_takeSwept_X1_isSame : GoodIn wsX0_takeSwept wsX1_isSame := goodIn_r _ [29, 18, 19, 30, 31, 32, 33, 34, 35, 36, 37, 38, 39, 40, 41, 16, 42, 20, 43, 44, 45, 46, 25, 47, 48, 49, 50, 51, 52, 53, 54, 73, 74, 75, 76, 77, 78, 79, 80] rfl rfl
set_option maxRecDepth 20000 in
theorem gX0_takeSwept_X1_isSame : GoodIn wsX0_takeSwept (wsV RX0 60 RX1 yX1_isSame wsX1_isSame) := goodIn_app (goodIn_of _ (by decide +kernel)) ggX0_takeSwept_X1_isSame
theorem dX0_takeSwept_0 : decode cX0_takeSwept 0 = .ok (.aload_n 2, 1) := by decide +kernel
theorem dX0_takeSwept_1 : decode cX0_takeSwept 1 = .ok (.getfield 90, 3) := by decide +kernel
theorem dX0_takeSwept_4 : decode cX0_takeSwept 4 = .ok (.ifCond .eq 16, 3) := by decide +kernel
theorem dX0_takeSwept_7 : decode cX0_takeSwept 7 = .ok (.aload_n 0, 1) := by decide +kernel
theorem dX0_takeSwept_8 : decode cX0_takeSwept 8 = .ok (.aload_n 2, 1) := by decide +kernel
theorem dX0_takeSwept_9 : decode cX0_takeSwept 9 = .ok (.getfield 95, 3) := by decide +kernel
theorem dX0_takeSwept_12 : decode cX0_takeSwept 12 = .ok (.aload_n 2, 1) := by decide +kernel
theorem dX0_takeSwept_13 : decode cX0_takeSwept 13 = .ok (.getfield 98, 3) := by decide +kernel
theorem dX0_takeSwept_16 : decode cX0_takeSwept 16 = .ok (.invokevirtual 75, 3) := by decide +kernel
theorem dX0_takeSwept_19 : decode cX0_takeSwept 19 = .ok (.ireturn, 1) := by decide +kernel
theorem dX0_takeSwept_20 : decode cX0_takeSwept 20 = .ok (.aload_n 0, 1) := by decide +kernel
theorem dX0_takeSwept_21 : decode cX0_takeSwept 21 = .ok (.getfield 12, 3) := by decide +kernel
theorem dX0_takeSwept_24 : decode cX0_takeSwept 24 = .ok (.aload_n 2, 1) := by decide +kernel
theorem dX0_takeSwept_25 : decode cX0_takeSwept 25 = .ok (.getfield 101, 3) := by decide +kernel
theorem dX0_takeSwept_28 : decode cX0_takeSwept 28 = .ok (.invokevirtual 44, 3) := by decide +kernel
theorem dX0_takeSwept_31 : decode cX0_takeSwept 31 = .ok (.aload_n 0, 1) := by decide +kernel
theorem dX0_takeSwept_32 : decode cX0_takeSwept 32 = .ok (.getfield 12, 3) := by decide +kernel
theorem dX0_takeSwept_35 : decode cX0_takeSwept 35 = .ok (.aload_n 1, 1) := by decide +kernel
theorem dX0_takeSwept_36 : decode cX0_takeSwept 36 = .ok (.invokevirtual 60, 3) := by decide +kernel
theorem dX0_takeSwept_39 : decode cX0_takeSwept 39 = .ok (.ifCond .eq 7, 3) := by decide +kernel
theorem dX0_takeSwept_42 : decode cX0_takeSwept 42 = .ok (.iconst 2, 1) := by decide +kernel
theorem dX0_takeSwept_43 : decode cX0_takeSwept 43 = .ok (.goto 4, 3) := by decide +kernel
theorem dX0_takeSwept_46 : decode cX0_takeSwept 46 = .ok (.iconst 0, 1) := by decide +kernel
theorem dX0_takeSwept_47 : decode cX0_takeSwept 47 = .ok (.ireturn, 1) := by decide +kernel
theorem dX0_refuseLong_0 : decode cX0_refuseLong 0 = .ok (.aload_n 0, 1) := by decide +kernel
theorem dX0_refuseLong_1 : decode cX0_refuseLong 1 = .ok (.iload_n 1, 1) := by decide +kernel
theorem dX0_refuseLong_2 : decode cX0_refuseLong 2 = .ok (.putfield 104, 3) := by decide +kernel
theorem dX0_refuseLong_5 : decode cX0_refuseLong 5 = .ok (.aload_n 0, 1) := by decide +kernel
theorem dX0_refuseLong_6 : decode cX0_refuseLong 6 = .ok (.iload_n 2, 1) := by decide +kernel
theorem dX0_refuseLong_7 : decode cX0_refuseLong 7 = .ok (.putfield 107, 3) := by decide +kernel
theorem dX0_refuseLong_10 : decode cX0_refuseLong 10 = .ok (.iconst 3, 1) := by decide +kernel
theorem dX0_refuseLong_11 : decode cX0_refuseLong 11 = .ok (.ireturn, 1) := by decide +kernel
set_option maxRecDepth 20000 in
theorem ggX1_init_X3_init : GoodIn wsX1_init wsX3_init := goodIn_r _ [14, 15, 2, 3, 16, 26, 27, 28] rfl rfl
set_option maxRecDepth 20000 in
theorem gX1_init_X3_init_n27 : GoodIn wsX1_init (wsX3_init) := ggX1_init_X3_init
set_option maxRecDepth 20000 in
theorem ggX1_init_J7_fill_53178 : GoodIn wsX1_init wsJ7_fill_53178 := goodIn_r _ [20] rfl rfl
set_option maxRecDepth 20000 in
theorem gX1_init_J7_fill_53178 : GoodIn wsX1_init (va_wsS RX1 32 yJ7_fill_53178 wsJ7_fill_53178) := goodIn_app (goodIn_of _ (by decide +kernel)) ggX1_init_J7_fill_53178
theorem dX1_init_0 : decode cX1_init 0 = .ok (.aload_n 0, 1) := by decide +kernel
theorem dX1_init_1 : decode cX1_init 1 = .ok (.invokespecial 3, 3) := by decide +kernel
theorem dX1_init_4 : decode cX1_init 4 = .ok (.aload_n 0, 1) := by decide +kernel
theorem dX1_init_5 : decode cX1_init 5 = .ok (.iconst 2, 1) := by decide +kernel
theorem dX1_init_6 : decode cX1_init 6 = .ok (.putfield 9, 3) := by decide +kernel
theorem dX1_init_9 : decode cX1_init 9 = .ok (.aload_n 0, 1) := by decide +kernel
theorem dX1_init_10 : decode cX1_init 10 = .ok (.iconst 2, 1) := by decide +kernel
theorem dX1_init_11 : decode cX1_init 11 = .ok (.putfield 15, 3) := by decide +kernel
theorem dX1_init_14 : decode cX1_init 14 = .ok (.aload_n 0, 1) := by decide +kernel
theorem dX1_init_15 : decode cX1_init 15 = .ok (.bipush 42, 2) := by decide +kernel
theorem dX1_init_17 : decode cX1_init 17 = .ok (.newarray .int, 2) := by decide +kernel
theorem dX1_init_19 : decode cX1_init 19 = .ok (.putfield 18, 3) := by decide +kernel
theorem dX1_init_22 : decode cX1_init 22 = .ok (.aload_n 0, 1) := by decide +kernel
theorem dX1_init_23 : decode cX1_init 23 = .ok (.bipush 42, 2) := by decide +kernel
theorem dX1_init_25 : decode cX1_init 25 = .ok (.newarray .int, 2) := by decide +kernel
theorem dX1_init_27 : decode cX1_init 27 = .ok (.putfield 22, 3) := by decide +kernel
theorem dX1_init_30 : decode cX1_init 30 = .ok (.aload_n 0, 1) := by decide +kernel
theorem dX1_init_31 : decode cX1_init 31 = .ok (.new 25, 3) := by decide +kernel
theorem dX1_init_34 : decode cX1_init 34 = .ok (.dup, 1) := by decide +kernel
theorem dX1_init_35 : decode cX1_init 35 = .ok (.invokespecial 27, 3) := by decide +kernel
theorem dX1_init_38 : decode cX1_init 38 = .ok (.putfield 28, 3) := by decide +kernel
theorem dX1_init_41 : decode cX1_init 41 = .ok (.aload_n 0, 1) := by decide +kernel
theorem dX1_init_42 : decode cX1_init 42 = .ok (.getfield 22, 3) := by decide +kernel
theorem dX1_init_45 : decode cX1_init 45 = .ok (.iconst 1, 1) := by decide +kernel
theorem dX1_init_46 : decode cX1_init 46 = .ok (.invokestatic 32, 3) := by decide +kernel
theorem dX1_init_49 : decode cX1_init 49 = .ok (.return_, 1) := by decide +kernel
set_option maxRecDepth 20000 in
theorem ggX1_clear_J7_fill_53178 : GoodIn wsX1_clear wsJ7_fill_53178 := goodIn_r _ [8] rfl rfl
set_option maxRecDepth 20000 in
theorem gX1_clear_J7_fill_53178 : GoodIn wsX1_clear (va_wsS RX1 32 yJ7_fill_53178 wsJ7_fill_53178) := goodIn_app (goodIn_of _ (by decide +kernel)) ggX1_clear_J7_fill_53178
theorem dX1_clear_0 : decode cX1_clear 0 = .ok (.aload_n 0, 1) := by decide +kernel
theorem dX1_clear_1 : decode cX1_clear 1 = .ok (.iload_n 1, 1) := by decide +kernel
theorem dX1_clear_2 : decode cX1_clear 2 = .ok (.putfield 9, 3) := by decide +kernel
theorem dX1_clear_5 : decode cX1_clear 5 = .ok (.aload_n 0, 1) := by decide +kernel
theorem dX1_clear_6 : decode cX1_clear 6 = .ok (.iload_n 2, 1) := by decide +kernel
theorem dX1_clear_7 : decode cX1_clear 7 = .ok (.putfield 15, 3) := by decide +kernel
theorem dX1_clear_10 : decode cX1_clear 10 = .ok (.aload_n 0, 1) := by decide +kernel
theorem dX1_clear_11 : decode cX1_clear 11 = .ok (.getfield 18, 3) := by decide +kernel
theorem dX1_clear_14 : decode cX1_clear 14 = .ok (.iconst 0, 1) := by decide +kernel
theorem dX1_clear_15 : decode cX1_clear 15 = .ok (.invokestatic 32, 3) := by decide +kernel
theorem dX1_clear_18 : decode cX1_clear 18 = .ok (.aload_n 0, 1) := by decide +kernel
theorem dX1_clear_19 : decode cX1_clear 19 = .ok (.getfield 22, 3) := by decide +kernel
theorem dX1_clear_22 : decode cX1_clear 22 = .ok (.iconst 1, 1) := by decide +kernel
theorem dX1_clear_23 : decode cX1_clear 23 = .ok (.invokestatic 32, 3) := by decide +kernel
theorem dX1_clear_26 : decode cX1_clear 26 = .ok (.return_, 1) := by decide +kernel
theorem dX1_copy_0 : decode cX1_copy 0 = .ok (.aload_n 0, 1) := by decide +kernel
theorem dX1_copy_1 : decode cX1_copy 1 = .ok (.aload_n 1, 1) := by decide +kernel
theorem dX1_copy_2 : decode cX1_copy 2 = .ok (.getfield 9, 3) := by decide +kernel
theorem dX1_copy_5 : decode cX1_copy 5 = .ok (.putfield 9, 3) := by decide +kernel
theorem dX1_copy_8 : decode cX1_copy 8 = .ok (.aload_n 0, 1) := by decide +kernel
theorem dX1_copy_9 : decode cX1_copy 9 = .ok (.aload_n 1, 1) := by decide +kernel
theorem dX1_copy_10 : decode cX1_copy 10 = .ok (.getfield 15, 3) := by decide +kernel
theorem dX1_copy_13 : decode cX1_copy 13 = .ok (.putfield 15, 3) := by decide +kernel
theorem dX1_copy_16 : decode cX1_copy 16 = .ok (.aload_n 1, 1) := by decide +kernel
theorem dX1_copy_17 : decode cX1_copy 17 = .ok (.getfield 18, 3) := by decide +kernel
theorem dX1_copy_20 : decode cX1_copy 20 = .ok (.iconst 0, 1) := by decide +kernel
theorem dX1_copy_21 : decode cX1_copy 21 = .ok (.aload_n 0, 1) := by decide +kernel
theorem dX1_copy_22 : decode cX1_copy 22 = .ok (.getfield 18, 3) := by decide +kernel
theorem dX1_copy_25 : decode cX1_copy 25 = .ok (.iconst 0, 1) := by decide +kernel
theorem dX1_copy_26 : decode cX1_copy 26 = .ok (.bipush 42, 2) := by decide +kernel
theorem dX1_copy_28 : decode cX1_copy 28 = .ok (.invokestatic 38, 3) := by decide +kernel
theorem dX1_copy_31 : decode cX1_copy 31 = .ok (.aload_n 1, 1) := by decide +kernel
theorem dX1_copy_32 : decode cX1_copy 32 = .ok (.getfield 22, 3) := by decide +kernel
theorem dX1_copy_35 : decode cX1_copy 35 = .ok (.iconst 0, 1) := by decide +kernel
theorem dX1_copy_36 : decode cX1_copy 36 = .ok (.aload_n 0, 1) := by decide +kernel
theorem dX1_copy_37 : decode cX1_copy 37 = .ok (.getfield 22, 3) := by decide +kernel
theorem dX1_copy_40 : decode cX1_copy 40 = .ok (.iconst 0, 1) := by decide +kernel
theorem dX1_copy_41 : decode cX1_copy 41 = .ok (.bipush 42, 2) := by decide +kernel
theorem dX1_copy_43 : decode cX1_copy 43 = .ok (.invokestatic 38, 3) := by decide +kernel
theorem dX1_copy_46 : decode cX1_copy 46 = .ok (.return_, 1) := by decide +kernel
set_option maxRecDepth 20000 in
theorem ggX1_copyWithout_X1_clear : GoodIn wsX1_copyWithout wsX1_clear := goodIn_r _ [8, 1, 2, 9, 10, 11, 12, 13, 14, 37, 38, 39, 40, 41] rfl rfl
set_option maxRecDepth 20000 in
theorem gX1_copyWithout_X1_clear : GoodIn wsX1_copyWithout (wsV RX1 44 RX1 yX1_clear wsX1_clear) := goodIn_app (goodIn_of _ (by decide +kernel)) ggX1_copyWithout_X1_clear
set_option maxRecDepth 20000 in
theorem ggX1_copyWithout_X3_load : GoodIn wsX1_copyWithout wsX3_load := goodIn_r _ [19, 20, 21, 22, 23, 24, 25, 7, 26, 9, 27, 28, 29, 30, 10, 42, 43, 44, 37, 38, 39, 40, 41] rfl rfl
set_option maxRecDepth 20000 in
theorem gX1_copyWithout_X3_load : GoodIn wsX1_copyWithout (wsV RX1 48 RX3 yX3_load wsX3_load) := goodIn_app (goodIn_of _ (by decide +kernel)) ggX1_copyWithout_X3_load
set_option maxRecDepth 20000 in
theorem ggX1_copyWithout_X1_put : GoodIn wsX1_copyWithout wsX1_put := goodIn_r _ [34, 9, 35, 10, 36, 37, 38, 39, 40, 41, 42, 43, 44] rfl rfl
set_option maxRecDepth 20000 in
theorem gX1_copyWithout_X1_put : GoodIn wsX1_copyWithout (wsV RX1 52 RX1 yX1_put wsX1_put) := goodIn_app (goodIn_of _ (by decide +kernel)) ggX1_copyWithout_X1_put
theorem dX1_copyWithout_0 : decode cX1_copyWithout 0 = .ok (.aload_n 0, 1) := by decide +kernel
theorem dX1_copyWithout_1 : decode cX1_copyWithout 1 = .ok (.aload_n 1, 1) := by decide +kernel
theorem dX1_copyWithout_2 : decode cX1_copyWithout 2 = .ok (.getfield 9, 3) := by decide +kernel
theorem dX1_copyWithout_5 : decode cX1_copyWithout 5 = .ok (.iconst 1, 1) := by decide +kernel
theorem dX1_copyWithout_6 : decode cX1_copyWithout 6 = .ok (.isub, 1) := by decide +kernel
theorem dX1_copyWithout_7 : decode cX1_copyWithout 7 = .ok (.aload_n 1, 1) := by decide +kernel
theorem dX1_copyWithout_8 : decode cX1_copyWithout 8 = .ok (.getfield 15, 3) := by decide +kernel
theorem dX1_copyWithout_11 : decode cX1_copyWithout 11 = .ok (.iconst 1, 1) := by decide +kernel
theorem dX1_copyWithout_12 : decode cX1_copyWithout 12 = .ok (.isub, 1) := by decide +kernel
theorem dX1_copyWithout_13 : decode cX1_copyWithout 13 = .ok (.invokevirtual 44, 3) := by decide +kernel
theorem dX1_copyWithout_16 : decode cX1_copyWithout 16 = .ok (.iconst 0, 1) := by decide +kernel
theorem dX1_copyWithout_17 : decode cX1_copyWithout 17 = .ok (.istore 4, 2) := by decide +kernel
theorem dX1_copyWithout_19 : decode cX1_copyWithout 19 = .ok (.iload 4, 2) := by decide +kernel
theorem dX1_copyWithout_21 : decode cX1_copyWithout 21 = .ok (.aload_n 0, 1) := by decide +kernel
theorem dX1_copyWithout_22 : decode cX1_copyWithout 22 = .ok (.getfield 9, 3) := by decide +kernel
theorem dX1_copyWithout_25 : decode cX1_copyWithout 25 = .ok (.if_icmp .ge 77, 3) := by decide +kernel
theorem dX1_copyWithout_28 : decode cX1_copyWithout 28 = .ok (.iconst 0, 1) := by decide +kernel
theorem dX1_copyWithout_29 : decode cX1_copyWithout 29 = .ok (.istore 5, 2) := by decide +kernel
theorem dX1_copyWithout_31 : decode cX1_copyWithout 31 = .ok (.iload 5, 2) := by decide +kernel
theorem dX1_copyWithout_33 : decode cX1_copyWithout 33 = .ok (.aload_n 0, 1) := by decide +kernel
theorem dX1_copyWithout_34 : decode cX1_copyWithout 34 = .ok (.getfield 15, 3) := by decide +kernel
theorem dX1_copyWithout_37 : decode cX1_copyWithout 37 = .ok (.if_icmp .ge 59, 3) := by decide +kernel
theorem dX1_copyWithout_40 : decode cX1_copyWithout 40 = .ok (.aload_n 0, 1) := by decide +kernel
theorem dX1_copyWithout_41 : decode cX1_copyWithout 41 = .ok (.getfield 28, 3) := by decide +kernel
theorem dX1_copyWithout_44 : decode cX1_copyWithout 44 = .ok (.aload_n 1, 1) := by decide +kernel
theorem dX1_copyWithout_45 : decode cX1_copyWithout 45 = .ok (.iload 4, 2) := by decide +kernel
theorem dX1_copyWithout_47 : decode cX1_copyWithout 47 = .ok (.iload_n 2, 1) := by decide +kernel
theorem dX1_copyWithout_48 : decode cX1_copyWithout 48 = .ok (.if_icmp .ge 8, 3) := by decide +kernel
theorem dX1_copyWithout_51 : decode cX1_copyWithout 51 = .ok (.iload 4, 2) := by decide +kernel
theorem dX1_copyWithout_53 : decode cX1_copyWithout 53 = .ok (.goto 7, 3) := by decide +kernel
theorem dX1_copyWithout_56 : decode cX1_copyWithout 56 = .ok (.iload 4, 2) := by decide +kernel
theorem dX1_copyWithout_58 : decode cX1_copyWithout 58 = .ok (.iconst 1, 1) := by decide +kernel
theorem dX1_copyWithout_59 : decode cX1_copyWithout 59 = .ok (.iadd, 1) := by decide +kernel
theorem dX1_copyWithout_60 : decode cX1_copyWithout 60 = .ok (.iload 5, 2) := by decide +kernel
theorem dX1_copyWithout_62 : decode cX1_copyWithout 62 = .ok (.iload_n 3, 1) := by decide +kernel
theorem dX1_copyWithout_63 : decode cX1_copyWithout 63 = .ok (.if_icmp .ge 8, 3) := by decide +kernel
theorem dX1_copyWithout_66 : decode cX1_copyWithout 66 = .ok (.iload 5, 2) := by decide +kernel
theorem dX1_copyWithout_68 : decode cX1_copyWithout 68 = .ok (.goto 7, 3) := by decide +kernel
theorem dX1_copyWithout_71 : decode cX1_copyWithout 71 = .ok (.iload 5, 2) := by decide +kernel
theorem dX1_copyWithout_73 : decode cX1_copyWithout 73 = .ok (.iconst 1, 1) := by decide +kernel
theorem dX1_copyWithout_74 : decode cX1_copyWithout 74 = .ok (.iadd, 1) := by decide +kernel
theorem dX1_copyWithout_75 : decode cX1_copyWithout 75 = .ok (.invokevirtual 48, 3) := by decide +kernel
theorem dX1_copyWithout_78 : decode cX1_copyWithout 78 = .ok (.aload_n 0, 1) := by decide +kernel
theorem dX1_copyWithout_79 : decode cX1_copyWithout 79 = .ok (.iload 4, 2) := by decide +kernel
theorem dX1_copyWithout_81 : decode cX1_copyWithout 81 = .ok (.iload 5, 2) := by decide +kernel
theorem dX1_copyWithout_83 : decode cX1_copyWithout 83 = .ok (.aload_n 0, 1) := by decide +kernel
theorem dX1_copyWithout_84 : decode cX1_copyWithout 84 = .ok (.getfield 28, 3) := by decide +kernel
theorem dX1_copyWithout_87 : decode cX1_copyWithout 87 = .ok (.invokevirtual 52, 3) := by decide +kernel
theorem dX1_copyWithout_90 : decode cX1_copyWithout 90 = .ok (.iinc 5 1, 3) := by decide +kernel
theorem dX1_copyWithout_93 : decode cX1_copyWithout 93 = .ok (.goto (-62), 3) := by decide +kernel
theorem dX1_copyWithout_96 : decode cX1_copyWithout 96 = .ok (.iinc 4 1, 3) := by decide +kernel
theorem dX1_copyWithout_99 : decode cX1_copyWithout 99 = .ok (.goto (-80), 3) := by decide +kernel
theorem dX1_copyWithout_102 : decode cX1_copyWithout 102 = .ok (.return_, 1) := by decide +kernel
set_option maxRecDepth 20000 in
theorem ggX1_clearSides_X3_start : GoodIn wsX1_clearSides wsX3_start := goodIn_r _ [8, 9, 10, 11, 12, 7, 13, 14, 15, 16, 17, 18, 19, 20, 21, 36, 37, 38] rfl rfl
set_option maxRecDepth 20000 in
theorem gX1_clearSides_X3_start : GoodIn wsX1_clearSides (wsV RX1 56 RX3 yX3_start wsX3_start) := goodIn_app (goodIn_of _ (by decide +kernel)) ggX1_clearSides_X3_start
set_option maxRecDepth 20000 in
theorem ggX1_clearSides_X1_put : GoodIn wsX1_clearSides wsX1_put := goodIn_r _ [26, 27, 28, 29, 30, 31, 32, 33, 34, 35, 36, 37, 38] rfl rfl
set_option maxRecDepth 20000 in
theorem gX1_clearSides_X1_put : GoodIn wsX1_clearSides (wsV RX1 52 RX1 yX1_put wsX1_put) := goodIn_app (goodIn_of _ (by decide +kernel)) ggX1_clearSides_X1_put
theorem dX1_clearSides_0 : decode cX1_clearSides 0 = .ok (.aload_n 0, 1) := by decide +kernel
theorem dX1_clearSides_1 : decode cX1_clearSides 1 = .ok (.getfield 28, 3) := by decide +kernel
theorem dX1_clearSides_4 : decode cX1_clearSides 4 = .ok (.lconst 0, 1) := by decide +kernel
theorem dX1_clearSides_5 : decode cX1_clearSides 5 = .ok (.lconst 1, 1) := by decide +kernel
theorem dX1_clearSides_6 : decode cX1_clearSides 6 = .ok (.invokevirtual 56, 3) := by decide +kernel
theorem dX1_clearSides_9 : decode cX1_clearSides 9 = .ok (.iconst 0, 1) := by decide +kernel
theorem dX1_clearSides_10 : decode cX1_clearSides 10 = .ok (.istore_n 1, 1) := by decide +kernel
theorem dX1_clearSides_11 : decode cX1_clearSides 11 = .ok (.iload_n 1, 1) := by decide +kernel
theorem dX1_clearSides_12 : decode cX1_clearSides 12 = .ok (.aload_n 0, 1) := by decide +kernel
theorem dX1_clearSides_13 : decode cX1_clearSides 13 = .ok (.getfield 9, 3) := by decide +kernel
theorem dX1_clearSides_16 : decode cX1_clearSides 16 = .ok (.if_icmp .ge 22, 3) := by decide +kernel
theorem dX1_clearSides_19 : decode cX1_clearSides 19 = .ok (.aload_n 0, 1) := by decide +kernel
theorem dX1_clearSides_20 : decode cX1_clearSides 20 = .ok (.iload_n 1, 1) := by decide +kernel
theorem dX1_clearSides_21 : decode cX1_clearSides 21 = .ok (.aload_n 0, 1) := by decide +kernel
theorem dX1_clearSides_22 : decode cX1_clearSides 22 = .ok (.getfield 15, 3) := by decide +kernel
theorem dX1_clearSides_25 : decode cX1_clearSides 25 = .ok (.aload_n 0, 1) := by decide +kernel
theorem dX1_clearSides_26 : decode cX1_clearSides 26 = .ok (.getfield 28, 3) := by decide +kernel
theorem dX1_clearSides_29 : decode cX1_clearSides 29 = .ok (.invokevirtual 52, 3) := by decide +kernel
theorem dX1_clearSides_32 : decode cX1_clearSides 32 = .ok (.iinc 1 1, 3) := by decide +kernel
theorem dX1_clearSides_35 : decode cX1_clearSides 35 = .ok (.goto (-24), 3) := by decide +kernel
theorem dX1_clearSides_38 : decode cX1_clearSides 38 = .ok (.return_, 1) := by decide +kernel
theorem dX1_hasRow_0 : decode cX1_hasRow 0 = .ok (.iload_n 1, 1) := by decide +kernel
theorem dX1_hasRow_1 : decode cX1_hasRow 1 = .ok (.ifCond .lt 15, 3) := by decide +kernel
theorem dX1_hasRow_4 : decode cX1_hasRow 4 = .ok (.iload_n 1, 1) := by decide +kernel
theorem dX1_hasRow_5 : decode cX1_hasRow 5 = .ok (.aload_n 0, 1) := by decide +kernel
theorem dX1_hasRow_6 : decode cX1_hasRow 6 = .ok (.getfield 9, 3) := by decide +kernel
theorem dX1_hasRow_9 : decode cX1_hasRow 9 = .ok (.if_icmp .ge 7, 3) := by decide +kernel
theorem dX1_hasRow_12 : decode cX1_hasRow 12 = .ok (.iconst 1, 1) := by decide +kernel
theorem dX1_hasRow_13 : decode cX1_hasRow 13 = .ok (.goto 4, 3) := by decide +kernel
theorem dX1_hasRow_16 : decode cX1_hasRow 16 = .ok (.iconst 0, 1) := by decide +kernel
theorem dX1_hasRow_17 : decode cX1_hasRow 17 = .ok (.ireturn, 1) := by decide +kernel
theorem dX1_hasColumn_0 : decode cX1_hasColumn 0 = .ok (.iload_n 1, 1) := by decide +kernel
theorem dX1_hasColumn_1 : decode cX1_hasColumn 1 = .ok (.ifCond .lt 15, 3) := by decide +kernel
theorem dX1_hasColumn_4 : decode cX1_hasColumn 4 = .ok (.iload_n 1, 1) := by decide +kernel
theorem dX1_hasColumn_5 : decode cX1_hasColumn 5 = .ok (.aload_n 0, 1) := by decide +kernel
theorem dX1_hasColumn_6 : decode cX1_hasColumn 6 = .ok (.getfield 15, 3) := by decide +kernel
theorem dX1_hasColumn_9 : decode cX1_hasColumn 9 = .ok (.if_icmp .ge 7, 3) := by decide +kernel
theorem dX1_hasColumn_12 : decode cX1_hasColumn 12 = .ok (.iconst 1, 1) := by decide +kernel
theorem dX1_hasColumn_13 : decode cX1_hasColumn 13 = .ok (.goto 4, 3) := by decide +kernel
theorem dX1_hasColumn_16 : decode cX1_hasColumn 16 = .ok (.iconst 0, 1) := by decide +kernel
theorem dX1_hasColumn_17 : decode cX1_hasColumn 17 = .ok (.ireturn, 1) := by decide +kernel
theorem dX1_hasColumnOrSide_0 : decode cX1_hasColumnOrSide 0 = .ok (.iload_n 1, 1) := by decide +kernel
theorem dX1_hasColumnOrSide_1 : decode cX1_hasColumnOrSide 1 = .ok (.ifCond .lt 15, 3) := by decide +kernel
theorem dX1_hasColumnOrSide_4 : decode cX1_hasColumnOrSide 4 = .ok (.iload_n 1, 1) := by decide +kernel
theorem dX1_hasColumnOrSide_5 : decode cX1_hasColumnOrSide 5 = .ok (.aload_n 0, 1) := by decide +kernel
theorem dX1_hasColumnOrSide_6 : decode cX1_hasColumnOrSide 6 = .ok (.getfield 15, 3) := by decide +kernel
theorem dX1_hasColumnOrSide_9 : decode cX1_hasColumnOrSide 9 = .ok (.if_icmp .gt 7, 3) := by decide +kernel
theorem dX1_hasColumnOrSide_12 : decode cX1_hasColumnOrSide 12 = .ok (.iconst 1, 1) := by decide +kernel
theorem dX1_hasColumnOrSide_13 : decode cX1_hasColumnOrSide 13 = .ok (.goto 4, 3) := by decide +kernel
theorem dX1_hasColumnOrSide_16 : decode cX1_hasColumnOrSide 16 = .ok (.iconst 0, 1) := by decide +kernel
theorem dX1_hasColumnOrSide_17 : decode cX1_hasColumnOrSide 17 = .ok (.ireturn, 1) := by decide +kernel
theorem dX1_isSquare_0 : decode cX1_isSquare 0 = .ok (.aload_n 0, 1) := by decide +kernel
theorem dX1_isSquare_1 : decode cX1_isSquare 1 = .ok (.getfield 9, 3) := by decide +kernel
theorem dX1_isSquare_4 : decode cX1_isSquare 4 = .ok (.aload_n 0, 1) := by decide +kernel
theorem dX1_isSquare_5 : decode cX1_isSquare 5 = .ok (.getfield 15, 3) := by decide +kernel
theorem dX1_isSquare_8 : decode cX1_isSquare 8 = .ok (.if_icmp .ne 7, 3) := by decide +kernel
theorem dX1_isSquare_11 : decode cX1_isSquare 11 = .ok (.iconst 1, 1) := by decide +kernel
theorem dX1_isSquare_12 : decode cX1_isSquare 12 = .ok (.goto 4, 3) := by decide +kernel
theorem dX1_isSquare_15 : decode cX1_isSquare 15 = .ok (.iconst 0, 1) := by decide +kernel
theorem dX1_isSquare_16 : decode cX1_isSquare 16 = .ok (.ireturn, 1) := by decide +kernel
theorem dX1_upperAt_0 : decode cX1_upperAt 0 = .ok (.iload_n 1, 1) := by decide +kernel
theorem dX1_upperAt_1 : decode cX1_upperAt 1 = .ok (.bipush 7, 2) := by decide +kernel
theorem dX1_upperAt_3 : decode cX1_upperAt 3 = .ok (.imul, 1) := by decide +kernel
theorem dX1_upperAt_4 : decode cX1_upperAt 4 = .ok (.iload_n 2, 1) := by decide +kernel
theorem dX1_upperAt_5 : decode cX1_upperAt 5 = .ok (.iadd, 1) := by decide +kernel
theorem dX1_upperAt_6 : decode cX1_upperAt 6 = .ok (.istore_n 3, 1) := by decide +kernel
theorem dX1_upperAt_7 : decode cX1_upperAt 7 = .ok (.iload_n 3, 1) := by decide +kernel
theorem dX1_upperAt_8 : decode cX1_upperAt 8 = .ok (.ifCond .lt 18, 3) := by decide +kernel
theorem dX1_upperAt_11 : decode cX1_upperAt 11 = .ok (.iload_n 3, 1) := by decide +kernel
theorem dX1_upperAt_12 : decode cX1_upperAt 12 = .ok (.bipush 42, 2) := by decide +kernel
theorem dX1_upperAt_14 : decode cX1_upperAt 14 = .ok (.if_icmp .ge 12, 3) := by decide +kernel
theorem dX1_upperAt_17 : decode cX1_upperAt 17 = .ok (.aload_n 0, 1) := by decide +kernel
theorem dX1_upperAt_18 : decode cX1_upperAt 18 = .ok (.getfield 18, 3) := by decide +kernel
theorem dX1_upperAt_21 : decode cX1_upperAt 21 = .ok (.iload_n 3, 1) := by decide +kernel
theorem dX1_upperAt_22 : decode cX1_upperAt 22 = .ok (.iaload, 1) := by decide +kernel
theorem dX1_upperAt_23 : decode cX1_upperAt 23 = .ok (.goto 4, 3) := by decide +kernel
theorem dX1_upperAt_26 : decode cX1_upperAt 26 = .ok (.iconst 0, 1) := by decide +kernel
theorem dX1_upperAt_27 : decode cX1_upperAt 27 = .ok (.ireturn, 1) := by decide +kernel
theorem dX1_lowerAt_0 : decode cX1_lowerAt 0 = .ok (.iload_n 1, 1) := by decide +kernel
theorem dX1_lowerAt_1 : decode cX1_lowerAt 1 = .ok (.bipush 7, 2) := by decide +kernel
theorem dX1_lowerAt_3 : decode cX1_lowerAt 3 = .ok (.imul, 1) := by decide +kernel
theorem dX1_lowerAt_4 : decode cX1_lowerAt 4 = .ok (.iload_n 2, 1) := by decide +kernel
theorem dX1_lowerAt_5 : decode cX1_lowerAt 5 = .ok (.iadd, 1) := by decide +kernel
theorem dX1_lowerAt_6 : decode cX1_lowerAt 6 = .ok (.istore_n 3, 1) := by decide +kernel
theorem dX1_lowerAt_7 : decode cX1_lowerAt 7 = .ok (.iload_n 3, 1) := by decide +kernel
theorem dX1_lowerAt_8 : decode cX1_lowerAt 8 = .ok (.ifCond .lt 18, 3) := by decide +kernel
theorem dX1_lowerAt_11 : decode cX1_lowerAt 11 = .ok (.iload_n 3, 1) := by decide +kernel
theorem dX1_lowerAt_12 : decode cX1_lowerAt 12 = .ok (.bipush 42, 2) := by decide +kernel
theorem dX1_lowerAt_14 : decode cX1_lowerAt 14 = .ok (.if_icmp .ge 12, 3) := by decide +kernel
theorem dX1_lowerAt_17 : decode cX1_lowerAt 17 = .ok (.aload_n 0, 1) := by decide +kernel
theorem dX1_lowerAt_18 : decode cX1_lowerAt 18 = .ok (.getfield 22, 3) := by decide +kernel
theorem dX1_lowerAt_21 : decode cX1_lowerAt 21 = .ok (.iload_n 3, 1) := by decide +kernel
theorem dX1_lowerAt_22 : decode cX1_lowerAt 22 = .ok (.iaload, 1) := by decide +kernel
theorem dX1_lowerAt_23 : decode cX1_lowerAt 23 = .ok (.goto 4, 3) := by decide +kernel
theorem dX1_lowerAt_26 : decode cX1_lowerAt 26 = .ok (.iconst 1, 1) := by decide +kernel
theorem dX1_lowerAt_27 : decode cX1_lowerAt 27 = .ok (.ireturn, 1) := by decide +kernel
theorem dX1_put_0 : decode cX1_put 0 = .ok (.iload_n 1, 1) := by decide +kernel
theorem dX1_put_1 : decode cX1_put 1 = .ok (.bipush 7, 2) := by decide +kernel
theorem dX1_put_3 : decode cX1_put 3 = .ok (.imul, 1) := by decide +kernel
theorem dX1_put_4 : decode cX1_put 4 = .ok (.iload_n 2, 1) := by decide +kernel
theorem dX1_put_5 : decode cX1_put 5 = .ok (.iadd, 1) := by decide +kernel
theorem dX1_put_6 : decode cX1_put 6 = .ok (.istore 4, 2) := by decide +kernel
theorem dX1_put_8 : decode cX1_put 8 = .ok (.iload 4, 2) := by decide +kernel
theorem dX1_put_10 : decode cX1_put 10 = .ok (.ifCond .lt 34, 3) := by decide +kernel
theorem dX1_put_13 : decode cX1_put 13 = .ok (.iload 4, 2) := by decide +kernel
theorem dX1_put_15 : decode cX1_put 15 = .ok (.bipush 42, 2) := by decide +kernel
theorem dX1_put_17 : decode cX1_put 17 = .ok (.if_icmp .ge 27, 3) := by decide +kernel
theorem dX1_put_20 : decode cX1_put 20 = .ok (.aload_n 0, 1) := by decide +kernel
theorem dX1_put_21 : decode cX1_put 21 = .ok (.getfield 18, 3) := by decide +kernel
theorem dX1_put_24 : decode cX1_put 24 = .ok (.iload 4, 2) := by decide +kernel
theorem dX1_put_26 : decode cX1_put 26 = .ok (.aload_n 3, 1) := by decide +kernel
theorem dX1_put_27 : decode cX1_put 27 = .ok (.getfield 60, 3) := by decide +kernel
theorem dX1_put_30 : decode cX1_put 30 = .ok (.l2i, 1) := by decide +kernel
theorem dX1_put_31 : decode cX1_put 31 = .ok (.iastore, 1) := by decide +kernel
theorem dX1_put_32 : decode cX1_put 32 = .ok (.aload_n 0, 1) := by decide +kernel
theorem dX1_put_33 : decode cX1_put 33 = .ok (.getfield 22, 3) := by decide +kernel
theorem dX1_put_36 : decode cX1_put 36 = .ok (.iload 4, 2) := by decide +kernel
theorem dX1_put_38 : decode cX1_put 38 = .ok (.aload_n 3, 1) := by decide +kernel
theorem dX1_put_39 : decode cX1_put 39 = .ok (.getfield 63, 3) := by decide +kernel
theorem dX1_put_42 : decode cX1_put 42 = .ok (.l2i, 1) := by decide +kernel
theorem dX1_put_43 : decode cX1_put 43 = .ok (.iastore, 1) := by decide +kernel
theorem dX1_put_44 : decode cX1_put 44 = .ok (.return_, 1) := by decide +kernel
set_option maxRecDepth 20000 in
theorem ggX1_isAt_X1_upperAt : GoodIn wsX1_isAt wsX1_upperAt := goodIn_r _ [7, 8, 17, 18, 19, 20, 21] rfl rfl
set_option maxRecDepth 20000 in
theorem gX1_isAt_X1_upperAt : GoodIn wsX1_isAt (wsV RX1 65 RX1 yX1_upperAt wsX1_upperAt) := goodIn_app (goodIn_of _ (by decide +kernel)) ggX1_isAt_X1_upperAt
set_option maxRecDepth 20000 in
theorem ggX1_isAt_X1_lowerAt : GoodIn wsX1_isAt wsX1_lowerAt := goodIn_r _ [12, 13, 17, 18, 19, 20, 21] rfl rfl
set_option maxRecDepth 20000 in
theorem gX1_isAt_X1_lowerAt : GoodIn wsX1_isAt (wsV RX1 69 RX1 yX1_lowerAt wsX1_lowerAt) := goodIn_app (goodIn_of _ (by decide +kernel)) ggX1_isAt_X1_lowerAt
theorem dX1_isAt_0 : decode cX1_isAt 0 = .ok (.aload_n 0, 1) := by decide +kernel
theorem dX1_isAt_1 : decode cX1_isAt 1 = .ok (.iload_n 1, 1) := by decide +kernel
theorem dX1_isAt_2 : decode cX1_isAt 2 = .ok (.iload_n 2, 1) := by decide +kernel
theorem dX1_isAt_3 : decode cX1_isAt 3 = .ok (.invokevirtual 65, 3) := by decide +kernel
theorem dX1_isAt_6 : decode cX1_isAt 6 = .ok (.i2l, 1) := by decide +kernel
theorem dX1_isAt_7 : decode cX1_isAt 7 = .ok (.aload_n 3, 1) := by decide +kernel
theorem dX1_isAt_8 : decode cX1_isAt 8 = .ok (.getfield 60, 3) := by decide +kernel
theorem dX1_isAt_11 : decode cX1_isAt 11 = .ok (.lcmp, 1) := by decide +kernel
theorem dX1_isAt_12 : decode cX1_isAt 12 = .ok (.ifCond .ne 22, 3) := by decide +kernel
theorem dX1_isAt_15 : decode cX1_isAt 15 = .ok (.aload_n 0, 1) := by decide +kernel
theorem dX1_isAt_16 : decode cX1_isAt 16 = .ok (.iload_n 1, 1) := by decide +kernel
theorem dX1_isAt_17 : decode cX1_isAt 17 = .ok (.iload_n 2, 1) := by decide +kernel
theorem dX1_isAt_18 : decode cX1_isAt 18 = .ok (.invokevirtual 69, 3) := by decide +kernel
theorem dX1_isAt_21 : decode cX1_isAt 21 = .ok (.i2l, 1) := by decide +kernel
theorem dX1_isAt_22 : decode cX1_isAt 22 = .ok (.aload_n 3, 1) := by decide +kernel
theorem dX1_isAt_23 : decode cX1_isAt 23 = .ok (.getfield 63, 3) := by decide +kernel
theorem dX1_isAt_26 : decode cX1_isAt 26 = .ok (.lcmp, 1) := by decide +kernel
theorem dX1_isAt_27 : decode cX1_isAt 27 = .ok (.ifCond .ne 7, 3) := by decide +kernel
theorem dX1_isAt_30 : decode cX1_isAt 30 = .ok (.iconst 1, 1) := by decide +kernel
theorem dX1_isAt_31 : decode cX1_isAt 31 = .ok (.goto 4, 3) := by decide +kernel
theorem dX1_isAt_34 : decode cX1_isAt 34 = .ok (.iconst 0, 1) := by decide +kernel
theorem dX1_isAt_35 : decode cX1_isAt 35 = .ok (.ireturn, 1) := by decide +kernel
set_option maxRecDepth 20000 in
theorem ggX1_rowBits_X1_upperAt : GoodIn wsX1_rowBits wsX1_upperAt := goodIn_r _ [6, 7, 8, 9, 10, 11, 12] rfl rfl
set_option maxRecDepth 20000 in
theorem gX1_rowBits_X1_upperAt : GoodIn wsX1_rowBits (wsV RX1 65 RX1 yX1_upperAt wsX1_upperAt) := goodIn_app (goodIn_of _ (by decide +kernel)) ggX1_rowBits_X1_upperAt
theorem dX1_rowBits_0 : decode cX1_rowBits 0 = .ok (.iconst 0, 1) := by decide +kernel
theorem dX1_rowBits_1 : decode cX1_rowBits 1 = .ok (.istore_n 2, 1) := by decide +kernel
theorem dX1_rowBits_2 : decode cX1_rowBits 2 = .ok (.iconst 0, 1) := by decide +kernel
theorem dX1_rowBits_3 : decode cX1_rowBits 3 = .ok (.istore_n 3, 1) := by decide +kernel
theorem dX1_rowBits_4 : decode cX1_rowBits 4 = .ok (.iload_n 3, 1) := by decide +kernel
theorem dX1_rowBits_5 : decode cX1_rowBits 5 = .ok (.aload_n 0, 1) := by decide +kernel
theorem dX1_rowBits_6 : decode cX1_rowBits 6 = .ok (.getfield 15, 3) := by decide +kernel
theorem dX1_rowBits_9 : decode cX1_rowBits 9 = .ok (.if_icmp .gt 24, 3) := by decide +kernel
theorem dX1_rowBits_12 : decode cX1_rowBits 12 = .ok (.aload_n 0, 1) := by decide +kernel
theorem dX1_rowBits_13 : decode cX1_rowBits 13 = .ok (.iload_n 1, 1) := by decide +kernel
theorem dX1_rowBits_14 : decode cX1_rowBits 14 = .ok (.iload_n 3, 1) := by decide +kernel
theorem dX1_rowBits_15 : decode cX1_rowBits 15 = .ok (.invokevirtual 65, 3) := by decide +kernel
theorem dX1_rowBits_18 : decode cX1_rowBits 18 = .ok (.ifCond .eq 9, 3) := by decide +kernel
theorem dX1_rowBits_21 : decode cX1_rowBits 21 = .ok (.iload_n 2, 1) := by decide +kernel
theorem dX1_rowBits_22 : decode cX1_rowBits 22 = .ok (.iconst 1, 1) := by decide +kernel
theorem dX1_rowBits_23 : decode cX1_rowBits 23 = .ok (.iload_n 3, 1) := by decide +kernel
theorem dX1_rowBits_24 : decode cX1_rowBits 24 = .ok (.ishl, 1) := by decide +kernel
theorem dX1_rowBits_25 : decode cX1_rowBits 25 = .ok (.ior, 1) := by decide +kernel
theorem dX1_rowBits_26 : decode cX1_rowBits 26 = .ok (.istore_n 2, 1) := by decide +kernel
theorem dX1_rowBits_27 : decode cX1_rowBits 27 = .ok (.iinc 3 1, 3) := by decide +kernel
theorem dX1_rowBits_30 : decode cX1_rowBits 30 = .ok (.goto (-26), 3) := by decide +kernel
theorem dX1_rowBits_33 : decode cX1_rowBits 33 = .ok (.iload_n 2, 1) := by decide +kernel
theorem dX1_rowBits_34 : decode cX1_rowBits 34 = .ok (.ireturn, 1) := by decide +kernel
set_option maxRecDepth 20000 in
theorem ggX1_columnBits_X1_upperAt : GoodIn wsX1_columnBits wsX1_upperAt := goodIn_r _ [6, 7, 8, 9, 10, 11, 12] rfl rfl
set_option maxRecDepth 20000 in
theorem gX1_columnBits_X1_upperAt : GoodIn wsX1_columnBits (wsV RX1 65 RX1 yX1_upperAt wsX1_upperAt) := goodIn_app (goodIn_of _ (by decide +kernel)) ggX1_columnBits_X1_upperAt
theorem dX1_columnBits_0 : decode cX1_columnBits 0 = .ok (.iconst 0, 1) := by decide +kernel
theorem dX1_columnBits_1 : decode cX1_columnBits 1 = .ok (.istore_n 2, 1) := by decide +kernel
theorem dX1_columnBits_2 : decode cX1_columnBits 2 = .ok (.iconst 0, 1) := by decide +kernel
theorem dX1_columnBits_3 : decode cX1_columnBits 3 = .ok (.istore_n 3, 1) := by decide +kernel
theorem dX1_columnBits_4 : decode cX1_columnBits 4 = .ok (.iload_n 3, 1) := by decide +kernel
theorem dX1_columnBits_5 : decode cX1_columnBits 5 = .ok (.aload_n 0, 1) := by decide +kernel
theorem dX1_columnBits_6 : decode cX1_columnBits 6 = .ok (.getfield 9, 3) := by decide +kernel
theorem dX1_columnBits_9 : decode cX1_columnBits 9 = .ok (.if_icmp .ge 24, 3) := by decide +kernel
theorem dX1_columnBits_12 : decode cX1_columnBits 12 = .ok (.aload_n 0, 1) := by decide +kernel
theorem dX1_columnBits_13 : decode cX1_columnBits 13 = .ok (.iload_n 3, 1) := by decide +kernel
theorem dX1_columnBits_14 : decode cX1_columnBits 14 = .ok (.iload_n 1, 1) := by decide +kernel
theorem dX1_columnBits_15 : decode cX1_columnBits 15 = .ok (.invokevirtual 65, 3) := by decide +kernel
theorem dX1_columnBits_18 : decode cX1_columnBits 18 = .ok (.ifCond .eq 9, 3) := by decide +kernel
theorem dX1_columnBits_21 : decode cX1_columnBits 21 = .ok (.iload_n 2, 1) := by decide +kernel
theorem dX1_columnBits_22 : decode cX1_columnBits 22 = .ok (.iconst 1, 1) := by decide +kernel
theorem dX1_columnBits_23 : decode cX1_columnBits 23 = .ok (.iload_n 3, 1) := by decide +kernel
theorem dX1_columnBits_24 : decode cX1_columnBits 24 = .ok (.ishl, 1) := by decide +kernel
theorem dX1_columnBits_25 : decode cX1_columnBits 25 = .ok (.ior, 1) := by decide +kernel
theorem dX1_columnBits_26 : decode cX1_columnBits 26 = .ok (.istore_n 2, 1) := by decide +kernel
theorem dX1_columnBits_27 : decode cX1_columnBits 27 = .ok (.iinc 3 1, 3) := by decide +kernel
theorem dX1_columnBits_30 : decode cX1_columnBits 30 = .ok (.goto (-26), 3) := by decide +kernel
theorem dX1_columnBits_33 : decode cX1_columnBits 33 = .ok (.iload_n 2, 1) := by decide +kernel
theorem dX1_columnBits_34 : decode cX1_columnBits 34 = .ok (.ireturn, 1) := by decide +kernel
theorem dX1_allColumns_0 : decode cX1_allColumns 0 = .ok (.iconst 1, 1) := by decide +kernel
theorem dX1_allColumns_1 : decode cX1_allColumns 1 = .ok (.aload_n 0, 1) := by decide +kernel
theorem dX1_allColumns_2 : decode cX1_allColumns 2 = .ok (.getfield 15, 3) := by decide +kernel
theorem dX1_allColumns_5 : decode cX1_allColumns 5 = .ok (.ishl, 1) := by decide +kernel
theorem dX1_allColumns_6 : decode cX1_allColumns 6 = .ok (.iconst 1, 1) := by decide +kernel
theorem dX1_allColumns_7 : decode cX1_allColumns 7 = .ok (.isub, 1) := by decide +kernel
theorem dX1_allColumns_8 : decode cX1_allColumns 8 = .ok (.ireturn, 1) := by decide +kernel
set_option maxRecDepth 20000 in
theorem ggX1_filled_X1_rowBits : GoodIn wsX1_filled wsX1_rowBits := goodIn_r _ [6, 7, 8, 9, 10, 5, 11, 12, 24, 25, 26, 27, 28] rfl rfl
set_option maxRecDepth 20000 in
theorem gX1_filled_X1_rowBits : GoodIn wsX1_filled (wsV RX1 72 RX1 yX1_rowBits wsX1_rowBits) := goodIn_app (goodIn_of _ (by decide +kernel)) ggX1_filled_X1_rowBits
set_option maxRecDepth 20000 in
theorem ggX1_filled_X1_allColumns : GoodIn wsX1_filled wsX1_allColumns := goodIn_r _ [16, 7, 24, 25, 26, 27, 28] rfl rfl
set_option maxRecDepth 20000 in
theorem gX1_filled_X1_allColumns : GoodIn wsX1_filled (wsV RX1 76 RX1 yX1_allColumns wsX1_allColumns) := goodIn_app (goodIn_of _ (by decide +kernel)) ggX1_filled_X1_allColumns
set_option maxRecDepth 20000 in
theorem ggX1_filled_J6_bitCount_0f7a4 : GoodIn wsX1_filled wsJ6_bitCount_0f7a4 := goodIn_r _ [20, 21, 22, 23] rfl rfl
set_option maxRecDepth 20000 in
theorem gX1_filled_J6_bitCount_0f7a4 : GoodIn wsX1_filled (va_wsS RX1 80 yJ6_bitCount_0f7a4 wsJ6_bitCount_0f7a4) := goodIn_app (goodIn_of _ (by decide +kernel)) ggX1_filled_J6_bitCount_0f7a4
theorem dX1_filled_0 : decode cX1_filled 0 = .ok (.iconst 0, 1) := by decide +kernel
theorem dX1_filled_1 : decode cX1_filled 1 = .ok (.istore_n 1, 1) := by decide +kernel
theorem dX1_filled_2 : decode cX1_filled 2 = .ok (.iconst 0, 1) := by decide +kernel
theorem dX1_filled_3 : decode cX1_filled 3 = .ok (.istore_n 2, 1) := by decide +kernel
theorem dX1_filled_4 : decode cX1_filled 4 = .ok (.iload_n 2, 1) := by decide +kernel
theorem dX1_filled_5 : decode cX1_filled 5 = .ok (.aload_n 0, 1) := by decide +kernel
theorem dX1_filled_6 : decode cX1_filled 6 = .ok (.getfield 9, 3) := by decide +kernel
theorem dX1_filled_9 : decode cX1_filled 9 = .ok (.if_icmp .ge 25, 3) := by decide +kernel
theorem dX1_filled_12 : decode cX1_filled 12 = .ok (.iload_n 1, 1) := by decide +kernel
theorem dX1_filled_13 : decode cX1_filled 13 = .ok (.aload_n 0, 1) := by decide +kernel
theorem dX1_filled_14 : decode cX1_filled 14 = .ok (.iload_n 2, 1) := by decide +kernel
theorem dX1_filled_15 : decode cX1_filled 15 = .ok (.invokevirtual 72, 3) := by decide +kernel
theorem dX1_filled_18 : decode cX1_filled 18 = .ok (.aload_n 0, 1) := by decide +kernel
theorem dX1_filled_19 : decode cX1_filled 19 = .ok (.invokevirtual 76, 3) := by decide +kernel
theorem dX1_filled_22 : decode cX1_filled 22 = .ok (.iand, 1) := by decide +kernel
theorem dX1_filled_23 : decode cX1_filled 23 = .ok (.invokestatic 80, 3) := by decide +kernel
theorem dX1_filled_26 : decode cX1_filled 26 = .ok (.iadd, 1) := by decide +kernel
theorem dX1_filled_27 : decode cX1_filled 27 = .ok (.istore_n 1, 1) := by decide +kernel
theorem dX1_filled_28 : decode cX1_filled 28 = .ok (.iinc 2 1, 3) := by decide +kernel
theorem dX1_filled_31 : decode cX1_filled 31 = .ok (.goto (-27), 3) := by decide +kernel
theorem dX1_filled_34 : decode cX1_filled 34 = .ok (.iload_n 1, 1) := by decide +kernel
theorem dX1_filled_35 : decode cX1_filled 35 = .ok (.ireturn, 1) := by decide +kernel
set_option maxRecDepth 20000 in
theorem ggX1_isSame_X3_load : GoodIn wsX1_isSame wsX3_load := goodIn_r _ [8, 9, 10, 11, 12, 13, 14, 15, 16, 17, 18, 19, 20, 21, 22, 36, 37, 38, 31, 32, 33, 34, 35] rfl rfl
set_option maxRecDepth 20000 in
theorem gX1_isSame_X3_load : GoodIn wsX1_isSame (wsV RX1 48 RX3 yX3_load wsX3_load) := goodIn_app (goodIn_of _ (by decide +kernel)) ggX1_isSame_X3_load
set_option maxRecDepth 20000 in
theorem ggX1_isSame_X1_isAt : GoodIn wsX1_isSame wsX1_isAt := goodIn_r _ [26, 27, 28, 29, 13, 14, 15, 16, 17, 30, 19, 20, 21, 22, 36, 37, 38, 31, 32, 33, 34, 35] rfl rfl
set_option maxRecDepth 20000 in
theorem gX1_isSame_X1_isAt : GoodIn wsX1_isSame (wsV RX1 85 RX1 yX1_isAt wsX1_isAt) := goodIn_app (goodIn_of _ (by decide +kernel)) ggX1_isSame_X1_isAt
theorem dX1_isSame_0 : decode cX1_isSame 0 = .ok (.iconst 0, 1) := by decide +kernel
theorem dX1_isSame_1 : decode cX1_isSame 1 = .ok (.istore_n 2, 1) := by decide +kernel
theorem dX1_isSame_2 : decode cX1_isSame 2 = .ok (.iload_n 2, 1) := by decide +kernel
theorem dX1_isSame_3 : decode cX1_isSame 3 = .ok (.aload_n 0, 1) := by decide +kernel
theorem dX1_isSame_4 : decode cX1_isSame 4 = .ok (.getfield 9, 3) := by decide +kernel
theorem dX1_isSame_7 : decode cX1_isSame 7 = .ok (.if_icmp .ge 50, 3) := by decide +kernel
theorem dX1_isSame_10 : decode cX1_isSame 10 = .ok (.iconst 0, 1) := by decide +kernel
theorem dX1_isSame_11 : decode cX1_isSame 11 = .ok (.istore_n 3, 1) := by decide +kernel
theorem dX1_isSame_12 : decode cX1_isSame 12 = .ok (.iload_n 3, 1) := by decide +kernel
theorem dX1_isSame_13 : decode cX1_isSame 13 = .ok (.aload_n 0, 1) := by decide +kernel
theorem dX1_isSame_14 : decode cX1_isSame 14 = .ok (.getfield 15, 3) := by decide +kernel
theorem dX1_isSame_17 : decode cX1_isSame 17 = .ok (.if_icmp .gt 34, 3) := by decide +kernel
theorem dX1_isSame_20 : decode cX1_isSame 20 = .ok (.aload_n 0, 1) := by decide +kernel
theorem dX1_isSame_21 : decode cX1_isSame 21 = .ok (.getfield 28, 3) := by decide +kernel
theorem dX1_isSame_24 : decode cX1_isSame 24 = .ok (.aload_n 1, 1) := by decide +kernel
theorem dX1_isSame_25 : decode cX1_isSame 25 = .ok (.iload_n 2, 1) := by decide +kernel
theorem dX1_isSame_26 : decode cX1_isSame 26 = .ok (.iload_n 3, 1) := by decide +kernel
theorem dX1_isSame_27 : decode cX1_isSame 27 = .ok (.invokevirtual 48, 3) := by decide +kernel
theorem dX1_isSame_30 : decode cX1_isSame 30 = .ok (.aload_n 0, 1) := by decide +kernel
theorem dX1_isSame_31 : decode cX1_isSame 31 = .ok (.iload_n 2, 1) := by decide +kernel
theorem dX1_isSame_32 : decode cX1_isSame 32 = .ok (.iload_n 3, 1) := by decide +kernel
theorem dX1_isSame_33 : decode cX1_isSame 33 = .ok (.aload_n 0, 1) := by decide +kernel
theorem dX1_isSame_34 : decode cX1_isSame 34 = .ok (.getfield 28, 3) := by decide +kernel
theorem dX1_isSame_37 : decode cX1_isSame 37 = .ok (.invokevirtual 85, 3) := by decide +kernel
theorem dX1_isSame_40 : decode cX1_isSame 40 = .ok (.ifCond .ne 5, 3) := by decide +kernel
theorem dX1_isSame_43 : decode cX1_isSame 43 = .ok (.iconst 0, 1) := by decide +kernel
theorem dX1_isSame_44 : decode cX1_isSame 44 = .ok (.ireturn, 1) := by decide +kernel
theorem dX1_isSame_45 : decode cX1_isSame 45 = .ok (.iinc 3 1, 3) := by decide +kernel
theorem dX1_isSame_48 : decode cX1_isSame 48 = .ok (.goto (-36), 3) := by decide +kernel
theorem dX1_isSame_51 : decode cX1_isSame 51 = .ok (.iinc 2 1, 3) := by decide +kernel
theorem dX1_isSame_54 : decode cX1_isSame 54 = .ok (.goto (-52), 3) := by decide +kernel
theorem dX1_isSame_57 : decode cX1_isSame 57 = .ok (.iconst 1, 1) := by decide +kernel
theorem dX1_isSame_58 : decode cX1_isSame 58 = .ok (.ireturn, 1) := by decide +kernel
set_option maxRecDepth 20000 in
theorem ggX1_addTimes_X3_load : GoodIn wsX1_addTimes wsX3_load := goodIn_r _ [8, 9, 10, 11, 12, 13, 14, 15, 16, 17, 18, 19, 20, 21, 22, 54, 55, 56, 49, 50, 51, 52, 53] rfl rfl
set_option maxRecDepth 20000 in
theorem gX1_addTimes_X3_load : GoodIn wsX1_addTimes (wsV RX1 48 RX3 yX3_load wsX3_load) := goodIn_app (goodIn_of _ (by decide +kernel)) ggX1_addTimes_X3_load
set_option maxRecDepth 20000 in
theorem ggX1_addTimes_X3_times : GoodIn wsX1_addTimes wsX3_times := goodIn_r _ [26, 10, 11, 27, 28, 29, 7, 30, 9, 31, 32, 33, 34, 35, 36, 54, 55, 56] rfl rfl
set_option maxRecDepth 20000 in
theorem gX1_addTimes_X3_times : GoodIn wsX1_addTimes (wsV RX1 89 RX3 yX3_times wsX3_times) := goodIn_app (goodIn_of _ (by decide +kernel)) ggX1_addTimes_X3_times
set_option maxRecDepth 20000 in
theorem ggX1_addTimes_X1_upperAt : GoodIn wsX1_addTimes wsX1_upperAt := goodIn_r _ [16, 17, 49, 50, 51, 52, 53] rfl rfl
set_option maxRecDepth 20000 in
theorem gX1_addTimes_X1_upperAt : GoodIn wsX1_addTimes (wsV RX1 65 RX1 yX1_upperAt wsX1_upperAt) := goodIn_app (goodIn_of _ (by decide +kernel)) ggX1_addTimes_X1_upperAt
set_option maxRecDepth 20000 in
theorem ggX1_addTimes_X1_lowerAt : GoodIn wsX1_addTimes wsX1_lowerAt := goodIn_r _ [21, 22, 49, 50, 51, 52, 53] rfl rfl
set_option maxRecDepth 20000 in
theorem gX1_addTimes_X1_lowerAt : GoodIn wsX1_addTimes (wsV RX1 69 RX1 yX1_lowerAt wsX1_lowerAt) := goodIn_app (goodIn_of _ (by decide +kernel)) ggX1_addTimes_X1_lowerAt
set_option maxRecDepth 20000 in
theorem ggX1_addTimes_X3_plus : GoodIn wsX1_addTimes wsX3_plus := goodIn_r _ [42, 10, 11, 27, 28, 29, 7, 30, 9, 31, 32, 33, 34, 35, 36, 54, 55, 56] rfl rfl
set_option maxRecDepth 20000 in
theorem gX1_addTimes_X3_plus : GoodIn wsX1_addTimes (wsV RX1 92 RX3 yX3_plus wsX3_plus) := goodIn_app (goodIn_of _ (by decide +kernel)) ggX1_addTimes_X3_plus
set_option maxRecDepth 20000 in
theorem ggX1_addTimes_X1_put : GoodIn wsX1_addTimes wsX1_put := goodIn_r _ [46, 17, 47, 22, 48, 49, 50, 51, 52, 53, 54, 55, 56] rfl rfl
set_option maxRecDepth 20000 in
theorem gX1_addTimes_X1_put : GoodIn wsX1_addTimes (wsV RX1 52 RX1 yX1_put wsX1_put) := goodIn_app (goodIn_of _ (by decide +kernel)) ggX1_addTimes_X1_put
theorem dX1_addTimes_0 : decode cX1_addTimes 0 = .ok (.iconst 0, 1) := by decide +kernel
theorem dX1_addTimes_1 : decode cX1_addTimes 1 = .ok (.istore 7, 2) := by decide +kernel
theorem dX1_addTimes_3 : decode cX1_addTimes 3 = .ok (.iload 7, 2) := by decide +kernel
theorem dX1_addTimes_5 : decode cX1_addTimes 5 = .ok (.aload_n 0, 1) := by decide +kernel
theorem dX1_addTimes_6 : decode cX1_addTimes 6 = .ok (.getfield 15, 3) := by decide +kernel
theorem dX1_addTimes_9 : decode cX1_addTimes 9 = .ok (.if_icmp .gt 77, 3) := by decide +kernel
theorem dX1_addTimes_12 : decode cX1_addTimes 12 = .ok (.aload_n 0, 1) := by decide +kernel
theorem dX1_addTimes_13 : decode cX1_addTimes 13 = .ok (.getfield 28, 3) := by decide +kernel
theorem dX1_addTimes_16 : decode cX1_addTimes 16 = .ok (.aload_n 0, 1) := by decide +kernel
theorem dX1_addTimes_17 : decode cX1_addTimes 17 = .ok (.iload_n 2, 1) := by decide +kernel
theorem dX1_addTimes_18 : decode cX1_addTimes 18 = .ok (.iload 7, 2) := by decide +kernel
theorem dX1_addTimes_20 : decode cX1_addTimes 20 = .ok (.invokevirtual 48, 3) := by decide +kernel
theorem dX1_addTimes_23 : decode cX1_addTimes 23 = .ok (.aload_n 0, 1) := by decide +kernel
theorem dX1_addTimes_24 : decode cX1_addTimes 24 = .ok (.getfield 28, 3) := by decide +kernel
theorem dX1_addTimes_27 : decode cX1_addTimes 27 = .ok (.lload_n 3, 1) := by decide +kernel
theorem dX1_addTimes_28 : decode cX1_addTimes 28 = .ok (.lload 5, 2) := by decide +kernel
theorem dX1_addTimes_30 : decode cX1_addTimes 30 = .ok (.invokevirtual 89, 3) := by decide +kernel
theorem dX1_addTimes_33 : decode cX1_addTimes 33 = .ok (.aload_n 0, 1) := by decide +kernel
theorem dX1_addTimes_34 : decode cX1_addTimes 34 = .ok (.getfield 28, 3) := by decide +kernel
theorem dX1_addTimes_37 : decode cX1_addTimes 37 = .ok (.aload_n 0, 1) := by decide +kernel
theorem dX1_addTimes_38 : decode cX1_addTimes 38 = .ok (.iload_n 1, 1) := by decide +kernel
theorem dX1_addTimes_39 : decode cX1_addTimes 39 = .ok (.iload 7, 2) := by decide +kernel
theorem dX1_addTimes_41 : decode cX1_addTimes 41 = .ok (.invokevirtual 65, 3) := by decide +kernel
theorem dX1_addTimes_44 : decode cX1_addTimes 44 = .ok (.i2l, 1) := by decide +kernel
theorem dX1_addTimes_45 : decode cX1_addTimes 45 = .ok (.aload_n 0, 1) := by decide +kernel
theorem dX1_addTimes_46 : decode cX1_addTimes 46 = .ok (.iload_n 1, 1) := by decide +kernel
theorem dX1_addTimes_47 : decode cX1_addTimes 47 = .ok (.iload 7, 2) := by decide +kernel
theorem dX1_addTimes_49 : decode cX1_addTimes 49 = .ok (.invokevirtual 69, 3) := by decide +kernel
theorem dX1_addTimes_52 : decode cX1_addTimes 52 = .ok (.i2l, 1) := by decide +kernel
theorem dX1_addTimes_53 : decode cX1_addTimes 53 = .ok (.invokevirtual 92, 3) := by decide +kernel
theorem dX1_addTimes_56 : decode cX1_addTimes 56 = .ok (.aload_n 0, 1) := by decide +kernel
theorem dX1_addTimes_57 : decode cX1_addTimes 57 = .ok (.getfield 28, 3) := by decide +kernel
theorem dX1_addTimes_60 : decode cX1_addTimes 60 = .ok (.getfield 95, 3) := by decide +kernel
theorem dX1_addTimes_63 : decode cX1_addTimes 63 = .ok (.ifCond .eq 6, 3) := by decide +kernel
theorem dX1_addTimes_66 : decode cX1_addTimes 66 = .ok (.iload 7, 2) := by decide +kernel
theorem dX1_addTimes_68 : decode cX1_addTimes 68 = .ok (.ireturn, 1) := by decide +kernel
theorem dX1_addTimes_69 : decode cX1_addTimes 69 = .ok (.aload_n 0, 1) := by decide +kernel
theorem dX1_addTimes_70 : decode cX1_addTimes 70 = .ok (.iload_n 1, 1) := by decide +kernel
theorem dX1_addTimes_71 : decode cX1_addTimes 71 = .ok (.iload 7, 2) := by decide +kernel
theorem dX1_addTimes_73 : decode cX1_addTimes 73 = .ok (.aload_n 0, 1) := by decide +kernel
theorem dX1_addTimes_74 : decode cX1_addTimes 74 = .ok (.getfield 28, 3) := by decide +kernel
theorem dX1_addTimes_77 : decode cX1_addTimes 77 = .ok (.invokevirtual 52, 3) := by decide +kernel
theorem dX1_addTimes_80 : decode cX1_addTimes 80 = .ok (.iinc 7 1, 3) := by decide +kernel
theorem dX1_addTimes_83 : decode cX1_addTimes 83 = .ok (.goto (-80), 3) := by decide +kernel
theorem dX1_addTimes_86 : decode cX1_addTimes 86 = .ok (.iconst (-1), 1) := by decide +kernel
theorem dX1_addTimes_87 : decode cX1_addTimes 87 = .ok (.ireturn, 1) := by decide +kernel
theorem dX2_init_0 : decode cX2_init 0 = .ok (.aload_n 0, 1) := by decide +kernel
theorem dX2_init_1 : decode cX2_init 1 = .ok (.invokespecial 3, 3) := by decide +kernel
theorem dX2_init_4 : decode cX2_init 4 = .ok (.aload_n 0, 1) := by decide +kernel
theorem dX2_init_5 : decode cX2_init 5 = .ok (.bipush 20, 2) := by decide +kernel
theorem dX2_init_7 : decode cX2_init 7 = .ok (.anewarray 9, 3) := by decide +kernel
theorem dX2_init_10 : decode cX2_init 10 = .ok (.putfield 11, 3) := by decide +kernel
theorem dX2_init_13 : decode cX2_init 13 = .ok (.return_, 1) := by decide +kernel
set_option maxRecDepth 20000 in
theorem ggX2_keep_X1_init : GoodIn wsX2_keep wsX1_init := goodIn_r _ [13, 14, 15, 16, 17, 18, 19, 20, 21, 22, 23, 24, 25, 26, 27, 28, 29, 30, 31, 32, 33, 45, 46, 47, 48, 49, 50, 51, 52] rfl rfl
set_option maxRecDepth 20000 in
theorem gX2_keep_X1_init : GoodIn wsX2_keep (wsX1_init) := ggX2_keep_X1_init
set_option maxRecDepth 20000 in
theorem ggX2_keep_X1_copy : GoodIn wsX2_keep wsX1_copy := goodIn_r _ [37, 17, 18, 20, 38, 39, 40, 41, 21, 45, 46, 47, 48, 49] rfl rfl
set_option maxRecDepth 20000 in
theorem gX2_keep_X1_copy : GoodIn wsX2_keep (wsV RX2 22 RX1 yX1_copy wsX1_copy) := goodIn_app (goodIn_of _ (by decide +kernel)) ggX2_keep_X1_copy
theorem dX2_keep_0 : decode cX2_keep 0 = .ok (.aload_n 0, 1) := by decide +kernel
theorem dX2_keep_1 : decode cX2_keep 1 = .ok (.getfield 17, 3) := by decide +kernel
theorem dX2_keep_4 : decode cX2_keep 4 = .ok (.ifCond .lt 12, 3) := by decide +kernel
theorem dX2_keep_7 : decode cX2_keep 7 = .ok (.aload_n 0, 1) := by decide +kernel
theorem dX2_keep_8 : decode cX2_keep 8 = .ok (.getfield 17, 3) := by decide +kernel
theorem dX2_keep_11 : decode cX2_keep 11 = .ok (.bipush 20, 2) := by decide +kernel
theorem dX2_keep_13 : decode cX2_keep 13 = .ok (.if_icmp .lt 4, 3) := by decide +kernel
theorem dX2_keep_16 : decode cX2_keep 16 = .ok (.return_, 1) := by decide +kernel
theorem dX2_keep_17 : decode cX2_keep 17 = .ok (.aload_n 0, 1) := by decide +kernel
theorem dX2_keep_18 : decode cX2_keep 18 = .ok (.getfield 11, 3) := by decide +kernel
theorem dX2_keep_21 : decode cX2_keep 21 = .ok (.aload_n 0, 1) := by decide +kernel
theorem dX2_keep_22 : decode cX2_keep 22 = .ok (.getfield 17, 3) := by decide +kernel
theorem dX2_keep_25 : decode cX2_keep 25 = .ok (.aaload, 1) := by decide +kernel
theorem dX2_keep_26 : decode cX2_keep 26 = .ok (.astore_n 2, 1) := by decide +kernel
theorem dX2_keep_27 : decode cX2_keep 27 = .ok (.aload_n 2, 1) := by decide +kernel
theorem dX2_keep_28 : decode cX2_keep 28 = .ok (.ifnonnull 21, 3) := by decide +kernel
theorem dX2_keep_31 : decode cX2_keep 31 = .ok (.new 9, 3) := by decide +kernel
theorem dX2_keep_34 : decode cX2_keep 34 = .ok (.dup, 1) := by decide +kernel
theorem dX2_keep_35 : decode cX2_keep 35 = .ok (.invokespecial 21, 3) := by decide +kernel
theorem dX2_keep_38 : decode cX2_keep 38 = .ok (.astore_n 2, 1) := by decide +kernel
theorem dX2_keep_39 : decode cX2_keep 39 = .ok (.aload_n 0, 1) := by decide +kernel
theorem dX2_keep_40 : decode cX2_keep 40 = .ok (.getfield 11, 3) := by decide +kernel
theorem dX2_keep_43 : decode cX2_keep 43 = .ok (.aload_n 0, 1) := by decide +kernel
theorem dX2_keep_44 : decode cX2_keep 44 = .ok (.getfield 17, 3) := by decide +kernel
theorem dX2_keep_47 : decode cX2_keep 47 = .ok (.aload_n 2, 1) := by decide +kernel
theorem dX2_keep_48 : decode cX2_keep 48 = .ok (.aastore, 1) := by decide +kernel
theorem dX2_keep_49 : decode cX2_keep 49 = .ok (.aload_n 2, 1) := by decide +kernel
theorem dX2_keep_50 : decode cX2_keep 50 = .ok (.aload_n 1, 1) := by decide +kernel
theorem dX2_keep_51 : decode cX2_keep 51 = .ok (.invokevirtual 22, 3) := by decide +kernel
theorem dX2_keep_54 : decode cX2_keep 54 = .ok (.aload_n 0, 1) := by decide +kernel
theorem dX2_keep_55 : decode cX2_keep 55 = .ok (.aload_n 0, 1) := by decide +kernel
theorem dX2_keep_56 : decode cX2_keep 56 = .ok (.getfield 17, 3) := by decide +kernel
theorem dX2_keep_59 : decode cX2_keep 59 = .ok (.iconst 1, 1) := by decide +kernel
theorem dX2_keep_60 : decode cX2_keep 60 = .ok (.iadd, 1) := by decide +kernel
theorem dX2_keep_61 : decode cX2_keep 61 = .ok (.bipush 20, 2) := by decide +kernel
theorem dX2_keep_63 : decode cX2_keep 63 = .ok (.irem, 1) := by decide +kernel
theorem dX2_keep_64 : decode cX2_keep 64 = .ok (.putfield 17, 3) := by decide +kernel
theorem dX2_keep_67 : decode cX2_keep 67 = .ok (.aload_n 0, 1) := by decide +kernel
theorem dX2_keep_68 : decode cX2_keep 68 = .ok (.aload_n 0, 1) := by decide +kernel
theorem dX2_keep_69 : decode cX2_keep 69 = .ok (.getfield 26, 3) := by decide +kernel
theorem dX2_keep_72 : decode cX2_keep 72 = .ok (.iconst 1, 1) := by decide +kernel
theorem dX2_keep_73 : decode cX2_keep 73 = .ok (.iadd, 1) := by decide +kernel
theorem dX2_keep_74 : decode cX2_keep 74 = .ok (.bipush 20, 2) := by decide +kernel
theorem dX2_keep_76 : decode cX2_keep 76 = .ok (.invokestatic 29, 3) := by decide +kernel
theorem dX2_keep_79 : decode cX2_keep 79 = .ok (.putfield 26, 3) := by decide +kernel
theorem dX2_keep_82 : decode cX2_keep 82 = .ok (.return_, 1) := by decide +kernel
set_option maxRecDepth 20000 in
theorem ggX2_takeBack_X1_copy : GoodIn wsX2_takeBack wsX1_copy := goodIn_r _ [8, 9, 10, 11, 12, 13, 14, 15, 16, 20, 21, 22, 23, 24] rfl rfl
set_option maxRecDepth 20000 in
theorem gX2_takeBack_X1_copy : GoodIn wsX2_takeBack (wsV RX2 22 RX1 yX1_copy wsX1_copy) := goodIn_app (goodIn_of _ (by decide +kernel)) ggX2_takeBack_X1_copy
theorem dX2_takeBack_0 : decode cX2_takeBack 0 = .ok (.aload_n 0, 1) := by decide +kernel
theorem dX2_takeBack_1 : decode cX2_takeBack 1 = .ok (.getfield 17, 3) := by decide +kernel
theorem dX2_takeBack_4 : decode cX2_takeBack 4 = .ok (.bipush 20, 2) := by decide +kernel
theorem dX2_takeBack_6 : decode cX2_takeBack 6 = .ok (.iadd, 1) := by decide +kernel
theorem dX2_takeBack_7 : decode cX2_takeBack 7 = .ok (.iconst 1, 1) := by decide +kernel
theorem dX2_takeBack_8 : decode cX2_takeBack 8 = .ok (.isub, 1) := by decide +kernel
theorem dX2_takeBack_9 : decode cX2_takeBack 9 = .ok (.bipush 20, 2) := by decide +kernel
theorem dX2_takeBack_11 : decode cX2_takeBack 11 = .ok (.irem, 1) := by decide +kernel
theorem dX2_takeBack_12 : decode cX2_takeBack 12 = .ok (.istore_n 2, 1) := by decide +kernel
theorem dX2_takeBack_13 : decode cX2_takeBack 13 = .ok (.aload_n 0, 1) := by decide +kernel
theorem dX2_takeBack_14 : decode cX2_takeBack 14 = .ok (.getfield 26, 3) := by decide +kernel
theorem dX2_takeBack_17 : decode cX2_takeBack 17 = .ok (.ifCond .eq 13, 3) := by decide +kernel
theorem dX2_takeBack_20 : decode cX2_takeBack 20 = .ok (.iload_n 2, 1) := by decide +kernel
theorem dX2_takeBack_21 : decode cX2_takeBack 21 = .ok (.ifCond .lt 9, 3) := by decide +kernel
theorem dX2_takeBack_24 : decode cX2_takeBack 24 = .ok (.iload_n 2, 1) := by decide +kernel
theorem dX2_takeBack_25 : decode cX2_takeBack 25 = .ok (.bipush 20, 2) := by decide +kernel
theorem dX2_takeBack_27 : decode cX2_takeBack 27 = .ok (.if_icmp .lt 4, 3) := by decide +kernel
theorem dX2_takeBack_30 : decode cX2_takeBack 30 = .ok (.return_, 1) := by decide +kernel
theorem dX2_takeBack_31 : decode cX2_takeBack 31 = .ok (.aload_n 0, 1) := by decide +kernel
theorem dX2_takeBack_32 : decode cX2_takeBack 32 = .ok (.getfield 11, 3) := by decide +kernel
theorem dX2_takeBack_35 : decode cX2_takeBack 35 = .ok (.iload_n 2, 1) := by decide +kernel
theorem dX2_takeBack_36 : decode cX2_takeBack 36 = .ok (.aaload, 1) := by decide +kernel
theorem dX2_takeBack_37 : decode cX2_takeBack 37 = .ok (.astore_n 3, 1) := by decide +kernel
theorem dX2_takeBack_38 : decode cX2_takeBack 38 = .ok (.aload_n 3, 1) := by decide +kernel
theorem dX2_takeBack_39 : decode cX2_takeBack 39 = .ok (.ifnull 8, 3) := by decide +kernel
theorem dX2_takeBack_42 : decode cX2_takeBack 42 = .ok (.aload_n 1, 1) := by decide +kernel
theorem dX2_takeBack_43 : decode cX2_takeBack 43 = .ok (.aload_n 3, 1) := by decide +kernel
theorem dX2_takeBack_44 : decode cX2_takeBack 44 = .ok (.invokevirtual 22, 3) := by decide +kernel
theorem dX2_takeBack_47 : decode cX2_takeBack 47 = .ok (.aload_n 0, 1) := by decide +kernel
theorem dX2_takeBack_48 : decode cX2_takeBack 48 = .ok (.iload_n 2, 1) := by decide +kernel
theorem dX2_takeBack_49 : decode cX2_takeBack 49 = .ok (.putfield 17, 3) := by decide +kernel
theorem dX2_takeBack_52 : decode cX2_takeBack 52 = .ok (.aload_n 0, 1) := by decide +kernel
theorem dX2_takeBack_53 : decode cX2_takeBack 53 = .ok (.dup, 1) := by decide +kernel
theorem dX2_takeBack_54 : decode cX2_takeBack 54 = .ok (.getfield 26, 3) := by decide +kernel
theorem dX2_takeBack_57 : decode cX2_takeBack 57 = .ok (.iconst 1, 1) := by decide +kernel
theorem dX2_takeBack_58 : decode cX2_takeBack 58 = .ok (.isub, 1) := by decide +kernel
theorem dX2_takeBack_59 : decode cX2_takeBack 59 = .ok (.putfield 26, 3) := by decide +kernel
theorem dX2_takeBack_62 : decode cX2_takeBack 62 = .ok (.return_, 1) := by decide +kernel
theorem dX2_forget_0 : decode cX2_forget 0 = .ok (.aload_n 0, 1) := by decide +kernel
theorem dX2_forget_1 : decode cX2_forget 1 = .ok (.iconst 0, 1) := by decide +kernel
theorem dX2_forget_2 : decode cX2_forget 2 = .ok (.putfield 26, 3) := by decide +kernel
theorem dX2_forget_5 : decode cX2_forget 5 = .ok (.aload_n 0, 1) := by decide +kernel
theorem dX2_forget_6 : decode cX2_forget 6 = .ok (.iconst 0, 1) := by decide +kernel
theorem dX2_forget_7 : decode cX2_forget 7 = .ok (.putfield 17, 3) := by decide +kernel
theorem dX2_forget_10 : decode cX2_forget 10 = .ok (.return_, 1) := by decide +kernel
theorem dX3_init_0 : decode cX3_init 0 = .ok (.aload_n 0, 1) := by decide +kernel
theorem dX3_init_1 : decode cX3_init 1 = .ok (.invokespecial 3, 3) := by decide +kernel
theorem dX3_init_4 : decode cX3_init 4 = .ok (.aload_n 0, 1) := by decide +kernel
theorem dX3_init_5 : decode cX3_init 5 = .ok (.lconst 1, 1) := by decide +kernel
theorem dX3_init_6 : decode cX3_init 6 = .ok (.putfield 9, 3) := by decide +kernel
theorem dX3_init_9 : decode cX3_init 9 = .ok (.return_, 1) := by decide +kernel
set_option maxRecDepth 20000 in
theorem ggX3_start_X3_settle : GoodIn wsX3_start wsX3_settle := goodIn_r _ [6, 1, 7, 8, 9, 10, 11, 12, 13, 5, 14, 15, 16, 17] rfl rfl
set_option maxRecDepth 20000 in
theorem gX3_start_X3_settle : GoodIn wsX3_start (wsV RX3 19 RX3 yX3_settle wsX3_settle) := goodIn_app (goodIn_of _ (by decide +kernel)) ggX3_start_X3_settle
theorem dX3_start_0 : decode cX3_start 0 = .ok (.aload_n 0, 1) := by decide +kernel
theorem dX3_start_1 : decode cX3_start 1 = .ok (.iconst 0, 1) := by decide +kernel
theorem dX3_start_2 : decode cX3_start 2 = .ok (.putfield 15, 3) := by decide +kernel
theorem dX3_start_5 : decode cX3_start 5 = .ok (.aload_n 0, 1) := by decide +kernel
theorem dX3_start_6 : decode cX3_start 6 = .ok (.lload_n 1, 1) := by decide +kernel
theorem dX3_start_7 : decode cX3_start 7 = .ok (.lload_n 3, 1) := by decide +kernel
theorem dX3_start_8 : decode cX3_start 8 = .ok (.invokevirtual 19, 3) := by decide +kernel
theorem dX3_start_11 : decode cX3_start 11 = .ok (.return_, 1) := by decide +kernel
set_option maxRecDepth 20000 in
theorem ggX3_load_X1_upperAt : GoodIn wsX3_load wsX1_upperAt := goodIn_r _ [8, 9, 18, 19, 20, 21, 22] rfl rfl
set_option maxRecDepth 20000 in
theorem gX3_load_X1_upperAt : GoodIn wsX3_load (wsV RX3 23 RX1 yX1_upperAt wsX1_upperAt) := goodIn_app (goodIn_of _ (by decide +kernel)) ggX3_load_X1_upperAt
set_option maxRecDepth 20000 in
theorem ggX3_load_X1_lowerAt : GoodIn wsX3_load wsX1_lowerAt := goodIn_r _ [13, 14, 18, 19, 20, 21, 22] rfl rfl
set_option maxRecDepth 20000 in
theorem gX3_load_X1_lowerAt : GoodIn wsX3_load (wsV RX3 32 RX1 yX1_lowerAt wsX1_lowerAt) := goodIn_app (goodIn_of _ (by decide +kernel)) ggX3_load_X1_lowerAt
theorem dX3_load_0 : decode cX3_load 0 = .ok (.aload_n 0, 1) := by decide +kernel
theorem dX3_load_1 : decode cX3_load 1 = .ok (.iconst 0, 1) := by decide +kernel
theorem dX3_load_2 : decode cX3_load 2 = .ok (.putfield 15, 3) := by decide +kernel
theorem dX3_load_5 : decode cX3_load 5 = .ok (.aload_n 0, 1) := by decide +kernel
theorem dX3_load_6 : decode cX3_load 6 = .ok (.aload_n 1, 1) := by decide +kernel
theorem dX3_load_7 : decode cX3_load 7 = .ok (.iload_n 2, 1) := by decide +kernel
theorem dX3_load_8 : decode cX3_load 8 = .ok (.iload_n 3, 1) := by decide +kernel
theorem dX3_load_9 : decode cX3_load 9 = .ok (.invokevirtual 23, 3) := by decide +kernel
theorem dX3_load_12 : decode cX3_load 12 = .ok (.i2l, 1) := by decide +kernel
theorem dX3_load_13 : decode cX3_load 13 = .ok (.putfield 29, 3) := by decide +kernel
theorem dX3_load_16 : decode cX3_load 16 = .ok (.aload_n 0, 1) := by decide +kernel
theorem dX3_load_17 : decode cX3_load 17 = .ok (.aload_n 1, 1) := by decide +kernel
theorem dX3_load_18 : decode cX3_load 18 = .ok (.iload_n 2, 1) := by decide +kernel
theorem dX3_load_19 : decode cX3_load 19 = .ok (.iload_n 3, 1) := by decide +kernel
theorem dX3_load_20 : decode cX3_load 20 = .ok (.invokevirtual 32, 3) := by decide +kernel
theorem dX3_load_23 : decode cX3_load 23 = .ok (.i2l, 1) := by decide +kernel
theorem dX3_load_24 : decode cX3_load 24 = .ok (.putfield 9, 3) := by decide +kernel
theorem dX3_load_27 : decode cX3_load 27 = .ok (.return_, 1) := by decide +kernel
set_option maxRecDepth 20000 in
theorem ggX3_plus_X3_settle : GoodIn wsX3_plus wsX3_settle := goodIn_r _ [7, 8, 1, 2, 9, 10, 11, 12, 13, 6, 14, 15, 16, 17] rfl rfl
set_option maxRecDepth 20000 in
theorem gX3_plus_X3_settle : GoodIn wsX3_plus (wsV RX3 19 RX3 yX3_settle wsX3_settle) := goodIn_app (goodIn_of _ (by decide +kernel)) ggX3_plus_X3_settle
theorem dX3_plus_0 : decode cX3_plus 0 = .ok (.aload_n 0, 1) := by decide +kernel
theorem dX3_plus_1 : decode cX3_plus 1 = .ok (.aload_n 0, 1) := by decide +kernel
theorem dX3_plus_2 : decode cX3_plus 2 = .ok (.getfield 29, 3) := by decide +kernel
theorem dX3_plus_5 : decode cX3_plus 5 = .ok (.lload_n 3, 1) := by decide +kernel
theorem dX3_plus_6 : decode cX3_plus 6 = .ok (.lmul, 1) := by decide +kernel
theorem dX3_plus_7 : decode cX3_plus 7 = .ok (.lload_n 1, 1) := by decide +kernel
theorem dX3_plus_8 : decode cX3_plus 8 = .ok (.aload_n 0, 1) := by decide +kernel
theorem dX3_plus_9 : decode cX3_plus 9 = .ok (.getfield 9, 3) := by decide +kernel
theorem dX3_plus_12 : decode cX3_plus 12 = .ok (.lmul, 1) := by decide +kernel
theorem dX3_plus_13 : decode cX3_plus 13 = .ok (.ladd, 1) := by decide +kernel
theorem dX3_plus_14 : decode cX3_plus 14 = .ok (.aload_n 0, 1) := by decide +kernel
theorem dX3_plus_15 : decode cX3_plus 15 = .ok (.getfield 9, 3) := by decide +kernel
theorem dX3_plus_18 : decode cX3_plus 18 = .ok (.lload_n 3, 1) := by decide +kernel
theorem dX3_plus_19 : decode cX3_plus 19 = .ok (.lmul, 1) := by decide +kernel
theorem dX3_plus_20 : decode cX3_plus 20 = .ok (.invokevirtual 19, 3) := by decide +kernel
theorem dX3_plus_23 : decode cX3_plus 23 = .ok (.return_, 1) := by decide +kernel
set_option maxRecDepth 20000 in
theorem ggX3_minus_X3_settle : GoodIn wsX3_minus wsX3_settle := goodIn_r _ [7, 8, 1, 2, 9, 10, 11, 12, 13, 6, 14, 15, 16, 17] rfl rfl
set_option maxRecDepth 20000 in
theorem gX3_minus_X3_settle : GoodIn wsX3_minus (wsV RX3 19 RX3 yX3_settle wsX3_settle) := goodIn_app (goodIn_of _ (by decide +kernel)) ggX3_minus_X3_settle
theorem dX3_minus_0 : decode cX3_minus 0 = .ok (.aload_n 0, 1) := by decide +kernel
theorem dX3_minus_1 : decode cX3_minus 1 = .ok (.aload_n 0, 1) := by decide +kernel
theorem dX3_minus_2 : decode cX3_minus 2 = .ok (.getfield 29, 3) := by decide +kernel
theorem dX3_minus_5 : decode cX3_minus 5 = .ok (.lload_n 3, 1) := by decide +kernel
theorem dX3_minus_6 : decode cX3_minus 6 = .ok (.lmul, 1) := by decide +kernel
theorem dX3_minus_7 : decode cX3_minus 7 = .ok (.lload_n 1, 1) := by decide +kernel
theorem dX3_minus_8 : decode cX3_minus 8 = .ok (.aload_n 0, 1) := by decide +kernel
theorem dX3_minus_9 : decode cX3_minus 9 = .ok (.getfield 9, 3) := by decide +kernel
theorem dX3_minus_12 : decode cX3_minus 12 = .ok (.lmul, 1) := by decide +kernel
theorem dX3_minus_13 : decode cX3_minus 13 = .ok (.lsub, 1) := by decide +kernel
theorem dX3_minus_14 : decode cX3_minus 14 = .ok (.aload_n 0, 1) := by decide +kernel
theorem dX3_minus_15 : decode cX3_minus 15 = .ok (.getfield 9, 3) := by decide +kernel
theorem dX3_minus_18 : decode cX3_minus 18 = .ok (.lload_n 3, 1) := by decide +kernel
theorem dX3_minus_19 : decode cX3_minus 19 = .ok (.lmul, 1) := by decide +kernel
theorem dX3_minus_20 : decode cX3_minus 20 = .ok (.invokevirtual 19, 3) := by decide +kernel
theorem dX3_minus_23 : decode cX3_minus 23 = .ok (.return_, 1) := by decide +kernel
set_option maxRecDepth 20000 in
theorem ggX3_times_X3_settle : GoodIn wsX3_times wsX3_settle := goodIn_r _ [7, 8, 1, 2, 9, 10, 11, 12, 13, 6, 14, 15, 16, 17] rfl rfl
set_option maxRecDepth 20000 in
theorem gX3_times_X3_settle : GoodIn wsX3_times (wsV RX3 19 RX3 yX3_settle wsX3_settle) := goodIn_app (goodIn_of _ (by decide +kernel)) ggX3_times_X3_settle
theorem dX3_times_0 : decode cX3_times 0 = .ok (.aload_n 0, 1) := by decide +kernel
theorem dX3_times_1 : decode cX3_times 1 = .ok (.aload_n 0, 1) := by decide +kernel
theorem dX3_times_2 : decode cX3_times 2 = .ok (.getfield 29, 3) := by decide +kernel
theorem dX3_times_5 : decode cX3_times 5 = .ok (.lload_n 1, 1) := by decide +kernel
theorem dX3_times_6 : decode cX3_times 6 = .ok (.lmul, 1) := by decide +kernel
theorem dX3_times_7 : decode cX3_times 7 = .ok (.aload_n 0, 1) := by decide +kernel
theorem dX3_times_8 : decode cX3_times 8 = .ok (.getfield 9, 3) := by decide +kernel
theorem dX3_times_11 : decode cX3_times 11 = .ok (.lload_n 3, 1) := by decide +kernel
theorem dX3_times_12 : decode cX3_times 12 = .ok (.lmul, 1) := by decide +kernel
theorem dX3_times_13 : decode cX3_times 13 = .ok (.invokevirtual 19, 3) := by decide +kernel
theorem dX3_times_16 : decode cX3_times 16 = .ok (.return_, 1) := by decide +kernel
set_option maxRecDepth 20000 in
theorem ggX3_over_X3_settle : GoodIn wsX3_over wsX3_settle := goodIn_r _ [7, 8, 1, 2, 9, 10, 11, 12, 13, 6, 14, 15, 16, 17] rfl rfl
set_option maxRecDepth 20000 in
theorem gX3_over_X3_settle : GoodIn wsX3_over (wsV RX3 19 RX3 yX3_settle wsX3_settle) := goodIn_app (goodIn_of _ (by decide +kernel)) ggX3_over_X3_settle
theorem dX3_over_0 : decode cX3_over 0 = .ok (.aload_n 0, 1) := by decide +kernel
theorem dX3_over_1 : decode cX3_over 1 = .ok (.aload_n 0, 1) := by decide +kernel
theorem dX3_over_2 : decode cX3_over 2 = .ok (.getfield 29, 3) := by decide +kernel
theorem dX3_over_5 : decode cX3_over 5 = .ok (.lload_n 3, 1) := by decide +kernel
theorem dX3_over_6 : decode cX3_over 6 = .ok (.lmul, 1) := by decide +kernel
theorem dX3_over_7 : decode cX3_over 7 = .ok (.aload_n 0, 1) := by decide +kernel
theorem dX3_over_8 : decode cX3_over 8 = .ok (.getfield 9, 3) := by decide +kernel
theorem dX3_over_11 : decode cX3_over 11 = .ok (.lload_n 1, 1) := by decide +kernel
theorem dX3_over_12 : decode cX3_over 12 = .ok (.lmul, 1) := by decide +kernel
theorem dX3_over_13 : decode cX3_over 13 = .ok (.invokevirtual 19, 3) := by decide +kernel
theorem dX3_over_16 : decode cX3_over 16 = .ok (.return_, 1) := by decide +kernel
theorem dX3_negate_0 : decode cX3_negate 0 = .ok (.aload_n 0, 1) := by decide +kernel
theorem dX3_negate_1 : decode cX3_negate 1 = .ok (.aload_n 0, 1) := by decide +kernel
theorem dX3_negate_2 : decode cX3_negate 2 = .ok (.getfield 29, 3) := by decide +kernel
theorem dX3_negate_5 : decode cX3_negate 5 = .ok (.lneg, 1) := by decide +kernel
theorem dX3_negate_6 : decode cX3_negate 6 = .ok (.putfield 29, 3) := by decide +kernel
theorem dX3_negate_9 : decode cX3_negate 9 = .ok (.return_, 1) := by decide +kernel
theorem dX3_spoil_0 : decode cX3_spoil 0 = .ok (.aload_n 0, 1) := by decide +kernel
theorem dX3_spoil_1 : decode cX3_spoil 1 = .ok (.iconst 1, 1) := by decide +kernel
theorem dX3_spoil_2 : decode cX3_spoil 2 = .ok (.putfield 15, 3) := by decide +kernel
theorem dX3_spoil_5 : decode cX3_spoil 5 = .ok (.aload_n 0, 1) := by decide +kernel
theorem dX3_spoil_6 : decode cX3_spoil 6 = .ok (.lconst 0, 1) := by decide +kernel
theorem dX3_spoil_7 : decode cX3_spoil 7 = .ok (.putfield 29, 3) := by decide +kernel
theorem dX3_spoil_10 : decode cX3_spoil 10 = .ok (.aload_n 0, 1) := by decide +kernel
theorem dX3_spoil_11 : decode cX3_spoil 11 = .ok (.lconst 1, 1) := by decide +kernel
theorem dX3_spoil_12 : decode cX3_spoil 12 = .ok (.putfield 9, 3) := by decide +kernel
theorem dX3_spoil_15 : decode cX3_spoil 15 = .ok (.return_, 1) := by decide +kernel
theorem dX3_answer_0 : decode cX3_answer 0 = .ok (.aload_n 0, 1) := by decide +kernel
theorem dX3_answer_1 : decode cX3_answer 1 = .ok (.getfield 15, 3) := by decide +kernel
theorem dX3_answer_4 : decode cX3_answer 4 = .ok (.ifCond .eq 6, 3) := by decide +kernel
theorem dX3_answer_7 : decode cX3_answer 7 = .ok (.ldc 35, 2) := by decide +kernel
theorem dX3_answer_9 : decode cX3_answer 9 = .ok (.ireturn, 1) := by decide +kernel
theorem dX3_answer_10 : decode cX3_answer 10 = .ok (.iload_n 1, 1) := by decide +kernel
theorem dX3_answer_11 : decode cX3_answer 11 = .ok (.ifCond .eq 10, 3) := by decide +kernel
theorem dX3_answer_14 : decode cX3_answer 14 = .ok (.aload_n 0, 1) := by decide +kernel
theorem dX3_answer_15 : decode cX3_answer 15 = .ok (.getfield 9, 3) := by decide +kernel
theorem dX3_answer_18 : decode cX3_answer 18 = .ok (.goto 7, 3) := by decide +kernel
theorem dX3_answer_21 : decode cX3_answer 21 = .ok (.aload_n 0, 1) := by decide +kernel
theorem dX3_answer_22 : decode cX3_answer 22 = .ok (.getfield 29, 3) := by decide +kernel
theorem dX3_answer_25 : decode cX3_answer 25 = .ok (.l2i, 1) := by decide +kernel
theorem dX3_answer_26 : decode cX3_answer 26 = .ok (.ireturn, 1) := by decide +kernel
set_option maxRecDepth 20000 in
theorem ggX3_settle_X3_spoil : GoodIn wsX3_settle wsX3_spoil := goodIn_r _ [10, 1, 2, 3, 11, 12, 13] rfl rfl
set_option maxRecDepth 20000 in
theorem gX3_settle_X3_spoil : GoodIn wsX3_settle (wsV RX3 36 RX3 yX3_spoil wsX3_spoil) := goodIn_app (goodIn_of _ (by decide +kernel)) ggX3_settle_X3_spoil
theorem dX3_settle_0 : decode cX3_settle 0 = .ok (.aload_n 0, 1) := by decide +kernel
theorem dX3_settle_1 : decode cX3_settle 1 = .ok (.getfield 15, 3) := by decide +kernel
theorem dX3_settle_4 : decode cX3_settle 4 = .ok (.ifCond .ne 9, 3) := by decide +kernel
theorem dX3_settle_7 : decode cX3_settle 7 = .ok (.lload_n 3, 1) := by decide +kernel
theorem dX3_settle_8 : decode cX3_settle 8 = .ok (.lconst 0, 1) := by decide +kernel
theorem dX3_settle_9 : decode cX3_settle 9 = .ok (.lcmp, 1) := by decide +kernel
theorem dX3_settle_10 : decode cX3_settle 10 = .ok (.ifCond .ne 8, 3) := by decide +kernel
theorem dX3_settle_13 : decode cX3_settle 13 = .ok (.aload_n 0, 1) := by decide +kernel
theorem dX3_settle_14 : decode cX3_settle 14 = .ok (.invokevirtual 36, 3) := by decide +kernel
theorem dX3_settle_17 : decode cX3_settle 17 = .ok (.return_, 1) := by decide +kernel
theorem dX3_settle_18 : decode cX3_settle 18 = .ok (.lload_n 1, 1) := by decide +kernel
theorem dX3_settle_19 : decode cX3_settle 19 = .ok (.lconst 0, 1) := by decide +kernel
theorem dX3_settle_20 : decode cX3_settle 20 = .ok (.lcmp, 1) := by decide +kernel
theorem dX3_settle_21 : decode cX3_settle 21 = .ok (.ifCond .ge 8, 3) := by decide +kernel
theorem dX3_settle_24 : decode cX3_settle 24 = .ok (.lload_n 1, 1) := by decide +kernel
theorem dX3_settle_25 : decode cX3_settle 25 = .ok (.lneg, 1) := by decide +kernel
theorem dX3_settle_26 : decode cX3_settle 26 = .ok (.goto 4, 3) := by decide +kernel
theorem dX3_settle_29 : decode cX3_settle 29 = .ok (.lload_n 1, 1) := by decide +kernel
theorem dX3_settle_30 : decode cX3_settle 30 = .ok (.lstore 5, 2) := by decide +kernel
theorem dX3_settle_32 : decode cX3_settle 32 = .ok (.lload_n 3, 1) := by decide +kernel
theorem dX3_settle_33 : decode cX3_settle 33 = .ok (.lconst 0, 1) := by decide +kernel
theorem dX3_settle_34 : decode cX3_settle 34 = .ok (.lcmp, 1) := by decide +kernel
theorem dX3_settle_35 : decode cX3_settle 35 = .ok (.ifCond .ge 8, 3) := by decide +kernel
theorem dX3_settle_38 : decode cX3_settle 38 = .ok (.lload_n 3, 1) := by decide +kernel
theorem dX3_settle_39 : decode cX3_settle 39 = .ok (.lneg, 1) := by decide +kernel
theorem dX3_settle_40 : decode cX3_settle 40 = .ok (.goto 4, 3) := by decide +kernel
theorem dX3_settle_43 : decode cX3_settle 43 = .ok (.lload_n 3, 1) := by decide +kernel
theorem dX3_settle_44 : decode cX3_settle 44 = .ok (.lstore 7, 2) := by decide +kernel
theorem dX3_settle_46 : decode cX3_settle 46 = .ok (.iconst 0, 1) := by decide +kernel
theorem dX3_settle_47 : decode cX3_settle 47 = .ok (.istore 9, 2) := by decide +kernel
theorem dX3_settle_49 : decode cX3_settle 49 = .ok (.iload 9, 2) := by decide +kernel
theorem dX3_settle_51 : decode cX3_settle 51 = .ok (.sipush 200, 3) := by decide +kernel
theorem dX3_settle_54 : decode cX3_settle 54 = .ok (.if_icmp .ge 31, 3) := by decide +kernel
theorem dX3_settle_57 : decode cX3_settle 57 = .ok (.lload 7, 2) := by decide +kernel
theorem dX3_settle_59 : decode cX3_settle 59 = .ok (.lconst 0, 1) := by decide +kernel
theorem dX3_settle_60 : decode cX3_settle 60 = .ok (.lcmp, 1) := by decide +kernel
theorem dX3_settle_61 : decode cX3_settle 61 = .ok (.ifCond .eq 24, 3) := by decide +kernel
theorem dX3_settle_64 : decode cX3_settle 64 = .ok (.lload 5, 2) := by decide +kernel
theorem dX3_settle_66 : decode cX3_settle 66 = .ok (.lload 7, 2) := by decide +kernel
theorem dX3_settle_68 : decode cX3_settle 68 = .ok (.lrem, 1) := by decide +kernel
theorem dX3_settle_69 : decode cX3_settle 69 = .ok (.lstore 10, 2) := by decide +kernel
theorem dX3_settle_71 : decode cX3_settle 71 = .ok (.lload 7, 2) := by decide +kernel
theorem dX3_settle_73 : decode cX3_settle 73 = .ok (.lstore 5, 2) := by decide +kernel
theorem dX3_settle_75 : decode cX3_settle 75 = .ok (.lload 10, 2) := by decide +kernel
theorem dX3_settle_77 : decode cX3_settle 77 = .ok (.lstore 7, 2) := by decide +kernel
theorem dX3_settle_79 : decode cX3_settle 79 = .ok (.iinc 9 1, 3) := by decide +kernel
theorem dX3_settle_82 : decode cX3_settle 82 = .ok (.goto (-33), 3) := by decide +kernel
theorem dX3_settle_85 : decode cX3_settle 85 = .ok (.lload_n 3, 1) := by decide +kernel
theorem dX3_settle_86 : decode cX3_settle 86 = .ok (.lconst 0, 1) := by decide +kernel
theorem dX3_settle_87 : decode cX3_settle 87 = .ok (.lcmp, 1) := by decide +kernel
theorem dX3_settle_88 : decode cX3_settle 88 = .ok (.ifCond .ge 8, 3) := by decide +kernel
theorem dX3_settle_91 : decode cX3_settle 91 = .ok (.lload 5, 2) := by decide +kernel
theorem dX3_settle_93 : decode cX3_settle 93 = .ok (.lneg, 1) := by decide +kernel
theorem dX3_settle_94 : decode cX3_settle 94 = .ok (.lstore 5, 2) := by decide +kernel
theorem dX3_settle_96 : decode cX3_settle 96 = .ok (.lload 5, 2) := by decide +kernel
theorem dX3_settle_98 : decode cX3_settle 98 = .ok (.lconst 0, 1) := by decide +kernel
theorem dX3_settle_99 : decode cX3_settle 99 = .ok (.lcmp, 1) := by decide +kernel
theorem dX3_settle_100 : decode cX3_settle 100 = .ok (.ifCond .ne 8, 3) := by decide +kernel
theorem dX3_settle_103 : decode cX3_settle 103 = .ok (.aload_n 0, 1) := by decide +kernel
theorem dX3_settle_104 : decode cX3_settle 104 = .ok (.invokevirtual 36, 3) := by decide +kernel
theorem dX3_settle_107 : decode cX3_settle 107 = .ok (.return_, 1) := by decide +kernel
theorem dX3_settle_108 : decode cX3_settle 108 = .ok (.aload_n 0, 1) := by decide +kernel
theorem dX3_settle_109 : decode cX3_settle 109 = .ok (.lload_n 1, 1) := by decide +kernel
theorem dX3_settle_110 : decode cX3_settle 110 = .ok (.lload 5, 2) := by decide +kernel
theorem dX3_settle_112 : decode cX3_settle 112 = .ok (.ldiv, 1) := by decide +kernel
theorem dX3_settle_113 : decode cX3_settle 113 = .ok (.putfield 29, 3) := by decide +kernel
theorem dX3_settle_116 : decode cX3_settle 116 = .ok (.aload_n 0, 1) := by decide +kernel
theorem dX3_settle_117 : decode cX3_settle 117 = .ok (.lload_n 3, 1) := by decide +kernel
theorem dX3_settle_118 : decode cX3_settle 118 = .ok (.lload 5, 2) := by decide +kernel
theorem dX3_settle_120 : decode cX3_settle 120 = .ok (.ldiv, 1) := by decide +kernel
theorem dX3_settle_121 : decode cX3_settle 121 = .ok (.putfield 9, 3) := by decide +kernel
theorem dX3_settle_124 : decode cX3_settle 124 = .ok (.aload_n 0, 1) := by decide +kernel
theorem dX3_settle_125 : decode cX3_settle 125 = .ok (.getfield 29, 3) := by decide +kernel
theorem dX3_settle_128 : decode cX3_settle 128 = .ok (.ldc2_w 39, 3) := by decide +kernel
theorem dX3_settle_131 : decode cX3_settle 131 = .ok (.lcmp, 1) := by decide +kernel
theorem dX3_settle_132 : decode cX3_settle 132 = .ok (.ifCond .gt 25, 3) := by decide +kernel
theorem dX3_settle_135 : decode cX3_settle 135 = .ok (.aload_n 0, 1) := by decide +kernel
theorem dX3_settle_136 : decode cX3_settle 136 = .ok (.getfield 29, 3) := by decide +kernel
theorem dX3_settle_139 : decode cX3_settle 139 = .ok (.ldc2_w 41, 3) := by decide +kernel
theorem dX3_settle_142 : decode cX3_settle 142 = .ok (.lcmp, 1) := by decide +kernel
theorem dX3_settle_143 : decode cX3_settle 143 = .ok (.ifCond .lt 14, 3) := by decide +kernel
theorem dX3_settle_146 : decode cX3_settle 146 = .ok (.aload_n 0, 1) := by decide +kernel
theorem dX3_settle_147 : decode cX3_settle 147 = .ok (.getfield 9, 3) := by decide +kernel
theorem dX3_settle_150 : decode cX3_settle 150 = .ok (.ldc2_w 39, 3) := by decide +kernel
theorem dX3_settle_153 : decode cX3_settle 153 = .ok (.lcmp, 1) := by decide +kernel
theorem dX3_settle_154 : decode cX3_settle 154 = .ok (.ifCond .le 7, 3) := by decide +kernel
theorem dX3_settle_157 : decode cX3_settle 157 = .ok (.aload_n 0, 1) := by decide +kernel
theorem dX3_settle_158 : decode cX3_settle 158 = .ok (.invokevirtual 36, 3) := by decide +kernel
theorem dX3_settle_161 : decode cX3_settle 161 = .ok (.return_, 1) := by decide +kernel
set_option maxRecDepth 20000 in
theorem ggX4_init_X5_init : GoodIn wsX4_init wsX5_init := goodIn_r _ [12, 13, 2, 3, 14, 15, 16, 17, 18, 19, 20, 21, 22, 38, 39, 23, 24, 25, 26, 27] rfl rfl
set_option maxRecDepth 20000 in
theorem gX4_init_X5_init_n11 : GoodIn wsX4_init (wsX5_init) := ggX4_init_X5_init
theorem dX4_init_0 : decode cX4_init 0 = .ok (.aload_n 0, 1) := by decide +kernel
theorem dX4_init_1 : decode cX4_init 1 = .ok (.invokespecial 3, 3) := by decide +kernel
theorem dX4_init_4 : decode cX4_init 4 = .ok (.aload_n 0, 1) := by decide +kernel
theorem dX4_init_5 : decode cX4_init 5 = .ok (.new 9, 3) := by decide +kernel
theorem dX4_init_8 : decode cX4_init 8 = .ok (.dup, 1) := by decide +kernel
theorem dX4_init_9 : decode cX4_init 9 = .ok (.invokespecial 11, 3) := by decide +kernel
theorem dX4_init_12 : decode cX4_init 12 = .ok (.putfield 12, 3) := by decide +kernel
theorem dX4_init_15 : decode cX4_init 15 = .ok (.aload_n 0, 1) := by decide +kernel
theorem dX4_init_16 : decode cX4_init 16 = .ok (.bipush 7, 2) := by decide +kernel
theorem dX4_init_18 : decode cX4_init 18 = .ok (.newarray .int, 2) := by decide +kernel
theorem dX4_init_20 : decode cX4_init 20 = .ok (.putfield 18, 3) := by decide +kernel
theorem dX4_init_23 : decode cX4_init 23 = .ok (.aload_n 0, 1) := by decide +kernel
theorem dX4_init_24 : decode cX4_init 24 = .ok (.bipush 7, 2) := by decide +kernel
theorem dX4_init_26 : decode cX4_init 26 = .ok (.newarray .int, 2) := by decide +kernel
theorem dX4_init_28 : decode cX4_init 28 = .ok (.putfield 22, 3) := by decide +kernel
theorem dX4_init_31 : decode cX4_init 31 = .ok (.return_, 1) := by decide +kernel
set_option maxRecDepth 20000 in
theorem ggX4_open_X5_open : GoodIn wsX4_open wsX5_open := goodIn_r _ [8, 9, 10, 11, 12, 13, 14, 15, 16, 17, 18, 19, 20, 21, 22, 23, 24, 7, 25, 26, 27, 28, 29, 30, 31, 32, 33, 34, 35, 36, 37, 38, 39, 40, 41, 42, 43, 44, 45, 46, 47, 48, 49, 50, 61, 62, 63, 64, 65, 66, 67] rfl rfl
set_option maxRecDepth 20000 in
theorem gX4_open_X5_open : GoodIn wsX4_open (wsV RX4 32 RX5 yX5_open wsX5_open) := goodIn_app (goodIn_of _ (by decide +kernel)) ggX4_open_X5_open
theorem dX4_open_0 : decode cX4_open 0 = .ok (.aload_n 0, 1) := by decide +kernel
theorem dX4_open_1 : decode cX4_open 1 = .ok (.iconst 0, 1) := by decide +kernel
theorem dX4_open_2 : decode cX4_open 2 = .ok (.putfield 25, 3) := by decide +kernel
theorem dX4_open_5 : decode cX4_open 5 = .ok (.aload_n 0, 1) := by decide +kernel
theorem dX4_open_6 : decode cX4_open 6 = .ok (.iconst (-1), 1) := by decide +kernel
theorem dX4_open_7 : decode cX4_open 7 = .ok (.putfield 29, 3) := by decide +kernel
theorem dX4_open_10 : decode cX4_open 10 = .ok (.aload_n 0, 1) := by decide +kernel
theorem dX4_open_11 : decode cX4_open 11 = .ok (.getfield 12, 3) := by decide +kernel
theorem dX4_open_14 : decode cX4_open 14 = .ok (.aload_n 1, 1) := by decide +kernel
theorem dX4_open_15 : decode cX4_open 15 = .ok (.invokevirtual 32, 3) := by decide +kernel
theorem dX4_open_18 : decode cX4_open 18 = .ok (.return_, 1) := by decide +kernel
theorem dX4_isAtEnd_0 : decode cX4_isAtEnd 0 = .ok (.aload_n 0, 1) := by decide +kernel
theorem dX4_isAtEnd_1 : decode cX4_isAtEnd 1 = .ok (.getfield 12, 3) := by decide +kernel
theorem dX4_isAtEnd_4 : decode cX4_isAtEnd 4 = .ok (.getfield 36, 3) := by decide +kernel
theorem dX4_isAtEnd_7 : decode cX4_isAtEnd 7 = .ok (.ifCond .ne 7, 3) := by decide +kernel
theorem dX4_isAtEnd_10 : decode cX4_isAtEnd 10 = .ok (.iconst 1, 1) := by decide +kernel
theorem dX4_isAtEnd_11 : decode cX4_isAtEnd 11 = .ok (.goto 4, 3) := by decide +kernel
theorem dX4_isAtEnd_14 : decode cX4_isAtEnd 14 = .ok (.iconst 0, 1) := by decide +kernel
theorem dX4_isAtEnd_15 : decode cX4_isAtEnd 15 = .ok (.ireturn, 1) := by decide +kernel
set_option maxRecDepth 20000 in
theorem ggX4_readSize_X4_takeWord : GoodIn wsX4_readSize wsX4_takeWord := goodIn_r _ [7, 8, 9, 2, 10, 1, 11, 12, 13, 6, 14, 15, 16, 17, 18, 19, 20, 21, 22, 23, 24, 25, 26, 27, 28, 29, 30, 31, 32, 33, 34, 35, 36, 37, 38, 39, 40, 41, 42, 43, 44, 45, 46, 47, 48, 49, 50, 51, 52, 53, 54, 55, 56, 57, 58, 59, 60, 61, 62, 63, 64, 65, 66, 67, 68, 69, 70, 71, 72, 73, 74, 75, 76, 77, 78, 79, 80, 81, 82, 83, 84, 85, 86, 87, 88, 89, 90, 91, 92, 93, 94, 95, 96, 97, 98, 99, 100, 101, 102, 103, 104, 105, 106, 107, 108, 133, 134, 135, 136, 137, 138, 139, 140, 141, 142, 143, 144, 145, 146, 147, 148, 149] rfl rfl
set_option maxRecDepth 20000 in
theorem gX4_readSize_X4_takeWord : GoodIn wsX4_readSize (wsV RX4 39 RX4 yX4_takeWord wsX4_takeWord) := goodIn_app (goodIn_of _ (by decide +kernel)) ggX4_readSize_X4_takeWord
set_option maxRecDepth 20000 in
theorem ggX4_readSize_X4_fail : GoodIn wsX4_readSize wsX4_fail := goodIn_r _ [14, 15, 16, 133, 134, 135, 136, 137, 138, 139, 140, 141, 142] rfl rfl
set_option maxRecDepth 20000 in
theorem gX4_readSize_X4_fail : GoodIn wsX4_readSize (wsV RX4 49 RX4 yX4_fail wsX4_fail) := goodIn_app (goodIn_of _ (by decide +kernel)) ggX4_readSize_X4_fail
set_option maxRecDepth 20000 in
theorem ggX4_readSize_X4_takeFirst : GoodIn wsX4_readSize wsX4_takeFirst := goodIn_r _ [112, 113, 114, 115, 116, 117, 6, 118, 8, 10, 9, 119, 11, 12, 13, 14, 15, 16, 85, 86, 87, 20, 88, 26, 28, 89, 27, 90, 91, 41, 42, 43, 44, 45, 46, 47, 92, 93, 94, 95, 96, 97, 98, 99, 100, 101, 102, 103, 104, 105, 106, 107, 108, 133, 134, 135, 136, 137, 138, 139, 140, 141, 142, 143, 144, 145, 146, 147, 148, 149] rfl rfl
set_option maxRecDepth 20000 in
theorem gX4_readSize_X4_takeFirst : GoodIn wsX4_readSize (wsV RX4 53 RX4 yX4_takeFirst wsX4_takeFirst) := goodIn_app (goodIn_of _ (by decide +kernel)) ggX4_readSize_X4_takeFirst
set_option maxRecDepth 20000 in
theorem ggX4_readSize_X4_takeSecond : GoodIn wsX4_readSize wsX4_takeSecond := goodIn_r _ [123, 113, 124, 115, 116, 117, 6, 118, 8, 10, 9, 119, 11, 12, 13, 14, 15, 16, 85, 86, 87, 20, 88, 26, 28, 89, 27, 90, 91, 41, 42, 43, 44, 45, 46, 47, 92, 93, 94, 95, 96, 97, 98, 99, 100, 101, 102, 103, 104, 105, 106, 107, 108, 133, 134, 135, 136, 137, 138, 139, 140, 141, 142, 143, 144, 145, 146, 147, 148, 149] rfl rfl
set_option maxRecDepth 20000 in
theorem gX4_readSize_X4_takeSecond : GoodIn wsX4_readSize (wsV RX4 56 RX4 yX4_takeSecond wsX4_takeSecond) := goodIn_app (goodIn_of _ (by decide +kernel)) ggX4_readSize_X4_takeSecond
set_option maxRecDepth 20000 in
theorem ggX4_readSize_X4_readStop : GoodIn wsX4_readSize wsX4_readStop := goodIn_r _ [128, 8, 9, 129, 130, 131, 20, 132, 91, 90, 11, 12, 13, 6, 14, 15, 16, 85, 86, 87, 88, 26, 28, 89, 27, 41, 42, 43, 44, 45, 46, 47, 92, 93, 94, 95, 96, 97, 98, 99, 100, 101, 102, 103, 104, 105, 106, 107, 108, 133, 134, 135, 136, 137, 138, 139, 140, 141, 142, 143, 144, 145, 146, 147, 148, 149] rfl rfl
set_option maxRecDepth 20000 in
theorem gX4_readSize_X4_readStop : GoodIn wsX4_readSize (wsV RX4 59 RX4 yX4_readStop wsX4_readStop) := goodIn_app (goodIn_of _ (by decide +kernel)) ggX4_readSize_X4_readStop
theorem dX4_readSize_0 : decode cX4_readSize 0 = .ok (.aload_n 0, 1) := by decide +kernel
theorem dX4_readSize_1 : decode cX4_readSize 1 = .ok (.invokevirtual 39, 3) := by decide +kernel
theorem dX4_readSize_4 : decode cX4_readSize 4 = .ok (.ifCond .eq 54, 3) := by decide +kernel
theorem dX4_readSize_7 : decode cX4_readSize 7 = .ok (.aload_n 0, 1) := by decide +kernel
theorem dX4_readSize_8 : decode cX4_readSize 8 = .ok (.getfield 43, 3) := by decide +kernel
theorem dX4_readSize_11 : decode cX4_readSize 11 = .ok (.iconst 1, 1) := by decide +kernel
theorem dX4_readSize_12 : decode cX4_readSize 12 = .ok (.if_icmp .eq 15, 3) := by decide +kernel
theorem dX4_readSize_15 : decode cX4_readSize 15 = .ok (.aload_n 0, 1) := by decide +kernel
theorem dX4_readSize_16 : decode cX4_readSize 16 = .ok (.iconst 1, 1) := by decide +kernel
theorem dX4_readSize_17 : decode cX4_readSize 17 = .ok (.aload_n 0, 1) := by decide +kernel
theorem dX4_readSize_18 : decode cX4_readSize 18 = .ok (.getfield 46, 3) := by decide +kernel
theorem dX4_readSize_21 : decode cX4_readSize 21 = .ok (.invokevirtual 49, 3) := by decide +kernel
theorem dX4_readSize_24 : decode cX4_readSize 24 = .ok (.ifCond .eq 34, 3) := by decide +kernel
theorem dX4_readSize_27 : decode cX4_readSize 27 = .ok (.aload_n 0, 1) := by decide +kernel
theorem dX4_readSize_28 : decode cX4_readSize 28 = .ok (.iconst 1, 1) := by decide +kernel
theorem dX4_readSize_29 : decode cX4_readSize 29 = .ok (.bipush 6, 2) := by decide +kernel
theorem dX4_readSize_31 : decode cX4_readSize 31 = .ok (.invokevirtual 53, 3) := by decide +kernel
theorem dX4_readSize_34 : decode cX4_readSize 34 = .ok (.ifCond .eq 24, 3) := by decide +kernel
theorem dX4_readSize_37 : decode cX4_readSize 37 = .ok (.aload_n 0, 1) := by decide +kernel
theorem dX4_readSize_38 : decode cX4_readSize 38 = .ok (.iconst 1, 1) := by decide +kernel
theorem dX4_readSize_39 : decode cX4_readSize 39 = .ok (.bipush 6, 2) := by decide +kernel
theorem dX4_readSize_41 : decode cX4_readSize 41 = .ok (.invokevirtual 56, 3) := by decide +kernel
theorem dX4_readSize_44 : decode cX4_readSize 44 = .ok (.ifCond .eq 14, 3) := by decide +kernel
theorem dX4_readSize_47 : decode cX4_readSize 47 = .ok (.aload_n 0, 1) := by decide +kernel
theorem dX4_readSize_48 : decode cX4_readSize 48 = .ok (.invokevirtual 59, 3) := by decide +kernel
theorem dX4_readSize_51 : decode cX4_readSize 51 = .ok (.ifCond .eq 7, 3) := by decide +kernel
theorem dX4_readSize_54 : decode cX4_readSize 54 = .ok (.iconst 1, 1) := by decide +kernel
theorem dX4_readSize_55 : decode cX4_readSize 55 = .ok (.goto 4, 3) := by decide +kernel
theorem dX4_readSize_58 : decode cX4_readSize 58 = .ok (.iconst 0, 1) := by decide +kernel
theorem dX4_readSize_59 : decode cX4_readSize 59 = .ok (.ireturn, 1) := by decide +kernel
set_option maxRecDepth 20000 in
theorem ggX4_readLine_X4_takeWord : GoodIn wsX4_readLine wsX4_takeWord := goodIn_r _ [7, 8, 9, 2, 10, 1, 11, 12, 13, 6, 14, 15, 16, 17, 18, 19, 20, 21, 22, 23, 24, 25, 26, 27, 28, 29, 30, 31, 32, 33, 34, 35, 36, 37, 38, 39, 40, 41, 42, 43, 44, 45, 46, 47, 48, 49, 50, 51, 52, 53, 54, 55, 56, 57, 58, 59, 60, 61, 62, 63, 64, 65, 66, 67, 68, 69, 70, 71, 72, 73, 74, 75, 76, 77, 78, 79, 80, 81, 82, 83, 84, 85, 86, 87, 88, 89, 90, 91, 92, 93, 94, 95, 96, 97, 98, 99, 100, 101, 102, 103, 104, 105, 106, 107, 108, 139, 140, 141, 142, 143, 144, 145, 146, 147, 148, 149, 150, 151, 152, 153, 154, 155] rfl rfl
set_option maxRecDepth 20000 in
theorem gX4_readLine_X4_takeWord : GoodIn wsX4_readLine (wsV RX4 39 RX4 yX4_takeWord wsX4_takeWord) := goodIn_app (goodIn_of _ (by decide +kernel)) ggX4_readLine_X4_takeWord
set_option maxRecDepth 20000 in
theorem ggX4_readLine_X4_takeFirst : GoodIn wsX4_readLine wsX4_takeFirst := goodIn_r _ [112, 113, 114, 115, 116, 117, 6, 118, 8, 10, 9, 119, 11, 12, 13, 14, 15, 16, 85, 86, 87, 20, 88, 26, 28, 89, 27, 90, 91, 41, 42, 43, 44, 45, 46, 47, 92, 93, 94, 95, 96, 97, 98, 99, 100, 101, 102, 103, 104, 105, 106, 107, 108, 139, 140, 141, 142, 143, 144, 145, 146, 147, 148, 149, 150, 151, 152, 153, 154, 155] rfl rfl
set_option maxRecDepth 20000 in
theorem gX4_readLine_X4_takeFirst : GoodIn wsX4_readLine (wsV RX4 53 RX4 yX4_takeFirst wsX4_takeFirst) := goodIn_app (goodIn_of _ (by decide +kernel)) ggX4_readLine_X4_takeFirst
set_option maxRecDepth 20000 in
theorem ggX4_readLine_X4_takeFractions : GoodIn wsX4_readLine wsX4_takeFractions := goodIn_r _ [123, 124, 125, 126, 6, 127, 8, 128, 113, 129, 130, 131, 132, 20, 133, 91, 90, 85, 86, 87, 88, 26, 28, 89, 27, 41, 42, 43, 44, 45, 46, 47, 92, 93, 94, 95, 96, 97, 98, 99, 100, 101, 102, 103, 104, 105, 106, 107, 108, 115, 116, 117, 118, 10, 9, 119, 11, 12, 13, 14, 15, 16, 139, 140, 141, 142, 143, 144, 145, 146, 147, 148, 149, 150, 151, 152, 153, 154, 155] rfl rfl
set_option maxRecDepth 20000 in
theorem gX4_readLine_X4_takeFractions : GoodIn wsX4_readLine (wsV RX4 62 RX4 yX4_takeFractions wsX4_takeFractions) := goodIn_app (goodIn_of _ (by decide +kernel)) ggX4_readLine_X4_takeFractions
set_option maxRecDepth 20000 in
theorem ggX4_readLine_X4_takeSecond : GoodIn wsX4_readLine wsX4_takeSecond := goodIn_r _ [137, 113, 138, 115, 116, 117, 6, 118, 8, 10, 9, 119, 11, 12, 13, 14, 15, 16, 85, 86, 87, 20, 88, 26, 28, 89, 27, 90, 91, 41, 42, 43, 44, 45, 46, 47, 92, 93, 94, 95, 96, 97, 98, 99, 100, 101, 102, 103, 104, 105, 106, 107, 108, 139, 140, 141, 142, 143, 144, 145, 146, 147, 148, 149, 150, 151, 152, 153, 154, 155] rfl rfl
set_option maxRecDepth 20000 in
theorem gX4_readLine_X4_takeSecond : GoodIn wsX4_readLine (wsV RX4 56 RX4 yX4_takeSecond wsX4_takeSecond) := goodIn_app (goodIn_of _ (by decide +kernel)) ggX4_readLine_X4_takeSecond
set_option maxRecDepth 20000 in
theorem ggX4_readLine_X4_fail : GoodIn wsX4_readLine wsX4_fail := goodIn_r _ [14, 15, 16, 139, 140, 141, 142, 143, 144, 145, 146, 147, 148] rfl rfl
set_option maxRecDepth 20000 in
theorem gX4_readLine_X4_fail : GoodIn wsX4_readLine (wsV RX4 49 RX4 yX4_fail wsX4_fail) := goodIn_app (goodIn_of _ (by decide +kernel)) ggX4_readLine_X4_fail
theorem dX4_readLine_0 : decode cX4_readLine 0 = .ok (.aload_n 0, 1) := by decide +kernel
theorem dX4_readLine_1 : decode cX4_readLine 1 = .ok (.invokevirtual 39, 3) := by decide +kernel
theorem dX4_readLine_4 : decode cX4_readLine 4 = .ok (.ifCond .ne 5, 3) := by decide +kernel
theorem dX4_readLine_7 : decode cX4_readLine 7 = .ok (.iconst 0, 1) := by decide +kernel
theorem dX4_readLine_8 : decode cX4_readLine 8 = .ok (.ireturn, 1) := by decide +kernel
theorem dX4_readLine_9 : decode cX4_readLine 9 = .ok (.aload_n 0, 1) := by decide +kernel
theorem dX4_readLine_10 : decode cX4_readLine 10 = .ok (.getfield 43, 3) := by decide +kernel
theorem dX4_readLine_13 : decode cX4_readLine 13 = .ok (.tableswitch 196 2 7 #[39, 66, 100, 128, 153, 189], 39) := by decide +kernel
theorem dX4_readLine_52 : decode cX4_readLine 52 = .ok (.aload_n 0, 1) := by decide +kernel
theorem dX4_readLine_53 : decode cX4_readLine 53 = .ok (.iconst 0, 1) := by decide +kernel
theorem dX4_readLine_54 : decode cX4_readLine 54 = .ok (.iload_n 1, 1) := by decide +kernel
theorem dX4_readLine_55 : decode cX4_readLine 55 = .ok (.iconst 1, 1) := by decide +kernel
theorem dX4_readLine_56 : decode cX4_readLine 56 = .ok (.isub, 1) := by decide +kernel
theorem dX4_readLine_57 : decode cX4_readLine 57 = .ok (.invokevirtual 53, 3) := by decide +kernel
theorem dX4_readLine_60 : decode cX4_readLine 60 = .ok (.ifCond .eq 17, 3) := by decide +kernel
theorem dX4_readLine_63 : decode cX4_readLine 63 = .ok (.aload_n 0, 1) := by decide +kernel
theorem dX4_readLine_64 : decode cX4_readLine 64 = .ok (.iload_n 2, 1) := by decide +kernel
theorem dX4_readLine_65 : decode cX4_readLine 65 = .ok (.iconst 1, 1) := by decide +kernel
theorem dX4_readLine_66 : decode cX4_readLine 66 = .ok (.iadd, 1) := by decide +kernel
theorem dX4_readLine_67 : decode cX4_readLine 67 = .ok (.invokevirtual 62, 3) := by decide +kernel
theorem dX4_readLine_70 : decode cX4_readLine 70 = .ok (.ifCond .eq 7, 3) := by decide +kernel
theorem dX4_readLine_73 : decode cX4_readLine 73 = .ok (.iconst 1, 1) := by decide +kernel
theorem dX4_readLine_74 : decode cX4_readLine 74 = .ok (.goto 4, 3) := by decide +kernel
theorem dX4_readLine_77 : decode cX4_readLine 77 = .ok (.iconst 0, 1) := by decide +kernel
theorem dX4_readLine_78 : decode cX4_readLine 78 = .ok (.ireturn, 1) := by decide +kernel
theorem dX4_readLine_79 : decode cX4_readLine 79 = .ok (.aload_n 0, 1) := by decide +kernel
theorem dX4_readLine_80 : decode cX4_readLine 80 = .ok (.iconst 0, 1) := by decide +kernel
theorem dX4_readLine_81 : decode cX4_readLine 81 = .ok (.iload_n 1, 1) := by decide +kernel
theorem dX4_readLine_82 : decode cX4_readLine 82 = .ok (.iconst 1, 1) := by decide +kernel
theorem dX4_readLine_83 : decode cX4_readLine 83 = .ok (.isub, 1) := by decide +kernel
theorem dX4_readLine_84 : decode cX4_readLine 84 = .ok (.invokevirtual 53, 3) := by decide +kernel
theorem dX4_readLine_87 : decode cX4_readLine 87 = .ok (.ifCond .eq 24, 3) := by decide +kernel
theorem dX4_readLine_90 : decode cX4_readLine 90 = .ok (.aload_n 0, 1) := by decide +kernel
theorem dX4_readLine_91 : decode cX4_readLine 91 = .ok (.iconst 0, 1) := by decide +kernel
theorem dX4_readLine_92 : decode cX4_readLine 92 = .ok (.iload_n 2, 1) := by decide +kernel
theorem dX4_readLine_93 : decode cX4_readLine 93 = .ok (.invokevirtual 56, 3) := by decide +kernel
theorem dX4_readLine_96 : decode cX4_readLine 96 = .ok (.ifCond .eq 15, 3) := by decide +kernel
theorem dX4_readLine_99 : decode cX4_readLine 99 = .ok (.aload_n 0, 1) := by decide +kernel
theorem dX4_readLine_100 : decode cX4_readLine 100 = .ok (.iconst 1, 1) := by decide +kernel
theorem dX4_readLine_101 : decode cX4_readLine 101 = .ok (.invokevirtual 62, 3) := by decide +kernel
theorem dX4_readLine_104 : decode cX4_readLine 104 = .ok (.ifCond .eq 7, 3) := by decide +kernel
theorem dX4_readLine_107 : decode cX4_readLine 107 = .ok (.iconst 1, 1) := by decide +kernel
theorem dX4_readLine_108 : decode cX4_readLine 108 = .ok (.goto 4, 3) := by decide +kernel
theorem dX4_readLine_111 : decode cX4_readLine 111 = .ok (.iconst 0, 1) := by decide +kernel
theorem dX4_readLine_112 : decode cX4_readLine 112 = .ok (.ireturn, 1) := by decide +kernel
theorem dX4_readLine_113 : decode cX4_readLine 113 = .ok (.aload_n 0, 1) := by decide +kernel
theorem dX4_readLine_114 : decode cX4_readLine 114 = .ok (.iconst 0, 1) := by decide +kernel
theorem dX4_readLine_115 : decode cX4_readLine 115 = .ok (.iload_n 1, 1) := by decide +kernel
theorem dX4_readLine_116 : decode cX4_readLine 116 = .ok (.iconst 1, 1) := by decide +kernel
theorem dX4_readLine_117 : decode cX4_readLine 117 = .ok (.isub, 1) := by decide +kernel
theorem dX4_readLine_118 : decode cX4_readLine 118 = .ok (.invokevirtual 53, 3) := by decide +kernel
theorem dX4_readLine_121 : decode cX4_readLine 121 = .ok (.ifCond .eq 18, 3) := by decide +kernel
theorem dX4_readLine_124 : decode cX4_readLine 124 = .ok (.aload_n 0, 1) := by decide +kernel
theorem dX4_readLine_125 : decode cX4_readLine 125 = .ok (.iconst 0, 1) := by decide +kernel
theorem dX4_readLine_126 : decode cX4_readLine 126 = .ok (.iload_n 1, 1) := by decide +kernel
theorem dX4_readLine_127 : decode cX4_readLine 127 = .ok (.iconst 1, 1) := by decide +kernel
theorem dX4_readLine_128 : decode cX4_readLine 128 = .ok (.isub, 1) := by decide +kernel
theorem dX4_readLine_129 : decode cX4_readLine 129 = .ok (.invokevirtual 56, 3) := by decide +kernel
theorem dX4_readLine_132 : decode cX4_readLine 132 = .ok (.ifCond .eq 7, 3) := by decide +kernel
theorem dX4_readLine_135 : decode cX4_readLine 135 = .ok (.iconst 1, 1) := by decide +kernel
theorem dX4_readLine_136 : decode cX4_readLine 136 = .ok (.goto 4, 3) := by decide +kernel
theorem dX4_readLine_139 : decode cX4_readLine 139 = .ok (.iconst 0, 1) := by decide +kernel
theorem dX4_readLine_140 : decode cX4_readLine 140 = .ok (.ireturn, 1) := by decide +kernel
theorem dX4_readLine_141 : decode cX4_readLine 141 = .ok (.aload_n 0, 1) := by decide +kernel
theorem dX4_readLine_142 : decode cX4_readLine 142 = .ok (.iconst 0, 1) := by decide +kernel
theorem dX4_readLine_143 : decode cX4_readLine 143 = .ok (.iload_n 1, 1) := by decide +kernel
theorem dX4_readLine_144 : decode cX4_readLine 144 = .ok (.iconst 1, 1) := by decide +kernel
theorem dX4_readLine_145 : decode cX4_readLine 145 = .ok (.isub, 1) := by decide +kernel
theorem dX4_readLine_146 : decode cX4_readLine 146 = .ok (.invokevirtual 53, 3) := by decide +kernel
theorem dX4_readLine_149 : decode cX4_readLine 149 = .ok (.ifCond .eq 15, 3) := by decide +kernel
theorem dX4_readLine_152 : decode cX4_readLine 152 = .ok (.aload_n 0, 1) := by decide +kernel
theorem dX4_readLine_153 : decode cX4_readLine 153 = .ok (.iconst 1, 1) := by decide +kernel
theorem dX4_readLine_154 : decode cX4_readLine 154 = .ok (.invokevirtual 62, 3) := by decide +kernel
theorem dX4_readLine_157 : decode cX4_readLine 157 = .ok (.ifCond .eq 7, 3) := by decide +kernel
theorem dX4_readLine_160 : decode cX4_readLine 160 = .ok (.iconst 1, 1) := by decide +kernel
theorem dX4_readLine_161 : decode cX4_readLine 161 = .ok (.goto 4, 3) := by decide +kernel
theorem dX4_readLine_164 : decode cX4_readLine 164 = .ok (.iconst 0, 1) := by decide +kernel
theorem dX4_readLine_165 : decode cX4_readLine 165 = .ok (.ireturn, 1) := by decide +kernel
theorem dX4_readLine_166 : decode cX4_readLine 166 = .ok (.aload_n 0, 1) := by decide +kernel
theorem dX4_readLine_167 : decode cX4_readLine 167 = .ok (.iconst 0, 1) := by decide +kernel
theorem dX4_readLine_168 : decode cX4_readLine 168 = .ok (.iload_n 1, 1) := by decide +kernel
theorem dX4_readLine_169 : decode cX4_readLine 169 = .ok (.iconst 1, 1) := by decide +kernel
theorem dX4_readLine_170 : decode cX4_readLine 170 = .ok (.isub, 1) := by decide +kernel
theorem dX4_readLine_171 : decode cX4_readLine 171 = .ok (.invokevirtual 53, 3) := by decide +kernel
theorem dX4_readLine_174 : decode cX4_readLine 174 = .ok (.ifCond .eq 26, 3) := by decide +kernel
theorem dX4_readLine_177 : decode cX4_readLine 177 = .ok (.aload_n 0, 1) := by decide +kernel
theorem dX4_readLine_178 : decode cX4_readLine 178 = .ok (.iconst 0, 1) := by decide +kernel
theorem dX4_readLine_179 : decode cX4_readLine 179 = .ok (.iload_n 1, 1) := by decide +kernel
theorem dX4_readLine_180 : decode cX4_readLine 180 = .ok (.iconst 1, 1) := by decide +kernel
theorem dX4_readLine_181 : decode cX4_readLine 181 = .ok (.isub, 1) := by decide +kernel
theorem dX4_readLine_182 : decode cX4_readLine 182 = .ok (.invokevirtual 56, 3) := by decide +kernel
theorem dX4_readLine_185 : decode cX4_readLine 185 = .ok (.ifCond .eq 15, 3) := by decide +kernel
theorem dX4_readLine_188 : decode cX4_readLine 188 = .ok (.aload_n 0, 1) := by decide +kernel
theorem dX4_readLine_189 : decode cX4_readLine 189 = .ok (.iconst 1, 1) := by decide +kernel
theorem dX4_readLine_190 : decode cX4_readLine 190 = .ok (.invokevirtual 62, 3) := by decide +kernel
theorem dX4_readLine_193 : decode cX4_readLine 193 = .ok (.ifCond .eq 7, 3) := by decide +kernel
theorem dX4_readLine_196 : decode cX4_readLine 196 = .ok (.iconst 1, 1) := by decide +kernel
theorem dX4_readLine_197 : decode cX4_readLine 197 = .ok (.goto 4, 3) := by decide +kernel
theorem dX4_readLine_200 : decode cX4_readLine 200 = .ok (.iconst 0, 1) := by decide +kernel
theorem dX4_readLine_201 : decode cX4_readLine 201 = .ok (.ireturn, 1) := by decide +kernel
theorem dX4_readLine_202 : decode cX4_readLine 202 = .ok (.aload_n 0, 1) := by decide +kernel
theorem dX4_readLine_203 : decode cX4_readLine 203 = .ok (.iconst 0, 1) := by decide +kernel
theorem dX4_readLine_204 : decode cX4_readLine 204 = .ok (.iconst 2, 1) := by decide +kernel
theorem dX4_readLine_205 : decode cX4_readLine 205 = .ok (.invokevirtual 53, 3) := by decide +kernel
theorem dX4_readLine_208 : decode cX4_readLine 208 = .ok (.ireturn, 1) := by decide +kernel
theorem dX4_readLine_209 : decode cX4_readLine 209 = .ok (.aload_n 0, 1) := by decide +kernel
theorem dX4_readLine_210 : decode cX4_readLine 210 = .ok (.iconst 1, 1) := by decide +kernel
theorem dX4_readLine_211 : decode cX4_readLine 211 = .ok (.aload_n 0, 1) := by decide +kernel
theorem dX4_readLine_212 : decode cX4_readLine 212 = .ok (.getfield 46, 3) := by decide +kernel
theorem dX4_readLine_215 : decode cX4_readLine 215 = .ok (.invokevirtual 49, 3) := by decide +kernel
theorem dX4_readLine_218 : decode cX4_readLine 218 = .ok (.ireturn, 1) := by decide +kernel
set_option maxRecDepth 20000 in
theorem ggX4_readStop_X5_isSign : GoodIn wsX4_readStop wsX5_isSign := goodIn_r _ [7, 8, 9, 59, 60, 61, 62, 63] rfl rfl
set_option maxRecDepth 20000 in
theorem gX4_readStop_X5_isSign : GoodIn wsX4_readStop (wsV RX4 66 RX5 yX5_isSign wsX5_isSign) := goodIn_app (goodIn_of _ (by decide +kernel)) ggX4_readStop_X5_isSign
set_option maxRecDepth 20000 in
theorem ggX4_readStop_X4_fail : GoodIn wsX4_readStop wsX4_fail := goodIn_r _ [14, 15, 16, 49, 50, 51, 52, 53, 54, 55, 56, 57, 58] rfl rfl
set_option maxRecDepth 20000 in
theorem gX4_readStop_X4_fail : GoodIn wsX4_readStop (wsV RX4 49 RX4 yX4_fail wsX4_fail) := goodIn_app (goodIn_of _ (by decide +kernel)) ggX4_readStop_X4_fail
set_option maxRecDepth 20000 in
theorem ggX4_readStop_X5_advance : GoodIn wsX4_readStop wsX5_advance := goodIn_r _ [20, 21, 22, 23, 24, 9, 8, 25, 26, 27, 28, 29, 30, 31, 32, 33, 6, 34, 35, 36, 37, 38, 39, 40, 41, 42, 43, 44, 45, 46, 47, 48, 59, 60, 61, 62, 63, 64, 65] rfl rfl
set_option maxRecDepth 20000 in
theorem gX4_readStop_X5_advance : GoodIn wsX4_readStop (wsV RX4 73 RX5 yX5_advance wsX5_advance) := goodIn_app (goodIn_of _ (by decide +kernel)) ggX4_readStop_X5_advance
theorem dX4_readStop_0 : decode cX4_readStop 0 = .ok (.aload_n 0, 1) := by decide +kernel
theorem dX4_readStop_1 : decode cX4_readStop 1 = .ok (.getfield 12, 3) := by decide +kernel
theorem dX4_readStop_4 : decode cX4_readStop 4 = .ok (.bipush 59, 2) := by decide +kernel
theorem dX4_readStop_6 : decode cX4_readStop 6 = .ok (.invokevirtual 66, 3) := by decide +kernel
theorem dX4_readStop_9 : decode cX4_readStop 9 = .ok (.ifCond .ne 16, 3) := by decide +kernel
theorem dX4_readStop_12 : decode cX4_readStop 12 = .ok (.aload_n 0, 1) := by decide +kernel
theorem dX4_readStop_13 : decode cX4_readStop 13 = .ok (.iconst 1, 1) := by decide +kernel
theorem dX4_readStop_14 : decode cX4_readStop 14 = .ok (.aload_n 0, 1) := by decide +kernel
theorem dX4_readStop_15 : decode cX4_readStop 15 = .ok (.getfield 12, 3) := by decide +kernel
theorem dX4_readStop_18 : decode cX4_readStop 18 = .ok (.getfield 70, 3) := by decide +kernel
theorem dX4_readStop_21 : decode cX4_readStop 21 = .ok (.invokevirtual 49, 3) := by decide +kernel
theorem dX4_readStop_24 : decode cX4_readStop 24 = .ok (.ireturn, 1) := by decide +kernel
theorem dX4_readStop_25 : decode cX4_readStop 25 = .ok (.aload_n 0, 1) := by decide +kernel
theorem dX4_readStop_26 : decode cX4_readStop 26 = .ok (.getfield 12, 3) := by decide +kernel
theorem dX4_readStop_29 : decode cX4_readStop 29 = .ok (.invokevirtual 73, 3) := by decide +kernel
theorem dX4_readStop_32 : decode cX4_readStop 32 = .ok (.iconst 1, 1) := by decide +kernel
theorem dX4_readStop_33 : decode cX4_readStop 33 = .ok (.ireturn, 1) := by decide +kernel
set_option maxRecDepth 20000 in
theorem ggX4_refuse_X4_fail : GoodIn wsX4_refuse wsX4_fail := goodIn_r _ [6, 7, 8, 9, 10, 11, 12, 13, 14, 15, 16, 17, 18] rfl rfl
set_option maxRecDepth 20000 in
theorem gX4_refuse_X4_fail : GoodIn wsX4_refuse (wsV RX4 49 RX4 yX4_fail wsX4_fail) := goodIn_app (goodIn_of _ (by decide +kernel)) ggX4_refuse_X4_fail
theorem dX4_refuse_0 : decode cX4_refuse 0 = .ok (.aload_n 0, 1) := by decide +kernel
theorem dX4_refuse_1 : decode cX4_refuse 1 = .ok (.iconst 3, 1) := by decide +kernel
theorem dX4_refuse_2 : decode cX4_refuse 2 = .ok (.aload_n 0, 1) := by decide +kernel
theorem dX4_refuse_3 : decode cX4_refuse 3 = .ok (.getfield 46, 3) := by decide +kernel
theorem dX4_refuse_6 : decode cX4_refuse 6 = .ok (.invokevirtual 49, 3) := by decide +kernel
theorem dX4_refuse_9 : decode cX4_refuse 9 = .ok (.ireturn, 1) := by decide +kernel
theorem dX4_upperRead_0 : decode cX4_upperRead 0 = .ok (.iload_n 1, 1) := by decide +kernel
theorem dX4_upperRead_1 : decode cX4_upperRead 1 = .ok (.ifCond .lt 18, 3) := by decide +kernel
theorem dX4_upperRead_4 : decode cX4_upperRead 4 = .ok (.iload_n 1, 1) := by decide +kernel
theorem dX4_upperRead_5 : decode cX4_upperRead 5 = .ok (.bipush 7, 2) := by decide +kernel
theorem dX4_upperRead_7 : decode cX4_upperRead 7 = .ok (.if_icmp .ge 12, 3) := by decide +kernel
theorem dX4_upperRead_10 : decode cX4_upperRead 10 = .ok (.aload_n 0, 1) := by decide +kernel
theorem dX4_upperRead_11 : decode cX4_upperRead 11 = .ok (.getfield 18, 3) := by decide +kernel
theorem dX4_upperRead_14 : decode cX4_upperRead 14 = .ok (.iload_n 1, 1) := by decide +kernel
theorem dX4_upperRead_15 : decode cX4_upperRead 15 = .ok (.iaload, 1) := by decide +kernel
theorem dX4_upperRead_16 : decode cX4_upperRead 16 = .ok (.goto 4, 3) := by decide +kernel
theorem dX4_upperRead_19 : decode cX4_upperRead 19 = .ok (.iconst 0, 1) := by decide +kernel
theorem dX4_upperRead_20 : decode cX4_upperRead 20 = .ok (.ireturn, 1) := by decide +kernel
theorem dX4_lowerRead_0 : decode cX4_lowerRead 0 = .ok (.iload_n 1, 1) := by decide +kernel
theorem dX4_lowerRead_1 : decode cX4_lowerRead 1 = .ok (.ifCond .lt 18, 3) := by decide +kernel
theorem dX4_lowerRead_4 : decode cX4_lowerRead 4 = .ok (.iload_n 1, 1) := by decide +kernel
theorem dX4_lowerRead_5 : decode cX4_lowerRead 5 = .ok (.bipush 7, 2) := by decide +kernel
theorem dX4_lowerRead_7 : decode cX4_lowerRead 7 = .ok (.if_icmp .ge 12, 3) := by decide +kernel
theorem dX4_lowerRead_10 : decode cX4_lowerRead 10 = .ok (.aload_n 0, 1) := by decide +kernel
theorem dX4_lowerRead_11 : decode cX4_lowerRead 11 = .ok (.getfield 22, 3) := by decide +kernel
theorem dX4_lowerRead_14 : decode cX4_lowerRead 14 = .ok (.iload_n 1, 1) := by decide +kernel
theorem dX4_lowerRead_15 : decode cX4_lowerRead 15 = .ok (.iaload, 1) := by decide +kernel
theorem dX4_lowerRead_16 : decode cX4_lowerRead 16 = .ok (.goto 4, 3) := by decide +kernel
theorem dX4_lowerRead_19 : decode cX4_lowerRead 19 = .ok (.iconst 1, 1) := by decide +kernel
theorem dX4_lowerRead_20 : decode cX4_lowerRead 20 = .ok (.ireturn, 1) := by decide +kernel
theorem dX4_fail_0 : decode cX4_fail 0 = .ok (.aload_n 0, 1) := by decide +kernel
theorem dX4_fail_1 : decode cX4_fail 1 = .ok (.iload_n 1, 1) := by decide +kernel
theorem dX4_fail_2 : decode cX4_fail 2 = .ok (.putfield 25, 3) := by decide +kernel
theorem dX4_fail_5 : decode cX4_fail 5 = .ok (.aload_n 0, 1) := by decide +kernel
theorem dX4_fail_6 : decode cX4_fail 6 = .ok (.iload_n 2, 1) := by decide +kernel
theorem dX4_fail_7 : decode cX4_fail 7 = .ok (.putfield 29, 3) := by decide +kernel
theorem dX4_fail_10 : decode cX4_fail 10 = .ok (.iconst 0, 1) := by decide +kernel
theorem dX4_fail_11 : decode cX4_fail 11 = .ok (.ireturn, 1) := by decide +kernel
set_option maxRecDepth 20000 in
theorem ggX4_takeWord_X4_fail : GoodIn wsX4_takeWord wsX4_fail := goodIn_r _ [10, 11, 12, 105, 106, 107, 108, 109, 110, 111, 112, 113, 114] rfl rfl
set_option maxRecDepth 20000 in
theorem gX4_takeWord_X4_fail : GoodIn wsX4_takeWord (wsV RX4 49 RX4 yX4_fail wsX4_fail) := goodIn_app (goodIn_of _ (by decide +kernel)) ggX4_takeWord_X4_fail
set_option maxRecDepth 20000 in
theorem ggX4_takeWord_X5_wordAhead : GoodIn wsX4_takeWord wsX5_wordAhead := goodIn_r _ [17, 18, 19, 20, 16, 21, 22, 23, 24, 25, 26, 27, 28, 29, 30, 31, 32, 33, 34, 35, 36, 37, 38, 39, 40, 41, 42, 43, 44, 45, 46, 47, 48, 49, 50, 51, 52, 53, 54, 55, 56, 57, 58, 59, 60, 61, 62, 63, 64, 65, 66, 67, 68, 69, 70, 71, 72, 73, 74, 75, 76, 77, 78, 79, 80, 115, 116, 117, 118, 119, 120, 121] rfl rfl
set_option maxRecDepth 20000 in
theorem gX4_takeWord_X5_wordAhead : GoodIn wsX4_takeWord (wsV RX4 76 RX5 yX5_wordAhead wsX5_wordAhead) := goodIn_app (goodIn_of _ (by decide +kernel)) ggX4_takeWord_X5_wordAhead
set_option maxRecDepth 20000 in
theorem ggX4_takeWord_X5_advance : GoodIn wsX4_takeWord wsX5_advance := goodIn_r _ [84, 22, 24, 85, 23, 86, 87, 37, 38, 39, 40, 41, 42, 43, 88, 89, 16, 90, 91, 92, 93, 94, 95, 96, 97, 98, 99, 100, 101, 102, 103, 104, 115, 116, 117, 118, 119, 120, 121] rfl rfl
set_option maxRecDepth 20000 in
theorem gX4_takeWord_X5_advance : GoodIn wsX4_takeWord (wsV RX4 73 RX5 yX5_advance wsX5_advance) := goodIn_app (goodIn_of _ (by decide +kernel)) ggX4_takeWord_X5_advance
theorem dX4_takeWord_0 : decode cX4_takeWord 0 = .ok (.aload_n 0, 1) := by decide +kernel
theorem dX4_takeWord_1 : decode cX4_takeWord 1 = .ok (.aload_n 0, 1) := by decide +kernel
theorem dX4_takeWord_2 : decode cX4_takeWord 2 = .ok (.getfield 12, 3) := by decide +kernel
theorem dX4_takeWord_5 : decode cX4_takeWord 5 = .ok (.getfield 70, 3) := by decide +kernel
theorem dX4_takeWord_8 : decode cX4_takeWord 8 = .ok (.putfield 46, 3) := by decide +kernel
theorem dX4_takeWord_11 : decode cX4_takeWord 11 = .ok (.aload_n 0, 1) := by decide +kernel
theorem dX4_takeWord_12 : decode cX4_takeWord 12 = .ok (.getfield 12, 3) := by decide +kernel
theorem dX4_takeWord_15 : decode cX4_takeWord 15 = .ok (.getfield 36, 3) := by decide +kernel
theorem dX4_takeWord_18 : decode cX4_takeWord 18 = .ok (.iconst 1, 1) := by decide +kernel
theorem dX4_takeWord_19 : decode cX4_takeWord 19 = .ok (.if_icmp .eq 13, 3) := by decide +kernel
theorem dX4_takeWord_22 : decode cX4_takeWord 22 = .ok (.aload_n 0, 1) := by decide +kernel
theorem dX4_takeWord_23 : decode cX4_takeWord 23 = .ok (.iconst 1, 1) := by decide +kernel
theorem dX4_takeWord_24 : decode cX4_takeWord 24 = .ok (.aload_n 0, 1) := by decide +kernel
theorem dX4_takeWord_25 : decode cX4_takeWord 25 = .ok (.getfield 46, 3) := by decide +kernel
theorem dX4_takeWord_28 : decode cX4_takeWord 28 = .ok (.invokevirtual 49, 3) := by decide +kernel
theorem dX4_takeWord_31 : decode cX4_takeWord 31 = .ok (.ireturn, 1) := by decide +kernel
theorem dX4_takeWord_32 : decode cX4_takeWord 32 = .ok (.aload_n 0, 1) := by decide +kernel
theorem dX4_takeWord_33 : decode cX4_takeWord 33 = .ok (.aload_n 0, 1) := by decide +kernel
theorem dX4_takeWord_34 : decode cX4_takeWord 34 = .ok (.getfield 12, 3) := by decide +kernel
theorem dX4_takeWord_37 : decode cX4_takeWord 37 = .ok (.invokevirtual 76, 3) := by decide +kernel
theorem dX4_takeWord_40 : decode cX4_takeWord 40 = .ok (.putfield 43, 3) := by decide +kernel
theorem dX4_takeWord_43 : decode cX4_takeWord 43 = .ok (.aload_n 0, 1) := by decide +kernel
theorem dX4_takeWord_44 : decode cX4_takeWord 44 = .ok (.getfield 12, 3) := by decide +kernel
theorem dX4_takeWord_47 : decode cX4_takeWord 47 = .ok (.invokevirtual 73, 3) := by decide +kernel
theorem dX4_takeWord_50 : decode cX4_takeWord 50 = .ok (.iconst 1, 1) := by decide +kernel
theorem dX4_takeWord_51 : decode cX4_takeWord 51 = .ok (.ireturn, 1) := by decide +kernel
set_option maxRecDepth 20000 in
theorem ggX4_takeFirst_X4_takeNumber : GoodIn wsX4_takeFirst wsX4_takeNumber := goodIn_r _ [7, 8, 9, 10, 11, 1, 12, 13, 14, 6, 15, 16, 17, 18, 19, 20, 21, 22, 23, 24, 25, 26, 27, 28, 29, 30, 31, 32, 33, 34, 35, 36, 37, 38, 39, 40, 41, 42, 43, 44, 45, 46, 47, 48, 49, 50, 51, 52, 53, 54, 55, 56, 57, 58, 59, 60, 61, 62, 63, 64, 65, 66, 67, 68, 69] rfl rfl
set_option maxRecDepth 20000 in
theorem gX4_takeFirst_X4_takeNumber : GoodIn wsX4_takeFirst (wsV RX4 80 RX4 yX4_takeNumber wsX4_takeNumber) := goodIn_app (goodIn_of _ (by decide +kernel)) ggX4_takeFirst_X4_takeNumber
theorem dX4_takeFirst_0 : decode cX4_takeFirst 0 = .ok (.aload_n 0, 1) := by decide +kernel
theorem dX4_takeFirst_1 : decode cX4_takeFirst 1 = .ok (.iload_n 1, 1) := by decide +kernel
theorem dX4_takeFirst_2 : decode cX4_takeFirst 2 = .ok (.iload_n 2, 1) := by decide +kernel
theorem dX4_takeFirst_3 : decode cX4_takeFirst 3 = .ok (.invokevirtual 80, 3) := by decide +kernel
theorem dX4_takeFirst_6 : decode cX4_takeFirst 6 = .ok (.istore_n 3, 1) := by decide +kernel
theorem dX4_takeFirst_7 : decode cX4_takeFirst 7 = .ok (.aload_n 0, 1) := by decide +kernel
theorem dX4_takeFirst_8 : decode cX4_takeFirst 8 = .ok (.aload_n 0, 1) := by decide +kernel
theorem dX4_takeFirst_9 : decode cX4_takeFirst 9 = .ok (.getfield 83, 3) := by decide +kernel
theorem dX4_takeFirst_12 : decode cX4_takeFirst 12 = .ok (.putfield 86, 3) := by decide +kernel
theorem dX4_takeFirst_15 : decode cX4_takeFirst 15 = .ok (.iload_n 3, 1) := by decide +kernel
theorem dX4_takeFirst_16 : decode cX4_takeFirst 16 = .ok (.ireturn, 1) := by decide +kernel
set_option maxRecDepth 20000 in
theorem ggX4_takeSecond_X4_takeNumber : GoodIn wsX4_takeSecond wsX4_takeNumber := goodIn_r _ [7, 8, 9, 10, 11, 1, 12, 13, 14, 6, 15, 16, 17, 18, 19, 20, 21, 22, 23, 24, 25, 26, 27, 28, 29, 30, 31, 32, 33, 34, 35, 36, 37, 38, 39, 40, 41, 42, 43, 44, 45, 46, 47, 48, 49, 50, 51, 52, 53, 54, 55, 56, 57, 58, 59, 60, 61, 62, 63, 64, 65, 66, 67, 68, 69] rfl rfl
set_option maxRecDepth 20000 in
theorem gX4_takeSecond_X4_takeNumber : GoodIn wsX4_takeSecond (wsV RX4 80 RX4 yX4_takeNumber wsX4_takeNumber) := goodIn_app (goodIn_of _ (by decide +kernel)) ggX4_takeSecond_X4_takeNumber
theorem dX4_takeSecond_0 : decode cX4_takeSecond 0 = .ok (.aload_n 0, 1) := by decide +kernel
theorem dX4_takeSecond_1 : decode cX4_takeSecond 1 = .ok (.iload_n 1, 1) := by decide +kernel
theorem dX4_takeSecond_2 : decode cX4_takeSecond 2 = .ok (.iload_n 2, 1) := by decide +kernel
theorem dX4_takeSecond_3 : decode cX4_takeSecond 3 = .ok (.invokevirtual 80, 3) := by decide +kernel
theorem dX4_takeSecond_6 : decode cX4_takeSecond 6 = .ok (.istore_n 3, 1) := by decide +kernel
theorem dX4_takeSecond_7 : decode cX4_takeSecond 7 = .ok (.aload_n 0, 1) := by decide +kernel
theorem dX4_takeSecond_8 : decode cX4_takeSecond 8 = .ok (.aload_n 0, 1) := by decide +kernel
theorem dX4_takeSecond_9 : decode cX4_takeSecond 9 = .ok (.getfield 83, 3) := by decide +kernel
theorem dX4_takeSecond_12 : decode cX4_takeSecond 12 = .ok (.putfield 89, 3) := by decide +kernel
theorem dX4_takeSecond_15 : decode cX4_takeSecond 15 = .ok (.iload_n 3, 1) := by decide +kernel
theorem dX4_takeSecond_16 : decode cX4_takeSecond 16 = .ok (.ireturn, 1) := by decide +kernel
set_option maxRecDepth 20000 in
theorem ggX4_takeNumber_X4_fail : GoodIn wsX4_takeNumber wsX4_fail := goodIn_r _ [10, 11, 12, 48, 49, 50, 51, 52, 53, 54, 55, 56, 57] rfl rfl
set_option maxRecDepth 20000 in
theorem gX4_takeNumber_X4_fail : GoodIn wsX4_takeNumber (wsV RX4 49 RX4 yX4_fail wsX4_fail) := goodIn_app (goodIn_of _ (by decide +kernel)) ggX4_takeNumber_X4_fail
set_option maxRecDepth 20000 in
theorem ggX4_takeNumber_X5_advance : GoodIn wsX4_takeNumber wsX5_advance := goodIn_r _ [17, 18, 19, 20, 21, 22, 23, 24, 25, 26, 27, 28, 29, 30, 31, 32, 16, 33, 34, 35, 36, 37, 38, 39, 40, 41, 42, 43, 44, 45, 46, 47, 58, 59, 60, 61, 62, 63, 64] rfl rfl
set_option maxRecDepth 20000 in
theorem gX4_takeNumber_X5_advance : GoodIn wsX4_takeNumber (wsV RX4 73 RX5 yX5_advance wsX5_advance) := goodIn_app (goodIn_of _ (by decide +kernel)) ggX4_takeNumber_X5_advance
theorem dX4_takeNumber_0 : decode cX4_takeNumber 0 = .ok (.aload_n 0, 1) := by decide +kernel
theorem dX4_takeNumber_1 : decode cX4_takeNumber 1 = .ok (.getfield 12, 3) := by decide +kernel
theorem dX4_takeNumber_4 : decode cX4_takeNumber 4 = .ok (.getfield 36, 3) := by decide +kernel
theorem dX4_takeNumber_7 : decode cX4_takeNumber 7 = .ok (.iconst 2, 1) := by decide +kernel
theorem dX4_takeNumber_8 : decode cX4_takeNumber 8 = .ok (.if_icmp .eq 16, 3) := by decide +kernel
theorem dX4_takeNumber_11 : decode cX4_takeNumber 11 = .ok (.aload_n 0, 1) := by decide +kernel
theorem dX4_takeNumber_12 : decode cX4_takeNumber 12 = .ok (.iconst 1, 1) := by decide +kernel
theorem dX4_takeNumber_13 : decode cX4_takeNumber 13 = .ok (.aload_n 0, 1) := by decide +kernel
theorem dX4_takeNumber_14 : decode cX4_takeNumber 14 = .ok (.getfield 12, 3) := by decide +kernel
theorem dX4_takeNumber_17 : decode cX4_takeNumber 17 = .ok (.getfield 70, 3) := by decide +kernel
theorem dX4_takeNumber_20 : decode cX4_takeNumber 20 = .ok (.invokevirtual 49, 3) := by decide +kernel
theorem dX4_takeNumber_23 : decode cX4_takeNumber 23 = .ok (.ireturn, 1) := by decide +kernel
theorem dX4_takeNumber_24 : decode cX4_takeNumber 24 = .ok (.aload_n 0, 1) := by decide +kernel
theorem dX4_takeNumber_25 : decode cX4_takeNumber 25 = .ok (.aload_n 0, 1) := by decide +kernel
theorem dX4_takeNumber_26 : decode cX4_takeNumber 26 = .ok (.getfield 12, 3) := by decide +kernel
theorem dX4_takeNumber_29 : decode cX4_takeNumber 29 = .ok (.getfield 92, 3) := by decide +kernel
theorem dX4_takeNumber_32 : decode cX4_takeNumber 32 = .ok (.putfield 83, 3) := by decide +kernel
theorem dX4_takeNumber_35 : decode cX4_takeNumber 35 = .ok (.aload_n 0, 1) := by decide +kernel
theorem dX4_takeNumber_36 : decode cX4_takeNumber 36 = .ok (.getfield 83, 3) := by decide +kernel
theorem dX4_takeNumber_39 : decode cX4_takeNumber 39 = .ok (.iload_n 1, 1) := by decide +kernel
theorem dX4_takeNumber_40 : decode cX4_takeNumber 40 = .ok (.if_icmp .lt 11, 3) := by decide +kernel
theorem dX4_takeNumber_43 : decode cX4_takeNumber 43 = .ok (.aload_n 0, 1) := by decide +kernel
theorem dX4_takeNumber_44 : decode cX4_takeNumber 44 = .ok (.getfield 83, 3) := by decide +kernel
theorem dX4_takeNumber_47 : decode cX4_takeNumber 47 = .ok (.iload_n 2, 1) := by decide +kernel
theorem dX4_takeNumber_48 : decode cX4_takeNumber 48 = .ok (.if_icmp .le 16, 3) := by decide +kernel
theorem dX4_takeNumber_51 : decode cX4_takeNumber 51 = .ok (.aload_n 0, 1) := by decide +kernel
theorem dX4_takeNumber_52 : decode cX4_takeNumber 52 = .ok (.iconst 2, 1) := by decide +kernel
theorem dX4_takeNumber_53 : decode cX4_takeNumber 53 = .ok (.aload_n 0, 1) := by decide +kernel
theorem dX4_takeNumber_54 : decode cX4_takeNumber 54 = .ok (.getfield 12, 3) := by decide +kernel
theorem dX4_takeNumber_57 : decode cX4_takeNumber 57 = .ok (.getfield 70, 3) := by decide +kernel
theorem dX4_takeNumber_60 : decode cX4_takeNumber 60 = .ok (.invokevirtual 49, 3) := by decide +kernel
theorem dX4_takeNumber_63 : decode cX4_takeNumber 63 = .ok (.ireturn, 1) := by decide +kernel
theorem dX4_takeNumber_64 : decode cX4_takeNumber 64 = .ok (.aload_n 0, 1) := by decide +kernel
theorem dX4_takeNumber_65 : decode cX4_takeNumber 65 = .ok (.getfield 12, 3) := by decide +kernel
theorem dX4_takeNumber_68 : decode cX4_takeNumber 68 = .ok (.invokevirtual 73, 3) := by decide +kernel
theorem dX4_takeNumber_71 : decode cX4_takeNumber 71 = .ok (.iconst 1, 1) := by decide +kernel
theorem dX4_takeNumber_72 : decode cX4_takeNumber 72 = .ok (.ireturn, 1) := by decide +kernel
set_option maxRecDepth 20000 in
theorem ggX4_takeFractions_X4_takeFraction : GoodIn wsX4_takeFractions wsX4_takeFraction := goodIn_r _ [5, 6, 7, 8, 9, 10, 11, 12, 13, 14, 15, 16, 17, 18, 19, 20, 21, 22, 23, 24, 25, 26, 27, 28, 29, 30, 31, 32, 33, 34, 35, 36, 37, 38, 39, 40, 41, 42, 43, 44, 45, 46, 47, 48, 49, 50, 51, 4, 52, 53, 54, 55, 56, 57, 58, 59, 60, 61, 62, 63, 64, 65, 66, 67, 68, 69, 70, 71, 72, 73, 74, 75, 76, 77, 78] rfl rfl
set_option maxRecDepth 20000 in
theorem gX4_takeFractions_X4_takeFraction : GoodIn wsX4_takeFractions (wsV RX4 95 RX4 yX4_takeFraction wsX4_takeFraction) := goodIn_app (goodIn_of _ (by decide +kernel)) ggX4_takeFractions_X4_takeFraction
theorem dX4_takeFractions_0 : decode cX4_takeFractions 0 = .ok (.iconst 0, 1) := by decide +kernel
theorem dX4_takeFractions_1 : decode cX4_takeFractions 1 = .ok (.istore_n 2, 1) := by decide +kernel
theorem dX4_takeFractions_2 : decode cX4_takeFractions 2 = .ok (.iload_n 2, 1) := by decide +kernel
theorem dX4_takeFractions_3 : decode cX4_takeFractions 3 = .ok (.iload_n 1, 1) := by decide +kernel
theorem dX4_takeFractions_4 : decode cX4_takeFractions 4 = .ok (.if_icmp .ge 25, 3) := by decide +kernel
theorem dX4_takeFractions_7 : decode cX4_takeFractions 7 = .ok (.iload_n 2, 1) := by decide +kernel
theorem dX4_takeFractions_8 : decode cX4_takeFractions 8 = .ok (.bipush 7, 2) := by decide +kernel
theorem dX4_takeFractions_10 : decode cX4_takeFractions 10 = .ok (.if_icmp .ge 19, 3) := by decide +kernel
theorem dX4_takeFractions_13 : decode cX4_takeFractions 13 = .ok (.aload_n 0, 1) := by decide +kernel
theorem dX4_takeFractions_14 : decode cX4_takeFractions 14 = .ok (.iload_n 2, 1) := by decide +kernel
theorem dX4_takeFractions_15 : decode cX4_takeFractions 15 = .ok (.invokevirtual 95, 3) := by decide +kernel
theorem dX4_takeFractions_18 : decode cX4_takeFractions 18 = .ok (.ifCond .ne 5, 3) := by decide +kernel
theorem dX4_takeFractions_21 : decode cX4_takeFractions 21 = .ok (.iconst 0, 1) := by decide +kernel
theorem dX4_takeFractions_22 : decode cX4_takeFractions 22 = .ok (.ireturn, 1) := by decide +kernel
theorem dX4_takeFractions_23 : decode cX4_takeFractions 23 = .ok (.iinc 2 1, 3) := by decide +kernel
theorem dX4_takeFractions_26 : decode cX4_takeFractions 26 = .ok (.goto (-24), 3) := by decide +kernel
theorem dX4_takeFractions_29 : decode cX4_takeFractions 29 = .ok (.iconst 1, 1) := by decide +kernel
theorem dX4_takeFractions_30 : decode cX4_takeFractions 30 = .ok (.ireturn, 1) := by decide +kernel
set_option maxRecDepth 20000 in
theorem ggX4_takeFraction_X5_isSign : GoodIn wsX4_takeFraction wsX5_isSign := goodIn_r _ [9, 10, 11, 68, 69, 70, 71, 72] rfl rfl
set_option maxRecDepth 20000 in
theorem gX4_takeFraction_X5_isSign : GoodIn wsX4_takeFraction (wsV RX4 66 RX5 yX5_isSign wsX5_isSign) := goodIn_app (goodIn_of _ (by decide +kernel)) ggX4_takeFraction_X5_isSign
set_option maxRecDepth 20000 in
theorem ggX4_takeFraction_X5_advance : GoodIn wsX4_takeFraction wsX5_advance := goodIn_r _ [15, 16, 17, 18, 19, 11, 10, 20, 21, 22, 23, 24, 25, 26, 27, 28, 8, 29, 30, 31, 32, 33, 34, 35, 36, 37, 38, 39, 40, 41, 42, 43, 68, 69, 70, 71, 72, 73, 74] rfl rfl
set_option maxRecDepth 20000 in
theorem gX4_takeFraction_X5_advance : GoodIn wsX4_takeFraction (wsV RX4 73 RX5 yX5_advance wsX5_advance) := goodIn_app (goodIn_of _ (by decide +kernel)) ggX4_takeFraction_X5_advance
set_option maxRecDepth 20000 in
theorem ggX4_takeFraction_X4_takeNumber : GoodIn wsX4_takeFraction wsX4_takeNumber := goodIn_r _ [48, 1, 49, 50, 51, 3, 52, 53, 54, 47, 55, 56, 57, 12, 13, 14, 8, 15, 16, 17, 18, 19, 11, 10, 20, 21, 22, 23, 24, 25, 26, 27, 28, 29, 30, 31, 32, 33, 34, 35, 36, 37, 38, 39, 40, 41, 42, 43, 58, 59, 60, 61, 62, 63, 64, 65, 66, 67, 68, 69, 70, 71, 72, 73, 74] rfl rfl
set_option maxRecDepth 20000 in
theorem gX4_takeFraction_X4_takeNumber : GoodIn wsX4_takeFraction (wsV RX4 80 RX4 yX4_takeNumber wsX4_takeNumber) := goodIn_app (goodIn_of _ (by decide +kernel)) ggX4_takeFraction_X4_takeNumber
theorem dX4_takeFraction_0 : decode cX4_takeFraction 0 = .ok (.aload_n 0, 1) := by decide +kernel
theorem dX4_takeFraction_1 : decode cX4_takeFraction 1 = .ok (.getfield 12, 3) := by decide +kernel
theorem dX4_takeFraction_4 : decode cX4_takeFraction 4 = .ok (.bipush 45, 2) := by decide +kernel
theorem dX4_takeFraction_6 : decode cX4_takeFraction 6 = .ok (.invokevirtual 66, 3) := by decide +kernel
theorem dX4_takeFraction_9 : decode cX4_takeFraction 9 = .ok (.istore_n 2, 1) := by decide +kernel
theorem dX4_takeFraction_10 : decode cX4_takeFraction 10 = .ok (.iload_n 2, 1) := by decide +kernel
theorem dX4_takeFraction_11 : decode cX4_takeFraction 11 = .ok (.ifCond .eq 10, 3) := by decide +kernel
theorem dX4_takeFraction_14 : decode cX4_takeFraction 14 = .ok (.aload_n 0, 1) := by decide +kernel
theorem dX4_takeFraction_15 : decode cX4_takeFraction 15 = .ok (.getfield 12, 3) := by decide +kernel
theorem dX4_takeFraction_18 : decode cX4_takeFraction 18 = .ok (.invokevirtual 73, 3) := by decide +kernel
theorem dX4_takeFraction_21 : decode cX4_takeFraction 21 = .ok (.iload_n 1, 1) := by decide +kernel
theorem dX4_takeFraction_22 : decode cX4_takeFraction 22 = .ok (.ifCond .lt 20, 3) := by decide +kernel
theorem dX4_takeFraction_25 : decode cX4_takeFraction 25 = .ok (.iload_n 1, 1) := by decide +kernel
theorem dX4_takeFraction_26 : decode cX4_takeFraction 26 = .ok (.bipush 7, 2) := by decide +kernel
theorem dX4_takeFraction_28 : decode cX4_takeFraction 28 = .ok (.if_icmp .ge 14, 3) := by decide +kernel
theorem dX4_takeFraction_31 : decode cX4_takeFraction 31 = .ok (.aload_n 0, 1) := by decide +kernel
theorem dX4_takeFraction_32 : decode cX4_takeFraction 32 = .ok (.iconst 0, 1) := by decide +kernel
theorem dX4_takeFraction_33 : decode cX4_takeFraction 33 = .ok (.sipush 999, 3) := by decide +kernel
theorem dX4_takeFraction_36 : decode cX4_takeFraction 36 = .ok (.invokevirtual 80, 3) := by decide +kernel
theorem dX4_takeFraction_39 : decode cX4_takeFraction 39 = .ok (.ifCond .ne 5, 3) := by decide +kernel
theorem dX4_takeFraction_42 : decode cX4_takeFraction 42 = .ok (.iconst 0, 1) := by decide +kernel
theorem dX4_takeFraction_43 : decode cX4_takeFraction 43 = .ok (.ireturn, 1) := by decide +kernel
theorem dX4_takeFraction_44 : decode cX4_takeFraction 44 = .ok (.aload_n 0, 1) := by decide +kernel
theorem dX4_takeFraction_45 : decode cX4_takeFraction 45 = .ok (.getfield 18, 3) := by decide +kernel
theorem dX4_takeFraction_48 : decode cX4_takeFraction 48 = .ok (.iload_n 1, 1) := by decide +kernel
theorem dX4_takeFraction_49 : decode cX4_takeFraction 49 = .ok (.iload_n 2, 1) := by decide +kernel
theorem dX4_takeFraction_50 : decode cX4_takeFraction 50 = .ok (.ifCond .eq 11, 3) := by decide +kernel
theorem dX4_takeFraction_53 : decode cX4_takeFraction 53 = .ok (.aload_n 0, 1) := by decide +kernel
theorem dX4_takeFraction_54 : decode cX4_takeFraction 54 = .ok (.getfield 83, 3) := by decide +kernel
theorem dX4_takeFraction_57 : decode cX4_takeFraction 57 = .ok (.ineg, 1) := by decide +kernel
theorem dX4_takeFraction_58 : decode cX4_takeFraction 58 = .ok (.goto 7, 3) := by decide +kernel
theorem dX4_takeFraction_61 : decode cX4_takeFraction 61 = .ok (.aload_n 0, 1) := by decide +kernel
theorem dX4_takeFraction_62 : decode cX4_takeFraction 62 = .ok (.getfield 83, 3) := by decide +kernel
theorem dX4_takeFraction_65 : decode cX4_takeFraction 65 = .ok (.iastore, 1) := by decide +kernel
theorem dX4_takeFraction_66 : decode cX4_takeFraction 66 = .ok (.aload_n 0, 1) := by decide +kernel
theorem dX4_takeFraction_67 : decode cX4_takeFraction 67 = .ok (.getfield 22, 3) := by decide +kernel
theorem dX4_takeFraction_70 : decode cX4_takeFraction 70 = .ok (.iload_n 1, 1) := by decide +kernel
theorem dX4_takeFraction_71 : decode cX4_takeFraction 71 = .ok (.iconst 1, 1) := by decide +kernel
theorem dX4_takeFraction_72 : decode cX4_takeFraction 72 = .ok (.iastore, 1) := by decide +kernel
theorem dX4_takeFraction_73 : decode cX4_takeFraction 73 = .ok (.aload_n 0, 1) := by decide +kernel
theorem dX4_takeFraction_74 : decode cX4_takeFraction 74 = .ok (.getfield 12, 3) := by decide +kernel
theorem dX4_takeFraction_77 : decode cX4_takeFraction 77 = .ok (.bipush 47, 2) := by decide +kernel
theorem dX4_takeFraction_79 : decode cX4_takeFraction 79 = .ok (.invokevirtual 66, 3) := by decide +kernel
theorem dX4_takeFraction_82 : decode cX4_takeFraction 82 = .ok (.ifCond .eq 32, 3) := by decide +kernel
theorem dX4_takeFraction_85 : decode cX4_takeFraction 85 = .ok (.aload_n 0, 1) := by decide +kernel
theorem dX4_takeFraction_86 : decode cX4_takeFraction 86 = .ok (.getfield 12, 3) := by decide +kernel
theorem dX4_takeFraction_89 : decode cX4_takeFraction 89 = .ok (.invokevirtual 73, 3) := by decide +kernel
theorem dX4_takeFraction_92 : decode cX4_takeFraction 92 = .ok (.aload_n 0, 1) := by decide +kernel
theorem dX4_takeFraction_93 : decode cX4_takeFraction 93 = .ok (.iconst 1, 1) := by decide +kernel
theorem dX4_takeFraction_94 : decode cX4_takeFraction 94 = .ok (.bipush 99, 2) := by decide +kernel
theorem dX4_takeFraction_96 : decode cX4_takeFraction 96 = .ok (.invokevirtual 80, 3) := by decide +kernel
theorem dX4_takeFraction_99 : decode cX4_takeFraction 99 = .ok (.ifCond .ne 5, 3) := by decide +kernel
theorem dX4_takeFraction_102 : decode cX4_takeFraction 102 = .ok (.iconst 0, 1) := by decide +kernel
theorem dX4_takeFraction_103 : decode cX4_takeFraction 103 = .ok (.ireturn, 1) := by decide +kernel
theorem dX4_takeFraction_104 : decode cX4_takeFraction 104 = .ok (.aload_n 0, 1) := by decide +kernel
theorem dX4_takeFraction_105 : decode cX4_takeFraction 105 = .ok (.getfield 22, 3) := by decide +kernel
theorem dX4_takeFraction_108 : decode cX4_takeFraction 108 = .ok (.iload_n 1, 1) := by decide +kernel
theorem dX4_takeFraction_109 : decode cX4_takeFraction 109 = .ok (.aload_n 0, 1) := by decide +kernel
theorem dX4_takeFraction_110 : decode cX4_takeFraction 110 = .ok (.getfield 83, 3) := by decide +kernel
theorem dX4_takeFraction_113 : decode cX4_takeFraction 113 = .ok (.iastore, 1) := by decide +kernel
theorem dX4_takeFraction_114 : decode cX4_takeFraction 114 = .ok (.iconst 1, 1) := by decide +kernel
theorem dX4_takeFraction_115 : decode cX4_takeFraction 115 = .ok (.ireturn, 1) := by decide +kernel
set_option maxRecDepth 20000 in
theorem ggX5_init_X8_init : GoodIn wsX5_init wsX8_init := goodIn_r _ [9, 10, 2, 3, 11, 12, 13, 14] rfl rfl
set_option maxRecDepth 20000 in
theorem gX5_init_X8_init_n11 : GoodIn wsX5_init (wsX8_init) := ggX5_init_X8_init
theorem dX5_init_0 : decode cX5_init 0 = .ok (.aload_n 0, 1) := by decide +kernel
theorem dX5_init_1 : decode cX5_init 1 = .ok (.invokespecial 3, 3) := by decide +kernel
theorem dX5_init_4 : decode cX5_init 4 = .ok (.aload_n 0, 1) := by decide +kernel
theorem dX5_init_5 : decode cX5_init 5 = .ok (.new 9, 3) := by decide +kernel
theorem dX5_init_8 : decode cX5_init 8 = .ok (.dup, 1) := by decide +kernel
theorem dX5_init_9 : decode cX5_init 9 = .ok (.invokespecial 11, 3) := by decide +kernel
theorem dX5_init_12 : decode cX5_init 12 = .ok (.putfield 12, 3) := by decide +kernel
theorem dX5_init_15 : decode cX5_init 15 = .ok (.return_, 1) := by decide +kernel
set_option maxRecDepth 20000 in
theorem ggX5_open_X8_copy : GoodIn wsX5_open wsX8_copy := goodIn_r _ [7, 8, 9, 10, 11, 12, 13, 49, 50] rfl rfl
set_option maxRecDepth 20000 in
theorem gX5_open_X8_copy : GoodIn wsX5_open (wsV RX5 18 RX8 yX8_copy wsX8_copy) := goodIn_app (goodIn_of _ (by decide +kernel)) ggX5_open_X8_copy
set_option maxRecDepth 20000 in
theorem ggX5_open_X5_advance : GoodIn wsX5_open wsX5_advance := goodIn_r _ [18, 2, 1, 19, 20, 21, 22, 23, 24, 25, 6, 26, 8, 9, 27, 28, 17, 29, 30, 31, 32, 33, 34, 35, 36, 37, 38, 39, 40, 41, 42, 43, 44, 45, 46, 47, 48, 49, 50] rfl rfl
set_option maxRecDepth 20000 in
theorem gX5_open_X5_advance : GoodIn wsX5_open (wsV RX5 26 RX5 yX5_advance wsX5_advance) := goodIn_app (goodIn_of _ (by decide +kernel)) ggX5_open_X5_advance
theorem dX5_open_0 : decode cX5_open 0 = .ok (.aload_n 0, 1) := by decide +kernel
theorem dX5_open_1 : decode cX5_open 1 = .ok (.getfield 12, 3) := by decide +kernel
theorem dX5_open_4 : decode cX5_open 4 = .ok (.aload_n 1, 1) := by decide +kernel
theorem dX5_open_5 : decode cX5_open 5 = .ok (.invokevirtual 18, 3) := by decide +kernel
theorem dX5_open_8 : decode cX5_open 8 = .ok (.aload_n 0, 1) := by decide +kernel
theorem dX5_open_9 : decode cX5_open 9 = .ok (.iconst 0, 1) := by decide +kernel
theorem dX5_open_10 : decode cX5_open 10 = .ok (.putfield 22, 3) := by decide +kernel
theorem dX5_open_13 : decode cX5_open 13 = .ok (.aload_n 0, 1) := by decide +kernel
theorem dX5_open_14 : decode cX5_open 14 = .ok (.invokevirtual 26, 3) := by decide +kernel
theorem dX5_open_17 : decode cX5_open 17 = .ok (.return_, 1) := by decide +kernel
theorem dX5_isSign_0 : decode cX5_isSign 0 = .ok (.aload_n 0, 1) := by decide +kernel
theorem dX5_isSign_1 : decode cX5_isSign 1 = .ok (.getfield 29, 3) := by decide +kernel
theorem dX5_isSign_4 : decode cX5_isSign 4 = .ok (.iconst 3, 1) := by decide +kernel
theorem dX5_isSign_5 : decode cX5_isSign 5 = .ok (.if_icmp .ne 15, 3) := by decide +kernel
theorem dX5_isSign_8 : decode cX5_isSign 8 = .ok (.aload_n 0, 1) := by decide +kernel
theorem dX5_isSign_9 : decode cX5_isSign 9 = .ok (.getfield 32, 3) := by decide +kernel
theorem dX5_isSign_12 : decode cX5_isSign 12 = .ok (.iload_n 1, 1) := by decide +kernel
theorem dX5_isSign_13 : decode cX5_isSign 13 = .ok (.if_icmp .ne 7, 3) := by decide +kernel
theorem dX5_isSign_16 : decode cX5_isSign 16 = .ok (.iconst 1, 1) := by decide +kernel
theorem dX5_isSign_17 : decode cX5_isSign 17 = .ok (.goto 4, 3) := by decide +kernel
theorem dX5_isSign_20 : decode cX5_isSign 20 = .ok (.iconst 0, 1) := by decide +kernel
theorem dX5_isSign_21 : decode cX5_isSign 21 = .ok (.ireturn, 1) := by decide +kernel
set_option maxRecDepth 20000 in
theorem ggX5_advance_X8_byteAt : GoodIn wsX5_advance wsX8_byteAt := goodIn_r _ [11, 12, 13, 37, 38] rfl rfl
set_option maxRecDepth 20000 in
theorem gX5_advance_X8_byteAt : GoodIn wsX5_advance (wsV RX5 38 RX8 yX8_byteAt wsX8_byteAt) := goodIn_app (goodIn_of _ (by decide +kernel)) ggX5_advance_X8_byteAt
set_option maxRecDepth 20000 in
theorem ggX5_advance_X5_isBlank : GoodIn wsX5_advance wsX5_isBlank := goodIn_r _ [17] rfl rfl
set_option maxRecDepth 20000 in
theorem gX5_advance_X5_isBlank : GoodIn wsX5_advance (va_wsS RX5 42 yX5_isBlank wsX5_isBlank) := goodIn_app (goodIn_of _ (by decide +kernel)) ggX5_advance_X5_isBlank
set_option maxRecDepth 20000 in
theorem ggX5_advance_X5_isLetter : GoodIn wsX5_advance wsX5_isLetter := goodIn_r _ [20] rfl rfl
set_option maxRecDepth 20000 in
theorem gX5_advance_X5_isLetter : GoodIn wsX5_advance (va_wsS RX5 49 yX5_isLetter wsX5_isLetter) := goodIn_app (goodIn_of _ (by decide +kernel)) ggX5_advance_X5_isLetter
set_option maxRecDepth 20000 in
theorem ggX5_advance_X5_skipLetters : GoodIn wsX5_advance wsX5_skipLetters := goodIn_r _ [24, 1, 2, 3, 7, 8, 9, 10, 11, 12, 13, 18, 19, 16, 20, 32, 33, 34, 35, 36, 37, 38] rfl rfl
set_option maxRecDepth 20000 in
theorem gX5_advance_X5_skipLetters : GoodIn wsX5_advance (wsV RX5 52 RX5 yX5_skipLetters wsX5_skipLetters) := goodIn_app (goodIn_of _ (by decide +kernel)) ggX5_advance_X5_skipLetters
set_option maxRecDepth 20000 in
theorem ggX5_advance_X5_isDigit : GoodIn wsX5_advance wsX5_isDigit := goodIn_r _ [27] rfl rfl
set_option maxRecDepth 20000 in
theorem gX5_advance_X5_isDigit : GoodIn wsX5_advance (va_wsS RX5 55 yX5_isDigit wsX5_isDigit) := goodIn_app (goodIn_of _ (by decide +kernel)) ggX5_advance_X5_isDigit
set_option maxRecDepth 20000 in
theorem ggX5_advance_X5_takeDigits : GoodIn wsX5_advance wsX5_takeDigits := goodIn_r _ [31, 5, 1, 2, 3, 4, 7, 8, 9, 10, 11, 12, 13, 25, 26, 16, 27, 32, 33, 34, 35, 36, 37, 38] rfl rfl
set_option maxRecDepth 20000 in
theorem gX5_advance_X5_takeDigits : GoodIn wsX5_advance (wsV RX5 58 RX5 yX5_takeDigits wsX5_takeDigits) := goodIn_app (goodIn_of _ (by decide +kernel)) ggX5_advance_X5_takeDigits
theorem dX5_advance_0 : decode cX5_advance 0 = .ok (.aload_n 0, 1) := by decide +kernel
theorem dX5_advance_1 : decode cX5_advance 1 = .ok (.getfield 22, 3) := by decide +kernel
theorem dX5_advance_4 : decode cX5_advance 4 = .ok (.aload_n 0, 1) := by decide +kernel
theorem dX5_advance_5 : decode cX5_advance 5 = .ok (.getfield 12, 3) := by decide +kernel
theorem dX5_advance_8 : decode cX5_advance 8 = .ok (.getfield 35, 3) := by decide +kernel
theorem dX5_advance_11 : decode cX5_advance 11 = .ok (.if_icmp .ge 33, 3) := by decide +kernel
theorem dX5_advance_14 : decode cX5_advance 14 = .ok (.aload_n 0, 1) := by decide +kernel
theorem dX5_advance_15 : decode cX5_advance 15 = .ok (.getfield 12, 3) := by decide +kernel
theorem dX5_advance_18 : decode cX5_advance 18 = .ok (.aload_n 0, 1) := by decide +kernel
theorem dX5_advance_19 : decode cX5_advance 19 = .ok (.getfield 22, 3) := by decide +kernel
theorem dX5_advance_22 : decode cX5_advance 22 = .ok (.invokevirtual 38, 3) := by decide +kernel
theorem dX5_advance_25 : decode cX5_advance 25 = .ok (.invokestatic 42, 3) := by decide +kernel
theorem dX5_advance_28 : decode cX5_advance 28 = .ok (.ifCond .eq 16, 3) := by decide +kernel
theorem dX5_advance_31 : decode cX5_advance 31 = .ok (.aload_n 0, 1) := by decide +kernel
theorem dX5_advance_32 : decode cX5_advance 32 = .ok (.dup, 1) := by decide +kernel
theorem dX5_advance_33 : decode cX5_advance 33 = .ok (.getfield 22, 3) := by decide +kernel
theorem dX5_advance_36 : decode cX5_advance 36 = .ok (.iconst 1, 1) := by decide +kernel
theorem dX5_advance_37 : decode cX5_advance 37 = .ok (.iadd, 1) := by decide +kernel
theorem dX5_advance_38 : decode cX5_advance 38 = .ok (.putfield 22, 3) := by decide +kernel
theorem dX5_advance_41 : decode cX5_advance 41 = .ok (.goto (-41), 3) := by decide +kernel
theorem dX5_advance_44 : decode cX5_advance 44 = .ok (.aload_n 0, 1) := by decide +kernel
theorem dX5_advance_45 : decode cX5_advance 45 = .ok (.aload_n 0, 1) := by decide +kernel
theorem dX5_advance_46 : decode cX5_advance 46 = .ok (.getfield 22, 3) := by decide +kernel
theorem dX5_advance_49 : decode cX5_advance 49 = .ok (.putfield 46, 3) := by decide +kernel
theorem dX5_advance_52 : decode cX5_advance 52 = .ok (.aload_n 0, 1) := by decide +kernel
theorem dX5_advance_53 : decode cX5_advance 53 = .ok (.aload_n 0, 1) := by decide +kernel
theorem dX5_advance_54 : decode cX5_advance 54 = .ok (.getfield 12, 3) := by decide +kernel
theorem dX5_advance_57 : decode cX5_advance 57 = .ok (.aload_n 0, 1) := by decide +kernel
theorem dX5_advance_58 : decode cX5_advance 58 = .ok (.getfield 22, 3) := by decide +kernel
theorem dX5_advance_61 : decode cX5_advance 61 = .ok (.invokevirtual 38, 3) := by decide +kernel
theorem dX5_advance_64 : decode cX5_advance 64 = .ok (.putfield 32, 3) := by decide +kernel
theorem dX5_advance_67 : decode cX5_advance 67 = .ok (.aload_n 0, 1) := by decide +kernel
theorem dX5_advance_68 : decode cX5_advance 68 = .ok (.getfield 22, 3) := by decide +kernel
theorem dX5_advance_71 : decode cX5_advance 71 = .ok (.aload_n 0, 1) := by decide +kernel
theorem dX5_advance_72 : decode cX5_advance 72 = .ok (.getfield 12, 3) := by decide +kernel
theorem dX5_advance_75 : decode cX5_advance 75 = .ok (.getfield 35, 3) := by decide +kernel
theorem dX5_advance_78 : decode cX5_advance 78 = .ok (.if_icmp .lt 11, 3) := by decide +kernel
theorem dX5_advance_81 : decode cX5_advance 81 = .ok (.aload_n 0, 1) := by decide +kernel
theorem dX5_advance_82 : decode cX5_advance 82 = .ok (.iconst 0, 1) := by decide +kernel
theorem dX5_advance_83 : decode cX5_advance 83 = .ok (.putfield 29, 3) := by decide +kernel
theorem dX5_advance_86 : decode cX5_advance 86 = .ok (.goto 120, 3) := by decide +kernel
theorem dX5_advance_89 : decode cX5_advance 89 = .ok (.aload_n 0, 1) := by decide +kernel
theorem dX5_advance_90 : decode cX5_advance 90 = .ok (.getfield 32, 3) := by decide +kernel
theorem dX5_advance_93 : decode cX5_advance 93 = .ok (.invokestatic 49, 3) := by decide +kernel
theorem dX5_advance_96 : decode cX5_advance 96 = .ok (.ifCond .eq 15, 3) := by decide +kernel
theorem dX5_advance_99 : decode cX5_advance 99 = .ok (.aload_n 0, 1) := by decide +kernel
theorem dX5_advance_100 : decode cX5_advance 100 = .ok (.iconst 1, 1) := by decide +kernel
theorem dX5_advance_101 : decode cX5_advance 101 = .ok (.putfield 29, 3) := by decide +kernel
theorem dX5_advance_104 : decode cX5_advance 104 = .ok (.aload_n 0, 1) := by decide +kernel
theorem dX5_advance_105 : decode cX5_advance 105 = .ok (.invokevirtual 52, 3) := by decide +kernel
theorem dX5_advance_108 : decode cX5_advance 108 = .ok (.goto 98, 3) := by decide +kernel
theorem dX5_advance_111 : decode cX5_advance 111 = .ok (.aload_n 0, 1) := by decide +kernel
theorem dX5_advance_112 : decode cX5_advance 112 = .ok (.getfield 32, 3) := by decide +kernel
theorem dX5_advance_115 : decode cX5_advance 115 = .ok (.invokestatic 55, 3) := by decide +kernel
theorem dX5_advance_118 : decode cX5_advance 118 = .ok (.ifCond .eq 32, 3) := by decide +kernel
theorem dX5_advance_121 : decode cX5_advance 121 = .ok (.aload_n 0, 1) := by decide +kernel
theorem dX5_advance_122 : decode cX5_advance 122 = .ok (.invokevirtual 58, 3) := by decide +kernel
theorem dX5_advance_125 : decode cX5_advance 125 = .ok (.aload_n 0, 1) := by decide +kernel
theorem dX5_advance_126 : decode cX5_advance 126 = .ok (.aload_n 0, 1) := by decide +kernel
theorem dX5_advance_127 : decode cX5_advance 127 = .ok (.getfield 22, 3) := by decide +kernel
theorem dX5_advance_130 : decode cX5_advance 130 = .ok (.aload_n 0, 1) := by decide +kernel
theorem dX5_advance_131 : decode cX5_advance 131 = .ok (.getfield 46, 3) := by decide +kernel
theorem dX5_advance_134 : decode cX5_advance 134 = .ok (.isub, 1) := by decide +kernel
theorem dX5_advance_135 : decode cX5_advance 135 = .ok (.iconst 3, 1) := by decide +kernel
theorem dX5_advance_136 : decode cX5_advance 136 = .ok (.if_icmp .le 7, 3) := by decide +kernel
theorem dX5_advance_139 : decode cX5_advance 139 = .ok (.iconst 4, 1) := by decide +kernel
theorem dX5_advance_140 : decode cX5_advance 140 = .ok (.goto 4, 3) := by decide +kernel
theorem dX5_advance_143 : decode cX5_advance 143 = .ok (.iconst 2, 1) := by decide +kernel
theorem dX5_advance_144 : decode cX5_advance 144 = .ok (.putfield 29, 3) := by decide +kernel
theorem dX5_advance_147 : decode cX5_advance 147 = .ok (.goto 59, 3) := by decide +kernel
theorem dX5_advance_150 : decode cX5_advance 150 = .ok (.aload_n 0, 1) := by decide +kernel
theorem dX5_advance_151 : decode cX5_advance 151 = .ok (.getfield 32, 3) := by decide +kernel
theorem dX5_advance_154 : decode cX5_advance 154 = .ok (.bipush 45, 2) := by decide +kernel
theorem dX5_advance_156 : decode cX5_advance 156 = .ok (.if_icmp .eq 21, 3) := by decide +kernel
theorem dX5_advance_159 : decode cX5_advance 159 = .ok (.aload_n 0, 1) := by decide +kernel
theorem dX5_advance_160 : decode cX5_advance 160 = .ok (.getfield 32, 3) := by decide +kernel
theorem dX5_advance_163 : decode cX5_advance 163 = .ok (.bipush 47, 2) := by decide +kernel
theorem dX5_advance_165 : decode cX5_advance 165 = .ok (.if_icmp .eq 12, 3) := by decide +kernel
theorem dX5_advance_168 : decode cX5_advance 168 = .ok (.aload_n 0, 1) := by decide +kernel
theorem dX5_advance_169 : decode cX5_advance 169 = .ok (.getfield 32, 3) := by decide +kernel
theorem dX5_advance_172 : decode cX5_advance 172 = .ok (.bipush 59, 2) := by decide +kernel
theorem dX5_advance_174 : decode cX5_advance 174 = .ok (.if_icmp .ne 7, 3) := by decide +kernel
theorem dX5_advance_177 : decode cX5_advance 177 = .ok (.iconst 1, 1) := by decide +kernel
theorem dX5_advance_178 : decode cX5_advance 178 = .ok (.goto 4, 3) := by decide +kernel
theorem dX5_advance_181 : decode cX5_advance 181 = .ok (.iconst 0, 1) := by decide +kernel
theorem dX5_advance_182 : decode cX5_advance 182 = .ok (.istore_n 1, 1) := by decide +kernel
theorem dX5_advance_183 : decode cX5_advance 183 = .ok (.aload_n 0, 1) := by decide +kernel
theorem dX5_advance_184 : decode cX5_advance 184 = .ok (.iload_n 1, 1) := by decide +kernel
theorem dX5_advance_185 : decode cX5_advance 185 = .ok (.ifCond .eq 7, 3) := by decide +kernel
theorem dX5_advance_188 : decode cX5_advance 188 = .ok (.iconst 3, 1) := by decide +kernel
theorem dX5_advance_189 : decode cX5_advance 189 = .ok (.goto 4, 3) := by decide +kernel
theorem dX5_advance_192 : decode cX5_advance 192 = .ok (.iconst 4, 1) := by decide +kernel
theorem dX5_advance_193 : decode cX5_advance 193 = .ok (.putfield 29, 3) := by decide +kernel
theorem dX5_advance_196 : decode cX5_advance 196 = .ok (.aload_n 0, 1) := by decide +kernel
theorem dX5_advance_197 : decode cX5_advance 197 = .ok (.dup, 1) := by decide +kernel
theorem dX5_advance_198 : decode cX5_advance 198 = .ok (.getfield 22, 3) := by decide +kernel
theorem dX5_advance_201 : decode cX5_advance 201 = .ok (.iconst 1, 1) := by decide +kernel
theorem dX5_advance_202 : decode cX5_advance 202 = .ok (.iadd, 1) := by decide +kernel
theorem dX5_advance_203 : decode cX5_advance 203 = .ok (.putfield 22, 3) := by decide +kernel
theorem dX5_advance_206 : decode cX5_advance 206 = .ok (.return_, 1) := by decide +kernel
set_option maxRecDepth 20000 in
theorem ggX5_skipLetters_X8_byteAt : GoodIn wsX5_skipLetters wsX8_byteAt := goodIn_r _ [8, 9, 10, 20, 21] rfl rfl
set_option maxRecDepth 20000 in
theorem gX5_skipLetters_X8_byteAt : GoodIn wsX5_skipLetters (wsV RX5 38 RX8 yX8_byteAt wsX8_byteAt) := goodIn_app (goodIn_of _ (by decide +kernel)) ggX5_skipLetters_X8_byteAt
set_option maxRecDepth 20000 in
theorem ggX5_skipLetters_X5_isLetter : GoodIn wsX5_skipLetters wsX5_isLetter := goodIn_r _ [14] rfl rfl
set_option maxRecDepth 20000 in
theorem gX5_skipLetters_X5_isLetter : GoodIn wsX5_skipLetters (va_wsS RX5 49 yX5_isLetter wsX5_isLetter) := goodIn_app (goodIn_of _ (by decide +kernel)) ggX5_skipLetters_X5_isLetter
theorem dX5_skipLetters_0 : decode cX5_skipLetters 0 = .ok (.aload_n 0, 1) := by decide +kernel
theorem dX5_skipLetters_1 : decode cX5_skipLetters 1 = .ok (.getfield 22, 3) := by decide +kernel
theorem dX5_skipLetters_4 : decode cX5_skipLetters 4 = .ok (.aload_n 0, 1) := by decide +kernel
theorem dX5_skipLetters_5 : decode cX5_skipLetters 5 = .ok (.getfield 12, 3) := by decide +kernel
theorem dX5_skipLetters_8 : decode cX5_skipLetters 8 = .ok (.getfield 35, 3) := by decide +kernel
theorem dX5_skipLetters_11 : decode cX5_skipLetters 11 = .ok (.if_icmp .ge 33, 3) := by decide +kernel
theorem dX5_skipLetters_14 : decode cX5_skipLetters 14 = .ok (.aload_n 0, 1) := by decide +kernel
theorem dX5_skipLetters_15 : decode cX5_skipLetters 15 = .ok (.getfield 12, 3) := by decide +kernel
theorem dX5_skipLetters_18 : decode cX5_skipLetters 18 = .ok (.aload_n 0, 1) := by decide +kernel
theorem dX5_skipLetters_19 : decode cX5_skipLetters 19 = .ok (.getfield 22, 3) := by decide +kernel
theorem dX5_skipLetters_22 : decode cX5_skipLetters 22 = .ok (.invokevirtual 38, 3) := by decide +kernel
theorem dX5_skipLetters_25 : decode cX5_skipLetters 25 = .ok (.invokestatic 49, 3) := by decide +kernel
theorem dX5_skipLetters_28 : decode cX5_skipLetters 28 = .ok (.ifCond .eq 16, 3) := by decide +kernel
theorem dX5_skipLetters_31 : decode cX5_skipLetters 31 = .ok (.aload_n 0, 1) := by decide +kernel
theorem dX5_skipLetters_32 : decode cX5_skipLetters 32 = .ok (.dup, 1) := by decide +kernel
theorem dX5_skipLetters_33 : decode cX5_skipLetters 33 = .ok (.getfield 22, 3) := by decide +kernel
theorem dX5_skipLetters_36 : decode cX5_skipLetters 36 = .ok (.iconst 1, 1) := by decide +kernel
theorem dX5_skipLetters_37 : decode cX5_skipLetters 37 = .ok (.iadd, 1) := by decide +kernel
theorem dX5_skipLetters_38 : decode cX5_skipLetters 38 = .ok (.putfield 22, 3) := by decide +kernel
theorem dX5_skipLetters_41 : decode cX5_skipLetters 41 = .ok (.goto (-41), 3) := by decide +kernel
theorem dX5_skipLetters_44 : decode cX5_skipLetters 44 = .ok (.return_, 1) := by decide +kernel
set_option maxRecDepth 20000 in
theorem ggX5_takeDigits_X8_byteAt : GoodIn wsX5_takeDigits wsX8_byteAt := goodIn_r _ [10, 11, 12, 22, 23] rfl rfl
set_option maxRecDepth 20000 in
theorem gX5_takeDigits_X8_byteAt : GoodIn wsX5_takeDigits (wsV RX5 38 RX8 yX8_byteAt wsX8_byteAt) := goodIn_app (goodIn_of _ (by decide +kernel)) ggX5_takeDigits_X8_byteAt
set_option maxRecDepth 20000 in
theorem ggX5_takeDigits_X5_isDigit : GoodIn wsX5_takeDigits wsX5_isDigit := goodIn_r _ [16] rfl rfl
set_option maxRecDepth 20000 in
theorem gX5_takeDigits_X5_isDigit : GoodIn wsX5_takeDigits (va_wsS RX5 55 yX5_isDigit wsX5_isDigit) := goodIn_app (goodIn_of _ (by decide +kernel)) ggX5_takeDigits_X5_isDigit
theorem dX5_takeDigits_0 : decode cX5_takeDigits 0 = .ok (.aload_n 0, 1) := by decide +kernel
theorem dX5_takeDigits_1 : decode cX5_takeDigits 1 = .ok (.iconst 0, 1) := by decide +kernel
theorem dX5_takeDigits_2 : decode cX5_takeDigits 2 = .ok (.putfield 32, 3) := by decide +kernel
theorem dX5_takeDigits_5 : decode cX5_takeDigits 5 = .ok (.aload_n 0, 1) := by decide +kernel
theorem dX5_takeDigits_6 : decode cX5_takeDigits 6 = .ok (.getfield 22, 3) := by decide +kernel
theorem dX5_takeDigits_9 : decode cX5_takeDigits 9 = .ok (.aload_n 0, 1) := by decide +kernel
theorem dX5_takeDigits_10 : decode cX5_takeDigits 10 = .ok (.getfield 12, 3) := by decide +kernel
theorem dX5_takeDigits_13 : decode cX5_takeDigits 13 = .ok (.getfield 35, 3) := by decide +kernel
theorem dX5_takeDigits_16 : decode cX5_takeDigits 16 = .ok (.if_icmp .ge 72, 3) := by decide +kernel
theorem dX5_takeDigits_19 : decode cX5_takeDigits 19 = .ok (.aload_n 0, 1) := by decide +kernel
theorem dX5_takeDigits_20 : decode cX5_takeDigits 20 = .ok (.getfield 12, 3) := by decide +kernel
theorem dX5_takeDigits_23 : decode cX5_takeDigits 23 = .ok (.aload_n 0, 1) := by decide +kernel
theorem dX5_takeDigits_24 : decode cX5_takeDigits 24 = .ok (.getfield 22, 3) := by decide +kernel
theorem dX5_takeDigits_27 : decode cX5_takeDigits 27 = .ok (.invokevirtual 38, 3) := by decide +kernel
theorem dX5_takeDigits_30 : decode cX5_takeDigits 30 = .ok (.invokestatic 55, 3) := by decide +kernel
theorem dX5_takeDigits_33 : decode cX5_takeDigits 33 = .ok (.ifCond .eq 55, 3) := by decide +kernel
theorem dX5_takeDigits_36 : decode cX5_takeDigits 36 = .ok (.aload_n 0, 1) := by decide +kernel
theorem dX5_takeDigits_37 : decode cX5_takeDigits 37 = .ok (.getfield 22, 3) := by decide +kernel
theorem dX5_takeDigits_40 : decode cX5_takeDigits 40 = .ok (.aload_n 0, 1) := by decide +kernel
theorem dX5_takeDigits_41 : decode cX5_takeDigits 41 = .ok (.getfield 46, 3) := by decide +kernel
theorem dX5_takeDigits_44 : decode cX5_takeDigits 44 = .ok (.isub, 1) := by decide +kernel
theorem dX5_takeDigits_45 : decode cX5_takeDigits 45 = .ok (.iconst 3, 1) := by decide +kernel
theorem dX5_takeDigits_46 : decode cX5_takeDigits 46 = .ok (.if_icmp .ge 29, 3) := by decide +kernel
theorem dX5_takeDigits_49 : decode cX5_takeDigits 49 = .ok (.aload_n 0, 1) := by decide +kernel
theorem dX5_takeDigits_50 : decode cX5_takeDigits 50 = .ok (.aload_n 0, 1) := by decide +kernel
theorem dX5_takeDigits_51 : decode cX5_takeDigits 51 = .ok (.getfield 32, 3) := by decide +kernel
theorem dX5_takeDigits_54 : decode cX5_takeDigits 54 = .ok (.bipush 10, 2) := by decide +kernel
theorem dX5_takeDigits_56 : decode cX5_takeDigits 56 = .ok (.imul, 1) := by decide +kernel
theorem dX5_takeDigits_57 : decode cX5_takeDigits 57 = .ok (.aload_n 0, 1) := by decide +kernel
theorem dX5_takeDigits_58 : decode cX5_takeDigits 58 = .ok (.getfield 12, 3) := by decide +kernel
theorem dX5_takeDigits_61 : decode cX5_takeDigits 61 = .ok (.aload_n 0, 1) := by decide +kernel
theorem dX5_takeDigits_62 : decode cX5_takeDigits 62 = .ok (.getfield 22, 3) := by decide +kernel
theorem dX5_takeDigits_65 : decode cX5_takeDigits 65 = .ok (.invokevirtual 38, 3) := by decide +kernel
theorem dX5_takeDigits_68 : decode cX5_takeDigits 68 = .ok (.iadd, 1) := by decide +kernel
theorem dX5_takeDigits_69 : decode cX5_takeDigits 69 = .ok (.bipush 48, 2) := by decide +kernel
theorem dX5_takeDigits_71 : decode cX5_takeDigits 71 = .ok (.isub, 1) := by decide +kernel
theorem dX5_takeDigits_72 : decode cX5_takeDigits 72 = .ok (.putfield 32, 3) := by decide +kernel
theorem dX5_takeDigits_75 : decode cX5_takeDigits 75 = .ok (.aload_n 0, 1) := by decide +kernel
theorem dX5_takeDigits_76 : decode cX5_takeDigits 76 = .ok (.dup, 1) := by decide +kernel
theorem dX5_takeDigits_77 : decode cX5_takeDigits 77 = .ok (.getfield 22, 3) := by decide +kernel
theorem dX5_takeDigits_80 : decode cX5_takeDigits 80 = .ok (.iconst 1, 1) := by decide +kernel
theorem dX5_takeDigits_81 : decode cX5_takeDigits 81 = .ok (.iadd, 1) := by decide +kernel
theorem dX5_takeDigits_82 : decode cX5_takeDigits 82 = .ok (.putfield 22, 3) := by decide +kernel
theorem dX5_takeDigits_85 : decode cX5_takeDigits 85 = .ok (.goto (-80), 3) := by decide +kernel
theorem dX5_takeDigits_88 : decode cX5_takeDigits 88 = .ok (.return_, 1) := by decide +kernel
set_option maxRecDepth 20000 in
theorem ggX5_wordAhead_X5_isWord : GoodIn wsX5_wordAhead wsX5_isWord := goodIn_r _ [5, 6, 7, 8, 9, 10, 11, 12, 13, 14, 15, 16, 17, 18, 19, 20, 21, 22, 23, 24, 25, 26, 27, 28, 29, 30, 31, 32, 33, 34, 35, 36, 37, 38, 39, 40, 41, 42, 43, 44, 45, 46, 47, 48, 49, 50, 51, 52, 53, 54, 55, 56, 57, 58, 59, 60, 61, 62, 63, 64, 65, 66, 67, 68, 69, 70, 71] rfl rfl
set_option maxRecDepth 20000 in
theorem gX5_wordAhead_X5_isWord : GoodIn wsX5_wordAhead (wsV RX5 63 RX5 yX5_isWord wsX5_isWord) := goodIn_app (goodIn_of _ (by decide +kernel)) ggX5_wordAhead_X5_isWord
theorem dX5_wordAhead_0 : decode cX5_wordAhead 0 = .ok (.aload_n 0, 1) := by decide +kernel
theorem dX5_wordAhead_1 : decode cX5_wordAhead 1 = .ok (.ldc 61, 2) := by decide +kernel
theorem dX5_wordAhead_3 : decode cX5_wordAhead 3 = .ok (.invokevirtual 63, 3) := by decide +kernel
theorem dX5_wordAhead_6 : decode cX5_wordAhead 6 = .ok (.ifCond .eq 5, 3) := by decide +kernel
theorem dX5_wordAhead_9 : decode cX5_wordAhead 9 = .ok (.iconst 1, 1) := by decide +kernel
theorem dX5_wordAhead_10 : decode cX5_wordAhead 10 = .ok (.ireturn, 1) := by decide +kernel
theorem dX5_wordAhead_11 : decode cX5_wordAhead 11 = .ok (.aload_n 0, 1) := by decide +kernel
theorem dX5_wordAhead_12 : decode cX5_wordAhead 12 = .ok (.ldc 67, 2) := by decide +kernel
theorem dX5_wordAhead_14 : decode cX5_wordAhead 14 = .ok (.invokevirtual 63, 3) := by decide +kernel
theorem dX5_wordAhead_17 : decode cX5_wordAhead 17 = .ok (.ifCond .eq 5, 3) := by decide +kernel
theorem dX5_wordAhead_20 : decode cX5_wordAhead 20 = .ok (.iconst 2, 1) := by decide +kernel
theorem dX5_wordAhead_21 : decode cX5_wordAhead 21 = .ok (.ireturn, 1) := by decide +kernel
theorem dX5_wordAhead_22 : decode cX5_wordAhead 22 = .ok (.aload_n 0, 1) := by decide +kernel
theorem dX5_wordAhead_23 : decode cX5_wordAhead 23 = .ok (.ldc 69, 2) := by decide +kernel
theorem dX5_wordAhead_25 : decode cX5_wordAhead 25 = .ok (.invokevirtual 63, 3) := by decide +kernel
theorem dX5_wordAhead_28 : decode cX5_wordAhead 28 = .ok (.ifCond .eq 5, 3) := by decide +kernel
theorem dX5_wordAhead_31 : decode cX5_wordAhead 31 = .ok (.iconst 3, 1) := by decide +kernel
theorem dX5_wordAhead_32 : decode cX5_wordAhead 32 = .ok (.ireturn, 1) := by decide +kernel
theorem dX5_wordAhead_33 : decode cX5_wordAhead 33 = .ok (.aload_n 0, 1) := by decide +kernel
theorem dX5_wordAhead_34 : decode cX5_wordAhead 34 = .ok (.ldc 71, 2) := by decide +kernel
theorem dX5_wordAhead_36 : decode cX5_wordAhead 36 = .ok (.invokevirtual 63, 3) := by decide +kernel
theorem dX5_wordAhead_39 : decode cX5_wordAhead 39 = .ok (.ifCond .eq 5, 3) := by decide +kernel
theorem dX5_wordAhead_42 : decode cX5_wordAhead 42 = .ok (.iconst 4, 1) := by decide +kernel
theorem dX5_wordAhead_43 : decode cX5_wordAhead 43 = .ok (.ireturn, 1) := by decide +kernel
theorem dX5_wordAhead_44 : decode cX5_wordAhead 44 = .ok (.aload_n 0, 1) := by decide +kernel
theorem dX5_wordAhead_45 : decode cX5_wordAhead 45 = .ok (.ldc 73, 2) := by decide +kernel
theorem dX5_wordAhead_47 : decode cX5_wordAhead 47 = .ok (.invokevirtual 63, 3) := by decide +kernel
theorem dX5_wordAhead_50 : decode cX5_wordAhead 50 = .ok (.ifCond .eq 5, 3) := by decide +kernel
theorem dX5_wordAhead_53 : decode cX5_wordAhead 53 = .ok (.iconst 5, 1) := by decide +kernel
theorem dX5_wordAhead_54 : decode cX5_wordAhead 54 = .ok (.ireturn, 1) := by decide +kernel
theorem dX5_wordAhead_55 : decode cX5_wordAhead 55 = .ok (.aload_n 0, 1) := by decide +kernel
theorem dX5_wordAhead_56 : decode cX5_wordAhead 56 = .ok (.ldc 75, 2) := by decide +kernel
theorem dX5_wordAhead_58 : decode cX5_wordAhead 58 = .ok (.invokevirtual 63, 3) := by decide +kernel
theorem dX5_wordAhead_61 : decode cX5_wordAhead 61 = .ok (.ifCond .eq 6, 3) := by decide +kernel
theorem dX5_wordAhead_64 : decode cX5_wordAhead 64 = .ok (.bipush 6, 2) := by decide +kernel
theorem dX5_wordAhead_66 : decode cX5_wordAhead 66 = .ok (.ireturn, 1) := by decide +kernel
theorem dX5_wordAhead_67 : decode cX5_wordAhead 67 = .ok (.aload_n 0, 1) := by decide +kernel
theorem dX5_wordAhead_68 : decode cX5_wordAhead 68 = .ok (.ldc 77, 2) := by decide +kernel
theorem dX5_wordAhead_70 : decode cX5_wordAhead 70 = .ok (.invokevirtual 63, 3) := by decide +kernel
theorem dX5_wordAhead_73 : decode cX5_wordAhead 73 = .ok (.ifCond .eq 8, 3) := by decide +kernel
theorem dX5_wordAhead_76 : decode cX5_wordAhead 76 = .ok (.bipush 7, 2) := by decide +kernel
theorem dX5_wordAhead_78 : decode cX5_wordAhead 78 = .ok (.goto 4, 3) := by decide +kernel
theorem dX5_wordAhead_81 : decode cX5_wordAhead 81 = .ok (.iconst 0, 1) := by decide +kernel
theorem dX5_wordAhead_82 : decode cX5_wordAhead 82 = .ok (.ireturn, 1) := by decide +kernel
set_option maxRecDepth 20000 in
theorem ggX5_isWord_J0_length_8abf5 : GoodIn wsX5_isWord wsJ0_length_8abf5 := goodIn_r _ [8, 9, 10, 11, 12, 7, 13, 14, 15] rfl rfl
set_option maxRecDepth 20000 in
theorem gX5_isWord_J0_length_8abf5 : GoodIn wsX5_isWord (wsV RX5 79 RJ0 yJ0_length_8abf5 wsJ0_length_8abf5) := goodIn_app (goodIn_of _ (by decide +kernel)) ggX5_isWord_J0_length_8abf5
set_option maxRecDepth 20000 in
theorem ggX5_isWord_X8_byteAt : GoodIn wsX5_isWord wsX8_byteAt := goodIn_r _ [20, 21, 22, 65, 66] rfl rfl
set_option maxRecDepth 20000 in
theorem gX5_isWord_X8_byteAt : GoodIn wsX5_isWord (wsV RX5 38 RX8 yX8_byteAt wsX8_byteAt) := goodIn_app (goodIn_of _ (by decide +kernel)) ggX5_isWord_X8_byteAt
set_option maxRecDepth 20000 in
theorem ggX5_isWord_J0_charAt_5068e : GoodIn wsX5_isWord wsJ0_charAt_5068e := goodIn_r _ [26, 9, 27, 28, 29, 7, 30, 14, 15, 31, 32, 33, 34, 35, 36, 37, 38, 39, 40, 41, 42, 43, 44, 45, 46, 47, 48, 49, 50, 51, 52, 53, 54, 55, 56, 57, 58, 59] rfl rfl
set_option maxRecDepth 20000 in
theorem gX5_isWord_J0_charAt_5068e : GoodIn wsX5_isWord (wsV RX5 84 RJ0 yJ0_charAt_5068e wsJ0_charAt_5068e) := goodIn_app (goodIn_of _ (by decide +kernel)) ggX5_isWord_J0_charAt_5068e
theorem dX5_isWord_0 : decode cX5_isWord 0 = .ok (.aload_n 0, 1) := by decide +kernel
theorem dX5_isWord_1 : decode cX5_isWord 1 = .ok (.getfield 22, 3) := by decide +kernel
theorem dX5_isWord_4 : decode cX5_isWord 4 = .ok (.aload_n 0, 1) := by decide +kernel
theorem dX5_isWord_5 : decode cX5_isWord 5 = .ok (.getfield 46, 3) := by decide +kernel
theorem dX5_isWord_8 : decode cX5_isWord 8 = .ok (.isub, 1) := by decide +kernel
theorem dX5_isWord_9 : decode cX5_isWord 9 = .ok (.aload_n 1, 1) := by decide +kernel
theorem dX5_isWord_10 : decode cX5_isWord 10 = .ok (.invokevirtual 79, 3) := by decide +kernel
theorem dX5_isWord_13 : decode cX5_isWord 13 = .ok (.if_icmp .eq 5, 3) := by decide +kernel
theorem dX5_isWord_16 : decode cX5_isWord 16 = .ok (.iconst 0, 1) := by decide +kernel
theorem dX5_isWord_17 : decode cX5_isWord 17 = .ok (.ireturn, 1) := by decide +kernel
theorem dX5_isWord_18 : decode cX5_isWord 18 = .ok (.iconst 0, 1) := by decide +kernel
theorem dX5_isWord_19 : decode cX5_isWord 19 = .ok (.istore_n 2, 1) := by decide +kernel
theorem dX5_isWord_20 : decode cX5_isWord 20 = .ok (.iload_n 2, 1) := by decide +kernel
theorem dX5_isWord_21 : decode cX5_isWord 21 = .ok (.aload_n 1, 1) := by decide +kernel
theorem dX5_isWord_22 : decode cX5_isWord 22 = .ok (.invokevirtual 79, 3) := by decide +kernel
theorem dX5_isWord_25 : decode cX5_isWord 25 = .ok (.if_icmp .ge 32, 3) := by decide +kernel
theorem dX5_isWord_28 : decode cX5_isWord 28 = .ok (.aload_n 0, 1) := by decide +kernel
theorem dX5_isWord_29 : decode cX5_isWord 29 = .ok (.getfield 12, 3) := by decide +kernel
theorem dX5_isWord_32 : decode cX5_isWord 32 = .ok (.aload_n 0, 1) := by decide +kernel
theorem dX5_isWord_33 : decode cX5_isWord 33 = .ok (.getfield 46, 3) := by decide +kernel
theorem dX5_isWord_36 : decode cX5_isWord 36 = .ok (.iload_n 2, 1) := by decide +kernel
theorem dX5_isWord_37 : decode cX5_isWord 37 = .ok (.iadd, 1) := by decide +kernel
theorem dX5_isWord_38 : decode cX5_isWord 38 = .ok (.invokevirtual 38, 3) := by decide +kernel
theorem dX5_isWord_41 : decode cX5_isWord 41 = .ok (.aload_n 1, 1) := by decide +kernel
theorem dX5_isWord_42 : decode cX5_isWord 42 = .ok (.iload_n 2, 1) := by decide +kernel
theorem dX5_isWord_43 : decode cX5_isWord 43 = .ok (.invokevirtual 84, 3) := by decide +kernel
theorem dX5_isWord_46 : decode cX5_isWord 46 = .ok (.if_icmp .eq 5, 3) := by decide +kernel
theorem dX5_isWord_49 : decode cX5_isWord 49 = .ok (.iconst 0, 1) := by decide +kernel
theorem dX5_isWord_50 : decode cX5_isWord 50 = .ok (.ireturn, 1) := by decide +kernel
theorem dX5_isWord_51 : decode cX5_isWord 51 = .ok (.iinc 2 1, 3) := by decide +kernel
theorem dX5_isWord_54 : decode cX5_isWord 54 = .ok (.goto (-34), 3) := by decide +kernel
theorem dX5_isWord_57 : decode cX5_isWord 57 = .ok (.iconst 1, 1) := by decide +kernel
theorem dX5_isWord_58 : decode cX5_isWord 58 = .ok (.ireturn, 1) := by decide +kernel
theorem dX5_isBlank_0 : decode cX5_isBlank 0 = .ok (.iload_n 0, 1) := by decide +kernel
theorem dX5_isBlank_1 : decode cX5_isBlank 1 = .ok (.bipush 32, 2) := by decide +kernel
theorem dX5_isBlank_3 : decode cX5_isBlank 3 = .ok (.if_icmp .eq 9, 3) := by decide +kernel
theorem dX5_isBlank_6 : decode cX5_isBlank 6 = .ok (.iload_n 0, 1) := by decide +kernel
theorem dX5_isBlank_7 : decode cX5_isBlank 7 = .ok (.bipush 10, 2) := by decide +kernel
theorem dX5_isBlank_9 : decode cX5_isBlank 9 = .ok (.if_icmp .ne 7, 3) := by decide +kernel
theorem dX5_isBlank_12 : decode cX5_isBlank 12 = .ok (.iconst 1, 1) := by decide +kernel
theorem dX5_isBlank_13 : decode cX5_isBlank 13 = .ok (.goto 4, 3) := by decide +kernel
theorem dX5_isBlank_16 : decode cX5_isBlank 16 = .ok (.iconst 0, 1) := by decide +kernel
theorem dX5_isBlank_17 : decode cX5_isBlank 17 = .ok (.ireturn, 1) := by decide +kernel
theorem dX5_isLetter_0 : decode cX5_isLetter 0 = .ok (.iload_n 0, 1) := by decide +kernel
theorem dX5_isLetter_1 : decode cX5_isLetter 1 = .ok (.bipush 97, 2) := by decide +kernel
theorem dX5_isLetter_3 : decode cX5_isLetter 3 = .ok (.if_icmp .lt 13, 3) := by decide +kernel
theorem dX5_isLetter_6 : decode cX5_isLetter 6 = .ok (.iload_n 0, 1) := by decide +kernel
theorem dX5_isLetter_7 : decode cX5_isLetter 7 = .ok (.bipush 122, 2) := by decide +kernel
theorem dX5_isLetter_9 : decode cX5_isLetter 9 = .ok (.if_icmp .gt 7, 3) := by decide +kernel
theorem dX5_isLetter_12 : decode cX5_isLetter 12 = .ok (.iconst 1, 1) := by decide +kernel
theorem dX5_isLetter_13 : decode cX5_isLetter 13 = .ok (.goto 4, 3) := by decide +kernel
theorem dX5_isLetter_16 : decode cX5_isLetter 16 = .ok (.iconst 0, 1) := by decide +kernel
theorem dX5_isLetter_17 : decode cX5_isLetter 17 = .ok (.ireturn, 1) := by decide +kernel
theorem dX5_isDigit_0 : decode cX5_isDigit 0 = .ok (.iload_n 0, 1) := by decide +kernel
theorem dX5_isDigit_1 : decode cX5_isDigit 1 = .ok (.bipush 48, 2) := by decide +kernel
theorem dX5_isDigit_3 : decode cX5_isDigit 3 = .ok (.if_icmp .lt 13, 3) := by decide +kernel
theorem dX5_isDigit_6 : decode cX5_isDigit 6 = .ok (.iload_n 0, 1) := by decide +kernel
theorem dX5_isDigit_7 : decode cX5_isDigit 7 = .ok (.bipush 57, 2) := by decide +kernel
theorem dX5_isDigit_9 : decode cX5_isDigit 9 = .ok (.if_icmp .gt 7, 3) := by decide +kernel
theorem dX5_isDigit_12 : decode cX5_isDigit 12 = .ok (.iconst 1, 1) := by decide +kernel
theorem dX5_isDigit_13 : decode cX5_isDigit 13 = .ok (.goto 4, 3) := by decide +kernel
theorem dX5_isDigit_16 : decode cX5_isDigit 16 = .ok (.iconst 0, 1) := by decide +kernel
theorem dX5_isDigit_17 : decode cX5_isDigit 17 = .ok (.ireturn, 1) := by decide +kernel
set_option maxRecDepth 20000 in
theorem ggX6_init_X1_init : GoodIn wsX6_init wsX1_init := goodIn_r _ [17, 18, 2, 3, 19, 20, 21, 22, 23, 24, 25, 26, 27, 28, 29, 30, 31, 32, 33, 34, 35, 41, 42, 43, 44, 45, 55, 56, 57] rfl rfl
set_option maxRecDepth 20000 in
theorem gX6_init_X1_init : GoodIn wsX6_init (wsX1_init) := ggX6_init_X1_init
set_option maxRecDepth 20000 in
theorem ggX6_init_X8_init : GoodIn wsX6_init wsX8_init := goodIn_r _ [37, 38, 2, 3, 39, 40, 53, 54] rfl rfl
set_option maxRecDepth 20000 in
theorem gX6_init_X8_init_n20 : GoodIn wsX6_init (wsX8_init) := ggX6_init_X8_init
theorem dX6_init_0 : decode cX6_init 0 = .ok (.aload_n 0, 1) := by decide +kernel
theorem dX6_init_1 : decode cX6_init 1 = .ok (.invokespecial 3, 3) := by decide +kernel
theorem dX6_init_4 : decode cX6_init 4 = .ok (.aload_n 0, 1) := by decide +kernel
theorem dX6_init_5 : decode cX6_init 5 = .ok (.new 9, 3) := by decide +kernel
theorem dX6_init_8 : decode cX6_init 8 = .ok (.dup, 1) := by decide +kernel
theorem dX6_init_9 : decode cX6_init 9 = .ok (.invokespecial 11, 3) := by decide +kernel
theorem dX6_init_12 : decode cX6_init 12 = .ok (.putfield 12, 3) := by decide +kernel
theorem dX6_init_15 : decode cX6_init 15 = .ok (.aload_n 0, 1) := by decide +kernel
theorem dX6_init_16 : decode cX6_init 16 = .ok (.new 18, 3) := by decide +kernel
theorem dX6_init_19 : decode cX6_init 19 = .ok (.dup, 1) := by decide +kernel
theorem dX6_init_20 : decode cX6_init 20 = .ok (.invokespecial 20, 3) := by decide +kernel
theorem dX6_init_23 : decode cX6_init 23 = .ok (.putfield 21, 3) := by decide +kernel
theorem dX6_init_26 : decode cX6_init 26 = .ok (.aload_n 0, 1) := by decide +kernel
theorem dX6_init_27 : decode cX6_init 27 = .ok (.iconst (-1), 1) := by decide +kernel
theorem dX6_init_28 : decode cX6_init 28 = .ok (.putfield 25, 3) := by decide +kernel
theorem dX6_init_31 : decode cX6_init 31 = .ok (.aload_n 0, 1) := by decide +kernel
theorem dX6_init_32 : decode cX6_init 32 = .ok (.iconst (-1), 1) := by decide +kernel
theorem dX6_init_33 : decode cX6_init 33 = .ok (.putfield 29, 3) := by decide +kernel
theorem dX6_init_36 : decode cX6_init 36 = .ok (.aload_n 0, 1) := by decide +kernel
theorem dX6_init_37 : decode cX6_init 37 = .ok (.iconst (-1), 1) := by decide +kernel
theorem dX6_init_38 : decode cX6_init 38 = .ok (.putfield 32, 3) := by decide +kernel
theorem dX6_init_41 : decode cX6_init 41 = .ok (.return_, 1) := by decide +kernel
set_option maxRecDepth 20000 in
theorem ggX6_copy_X1_copy : GoodIn wsX6_copy wsX1_copy := goodIn_r _ [12, 13, 14, 15, 16, 17, 18, 19, 20, 36, 37, 38, 39, 40] rfl rfl
set_option maxRecDepth 20000 in
theorem gX6_copy_X1_copy : GoodIn wsX6_copy (wsV RX6 35 RX1 yX1_copy wsX1_copy) := goodIn_app (goodIn_of _ (by decide +kernel)) ggX6_copy_X1_copy
set_option maxRecDepth 20000 in
theorem ggX6_copy_X8_copy : GoodIn wsX6_copy wsX8_copy := goodIn_r _ [25, 26, 27, 28, 17, 18, 19, 41, 42] rfl rfl
set_option maxRecDepth 20000 in
theorem gX6_copy_X8_copy : GoodIn wsX6_copy (wsV RX6 39 RX8 yX8_copy wsX8_copy) := goodIn_app (goodIn_of _ (by decide +kernel)) ggX6_copy_X8_copy
theorem dX6_copy_0 : decode cX6_copy 0 = .ok (.aload_n 0, 1) := by decide +kernel
theorem dX6_copy_1 : decode cX6_copy 1 = .ok (.getfield 12, 3) := by decide +kernel
theorem dX6_copy_4 : decode cX6_copy 4 = .ok (.aload_n 1, 1) := by decide +kernel
theorem dX6_copy_5 : decode cX6_copy 5 = .ok (.getfield 12, 3) := by decide +kernel
theorem dX6_copy_8 : decode cX6_copy 8 = .ok (.invokevirtual 35, 3) := by decide +kernel
theorem dX6_copy_11 : decode cX6_copy 11 = .ok (.aload_n 0, 1) := by decide +kernel
theorem dX6_copy_12 : decode cX6_copy 12 = .ok (.getfield 21, 3) := by decide +kernel
theorem dX6_copy_15 : decode cX6_copy 15 = .ok (.aload_n 1, 1) := by decide +kernel
theorem dX6_copy_16 : decode cX6_copy 16 = .ok (.getfield 21, 3) := by decide +kernel
theorem dX6_copy_19 : decode cX6_copy 19 = .ok (.invokevirtual 39, 3) := by decide +kernel
theorem dX6_copy_22 : decode cX6_copy 22 = .ok (.aload_n 0, 1) := by decide +kernel
theorem dX6_copy_23 : decode cX6_copy 23 = .ok (.aload_n 1, 1) := by decide +kernel
theorem dX6_copy_24 : decode cX6_copy 24 = .ok (.getfield 42, 3) := by decide +kernel
theorem dX6_copy_27 : decode cX6_copy 27 = .ok (.putfield 42, 3) := by decide +kernel
theorem dX6_copy_30 : decode cX6_copy 30 = .ok (.aload_n 0, 1) := by decide +kernel
theorem dX6_copy_31 : decode cX6_copy 31 = .ok (.aload_n 1, 1) := by decide +kernel
theorem dX6_copy_32 : decode cX6_copy 32 = .ok (.getfield 25, 3) := by decide +kernel
theorem dX6_copy_35 : decode cX6_copy 35 = .ok (.putfield 25, 3) := by decide +kernel
theorem dX6_copy_38 : decode cX6_copy 38 = .ok (.aload_n 0, 1) := by decide +kernel
theorem dX6_copy_39 : decode cX6_copy 39 = .ok (.aload_n 1, 1) := by decide +kernel
theorem dX6_copy_40 : decode cX6_copy 40 = .ok (.getfield 45, 3) := by decide +kernel
theorem dX6_copy_43 : decode cX6_copy 43 = .ok (.putfield 45, 3) := by decide +kernel
theorem dX6_copy_46 : decode cX6_copy 46 = .ok (.aload_n 0, 1) := by decide +kernel
theorem dX6_copy_47 : decode cX6_copy 47 = .ok (.aload_n 1, 1) := by decide +kernel
theorem dX6_copy_48 : decode cX6_copy 48 = .ok (.getfield 29, 3) := by decide +kernel
theorem dX6_copy_51 : decode cX6_copy 51 = .ok (.putfield 29, 3) := by decide +kernel
theorem dX6_copy_54 : decode cX6_copy 54 = .ok (.aload_n 0, 1) := by decide +kernel
theorem dX6_copy_55 : decode cX6_copy 55 = .ok (.aload_n 1, 1) := by decide +kernel
theorem dX6_copy_56 : decode cX6_copy 56 = .ok (.getfield 32, 3) := by decide +kernel
theorem dX6_copy_59 : decode cX6_copy 59 = .ok (.putfield 32, 3) := by decide +kernel
theorem dX6_copy_62 : decode cX6_copy 62 = .ok (.return_, 1) := by decide +kernel
set_option maxRecDepth 20000 in
theorem ggX7_init_X1_init : GoodIn wsX7_init wsX1_init := goodIn_r _ [19, 20, 2, 3, 21, 22, 8, 23, 24, 25, 14, 15, 26, 27, 28, 29, 30, 31, 32, 33, 34, 35, 36, 37, 38, 39, 54, 55, 56] rfl rfl
set_option maxRecDepth 20000 in
theorem gX7_init_X1_init : GoodIn wsX7_init (wsX1_init) := ggX7_init_X1_init
set_option maxRecDepth 20000 in
theorem ggX7_init_X3_init : GoodIn wsX7_init wsX3_init := goodIn_r _ [28, 29, 2, 3, 30, 54, 55, 56] rfl rfl
set_option maxRecDepth 20000 in
theorem gX7_init_X3_init_n33 : GoodIn wsX7_init (wsX3_init) := ggX7_init_X3_init
theorem dX7_init_0 : decode cX7_init 0 = .ok (.aload_n 0, 1) := by decide +kernel
theorem dX7_init_1 : decode cX7_init 1 = .ok (.invokespecial 3, 3) := by decide +kernel
theorem dX7_init_4 : decode cX7_init 4 = .ok (.aload_n 0, 1) := by decide +kernel
theorem dX7_init_5 : decode cX7_init 5 = .ok (.new 9, 3) := by decide +kernel
theorem dX7_init_8 : decode cX7_init 8 = .ok (.dup, 1) := by decide +kernel
theorem dX7_init_9 : decode cX7_init 9 = .ok (.invokespecial 11, 3) := by decide +kernel
theorem dX7_init_12 : decode cX7_init 12 = .ok (.putfield 12, 3) := by decide +kernel
theorem dX7_init_15 : decode cX7_init 15 = .ok (.aload_n 0, 1) := by decide +kernel
theorem dX7_init_16 : decode cX7_init 16 = .ok (.bipush 6, 2) := by decide +kernel
theorem dX7_init_18 : decode cX7_init 18 = .ok (.newarray .int, 2) := by decide +kernel
theorem dX7_init_20 : decode cX7_init 20 = .ok (.putfield 18, 3) := by decide +kernel
theorem dX7_init_23 : decode cX7_init 23 = .ok (.aload_n 0, 1) := by decide +kernel
theorem dX7_init_24 : decode cX7_init 24 = .ok (.bipush 6, 2) := by decide +kernel
theorem dX7_init_26 : decode cX7_init 26 = .ok (.newarray .int, 2) := by decide +kernel
theorem dX7_init_28 : decode cX7_init 28 = .ok (.putfield 22, 3) := by decide +kernel
theorem dX7_init_31 : decode cX7_init 31 = .ok (.aload_n 0, 1) := by decide +kernel
theorem dX7_init_32 : decode cX7_init 32 = .ok (.bipush 6, 2) := by decide +kernel
theorem dX7_init_34 : decode cX7_init 34 = .ok (.newarray .int, 2) := by decide +kernel
theorem dX7_init_36 : decode cX7_init 36 = .ok (.putfield 25, 3) := by decide +kernel
theorem dX7_init_39 : decode cX7_init 39 = .ok (.aload_n 0, 1) := by decide +kernel
theorem dX7_init_40 : decode cX7_init 40 = .ok (.bipush 6, 2) := by decide +kernel
theorem dX7_init_42 : decode cX7_init 42 = .ok (.newarray .int, 2) := by decide +kernel
theorem dX7_init_44 : decode cX7_init 44 = .ok (.putfield 28, 3) := by decide +kernel
theorem dX7_init_47 : decode cX7_init 47 = .ok (.aload_n 0, 1) := by decide +kernel
theorem dX7_init_48 : decode cX7_init 48 = .ok (.new 31, 3) := by decide +kernel
theorem dX7_init_51 : decode cX7_init 51 = .ok (.dup, 1) := by decide +kernel
theorem dX7_init_52 : decode cX7_init 52 = .ok (.invokespecial 33, 3) := by decide +kernel
theorem dX7_init_55 : decode cX7_init 55 = .ok (.putfield 34, 3) := by decide +kernel
theorem dX7_init_58 : decode cX7_init 58 = .ok (.return_, 1) := by decide +kernel
set_option maxRecDepth 20000 in
theorem ggX7_run_X1_copy : GoodIn wsX7_run wsX1_copy := goodIn_r _ [17, 18, 19, 20, 21, 22, 23, 24, 25, 150, 151, 152, 153, 154] rfl rfl
set_option maxRecDepth 20000 in
theorem gX7_run_X1_copy : GoodIn wsX7_run (wsV RX7 38 RX1 yX1_copy wsX1_copy) := goodIn_app (goodIn_of _ (by decide +kernel)) ggX7_run_X1_copy
set_option maxRecDepth 20000 in
theorem ggX7_run_X1_allColumns : GoodIn wsX7_run wsX1_allColumns := goodIn_r _ [29, 19, 150, 151, 152, 153, 154] rfl rfl
set_option maxRecDepth 20000 in
theorem gX7_run_X1_allColumns : GoodIn wsX7_run (wsV RX7 56 RX1 yX1_allColumns wsX1_allColumns) := goodIn_app (goodIn_of _ (by decide +kernel)) ggX7_run_X1_allColumns
set_option maxRecDepth 20000 in
theorem ggX7_run_X7_choose : GoodIn wsX7_run wsX7_choose := goodIn_r _ [34, 7, 10, 1, 4, 35, 36, 37, 38, 33, 39, 5, 6, 40, 41, 42, 16, 43, 20, 44, 45, 46, 47, 48, 49, 50, 51, 52, 53, 54, 55, 56, 57, 58, 59, 19, 60, 61, 62, 63, 64, 65, 66, 67, 68, 69, 70, 71, 18, 72, 73, 74, 75, 25, 136, 137, 138, 139, 140, 141, 142, 143, 144, 145, 146, 147, 148, 149, 150, 151, 152, 153, 154] rfl rfl
set_option maxRecDepth 20000 in
theorem gX7_run_X7_choose : GoodIn wsX7_run (wsV RX7 63 RX7 yX7_choose wsX7_choose) := goodIn_app (goodIn_of _ (by decide +kernel)) ggX7_run_X7_choose
set_option maxRecDepth 20000 in
theorem ggX7_run_X7_weightOf : GoodIn wsX7_run wsX7_weightOf := goodIn_r _ [55, 1, 6, 5, 56, 57, 58, 16, 59, 19, 60, 41, 42, 43, 20, 61, 62, 63, 64, 65, 66, 67, 68, 69, 70, 71, 18, 136, 137, 138, 139, 140, 141, 142, 143, 144, 145, 146, 147, 148, 149, 150, 151, 152, 153, 154] rfl rfl
set_option maxRecDepth 20000 in
theorem gX7_run_X7_weightOf : GoodIn wsX7_run (wsV RX7 73 RX7 yX7_weightOf wsX7_weightOf) := goodIn_app (goodIn_of _ (by decide +kernel)) ggX7_run_X7_weightOf
set_option maxRecDepth 20000 in
theorem ggX7_run_X7_isLive : GoodIn wsX7_run wsX7_isLive := goodIn_r _ [39, 5, 6, 1, 40, 41, 42, 16, 43, 20, 136, 137, 138, 139, 140, 141, 142, 143, 144, 145, 146, 147, 148, 149, 150, 151, 152, 153, 154] rfl rfl
set_option maxRecDepth 20000 in
theorem gX7_run_X7_isLive : GoodIn wsX7_run (wsV RX7 77 RX7 yX7_isLive wsX7_isLive) := goodIn_app (goodIn_of _ (by decide +kernel)) ggX7_run_X7_isLive
set_option maxRecDepth 20000 in
theorem ggX7_run_X7_clearRow : GoodIn wsX7_run wsX7_clearRow := goodIn_r _ [79, 1, 80, 10, 7, 81, 82, 83, 3, 84, 85, 56, 57, 58, 16, 59, 19, 60, 41, 42, 43, 20, 86, 87, 88, 89, 90, 91, 92, 93, 94, 95, 73, 74, 75, 25, 40, 72, 96, 97, 98, 99, 100, 101, 102, 103, 104, 105, 106, 107, 108, 109, 110, 111, 112, 113, 114, 115, 116, 117, 118, 119, 120, 121, 122, 123, 124, 125, 126, 127, 128, 129, 130, 131, 132, 133, 134, 135, 26, 27, 28, 29, 61, 62, 63, 64, 65, 66, 67, 136, 137, 138, 139, 140, 141, 142, 143, 144, 145, 146, 147, 148, 149, 155, 156, 157, 150, 151, 152, 153, 154] rfl rfl
set_option maxRecDepth 20000 in
theorem gX7_run_X7_clearRow : GoodIn wsX7_run (wsV RX7 81 RX7 yX7_clearRow wsX7_clearRow) := goodIn_app (goodIn_of _ (by decide +kernel)) ggX7_run_X7_clearRow
theorem dX7_run_0 : decode cX7_run 0 = .ok (.aload_n 0, 1) := by decide +kernel
theorem dX7_run_1 : decode cX7_run 1 = .ok (.getfield 12, 3) := by decide +kernel
theorem dX7_run_4 : decode cX7_run 4 = .ok (.aload_n 1, 1) := by decide +kernel
theorem dX7_run_5 : decode cX7_run 5 = .ok (.invokevirtual 38, 3) := by decide +kernel
theorem dX7_run_8 : decode cX7_run 8 = .ok (.aload_n 0, 1) := by decide +kernel
theorem dX7_run_9 : decode cX7_run 9 = .ok (.iconst 0, 1) := by decide +kernel
theorem dX7_run_10 : decode cX7_run 10 = .ok (.putfield 42, 3) := by decide +kernel
theorem dX7_run_13 : decode cX7_run 13 = .ok (.aload_n 0, 1) := by decide +kernel
theorem dX7_run_14 : decode cX7_run 14 = .ok (.iconst 0, 1) := by decide +kernel
theorem dX7_run_15 : decode cX7_run 15 = .ok (.putfield 46, 3) := by decide +kernel
theorem dX7_run_18 : decode cX7_run 18 = .ok (.aload_n 0, 1) := by decide +kernel
theorem dX7_run_19 : decode cX7_run 19 = .ok (.iconst 1, 1) := by decide +kernel
theorem dX7_run_20 : decode cX7_run 20 = .ok (.aload_n 0, 1) := by decide +kernel
theorem dX7_run_21 : decode cX7_run 21 = .ok (.getfield 12, 3) := by decide +kernel
theorem dX7_run_24 : decode cX7_run 24 = .ok (.getfield 50, 3) := by decide +kernel
theorem dX7_run_27 : decode cX7_run 27 = .ok (.ishl, 1) := by decide +kernel
theorem dX7_run_28 : decode cX7_run 28 = .ok (.iconst 1, 1) := by decide +kernel
theorem dX7_run_29 : decode cX7_run 29 = .ok (.isub, 1) := by decide +kernel
theorem dX7_run_30 : decode cX7_run 30 = .ok (.putfield 53, 3) := by decide +kernel
theorem dX7_run_33 : decode cX7_run 33 = .ok (.aload_n 0, 1) := by decide +kernel
theorem dX7_run_34 : decode cX7_run 34 = .ok (.aload_n 0, 1) := by decide +kernel
theorem dX7_run_35 : decode cX7_run 35 = .ok (.getfield 12, 3) := by decide +kernel
theorem dX7_run_38 : decode cX7_run 38 = .ok (.invokevirtual 56, 3) := by decide +kernel
theorem dX7_run_41 : decode cX7_run 41 = .ok (.putfield 60, 3) := by decide +kernel
theorem dX7_run_44 : decode cX7_run 44 = .ok (.iconst 0, 1) := by decide +kernel
theorem dX7_run_45 : decode cX7_run 45 = .ok (.istore_n 3, 1) := by decide +kernel
theorem dX7_run_46 : decode cX7_run 46 = .ok (.iload_n 3, 1) := by decide +kernel
theorem dX7_run_47 : decode cX7_run 47 = .ok (.bipush 6, 2) := by decide +kernel
theorem dX7_run_49 : decode cX7_run 49 = .ok (.if_icmp .ge 183, 3) := by decide +kernel
theorem dX7_run_52 : decode cX7_run 52 = .ok (.aload_n 0, 1) := by decide +kernel
theorem dX7_run_53 : decode cX7_run 53 = .ok (.getfield 46, 3) := by decide +kernel
theorem dX7_run_56 : decode cX7_run 56 = .ok (.ifCond .ne 176, 3) := by decide +kernel
theorem dX7_run_59 : decode cX7_run 59 = .ok (.aload_n 0, 1) := by decide +kernel
theorem dX7_run_60 : decode cX7_run 60 = .ok (.iload_n 2, 1) := by decide +kernel
theorem dX7_run_61 : decode cX7_run 61 = .ok (.invokevirtual 63, 3) := by decide +kernel
theorem dX7_run_64 : decode cX7_run 64 = .ok (.aload_n 0, 1) := by decide +kernel
theorem dX7_run_65 : decode cX7_run 65 = .ok (.getfield 67, 3) := by decide +kernel
theorem dX7_run_68 : decode cX7_run 68 = .ok (.iconst (-1), 1) := by decide +kernel
theorem dX7_run_69 : decode cX7_run 69 = .ok (.if_icmp .ne 6, 3) := by decide +kernel
theorem dX7_run_72 : decode cX7_run 72 = .ok (.goto 160, 3) := by decide +kernel
theorem dX7_run_75 : decode cX7_run 75 = .ok (.aload_n 0, 1) := by decide +kernel
theorem dX7_run_76 : decode cX7_run 76 = .ok (.getfield 18, 3) := by decide +kernel
theorem dX7_run_79 : decode cX7_run 79 = .ok (.iload_n 3, 1) := by decide +kernel
theorem dX7_run_80 : decode cX7_run 80 = .ok (.aload_n 0, 1) := by decide +kernel
theorem dX7_run_81 : decode cX7_run 81 = .ok (.getfield 67, 3) := by decide +kernel
theorem dX7_run_84 : decode cX7_run 84 = .ok (.iastore, 1) := by decide +kernel
theorem dX7_run_85 : decode cX7_run 85 = .ok (.aload_n 0, 1) := by decide +kernel
theorem dX7_run_86 : decode cX7_run 86 = .ok (.getfield 22, 3) := by decide +kernel
theorem dX7_run_89 : decode cX7_run 89 = .ok (.iload_n 3, 1) := by decide +kernel
theorem dX7_run_90 : decode cX7_run 90 = .ok (.aload_n 0, 1) := by decide +kernel
theorem dX7_run_91 : decode cX7_run 91 = .ok (.getfield 70, 3) := by decide +kernel
theorem dX7_run_94 : decode cX7_run 94 = .ok (.iastore, 1) := by decide +kernel
theorem dX7_run_95 : decode cX7_run 95 = .ok (.aload_n 0, 1) := by decide +kernel
theorem dX7_run_96 : decode cX7_run 96 = .ok (.getfield 28, 3) := by decide +kernel
theorem dX7_run_99 : decode cX7_run 99 = .ok (.iload_n 3, 1) := by decide +kernel
theorem dX7_run_100 : decode cX7_run 100 = .ok (.aload_n 0, 1) := by decide +kernel
theorem dX7_run_101 : decode cX7_run 101 = .ok (.aload_n 0, 1) := by decide +kernel
theorem dX7_run_102 : decode cX7_run 102 = .ok (.getfield 67, 3) := by decide +kernel
theorem dX7_run_105 : decode cX7_run 105 = .ok (.aload_n 0, 1) := by decide +kernel
theorem dX7_run_106 : decode cX7_run 106 = .ok (.getfield 70, 3) := by decide +kernel
theorem dX7_run_109 : decode cX7_run 109 = .ok (.invokevirtual 73, 3) := by decide +kernel
theorem dX7_run_112 : decode cX7_run 112 = .ok (.iastore, 1) := by decide +kernel
theorem dX7_run_113 : decode cX7_run 113 = .ok (.aload_n 0, 1) := by decide +kernel
theorem dX7_run_114 : decode cX7_run 114 = .ok (.getfield 25, 3) := by decide +kernel
theorem dX7_run_117 : decode cX7_run 117 = .ok (.iload_n 3, 1) := by decide +kernel
theorem dX7_run_118 : decode cX7_run 118 = .ok (.iconst 0, 1) := by decide +kernel
theorem dX7_run_119 : decode cX7_run 119 = .ok (.iastore, 1) := by decide +kernel
theorem dX7_run_120 : decode cX7_run 120 = .ok (.iconst 0, 1) := by decide +kernel
theorem dX7_run_121 : decode cX7_run 121 = .ok (.istore 4, 2) := by decide +kernel
theorem dX7_run_123 : decode cX7_run 123 = .ok (.iload 4, 2) := by decide +kernel
theorem dX7_run_125 : decode cX7_run 125 = .ok (.aload_n 0, 1) := by decide +kernel
theorem dX7_run_126 : decode cX7_run 126 = .ok (.getfield 12, 3) := by decide +kernel
theorem dX7_run_129 : decode cX7_run 129 = .ok (.getfield 50, 3) := by decide +kernel
theorem dX7_run_132 : decode cX7_run 132 = .ok (.if_icmp .ge 53, 3) := by decide +kernel
theorem dX7_run_135 : decode cX7_run 135 = .ok (.aload_n 0, 1) := by decide +kernel
theorem dX7_run_136 : decode cX7_run 136 = .ok (.getfield 46, 3) := by decide +kernel
theorem dX7_run_139 : decode cX7_run 139 = .ok (.ifCond .ne 46, 3) := by decide +kernel
theorem dX7_run_142 : decode cX7_run 142 = .ok (.iload 4, 2) := by decide +kernel
theorem dX7_run_144 : decode cX7_run 144 = .ok (.aload_n 0, 1) := by decide +kernel
theorem dX7_run_145 : decode cX7_run 145 = .ok (.getfield 67, 3) := by decide +kernel
theorem dX7_run_148 : decode cX7_run 148 = .ok (.if_icmp .eq 31, 3) := by decide +kernel
theorem dX7_run_151 : decode cX7_run 151 = .ok (.aload_n 0, 1) := by decide +kernel
theorem dX7_run_152 : decode cX7_run 152 = .ok (.iload 4, 2) := by decide +kernel
theorem dX7_run_154 : decode cX7_run 154 = .ok (.aload_n 0, 1) := by decide +kernel
theorem dX7_run_155 : decode cX7_run 155 = .ok (.getfield 70, 3) := by decide +kernel
theorem dX7_run_158 : decode cX7_run 158 = .ok (.invokevirtual 77, 3) := by decide +kernel
theorem dX7_run_161 : decode cX7_run 161 = .ok (.ifCond .eq 18, 3) := by decide +kernel
theorem dX7_run_164 : decode cX7_run 164 = .ok (.aload_n 0, 1) := by decide +kernel
theorem dX7_run_165 : decode cX7_run 165 = .ok (.getfield 25, 3) := by decide +kernel
theorem dX7_run_168 : decode cX7_run 168 = .ok (.iload_n 3, 1) := by decide +kernel
theorem dX7_run_169 : decode cX7_run 169 = .ok (.dup2, 1) := by decide +kernel
theorem dX7_run_170 : decode cX7_run 170 = .ok (.iaload, 1) := by decide +kernel
theorem dX7_run_171 : decode cX7_run 171 = .ok (.aload_n 0, 1) := by decide +kernel
theorem dX7_run_172 : decode cX7_run 172 = .ok (.iload 4, 2) := by decide +kernel
theorem dX7_run_174 : decode cX7_run 174 = .ok (.invokevirtual 81, 3) := by decide +kernel
theorem dX7_run_177 : decode cX7_run 177 = .ok (.iadd, 1) := by decide +kernel
theorem dX7_run_178 : decode cX7_run 178 = .ok (.iastore, 1) := by decide +kernel
theorem dX7_run_179 : decode cX7_run 179 = .ok (.iinc 4 1, 3) := by decide +kernel
theorem dX7_run_182 : decode cX7_run 182 = .ok (.goto (-59), 3) := by decide +kernel
theorem dX7_run_185 : decode cX7_run 185 = .ok (.aload_n 0, 1) := by decide +kernel
theorem dX7_run_186 : decode cX7_run 186 = .ok (.dup, 1) := by decide +kernel
theorem dX7_run_187 : decode cX7_run 187 = .ok (.getfield 53, 3) := by decide +kernel
theorem dX7_run_190 : decode cX7_run 190 = .ok (.iconst 1, 1) := by decide +kernel
theorem dX7_run_191 : decode cX7_run 191 = .ok (.aload_n 0, 1) := by decide +kernel
theorem dX7_run_192 : decode cX7_run 192 = .ok (.getfield 67, 3) := by decide +kernel
theorem dX7_run_195 : decode cX7_run 195 = .ok (.ishl, 1) := by decide +kernel
theorem dX7_run_196 : decode cX7_run 196 = .ok (.iconst (-1), 1) := by decide +kernel
theorem dX7_run_197 : decode cX7_run 197 = .ok (.ixor, 1) := by decide +kernel
theorem dX7_run_198 : decode cX7_run 198 = .ok (.iand, 1) := by decide +kernel
theorem dX7_run_199 : decode cX7_run 199 = .ok (.putfield 53, 3) := by decide +kernel
theorem dX7_run_202 : decode cX7_run 202 = .ok (.aload_n 0, 1) := by decide +kernel
theorem dX7_run_203 : decode cX7_run 203 = .ok (.dup, 1) := by decide +kernel
theorem dX7_run_204 : decode cX7_run 204 = .ok (.getfield 60, 3) := by decide +kernel
theorem dX7_run_207 : decode cX7_run 207 = .ok (.iconst 1, 1) := by decide +kernel
theorem dX7_run_208 : decode cX7_run 208 = .ok (.aload_n 0, 1) := by decide +kernel
theorem dX7_run_209 : decode cX7_run 209 = .ok (.getfield 70, 3) := by decide +kernel
theorem dX7_run_212 : decode cX7_run 212 = .ok (.ishl, 1) := by decide +kernel
theorem dX7_run_213 : decode cX7_run 213 = .ok (.iconst (-1), 1) := by decide +kernel
theorem dX7_run_214 : decode cX7_run 214 = .ok (.ixor, 1) := by decide +kernel
theorem dX7_run_215 : decode cX7_run 215 = .ok (.iand, 1) := by decide +kernel
theorem dX7_run_216 : decode cX7_run 216 = .ok (.putfield 60, 3) := by decide +kernel
theorem dX7_run_219 : decode cX7_run 219 = .ok (.aload_n 0, 1) := by decide +kernel
theorem dX7_run_220 : decode cX7_run 220 = .ok (.iload_n 3, 1) := by decide +kernel
theorem dX7_run_221 : decode cX7_run 221 = .ok (.iconst 1, 1) := by decide +kernel
theorem dX7_run_222 : decode cX7_run 222 = .ok (.iadd, 1) := by decide +kernel
theorem dX7_run_223 : decode cX7_run 223 = .ok (.putfield 42, 3) := by decide +kernel
theorem dX7_run_226 : decode cX7_run 226 = .ok (.iinc 3 1, 3) := by decide +kernel
theorem dX7_run_229 : decode cX7_run 229 = .ok (.goto (-183), 3) := by decide +kernel
theorem dX7_run_232 : decode cX7_run 232 = .ok (.return_, 1) := by decide +kernel
set_option maxRecDepth 20000 in
theorem ggX7_isLive_X1_upperAt : GoodIn wsX7_isLive wsX1_upperAt := goodIn_r _ [8, 9, 24, 25, 26, 27, 28] rfl rfl
set_option maxRecDepth 20000 in
theorem gX7_isLive_X1_upperAt : GoodIn wsX7_isLive (wsV RX7 85 RX1 yX1_upperAt wsX1_upperAt) := goodIn_app (goodIn_of _ (by decide +kernel)) ggX7_isLive_X1_upperAt
theorem dX7_isLive_0 : decode cX7_isLive 0 = .ok (.aload_n 0, 1) := by decide +kernel
theorem dX7_isLive_1 : decode cX7_isLive 1 = .ok (.getfield 53, 3) := by decide +kernel
theorem dX7_isLive_4 : decode cX7_isLive 4 = .ok (.iload_n 1, 1) := by decide +kernel
theorem dX7_isLive_5 : decode cX7_isLive 5 = .ok (.ishr, 1) := by decide +kernel
theorem dX7_isLive_6 : decode cX7_isLive 6 = .ok (.iconst 1, 1) := by decide +kernel
theorem dX7_isLive_7 : decode cX7_isLive 7 = .ok (.iand, 1) := by decide +kernel
theorem dX7_isLive_8 : decode cX7_isLive 8 = .ok (.iconst 1, 1) := by decide +kernel
theorem dX7_isLive_9 : decode cX7_isLive 9 = .ok (.if_icmp .ne 31, 3) := by decide +kernel
theorem dX7_isLive_12 : decode cX7_isLive 12 = .ok (.aload_n 0, 1) := by decide +kernel
theorem dX7_isLive_13 : decode cX7_isLive 13 = .ok (.getfield 60, 3) := by decide +kernel
theorem dX7_isLive_16 : decode cX7_isLive 16 = .ok (.iload_n 2, 1) := by decide +kernel
theorem dX7_isLive_17 : decode cX7_isLive 17 = .ok (.ishr, 1) := by decide +kernel
theorem dX7_isLive_18 : decode cX7_isLive 18 = .ok (.iconst 1, 1) := by decide +kernel
theorem dX7_isLive_19 : decode cX7_isLive 19 = .ok (.iand, 1) := by decide +kernel
theorem dX7_isLive_20 : decode cX7_isLive 20 = .ok (.iconst 1, 1) := by decide +kernel
theorem dX7_isLive_21 : decode cX7_isLive 21 = .ok (.if_icmp .ne 19, 3) := by decide +kernel
theorem dX7_isLive_24 : decode cX7_isLive 24 = .ok (.aload_n 0, 1) := by decide +kernel
theorem dX7_isLive_25 : decode cX7_isLive 25 = .ok (.getfield 12, 3) := by decide +kernel
theorem dX7_isLive_28 : decode cX7_isLive 28 = .ok (.iload_n 1, 1) := by decide +kernel
theorem dX7_isLive_29 : decode cX7_isLive 29 = .ok (.iload_n 2, 1) := by decide +kernel
theorem dX7_isLive_30 : decode cX7_isLive 30 = .ok (.invokevirtual 85, 3) := by decide +kernel
theorem dX7_isLive_33 : decode cX7_isLive 33 = .ok (.ifCond .eq 7, 3) := by decide +kernel
theorem dX7_isLive_36 : decode cX7_isLive 36 = .ok (.iconst 1, 1) := by decide +kernel
theorem dX7_isLive_37 : decode cX7_isLive 37 = .ok (.goto 4, 3) := by decide +kernel
theorem dX7_isLive_40 : decode cX7_isLive 40 = .ok (.iconst 0, 1) := by decide +kernel
theorem dX7_isLive_41 : decode cX7_isLive 41 = .ok (.ireturn, 1) := by decide +kernel
set_option maxRecDepth 20000 in
theorem ggX7_choose_X7_isLive : GoodIn wsX7_choose wsX7_isLive := goodIn_r _ [10, 11, 12, 3, 13, 14, 15, 16, 17, 18, 54, 55, 56, 57, 58, 59, 60, 61, 62, 63, 64, 65, 66, 67, 68, 69, 70, 71, 72] rfl rfl
set_option maxRecDepth 20000 in
theorem gX7_choose_X7_isLive : GoodIn wsX7_choose (wsV RX7 77 RX7 yX7_isLive wsX7_isLive) := goodIn_app (goodIn_of _ (by decide +kernel)) ggX7_choose_X7_isLive
set_option maxRecDepth 20000 in
theorem ggX7_choose_X7_isBetter : GoodIn wsX7_choose wsX7_isBetter := goodIn_r _ [22, 2, 1, 3, 23, 24, 25, 26, 27, 28, 29, 9, 30, 12, 11, 31, 32, 33, 16, 34, 35, 36, 14, 15, 17, 18, 37, 38, 39, 40, 41, 42, 43, 44, 45, 46, 47, 48, 13, 49, 50, 51, 52, 53, 54, 55, 56, 57, 58, 59, 60, 61, 62, 63, 64, 65, 66, 67, 68, 69, 70, 71, 72] rfl rfl
set_option maxRecDepth 20000 in
theorem gX7_choose_X7_isBetter : GoodIn wsX7_choose (wsV RX7 91 RX7 yX7_isBetter wsX7_isBetter) := goodIn_app (goodIn_of _ (by decide +kernel)) ggX7_choose_X7_isBetter
theorem dX7_choose_0 : decode cX7_choose 0 = .ok (.aload_n 0, 1) := by decide +kernel
theorem dX7_choose_1 : decode cX7_choose 1 = .ok (.iconst (-1), 1) := by decide +kernel
theorem dX7_choose_2 : decode cX7_choose 2 = .ok (.putfield 67, 3) := by decide +kernel
theorem dX7_choose_5 : decode cX7_choose 5 = .ok (.aload_n 0, 1) := by decide +kernel
theorem dX7_choose_6 : decode cX7_choose 6 = .ok (.iconst (-1), 1) := by decide +kernel
theorem dX7_choose_7 : decode cX7_choose 7 = .ok (.putfield 70, 3) := by decide +kernel
theorem dX7_choose_10 : decode cX7_choose 10 = .ok (.iconst 0, 1) := by decide +kernel
theorem dX7_choose_11 : decode cX7_choose 11 = .ok (.istore_n 2, 1) := by decide +kernel
theorem dX7_choose_12 : decode cX7_choose 12 = .ok (.iload_n 2, 1) := by decide +kernel
theorem dX7_choose_13 : decode cX7_choose 13 = .ok (.aload_n 0, 1) := by decide +kernel
theorem dX7_choose_14 : decode cX7_choose 14 = .ok (.getfield 12, 3) := by decide +kernel
theorem dX7_choose_17 : decode cX7_choose 17 = .ok (.getfield 50, 3) := by decide +kernel
theorem dX7_choose_20 : decode cX7_choose 20 = .ok (.if_icmp .ge 65, 3) := by decide +kernel
theorem dX7_choose_23 : decode cX7_choose 23 = .ok (.iconst 0, 1) := by decide +kernel
theorem dX7_choose_24 : decode cX7_choose 24 = .ok (.istore_n 3, 1) := by decide +kernel
theorem dX7_choose_25 : decode cX7_choose 25 = .ok (.iload_n 3, 1) := by decide +kernel
theorem dX7_choose_26 : decode cX7_choose 26 = .ok (.aload_n 0, 1) := by decide +kernel
theorem dX7_choose_27 : decode cX7_choose 27 = .ok (.getfield 12, 3) := by decide +kernel
theorem dX7_choose_30 : decode cX7_choose 30 = .ok (.getfield 88, 3) := by decide +kernel
theorem dX7_choose_33 : decode cX7_choose 33 = .ok (.if_icmp .ge 46, 3) := by decide +kernel
theorem dX7_choose_36 : decode cX7_choose 36 = .ok (.aload_n 0, 1) := by decide +kernel
theorem dX7_choose_37 : decode cX7_choose 37 = .ok (.iload_n 2, 1) := by decide +kernel
theorem dX7_choose_38 : decode cX7_choose 38 = .ok (.iload_n 3, 1) := by decide +kernel
theorem dX7_choose_39 : decode cX7_choose 39 = .ok (.invokevirtual 77, 3) := by decide +kernel
theorem dX7_choose_42 : decode cX7_choose 42 = .ok (.ifCond .eq 31, 3) := by decide +kernel
theorem dX7_choose_45 : decode cX7_choose 45 = .ok (.aload_n 0, 1) := by decide +kernel
theorem dX7_choose_46 : decode cX7_choose 46 = .ok (.getfield 67, 3) := by decide +kernel
theorem dX7_choose_49 : decode cX7_choose 49 = .ok (.iconst (-1), 1) := by decide +kernel
theorem dX7_choose_50 : decode cX7_choose 50 = .ok (.if_icmp .eq 13, 3) := by decide +kernel
theorem dX7_choose_53 : decode cX7_choose 53 = .ok (.aload_n 0, 1) := by decide +kernel
theorem dX7_choose_54 : decode cX7_choose 54 = .ok (.iload_n 1, 1) := by decide +kernel
theorem dX7_choose_55 : decode cX7_choose 55 = .ok (.iload_n 2, 1) := by decide +kernel
theorem dX7_choose_56 : decode cX7_choose 56 = .ok (.iload_n 3, 1) := by decide +kernel
theorem dX7_choose_57 : decode cX7_choose 57 = .ok (.invokevirtual 91, 3) := by decide +kernel
theorem dX7_choose_60 : decode cX7_choose 60 = .ok (.ifCond .eq 13, 3) := by decide +kernel
theorem dX7_choose_63 : decode cX7_choose 63 = .ok (.aload_n 0, 1) := by decide +kernel
theorem dX7_choose_64 : decode cX7_choose 64 = .ok (.iload_n 2, 1) := by decide +kernel
theorem dX7_choose_65 : decode cX7_choose 65 = .ok (.putfield 67, 3) := by decide +kernel
theorem dX7_choose_68 : decode cX7_choose 68 = .ok (.aload_n 0, 1) := by decide +kernel
theorem dX7_choose_69 : decode cX7_choose 69 = .ok (.iload_n 3, 1) := by decide +kernel
theorem dX7_choose_70 : decode cX7_choose 70 = .ok (.putfield 70, 3) := by decide +kernel
theorem dX7_choose_73 : decode cX7_choose 73 = .ok (.iinc 3 1, 3) := by decide +kernel
theorem dX7_choose_76 : decode cX7_choose 76 = .ok (.goto (-51), 3) := by decide +kernel
theorem dX7_choose_79 : decode cX7_choose 79 = .ok (.iinc 2 1, 3) := by decide +kernel
theorem dX7_choose_82 : decode cX7_choose 82 = .ok (.goto (-70), 3) := by decide +kernel
theorem dX7_choose_85 : decode cX7_choose 85 = .ok (.return_, 1) := by decide +kernel
set_option maxRecDepth 20000 in
theorem ggX7_isBetter_X7_weightOf : GoodIn wsX7_isBetter wsX7_weightOf := goodIn_r _ [12, 3, 13, 14, 15, 16, 17, 18, 19, 20, 21, 22, 23, 24, 25, 26, 27, 28, 29, 30, 31, 32, 33, 34, 35, 36, 37, 44, 45, 46, 47, 48, 49, 50, 51, 52, 53, 54, 55, 56, 57, 58, 59, 60, 61, 62] rfl rfl
set_option maxRecDepth 20000 in
theorem gX7_isBetter_X7_weightOf : GoodIn wsX7_isBetter (wsV RX7 73 RX7 yX7_weightOf wsX7_weightOf) := goodIn_app (goodIn_of _ (by decide +kernel)) ggX7_isBetter_X7_weightOf
set_option maxRecDepth 20000 in
theorem ggX7_isBetter_X1_upperAt : GoodIn wsX7_isBetter wsX1_upperAt := goodIn_r _ [24, 25, 58, 59, 60, 61, 62] rfl rfl
set_option maxRecDepth 20000 in
theorem gX7_isBetter_X1_upperAt : GoodIn wsX7_isBetter (wsV RX7 85 RX1 yX1_upperAt wsX1_upperAt) := goodIn_app (goodIn_of _ (by decide +kernel)) ggX7_isBetter_X1_upperAt
set_option maxRecDepth 20000 in
theorem ggX7_isBetter_X1_lowerAt : GoodIn wsX7_isBetter wsX1_lowerAt := goodIn_r _ [42, 43, 58, 59, 60, 61, 62] rfl rfl
set_option maxRecDepth 20000 in
theorem gX7_isBetter_X1_lowerAt : GoodIn wsX7_isBetter (wsV RX7 101 RX1 yX1_lowerAt wsX1_lowerAt) := goodIn_app (goodIn_of _ (by decide +kernel)) ggX7_isBetter_X1_lowerAt
theorem dX7_isBetter_0 : decode cX7_isBetter 0 = .ok (.iload_n 1, 1) := by decide +kernel
theorem dX7_isBetter_1 : decode cX7_isBetter 1 = .ok (.ifCond .ne 17, 3) := by decide +kernel
theorem dX7_isBetter_4 : decode cX7_isBetter 4 = .ok (.iload_n 3, 1) := by decide +kernel
theorem dX7_isBetter_5 : decode cX7_isBetter 5 = .ok (.aload_n 0, 1) := by decide +kernel
theorem dX7_isBetter_6 : decode cX7_isBetter 6 = .ok (.getfield 70, 3) := by decide +kernel
theorem dX7_isBetter_9 : decode cX7_isBetter 9 = .ok (.if_icmp .ge 7, 3) := by decide +kernel
theorem dX7_isBetter_12 : decode cX7_isBetter 12 = .ok (.iconst 1, 1) := by decide +kernel
theorem dX7_isBetter_13 : decode cX7_isBetter 13 = .ok (.goto 4, 3) := by decide +kernel
theorem dX7_isBetter_16 : decode cX7_isBetter 16 = .ok (.iconst 0, 1) := by decide +kernel
theorem dX7_isBetter_17 : decode cX7_isBetter 17 = .ok (.ireturn, 1) := by decide +kernel
theorem dX7_isBetter_18 : decode cX7_isBetter 18 = .ok (.iload_n 1, 1) := by decide +kernel
theorem dX7_isBetter_19 : decode cX7_isBetter 19 = .ok (.iconst 1, 1) := by decide +kernel
theorem dX7_isBetter_20 : decode cX7_isBetter 20 = .ok (.if_icmp .ne 30, 3) := by decide +kernel
theorem dX7_isBetter_23 : decode cX7_isBetter 23 = .ok (.aload_n 0, 1) := by decide +kernel
theorem dX7_isBetter_24 : decode cX7_isBetter 24 = .ok (.iload_n 2, 1) := by decide +kernel
theorem dX7_isBetter_25 : decode cX7_isBetter 25 = .ok (.iload_n 3, 1) := by decide +kernel
theorem dX7_isBetter_26 : decode cX7_isBetter 26 = .ok (.invokevirtual 73, 3) := by decide +kernel
theorem dX7_isBetter_29 : decode cX7_isBetter 29 = .ok (.aload_n 0, 1) := by decide +kernel
theorem dX7_isBetter_30 : decode cX7_isBetter 30 = .ok (.aload_n 0, 1) := by decide +kernel
theorem dX7_isBetter_31 : decode cX7_isBetter 31 = .ok (.getfield 67, 3) := by decide +kernel
theorem dX7_isBetter_34 : decode cX7_isBetter 34 = .ok (.aload_n 0, 1) := by decide +kernel
theorem dX7_isBetter_35 : decode cX7_isBetter 35 = .ok (.getfield 70, 3) := by decide +kernel
theorem dX7_isBetter_38 : decode cX7_isBetter 38 = .ok (.invokevirtual 73, 3) := by decide +kernel
theorem dX7_isBetter_41 : decode cX7_isBetter 41 = .ok (.if_icmp .ge 7, 3) := by decide +kernel
theorem dX7_isBetter_44 : decode cX7_isBetter 44 = .ok (.iconst 1, 1) := by decide +kernel
theorem dX7_isBetter_45 : decode cX7_isBetter 45 = .ok (.goto 4, 3) := by decide +kernel
theorem dX7_isBetter_48 : decode cX7_isBetter 48 = .ok (.iconst 0, 1) := by decide +kernel
theorem dX7_isBetter_49 : decode cX7_isBetter 49 = .ok (.ireturn, 1) := by decide +kernel
theorem dX7_isBetter_50 : decode cX7_isBetter 50 = .ok (.aload_n 0, 1) := by decide +kernel
theorem dX7_isBetter_51 : decode cX7_isBetter 51 = .ok (.getfield 12, 3) := by decide +kernel
theorem dX7_isBetter_54 : decode cX7_isBetter 54 = .ok (.iload_n 2, 1) := by decide +kernel
theorem dX7_isBetter_55 : decode cX7_isBetter 55 = .ok (.iload_n 3, 1) := by decide +kernel
theorem dX7_isBetter_56 : decode cX7_isBetter 56 = .ok (.invokevirtual 85, 3) := by decide +kernel
theorem dX7_isBetter_59 : decode cX7_isBetter 59 = .ok (.i2l, 1) := by decide +kernel
theorem dX7_isBetter_60 : decode cX7_isBetter 60 = .ok (.invokestatic 95, 3) := by decide +kernel
theorem dX7_isBetter_63 : decode cX7_isBetter 63 = .ok (.lstore 4, 2) := by decide +kernel
theorem dX7_isBetter_65 : decode cX7_isBetter 65 = .ok (.aload_n 0, 1) := by decide +kernel
theorem dX7_isBetter_66 : decode cX7_isBetter 66 = .ok (.getfield 12, 3) := by decide +kernel
theorem dX7_isBetter_69 : decode cX7_isBetter 69 = .ok (.aload_n 0, 1) := by decide +kernel
theorem dX7_isBetter_70 : decode cX7_isBetter 70 = .ok (.getfield 67, 3) := by decide +kernel
theorem dX7_isBetter_73 : decode cX7_isBetter 73 = .ok (.aload_n 0, 1) := by decide +kernel
theorem dX7_isBetter_74 : decode cX7_isBetter 74 = .ok (.getfield 70, 3) := by decide +kernel
theorem dX7_isBetter_77 : decode cX7_isBetter 77 = .ok (.invokevirtual 85, 3) := by decide +kernel
theorem dX7_isBetter_80 : decode cX7_isBetter 80 = .ok (.i2l, 1) := by decide +kernel
theorem dX7_isBetter_81 : decode cX7_isBetter 81 = .ok (.invokestatic 95, 3) := by decide +kernel
theorem dX7_isBetter_84 : decode cX7_isBetter 84 = .ok (.lstore 6, 2) := by decide +kernel
theorem dX7_isBetter_86 : decode cX7_isBetter 86 = .ok (.lload 4, 2) := by decide +kernel
theorem dX7_isBetter_88 : decode cX7_isBetter 88 = .ok (.aload_n 0, 1) := by decide +kernel
theorem dX7_isBetter_89 : decode cX7_isBetter 89 = .ok (.getfield 12, 3) := by decide +kernel
theorem dX7_isBetter_92 : decode cX7_isBetter 92 = .ok (.aload_n 0, 1) := by decide +kernel
theorem dX7_isBetter_93 : decode cX7_isBetter 93 = .ok (.getfield 67, 3) := by decide +kernel
theorem dX7_isBetter_96 : decode cX7_isBetter 96 = .ok (.aload_n 0, 1) := by decide +kernel
theorem dX7_isBetter_97 : decode cX7_isBetter 97 = .ok (.getfield 70, 3) := by decide +kernel
theorem dX7_isBetter_100 : decode cX7_isBetter 100 = .ok (.invokevirtual 101, 3) := by decide +kernel
theorem dX7_isBetter_103 : decode cX7_isBetter 103 = .ok (.i2l, 1) := by decide +kernel
theorem dX7_isBetter_104 : decode cX7_isBetter 104 = .ok (.lmul, 1) := by decide +kernel
theorem dX7_isBetter_105 : decode cX7_isBetter 105 = .ok (.lload 6, 2) := by decide +kernel
theorem dX7_isBetter_107 : decode cX7_isBetter 107 = .ok (.aload_n 0, 1) := by decide +kernel
theorem dX7_isBetter_108 : decode cX7_isBetter 108 = .ok (.getfield 12, 3) := by decide +kernel
theorem dX7_isBetter_111 : decode cX7_isBetter 111 = .ok (.iload_n 2, 1) := by decide +kernel
theorem dX7_isBetter_112 : decode cX7_isBetter 112 = .ok (.iload_n 3, 1) := by decide +kernel
theorem dX7_isBetter_113 : decode cX7_isBetter 113 = .ok (.invokevirtual 101, 3) := by decide +kernel
theorem dX7_isBetter_116 : decode cX7_isBetter 116 = .ok (.i2l, 1) := by decide +kernel
theorem dX7_isBetter_117 : decode cX7_isBetter 117 = .ok (.lmul, 1) := by decide +kernel
theorem dX7_isBetter_118 : decode cX7_isBetter 118 = .ok (.lcmp, 1) := by decide +kernel
theorem dX7_isBetter_119 : decode cX7_isBetter 119 = .ok (.ifCond .le 7, 3) := by decide +kernel
theorem dX7_isBetter_122 : decode cX7_isBetter 122 = .ok (.iconst 1, 1) := by decide +kernel
theorem dX7_isBetter_123 : decode cX7_isBetter 123 = .ok (.goto 4, 3) := by decide +kernel
theorem dX7_isBetter_126 : decode cX7_isBetter 126 = .ok (.iconst 0, 1) := by decide +kernel
theorem dX7_isBetter_127 : decode cX7_isBetter 127 = .ok (.ireturn, 1) := by decide +kernel
set_option maxRecDepth 20000 in
theorem ggX7_weightOf_X1_rowBits : GoodIn wsX7_weightOf wsX1_rowBits := goodIn_r _ [8, 9, 10, 11, 12, 7, 13, 14, 41, 42, 43, 44, 45] rfl rfl
set_option maxRecDepth 20000 in
theorem gX7_weightOf_X1_rowBits : GoodIn wsX7_weightOf (wsV RX7 104 RX1 yX1_rowBits wsX1_rowBits) := goodIn_app (goodIn_of _ (by decide +kernel)) ggX7_weightOf_X1_rowBits
set_option maxRecDepth 20000 in
theorem ggX7_weightOf_J6_bitCount_0f7a4 : GoodIn wsX7_weightOf wsJ6_bitCount_0f7a4 := goodIn_r _ [18, 19, 20, 21] rfl rfl
set_option maxRecDepth 20000 in
theorem gX7_weightOf_J6_bitCount_0f7a4 : GoodIn wsX7_weightOf (va_wsS RX7 107 yJ6_bitCount_0f7a4 wsJ6_bitCount_0f7a4) := goodIn_app (goodIn_of _ (by decide +kernel)) ggX7_weightOf_J6_bitCount_0f7a4
set_option maxRecDepth 20000 in
theorem ggX7_weightOf_X1_columnBits : GoodIn wsX7_weightOf wsX1_columnBits := goodIn_r _ [25, 26, 10, 11, 12, 7, 13, 14, 41, 42, 43, 44, 45] rfl rfl
