set_option maxRecDepth 20000 in
theorem gX7_weightOf_X1_columnBits : GoodIn wsX7_weightOf (wsV RX7 112 RX1 yX1_columnBits wsX1_columnBits) := goodIn_app (goodIn_of _ (by decide +kernel)) ggX7_weightOf_X1_columnBits
theorem dX7_weightOf_0 : decode cX7_weightOf 0 = .ok (.aload_n 0, 1) := by decide +kernel
theorem dX7_weightOf_1 : decode cX7_weightOf 1 = .ok (.getfield 12, 3) := by decide +kernel
theorem dX7_weightOf_4 : decode cX7_weightOf 4 = .ok (.iload_n 1, 1) := by decide +kernel
theorem dX7_weightOf_5 : decode cX7_weightOf 5 = .ok (.invokevirtual 104, 3) := by decide +kernel
theorem dX7_weightOf_8 : decode cX7_weightOf 8 = .ok (.aload_n 0, 1) := by decide +kernel
theorem dX7_weightOf_9 : decode cX7_weightOf 9 = .ok (.getfield 60, 3) := by decide +kernel
theorem dX7_weightOf_12 : decode cX7_weightOf 12 = .ok (.iand, 1) := by decide +kernel
theorem dX7_weightOf_13 : decode cX7_weightOf 13 = .ok (.invokestatic 107, 3) := by decide +kernel
theorem dX7_weightOf_16 : decode cX7_weightOf 16 = .ok (.istore_n 3, 1) := by decide +kernel
theorem dX7_weightOf_17 : decode cX7_weightOf 17 = .ok (.aload_n 0, 1) := by decide +kernel
theorem dX7_weightOf_18 : decode cX7_weightOf 18 = .ok (.getfield 12, 3) := by decide +kernel
theorem dX7_weightOf_21 : decode cX7_weightOf 21 = .ok (.iload_n 2, 1) := by decide +kernel
theorem dX7_weightOf_22 : decode cX7_weightOf 22 = .ok (.invokevirtual 112, 3) := by decide +kernel
theorem dX7_weightOf_25 : decode cX7_weightOf 25 = .ok (.aload_n 0, 1) := by decide +kernel
theorem dX7_weightOf_26 : decode cX7_weightOf 26 = .ok (.getfield 53, 3) := by decide +kernel
theorem dX7_weightOf_29 : decode cX7_weightOf 29 = .ok (.iand, 1) := by decide +kernel
theorem dX7_weightOf_30 : decode cX7_weightOf 30 = .ok (.invokestatic 107, 3) := by decide +kernel
theorem dX7_weightOf_33 : decode cX7_weightOf 33 = .ok (.istore 4, 2) := by decide +kernel
theorem dX7_weightOf_35 : decode cX7_weightOf 35 = .ok (.iload_n 3, 1) := by decide +kernel
theorem dX7_weightOf_36 : decode cX7_weightOf 36 = .ok (.iconst 1, 1) := by decide +kernel
theorem dX7_weightOf_37 : decode cX7_weightOf 37 = .ok (.isub, 1) := by decide +kernel
theorem dX7_weightOf_38 : decode cX7_weightOf 38 = .ok (.iload 4, 2) := by decide +kernel
theorem dX7_weightOf_40 : decode cX7_weightOf 40 = .ok (.iconst 1, 1) := by decide +kernel
theorem dX7_weightOf_41 : decode cX7_weightOf 41 = .ok (.isub, 1) := by decide +kernel
theorem dX7_weightOf_42 : decode cX7_weightOf 42 = .ok (.imul, 1) := by decide +kernel
theorem dX7_weightOf_43 : decode cX7_weightOf 43 = .ok (.ireturn, 1) := by decide +kernel
set_option maxRecDepth 20000 in
theorem ggX7_clearRow_X1_rowBits : GoodIn wsX7_clearRow wsX1_rowBits := goodIn_r _ [15, 16, 17, 18, 19, 14, 20, 21, 106, 107, 108, 109, 110] rfl rfl
set_option maxRecDepth 20000 in
theorem gX7_clearRow_X1_rowBits : GoodIn wsX7_clearRow (wsV RX7 104 RX1 yX1_rowBits wsX1_rowBits) := goodIn_app (goodIn_of _ (by decide +kernel)) ggX7_clearRow_X1_rowBits
set_option maxRecDepth 20000 in
theorem ggX7_clearRow_X3_load : GoodIn wsX7_clearRow wsX3_load := goodIn_r _ [26, 27, 28, 29, 30, 18, 19, 14, 20, 21, 31, 32, 33, 34, 35, 103, 104, 105, 106, 107, 108, 109, 110] rfl rfl
set_option maxRecDepth 20000 in
theorem gX7_clearRow_X3_load : GoodIn wsX7_clearRow (wsV RX7 115 RX3 yX3_load wsX3_load) := goodIn_app (goodIn_of _ (by decide +kernel)) ggX7_clearRow_X3_load
set_option maxRecDepth 20000 in
theorem ggX7_clearRow_X1_upperAt : GoodIn wsX7_clearRow wsX1_upperAt := goodIn_r _ [20, 21, 106, 107, 108, 109, 110] rfl rfl
set_option maxRecDepth 20000 in
theorem gX7_clearRow_X1_upperAt : GoodIn wsX7_clearRow (wsV RX7 85 RX1 yX1_upperAt wsX1_upperAt) := goodIn_app (goodIn_of _ (by decide +kernel)) ggX7_clearRow_X1_upperAt
set_option maxRecDepth 20000 in
theorem ggX7_clearRow_X1_lowerAt : GoodIn wsX7_clearRow wsX1_lowerAt := goodIn_r _ [34, 35, 106, 107, 108, 109, 110] rfl rfl
set_option maxRecDepth 20000 in
theorem gX7_clearRow_X1_lowerAt : GoodIn wsX7_clearRow (wsV RX7 101 RX1 yX1_lowerAt wsX1_lowerAt) := goodIn_app (goodIn_of _ (by decide +kernel)) ggX7_clearRow_X1_lowerAt
set_option maxRecDepth 20000 in
theorem ggX7_clearRow_X3_over : GoodIn wsX7_clearRow wsX3_over := goodIn_r _ [41, 28, 29, 42, 43, 44, 25, 45, 27, 46, 47, 48, 49, 50, 51, 103, 104, 105] rfl rfl
set_option maxRecDepth 20000 in
theorem gX7_clearRow_X3_over : GoodIn wsX7_clearRow (wsV RX7 119 RX3 yX3_over wsX3_over) := goodIn_app (goodIn_of _ (by decide +kernel)) ggX7_clearRow_X3_over
set_option maxRecDepth 20000 in
theorem ggX7_clearRow_X3_negate : GoodIn wsX7_clearRow wsX3_negate := goodIn_r _ [55, 28, 103, 104, 105] rfl rfl
set_option maxRecDepth 20000 in
theorem gX7_clearRow_X3_negate : GoodIn wsX7_clearRow (wsV RX7 123 RX3 yX3_negate wsX3_negate) := goodIn_app (goodIn_of _ (by decide +kernel)) ggX7_clearRow_X3_negate
set_option maxRecDepth 20000 in
theorem ggX7_clearRow_X1_addTimes : GoodIn wsX7_clearRow wsX1_addTimes := goodIn_r _ [59, 16, 60, 61, 62, 23, 24, 25, 26, 27, 28, 29, 30, 18, 19, 14, 20, 21, 31, 32, 33, 34, 35, 63, 64, 65, 66, 42, 43, 44, 45, 46, 47, 48, 49, 50, 51, 17, 67, 68, 69, 70, 71, 72, 73, 74, 75, 76, 77, 106, 107, 108, 109, 110, 103, 104, 105] rfl rfl
set_option maxRecDepth 20000 in
theorem gX7_clearRow_X1_addTimes : GoodIn wsX7_clearRow (wsV RX7 136 RX1 yX1_addTimes wsX1_addTimes) := goodIn_app (goodIn_of _ (by decide +kernel)) ggX7_clearRow_X1_addTimes
set_option maxRecDepth 20000 in
theorem ggX7_clearRow_X1_allColumns : GoodIn wsX7_clearRow wsX1_allColumns := goodIn_r _ [81, 16, 106, 107, 108, 109, 110] rfl rfl
set_option maxRecDepth 20000 in
theorem gX7_clearRow_X1_allColumns : GoodIn wsX7_clearRow (wsV RX7 56 RX1 yX1_allColumns wsX1_allColumns) := goodIn_app (goodIn_of _ (by decide +kernel)) ggX7_clearRow_X1_allColumns
set_option maxRecDepth 20000 in
theorem ggX7_clearRow_J6_bitCount_0f7a4 : GoodIn wsX7_clearRow wsJ6_bitCount_0f7a4 := goodIn_r _ [85, 86, 87, 88] rfl rfl
set_option maxRecDepth 20000 in
theorem gX7_clearRow_J6_bitCount_0f7a4 : GoodIn wsX7_clearRow (va_wsS RX7 107 yJ6_bitCount_0f7a4 wsJ6_bitCount_0f7a4) := goodIn_app (goodIn_of _ (by decide +kernel)) ggX7_clearRow_J6_bitCount_0f7a4
theorem dX7_clearRow_0 : decode cX7_clearRow 0 = .ok (.aload_n 0, 1) := by decide +kernel
theorem dX7_clearRow_1 : decode cX7_clearRow 1 = .ok (.getfield 12, 3) := by decide +kernel
theorem dX7_clearRow_4 : decode cX7_clearRow 4 = .ok (.iload_n 1, 1) := by decide +kernel
theorem dX7_clearRow_5 : decode cX7_clearRow 5 = .ok (.invokevirtual 104, 3) := by decide +kernel
theorem dX7_clearRow_8 : decode cX7_clearRow 8 = .ok (.istore_n 2, 1) := by decide +kernel
theorem dX7_clearRow_9 : decode cX7_clearRow 9 = .ok (.aload_n 0, 1) := by decide +kernel
theorem dX7_clearRow_10 : decode cX7_clearRow 10 = .ok (.getfield 34, 3) := by decide +kernel
theorem dX7_clearRow_13 : decode cX7_clearRow 13 = .ok (.aload_n 0, 1) := by decide +kernel
theorem dX7_clearRow_14 : decode cX7_clearRow 14 = .ok (.getfield 12, 3) := by decide +kernel
theorem dX7_clearRow_17 : decode cX7_clearRow 17 = .ok (.iload_n 1, 1) := by decide +kernel
theorem dX7_clearRow_18 : decode cX7_clearRow 18 = .ok (.aload_n 0, 1) := by decide +kernel
theorem dX7_clearRow_19 : decode cX7_clearRow 19 = .ok (.getfield 70, 3) := by decide +kernel
theorem dX7_clearRow_22 : decode cX7_clearRow 22 = .ok (.invokevirtual 115, 3) := by decide +kernel
theorem dX7_clearRow_25 : decode cX7_clearRow 25 = .ok (.aload_n 0, 1) := by decide +kernel
theorem dX7_clearRow_26 : decode cX7_clearRow 26 = .ok (.getfield 34, 3) := by decide +kernel
theorem dX7_clearRow_29 : decode cX7_clearRow 29 = .ok (.aload_n 0, 1) := by decide +kernel
theorem dX7_clearRow_30 : decode cX7_clearRow 30 = .ok (.getfield 12, 3) := by decide +kernel
theorem dX7_clearRow_33 : decode cX7_clearRow 33 = .ok (.aload_n 0, 1) := by decide +kernel
theorem dX7_clearRow_34 : decode cX7_clearRow 34 = .ok (.getfield 67, 3) := by decide +kernel
theorem dX7_clearRow_37 : decode cX7_clearRow 37 = .ok (.aload_n 0, 1) := by decide +kernel
theorem dX7_clearRow_38 : decode cX7_clearRow 38 = .ok (.getfield 70, 3) := by decide +kernel
theorem dX7_clearRow_41 : decode cX7_clearRow 41 = .ok (.invokevirtual 85, 3) := by decide +kernel
theorem dX7_clearRow_44 : decode cX7_clearRow 44 = .ok (.i2l, 1) := by decide +kernel
theorem dX7_clearRow_45 : decode cX7_clearRow 45 = .ok (.aload_n 0, 1) := by decide +kernel
theorem dX7_clearRow_46 : decode cX7_clearRow 46 = .ok (.getfield 12, 3) := by decide +kernel
theorem dX7_clearRow_49 : decode cX7_clearRow 49 = .ok (.aload_n 0, 1) := by decide +kernel
theorem dX7_clearRow_50 : decode cX7_clearRow 50 = .ok (.getfield 67, 3) := by decide +kernel
theorem dX7_clearRow_53 : decode cX7_clearRow 53 = .ok (.aload_n 0, 1) := by decide +kernel
theorem dX7_clearRow_54 : decode cX7_clearRow 54 = .ok (.getfield 70, 3) := by decide +kernel
theorem dX7_clearRow_57 : decode cX7_clearRow 57 = .ok (.invokevirtual 101, 3) := by decide +kernel
theorem dX7_clearRow_60 : decode cX7_clearRow 60 = .ok (.i2l, 1) := by decide +kernel
theorem dX7_clearRow_61 : decode cX7_clearRow 61 = .ok (.invokevirtual 119, 3) := by decide +kernel
theorem dX7_clearRow_64 : decode cX7_clearRow 64 = .ok (.aload_n 0, 1) := by decide +kernel
theorem dX7_clearRow_65 : decode cX7_clearRow 65 = .ok (.getfield 34, 3) := by decide +kernel
theorem dX7_clearRow_68 : decode cX7_clearRow 68 = .ok (.invokevirtual 123, 3) := by decide +kernel
theorem dX7_clearRow_71 : decode cX7_clearRow 71 = .ok (.aload_n 0, 1) := by decide +kernel
theorem dX7_clearRow_72 : decode cX7_clearRow 72 = .ok (.getfield 70, 3) := by decide +kernel
theorem dX7_clearRow_75 : decode cX7_clearRow 75 = .ok (.istore_n 3, 1) := by decide +kernel
theorem dX7_clearRow_76 : decode cX7_clearRow 76 = .ok (.aload_n 0, 1) := by decide +kernel
theorem dX7_clearRow_77 : decode cX7_clearRow 77 = .ok (.getfield 34, 3) := by decide +kernel
theorem dX7_clearRow_80 : decode cX7_clearRow 80 = .ok (.getfield 126, 3) := by decide +kernel
theorem dX7_clearRow_83 : decode cX7_clearRow 83 = .ok (.ifCond .ne 30, 3) := by decide +kernel
theorem dX7_clearRow_86 : decode cX7_clearRow 86 = .ok (.aload_n 0, 1) := by decide +kernel
theorem dX7_clearRow_87 : decode cX7_clearRow 87 = .ok (.getfield 12, 3) := by decide +kernel
theorem dX7_clearRow_90 : decode cX7_clearRow 90 = .ok (.iload_n 1, 1) := by decide +kernel
theorem dX7_clearRow_91 : decode cX7_clearRow 91 = .ok (.aload_n 0, 1) := by decide +kernel
theorem dX7_clearRow_92 : decode cX7_clearRow 92 = .ok (.getfield 67, 3) := by decide +kernel
theorem dX7_clearRow_95 : decode cX7_clearRow 95 = .ok (.aload_n 0, 1) := by decide +kernel
theorem dX7_clearRow_96 : decode cX7_clearRow 96 = .ok (.getfield 34, 3) := by decide +kernel
theorem dX7_clearRow_99 : decode cX7_clearRow 99 = .ok (.getfield 129, 3) := by decide +kernel
theorem dX7_clearRow_102 : decode cX7_clearRow 102 = .ok (.aload_n 0, 1) := by decide +kernel
theorem dX7_clearRow_103 : decode cX7_clearRow 103 = .ok (.getfield 34, 3) := by decide +kernel
theorem dX7_clearRow_106 : decode cX7_clearRow 106 = .ok (.getfield 133, 3) := by decide +kernel
theorem dX7_clearRow_109 : decode cX7_clearRow 109 = .ok (.invokevirtual 136, 3) := by decide +kernel
theorem dX7_clearRow_112 : decode cX7_clearRow 112 = .ok (.istore_n 3, 1) := by decide +kernel
theorem dX7_clearRow_113 : decode cX7_clearRow 113 = .ok (.iload_n 3, 1) := by decide +kernel
theorem dX7_clearRow_114 : decode cX7_clearRow 114 = .ok (.iconst (-1), 1) := by decide +kernel
theorem dX7_clearRow_115 : decode cX7_clearRow 115 = .ok (.if_icmp .eq 18, 3) := by decide +kernel
theorem dX7_clearRow_118 : decode cX7_clearRow 118 = .ok (.aload_n 0, 1) := by decide +kernel
theorem dX7_clearRow_119 : decode cX7_clearRow 119 = .ok (.iconst 1, 1) := by decide +kernel
theorem dX7_clearRow_120 : decode cX7_clearRow 120 = .ok (.putfield 46, 3) := by decide +kernel
theorem dX7_clearRow_123 : decode cX7_clearRow 123 = .ok (.aload_n 0, 1) := by decide +kernel
theorem dX7_clearRow_124 : decode cX7_clearRow 124 = .ok (.iload_n 1, 1) := by decide +kernel
theorem dX7_clearRow_125 : decode cX7_clearRow 125 = .ok (.putfield 140, 3) := by decide +kernel
theorem dX7_clearRow_128 : decode cX7_clearRow 128 = .ok (.aload_n 0, 1) := by decide +kernel
theorem dX7_clearRow_129 : decode cX7_clearRow 129 = .ok (.iload_n 3, 1) := by decide +kernel
theorem dX7_clearRow_130 : decode cX7_clearRow 130 = .ok (.putfield 143, 3) := by decide +kernel
theorem dX7_clearRow_133 : decode cX7_clearRow 133 = .ok (.aload_n 0, 1) := by decide +kernel
theorem dX7_clearRow_134 : decode cX7_clearRow 134 = .ok (.getfield 12, 3) := by decide +kernel
theorem dX7_clearRow_137 : decode cX7_clearRow 137 = .ok (.iload_n 1, 1) := by decide +kernel
theorem dX7_clearRow_138 : decode cX7_clearRow 138 = .ok (.invokevirtual 104, 3) := by decide +kernel
theorem dX7_clearRow_141 : decode cX7_clearRow 141 = .ok (.iload_n 2, 1) := by decide +kernel
theorem dX7_clearRow_142 : decode cX7_clearRow 142 = .ok (.iconst (-1), 1) := by decide +kernel
theorem dX7_clearRow_143 : decode cX7_clearRow 143 = .ok (.ixor, 1) := by decide +kernel
theorem dX7_clearRow_144 : decode cX7_clearRow 144 = .ok (.iand, 1) := by decide +kernel
theorem dX7_clearRow_145 : decode cX7_clearRow 145 = .ok (.aload_n 0, 1) := by decide +kernel
theorem dX7_clearRow_146 : decode cX7_clearRow 146 = .ok (.getfield 12, 3) := by decide +kernel
theorem dX7_clearRow_149 : decode cX7_clearRow 149 = .ok (.invokevirtual 56, 3) := by decide +kernel
theorem dX7_clearRow_152 : decode cX7_clearRow 152 = .ok (.iand, 1) := by decide +kernel
theorem dX7_clearRow_153 : decode cX7_clearRow 153 = .ok (.invokestatic 107, 3) := by decide +kernel
theorem dX7_clearRow_156 : decode cX7_clearRow 156 = .ok (.ireturn, 1) := by decide +kernel
theorem dX7_rowOf_0 : decode cX7_rowOf 0 = .ok (.iload_n 1, 1) := by decide +kernel
theorem dX7_rowOf_1 : decode cX7_rowOf 1 = .ok (.ifCond .lt 26, 3) := by decide +kernel
theorem dX7_rowOf_4 : decode cX7_rowOf 4 = .ok (.iload_n 1, 1) := by decide +kernel
theorem dX7_rowOf_5 : decode cX7_rowOf 5 = .ok (.aload_n 0, 1) := by decide +kernel
theorem dX7_rowOf_6 : decode cX7_rowOf 6 = .ok (.getfield 42, 3) := by decide +kernel
theorem dX7_rowOf_9 : decode cX7_rowOf 9 = .ok (.if_icmp .ge 18, 3) := by decide +kernel
theorem dX7_rowOf_12 : decode cX7_rowOf 12 = .ok (.iload_n 1, 1) := by decide +kernel
theorem dX7_rowOf_13 : decode cX7_rowOf 13 = .ok (.bipush 6, 2) := by decide +kernel
theorem dX7_rowOf_15 : decode cX7_rowOf 15 = .ok (.if_icmp .ge 12, 3) := by decide +kernel
theorem dX7_rowOf_18 : decode cX7_rowOf 18 = .ok (.aload_n 0, 1) := by decide +kernel
theorem dX7_rowOf_19 : decode cX7_rowOf 19 = .ok (.getfield 18, 3) := by decide +kernel
theorem dX7_rowOf_22 : decode cX7_rowOf 22 = .ok (.iload_n 1, 1) := by decide +kernel
theorem dX7_rowOf_23 : decode cX7_rowOf 23 = .ok (.iaload, 1) := by decide +kernel
theorem dX7_rowOf_24 : decode cX7_rowOf 24 = .ok (.goto 4, 3) := by decide +kernel
theorem dX7_rowOf_27 : decode cX7_rowOf 27 = .ok (.iconst (-1), 1) := by decide +kernel
theorem dX7_rowOf_28 : decode cX7_rowOf 28 = .ok (.ireturn, 1) := by decide +kernel
theorem dX7_columnOf_0 : decode cX7_columnOf 0 = .ok (.iload_n 1, 1) := by decide +kernel
theorem dX7_columnOf_1 : decode cX7_columnOf 1 = .ok (.ifCond .lt 26, 3) := by decide +kernel
theorem dX7_columnOf_4 : decode cX7_columnOf 4 = .ok (.iload_n 1, 1) := by decide +kernel
theorem dX7_columnOf_5 : decode cX7_columnOf 5 = .ok (.aload_n 0, 1) := by decide +kernel
theorem dX7_columnOf_6 : decode cX7_columnOf 6 = .ok (.getfield 42, 3) := by decide +kernel
theorem dX7_columnOf_9 : decode cX7_columnOf 9 = .ok (.if_icmp .ge 18, 3) := by decide +kernel
theorem dX7_columnOf_12 : decode cX7_columnOf 12 = .ok (.iload_n 1, 1) := by decide +kernel
theorem dX7_columnOf_13 : decode cX7_columnOf 13 = .ok (.bipush 6, 2) := by decide +kernel
theorem dX7_columnOf_15 : decode cX7_columnOf 15 = .ok (.if_icmp .ge 12, 3) := by decide +kernel
theorem dX7_columnOf_18 : decode cX7_columnOf 18 = .ok (.aload_n 0, 1) := by decide +kernel
theorem dX7_columnOf_19 : decode cX7_columnOf 19 = .ok (.getfield 22, 3) := by decide +kernel
theorem dX7_columnOf_22 : decode cX7_columnOf 22 = .ok (.iload_n 1, 1) := by decide +kernel
theorem dX7_columnOf_23 : decode cX7_columnOf 23 = .ok (.iaload, 1) := by decide +kernel
theorem dX7_columnOf_24 : decode cX7_columnOf 24 = .ok (.goto 4, 3) := by decide +kernel
theorem dX7_columnOf_27 : decode cX7_columnOf 27 = .ok (.iconst (-1), 1) := by decide +kernel
theorem dX7_columnOf_28 : decode cX7_columnOf 28 = .ok (.ireturn, 1) := by decide +kernel
set_option maxRecDepth 20000 in
theorem ggX7_pivotNumber_X1_upperAt : GoodIn wsX7_pivotNumber wsX1_upperAt := goodIn_r _ [12, 13, 33, 34, 35, 36, 37] rfl rfl
set_option maxRecDepth 20000 in
theorem gX7_pivotNumber_X1_upperAt : GoodIn wsX7_pivotNumber (wsV RX7 85 RX1 yX1_upperAt wsX1_upperAt) := goodIn_app (goodIn_of _ (by decide +kernel)) ggX7_pivotNumber_X1_upperAt
set_option maxRecDepth 20000 in
theorem ggX7_pivotNumber_X1_lowerAt : GoodIn wsX7_pivotNumber wsX1_lowerAt := goodIn_r _ [17, 18, 33, 34, 35, 36, 37] rfl rfl
set_option maxRecDepth 20000 in
theorem gX7_pivotNumber_X1_lowerAt : GoodIn wsX7_pivotNumber (wsV RX7 101 RX1 yX1_lowerAt wsX1_lowerAt) := goodIn_app (goodIn_of _ (by decide +kernel)) ggX7_pivotNumber_X1_lowerAt
theorem dX7_pivotNumber_0 : decode cX7_pivotNumber 0 = .ok (.iload_n 1, 1) := by decide +kernel
theorem dX7_pivotNumber_1 : decode cX7_pivotNumber 1 = .ok (.ifCond .lt 17, 3) := by decide +kernel
theorem dX7_pivotNumber_4 : decode cX7_pivotNumber 4 = .ok (.iload_n 1, 1) := by decide +kernel
theorem dX7_pivotNumber_5 : decode cX7_pivotNumber 5 = .ok (.aload_n 0, 1) := by decide +kernel
theorem dX7_pivotNumber_6 : decode cX7_pivotNumber 6 = .ok (.getfield 42, 3) := by decide +kernel
theorem dX7_pivotNumber_9 : decode cX7_pivotNumber 9 = .ok (.if_icmp .ge 9, 3) := by decide +kernel
theorem dX7_pivotNumber_12 : decode cX7_pivotNumber 12 = .ok (.iload_n 1, 1) := by decide +kernel
theorem dX7_pivotNumber_13 : decode cX7_pivotNumber 13 = .ok (.bipush 6, 2) := by decide +kernel
theorem dX7_pivotNumber_15 : decode cX7_pivotNumber 15 = .ok (.if_icmp .lt 6, 3) := by decide +kernel
theorem dX7_pivotNumber_18 : decode cX7_pivotNumber 18 = .ok (.ldc 146, 2) := by decide +kernel
theorem dX7_pivotNumber_20 : decode cX7_pivotNumber 20 = .ok (.ireturn, 1) := by decide +kernel
theorem dX7_pivotNumber_21 : decode cX7_pivotNumber 21 = .ok (.iload_n 2, 1) := by decide +kernel
theorem dX7_pivotNumber_22 : decode cX7_pivotNumber 22 = .ok (.tableswitch 106 0 5 #[38, 45, 52, 59, 66, 86], 38) := by decide +kernel
theorem dX7_pivotNumber_60 : decode cX7_pivotNumber 60 = .ok (.aload_n 0, 1) := by decide +kernel
theorem dX7_pivotNumber_61 : decode cX7_pivotNumber 61 = .ok (.getfield 18, 3) := by decide +kernel
theorem dX7_pivotNumber_64 : decode cX7_pivotNumber 64 = .ok (.iload_n 1, 1) := by decide +kernel
theorem dX7_pivotNumber_65 : decode cX7_pivotNumber 65 = .ok (.iaload, 1) := by decide +kernel
theorem dX7_pivotNumber_66 : decode cX7_pivotNumber 66 = .ok (.ireturn, 1) := by decide +kernel
theorem dX7_pivotNumber_67 : decode cX7_pivotNumber 67 = .ok (.aload_n 0, 1) := by decide +kernel
theorem dX7_pivotNumber_68 : decode cX7_pivotNumber 68 = .ok (.getfield 22, 3) := by decide +kernel
theorem dX7_pivotNumber_71 : decode cX7_pivotNumber 71 = .ok (.iload_n 1, 1) := by decide +kernel
theorem dX7_pivotNumber_72 : decode cX7_pivotNumber 72 = .ok (.iaload, 1) := by decide +kernel
theorem dX7_pivotNumber_73 : decode cX7_pivotNumber 73 = .ok (.ireturn, 1) := by decide +kernel
theorem dX7_pivotNumber_74 : decode cX7_pivotNumber 74 = .ok (.aload_n 0, 1) := by decide +kernel
theorem dX7_pivotNumber_75 : decode cX7_pivotNumber 75 = .ok (.getfield 25, 3) := by decide +kernel
theorem dX7_pivotNumber_78 : decode cX7_pivotNumber 78 = .ok (.iload_n 1, 1) := by decide +kernel
theorem dX7_pivotNumber_79 : decode cX7_pivotNumber 79 = .ok (.iaload, 1) := by decide +kernel
theorem dX7_pivotNumber_80 : decode cX7_pivotNumber 80 = .ok (.ireturn, 1) := by decide +kernel
theorem dX7_pivotNumber_81 : decode cX7_pivotNumber 81 = .ok (.aload_n 0, 1) := by decide +kernel
theorem dX7_pivotNumber_82 : decode cX7_pivotNumber 82 = .ok (.getfield 28, 3) := by decide +kernel
theorem dX7_pivotNumber_85 : decode cX7_pivotNumber 85 = .ok (.iload_n 1, 1) := by decide +kernel
theorem dX7_pivotNumber_86 : decode cX7_pivotNumber 86 = .ok (.iaload, 1) := by decide +kernel
theorem dX7_pivotNumber_87 : decode cX7_pivotNumber 87 = .ok (.ireturn, 1) := by decide +kernel
theorem dX7_pivotNumber_88 : decode cX7_pivotNumber 88 = .ok (.aload_n 0, 1) := by decide +kernel
theorem dX7_pivotNumber_89 : decode cX7_pivotNumber 89 = .ok (.getfield 12, 3) := by decide +kernel
theorem dX7_pivotNumber_92 : decode cX7_pivotNumber 92 = .ok (.aload_n 0, 1) := by decide +kernel
theorem dX7_pivotNumber_93 : decode cX7_pivotNumber 93 = .ok (.getfield 18, 3) := by decide +kernel
theorem dX7_pivotNumber_96 : decode cX7_pivotNumber 96 = .ok (.iload_n 1, 1) := by decide +kernel
theorem dX7_pivotNumber_97 : decode cX7_pivotNumber 97 = .ok (.iaload, 1) := by decide +kernel
theorem dX7_pivotNumber_98 : decode cX7_pivotNumber 98 = .ok (.aload_n 0, 1) := by decide +kernel
theorem dX7_pivotNumber_99 : decode cX7_pivotNumber 99 = .ok (.getfield 22, 3) := by decide +kernel
theorem dX7_pivotNumber_102 : decode cX7_pivotNumber 102 = .ok (.iload_n 1, 1) := by decide +kernel
theorem dX7_pivotNumber_103 : decode cX7_pivotNumber 103 = .ok (.iaload, 1) := by decide +kernel
theorem dX7_pivotNumber_104 : decode cX7_pivotNumber 104 = .ok (.invokevirtual 85, 3) := by decide +kernel
theorem dX7_pivotNumber_107 : decode cX7_pivotNumber 107 = .ok (.ireturn, 1) := by decide +kernel
theorem dX7_pivotNumber_108 : decode cX7_pivotNumber 108 = .ok (.aload_n 0, 1) := by decide +kernel
theorem dX7_pivotNumber_109 : decode cX7_pivotNumber 109 = .ok (.getfield 12, 3) := by decide +kernel
theorem dX7_pivotNumber_112 : decode cX7_pivotNumber 112 = .ok (.aload_n 0, 1) := by decide +kernel
theorem dX7_pivotNumber_113 : decode cX7_pivotNumber 113 = .ok (.getfield 18, 3) := by decide +kernel
theorem dX7_pivotNumber_116 : decode cX7_pivotNumber 116 = .ok (.iload_n 1, 1) := by decide +kernel
theorem dX7_pivotNumber_117 : decode cX7_pivotNumber 117 = .ok (.iaload, 1) := by decide +kernel
theorem dX7_pivotNumber_118 : decode cX7_pivotNumber 118 = .ok (.aload_n 0, 1) := by decide +kernel
theorem dX7_pivotNumber_119 : decode cX7_pivotNumber 119 = .ok (.getfield 22, 3) := by decide +kernel
theorem dX7_pivotNumber_122 : decode cX7_pivotNumber 122 = .ok (.iload_n 1, 1) := by decide +kernel
theorem dX7_pivotNumber_123 : decode cX7_pivotNumber 123 = .ok (.iaload, 1) := by decide +kernel
theorem dX7_pivotNumber_124 : decode cX7_pivotNumber 124 = .ok (.invokevirtual 101, 3) := by decide +kernel
theorem dX7_pivotNumber_127 : decode cX7_pivotNumber 127 = .ok (.ireturn, 1) := by decide +kernel
theorem dX7_pivotNumber_128 : decode cX7_pivotNumber 128 = .ok (.ldc 146, 2) := by decide +kernel
theorem dX7_pivotNumber_130 : decode cX7_pivotNumber 130 = .ok (.ireturn, 1) := by decide +kernel
theorem dX7_fillOfAll_0 : decode cX7_fillOfAll 0 = .ok (.iconst 0, 1) := by decide +kernel
theorem dX7_fillOfAll_1 : decode cX7_fillOfAll 1 = .ok (.istore_n 1, 1) := by decide +kernel
theorem dX7_fillOfAll_2 : decode cX7_fillOfAll 2 = .ok (.iconst 0, 1) := by decide +kernel
theorem dX7_fillOfAll_3 : decode cX7_fillOfAll 3 = .ok (.istore_n 2, 1) := by decide +kernel
theorem dX7_fillOfAll_4 : decode cX7_fillOfAll 4 = .ok (.iload_n 2, 1) := by decide +kernel
theorem dX7_fillOfAll_5 : decode cX7_fillOfAll 5 = .ok (.aload_n 0, 1) := by decide +kernel
theorem dX7_fillOfAll_6 : decode cX7_fillOfAll 6 = .ok (.getfield 42, 3) := by decide +kernel
theorem dX7_fillOfAll_9 : decode cX7_fillOfAll 9 = .ok (.if_icmp .ge 24, 3) := by decide +kernel
theorem dX7_fillOfAll_12 : decode cX7_fillOfAll 12 = .ok (.iload_n 2, 1) := by decide +kernel
theorem dX7_fillOfAll_13 : decode cX7_fillOfAll 13 = .ok (.bipush 6, 2) := by decide +kernel
theorem dX7_fillOfAll_15 : decode cX7_fillOfAll 15 = .ok (.if_icmp .ge 18, 3) := by decide +kernel
theorem dX7_fillOfAll_18 : decode cX7_fillOfAll 18 = .ok (.iload_n 1, 1) := by decide +kernel
theorem dX7_fillOfAll_19 : decode cX7_fillOfAll 19 = .ok (.aload_n 0, 1) := by decide +kernel
theorem dX7_fillOfAll_20 : decode cX7_fillOfAll 20 = .ok (.getfield 25, 3) := by decide +kernel
theorem dX7_fillOfAll_23 : decode cX7_fillOfAll 23 = .ok (.iload_n 2, 1) := by decide +kernel
theorem dX7_fillOfAll_24 : decode cX7_fillOfAll 24 = .ok (.iaload, 1) := by decide +kernel
theorem dX7_fillOfAll_25 : decode cX7_fillOfAll 25 = .ok (.iadd, 1) := by decide +kernel
theorem dX7_fillOfAll_26 : decode cX7_fillOfAll 26 = .ok (.istore_n 1, 1) := by decide +kernel
theorem dX7_fillOfAll_27 : decode cX7_fillOfAll 27 = .ok (.iinc 2 1, 3) := by decide +kernel
theorem dX7_fillOfAll_30 : decode cX7_fillOfAll 30 = .ok (.goto (-26), 3) := by decide +kernel
theorem dX7_fillOfAll_33 : decode cX7_fillOfAll 33 = .ok (.iload_n 1, 1) := by decide +kernel
theorem dX7_fillOfAll_34 : decode cX7_fillOfAll 34 = .ok (.ireturn, 1) := by decide +kernel
theorem dX7_freeBits_0 : decode cX7_freeBits 0 = .ok (.aload_n 0, 1) := by decide +kernel
theorem dX7_freeBits_1 : decode cX7_freeBits 1 = .ok (.getfield 60, 3) := by decide +kernel
theorem dX7_freeBits_4 : decode cX7_freeBits 4 = .ok (.ireturn, 1) := by decide +kernel
set_option maxRecDepth 20000 in
theorem ggX7_kindFound_X1_columnBits : GoodIn wsX7_kindFound wsX1_columnBits := goodIn_r _ [11, 12, 13, 14, 15, 10, 16, 17, 32, 33, 34, 35, 36] rfl rfl
set_option maxRecDepth 20000 in
theorem gX7_kindFound_X1_columnBits : GoodIn wsX7_kindFound (wsV RX7 112 RX1 yX1_columnBits wsX1_columnBits) := goodIn_app (goodIn_of _ (by decide +kernel)) ggX7_kindFound_X1_columnBits
theorem dX7_kindFound_0 : decode cX7_kindFound 0 = .ok (.aload_n 0, 1) := by decide +kernel
theorem dX7_kindFound_1 : decode cX7_kindFound 1 = .ok (.getfield 46, 3) := by decide +kernel
theorem dX7_kindFound_4 : decode cX7_kindFound 4 = .ok (.ifCond .eq 6, 3) := by decide +kernel
theorem dX7_kindFound_7 : decode cX7_kindFound 7 = .ok (.ldc 146, 2) := by decide +kernel
theorem dX7_kindFound_9 : decode cX7_kindFound 9 = .ok (.ireturn, 1) := by decide +kernel
theorem dX7_kindFound_10 : decode cX7_kindFound 10 = .ok (.aload_n 0, 1) := by decide +kernel
theorem dX7_kindFound_11 : decode cX7_kindFound 11 = .ok (.getfield 12, 3) := by decide +kernel
theorem dX7_kindFound_14 : decode cX7_kindFound 14 = .ok (.aload_n 0, 1) := by decide +kernel
theorem dX7_kindFound_15 : decode cX7_kindFound 15 = .ok (.getfield 12, 3) := by decide +kernel
theorem dX7_kindFound_18 : decode cX7_kindFound 18 = .ok (.getfield 88, 3) := by decide +kernel
theorem dX7_kindFound_21 : decode cX7_kindFound 21 = .ok (.invokevirtual 112, 3) := by decide +kernel
theorem dX7_kindFound_24 : decode cX7_kindFound 24 = .ok (.aload_n 0, 1) := by decide +kernel
theorem dX7_kindFound_25 : decode cX7_kindFound 25 = .ok (.getfield 53, 3) := by decide +kernel
theorem dX7_kindFound_28 : decode cX7_kindFound 28 = .ok (.iand, 1) := by decide +kernel
theorem dX7_kindFound_29 : decode cX7_kindFound 29 = .ok (.ifCond .eq 5, 3) := by decide +kernel
theorem dX7_kindFound_32 : decode cX7_kindFound 32 = .ok (.iconst 0, 1) := by decide +kernel
theorem dX7_kindFound_33 : decode cX7_kindFound 33 = .ok (.ireturn, 1) := by decide +kernel
theorem dX7_kindFound_34 : decode cX7_kindFound 34 = .ok (.aload_n 0, 1) := by decide +kernel
theorem dX7_kindFound_35 : decode cX7_kindFound 35 = .ok (.getfield 60, 3) := by decide +kernel
theorem dX7_kindFound_38 : decode cX7_kindFound 38 = .ok (.ifCond .ne 7, 3) := by decide +kernel
theorem dX7_kindFound_41 : decode cX7_kindFound 41 = .ok (.iconst 1, 1) := by decide +kernel
theorem dX7_kindFound_42 : decode cX7_kindFound 42 = .ok (.goto 4, 3) := by decide +kernel
theorem dX7_kindFound_45 : decode cX7_kindFound 45 = .ok (.iconst 2, 1) := by decide +kernel
theorem dX7_kindFound_46 : decode cX7_kindFound 46 = .ok (.ireturn, 1) := by decide +kernel
set_option maxRecDepth 20000 in
theorem ggX7_canBeSolved_X7_kindFound : GoodIn wsX7_canBeSolved wsX7_kindFound := goodIn_r _ [5, 6, 7, 8, 9, 10, 11, 12, 13, 14, 15, 16, 17, 18, 19, 20, 21, 22, 23, 24, 25, 26, 27, 28, 29, 30, 31, 32, 33, 34, 35, 36, 37, 38, 39, 40, 41] rfl rfl
set_option maxRecDepth 20000 in
theorem gX7_canBeSolved_X7_kindFound : GoodIn wsX7_canBeSolved (wsV RX7 147 RX7 yX7_kindFound wsX7_kindFound) := goodIn_app (goodIn_of _ (by decide +kernel)) ggX7_canBeSolved_X7_kindFound
theorem dX7_canBeSolved_0 : decode cX7_canBeSolved 0 = .ok (.aload_n 0, 1) := by decide +kernel
theorem dX7_canBeSolved_1 : decode cX7_canBeSolved 1 = .ok (.invokevirtual 147, 3) := by decide +kernel
theorem dX7_canBeSolved_4 : decode cX7_canBeSolved 4 = .ok (.istore_n 1, 1) := by decide +kernel
theorem dX7_canBeSolved_5 : decode cX7_canBeSolved 5 = .ok (.iload_n 1, 1) := by decide +kernel
theorem dX7_canBeSolved_6 : decode cX7_canBeSolved 6 = .ok (.iconst 1, 1) := by decide +kernel
theorem dX7_canBeSolved_7 : decode cX7_canBeSolved 7 = .ok (.if_icmp .eq 8, 3) := by decide +kernel
theorem dX7_canBeSolved_10 : decode cX7_canBeSolved 10 = .ok (.iload_n 1, 1) := by decide +kernel
theorem dX7_canBeSolved_11 : decode cX7_canBeSolved 11 = .ok (.iconst 2, 1) := by decide +kernel
theorem dX7_canBeSolved_12 : decode cX7_canBeSolved 12 = .ok (.if_icmp .ne 7, 3) := by decide +kernel
theorem dX7_canBeSolved_15 : decode cX7_canBeSolved 15 = .ok (.iconst 1, 1) := by decide +kernel
theorem dX7_canBeSolved_16 : decode cX7_canBeSolved 16 = .ok (.goto 4, 3) := by decide +kernel
theorem dX7_canBeSolved_19 : decode cX7_canBeSolved 19 = .ok (.iconst 0, 1) := by decide +kernel
theorem dX7_canBeSolved_20 : decode cX7_canBeSolved 20 = .ok (.ireturn, 1) := by decide +kernel
set_option maxRecDepth 20000 in
theorem ggX7_multiplyPivots_X3_start : GoodIn wsX7_multiplyPivots wsX3_start := goodIn_r _ [8, 9, 10, 11, 12, 7, 13, 14, 15, 16, 17, 18, 19, 20, 21, 71, 72, 73] rfl rfl
set_option maxRecDepth 20000 in
theorem gX7_multiplyPivots_X3_start : GoodIn wsX7_multiplyPivots (wsV RX7 150 RX3 yX3_start wsX3_start) := goodIn_app (goodIn_of _ (by decide +kernel)) ggX7_multiplyPivots_X3_start
set_option maxRecDepth 20000 in
theorem ggX7_multiplyPivots_X7_rowOf : GoodIn wsX7_multiplyPivots wsX7_rowOf := goodIn_r _ [26, 1, 27, 52, 53, 54, 55, 56, 57, 58, 59, 60, 61, 62, 63, 64, 65] rfl rfl
set_option maxRecDepth 20000 in
theorem gX7_multiplyPivots_X7_rowOf : GoodIn wsX7_multiplyPivots (wsV RX7 153 RX7 yX7_rowOf wsX7_rowOf) := goodIn_app (goodIn_of _ (by decide +kernel)) ggX7_multiplyPivots_X7_rowOf
set_option maxRecDepth 20000 in
theorem ggX7_multiplyPivots_X7_columnOf : GoodIn wsX7_multiplyPivots wsX7_columnOf := goodIn_r _ [31, 1, 32, 52, 53, 54, 55, 56, 57, 58, 59, 60, 61, 62, 63, 64, 65] rfl rfl
set_option maxRecDepth 20000 in
theorem gX7_multiplyPivots_X7_columnOf : GoodIn wsX7_multiplyPivots (wsV RX7 156 RX7 yX7_columnOf wsX7_columnOf) := goodIn_app (goodIn_of _ (by decide +kernel)) ggX7_multiplyPivots_X7_columnOf
set_option maxRecDepth 20000 in
theorem ggX7_multiplyPivots_X1_upperAt : GoodIn wsX7_multiplyPivots wsX1_upperAt := goodIn_r _ [37, 38, 66, 67, 68, 69, 70] rfl rfl
set_option maxRecDepth 20000 in
theorem gX7_multiplyPivots_X1_upperAt : GoodIn wsX7_multiplyPivots (wsV RX7 85 RX1 yX1_upperAt wsX1_upperAt) := goodIn_app (goodIn_of _ (by decide +kernel)) ggX7_multiplyPivots_X1_upperAt
set_option maxRecDepth 20000 in
theorem ggX7_multiplyPivots_X1_lowerAt : GoodIn wsX7_multiplyPivots wsX1_lowerAt := goodIn_r _ [42, 43, 66, 67, 68, 69, 70] rfl rfl
set_option maxRecDepth 20000 in
theorem gX7_multiplyPivots_X1_lowerAt : GoodIn wsX7_multiplyPivots (wsV RX7 101 RX1 yX1_lowerAt wsX1_lowerAt) := goodIn_app (goodIn_of _ (by decide +kernel)) ggX7_multiplyPivots_X1_lowerAt
set_option maxRecDepth 20000 in
theorem ggX7_multiplyPivots_X3_times : GoodIn wsX7_multiplyPivots wsX3_times := goodIn_r _ [47, 14, 15, 10, 11, 12, 7, 13, 9, 16, 17, 18, 19, 20, 21, 71, 72, 73] rfl rfl
set_option maxRecDepth 20000 in
theorem gX7_multiplyPivots_X3_times : GoodIn wsX7_multiplyPivots (wsV RX7 159 RX3 yX3_times wsX3_times) := goodIn_app (goodIn_of _ (by decide +kernel)) ggX7_multiplyPivots_X3_times
set_option maxRecDepth 20000 in
theorem ggX7_multiplyPivots_X3_negate : GoodIn wsX7_multiplyPivots wsX3_negate := goodIn_r _ [51, 14, 71, 72, 73] rfl rfl
set_option maxRecDepth 20000 in
theorem gX7_multiplyPivots_X3_negate : GoodIn wsX7_multiplyPivots (wsV RX7 123 RX3 yX3_negate wsX3_negate) := goodIn_app (goodIn_of _ (by decide +kernel)) ggX7_multiplyPivots_X3_negate
theorem dX7_multiplyPivots_0 : decode cX7_multiplyPivots 0 = .ok (.aload_n 0, 1) := by decide +kernel
theorem dX7_multiplyPivots_1 : decode cX7_multiplyPivots 1 = .ok (.getfield 42, 3) := by decide +kernel
theorem dX7_multiplyPivots_4 : decode cX7_multiplyPivots 4 = .ok (.aload_n 0, 1) := by decide +kernel
theorem dX7_multiplyPivots_5 : decode cX7_multiplyPivots 5 = .ok (.getfield 12, 3) := by decide +kernel
theorem dX7_multiplyPivots_8 : decode cX7_multiplyPivots 8 = .ok (.getfield 50, 3) := by decide +kernel
theorem dX7_multiplyPivots_11 : decode cX7_multiplyPivots 11 = .ok (.if_icmp .ge 10, 3) := by decide +kernel
theorem dX7_multiplyPivots_14 : decode cX7_multiplyPivots 14 = .ok (.aload_n 1, 1) := by decide +kernel
theorem dX7_multiplyPivots_15 : decode cX7_multiplyPivots 15 = .ok (.lconst 0, 1) := by decide +kernel
theorem dX7_multiplyPivots_16 : decode cX7_multiplyPivots 16 = .ok (.lconst 1, 1) := by decide +kernel
theorem dX7_multiplyPivots_17 : decode cX7_multiplyPivots 17 = .ok (.invokevirtual 150, 3) := by decide +kernel
theorem dX7_multiplyPivots_20 : decode cX7_multiplyPivots 20 = .ok (.return_, 1) := by decide +kernel
theorem dX7_multiplyPivots_21 : decode cX7_multiplyPivots 21 = .ok (.aload_n 1, 1) := by decide +kernel
theorem dX7_multiplyPivots_22 : decode cX7_multiplyPivots 22 = .ok (.lconst 1, 1) := by decide +kernel
theorem dX7_multiplyPivots_23 : decode cX7_multiplyPivots 23 = .ok (.lconst 1, 1) := by decide +kernel
theorem dX7_multiplyPivots_24 : decode cX7_multiplyPivots 24 = .ok (.invokevirtual 150, 3) := by decide +kernel
theorem dX7_multiplyPivots_27 : decode cX7_multiplyPivots 27 = .ok (.iconst 0, 1) := by decide +kernel
theorem dX7_multiplyPivots_28 : decode cX7_multiplyPivots 28 = .ok (.istore_n 2, 1) := by decide +kernel
theorem dX7_multiplyPivots_29 : decode cX7_multiplyPivots 29 = .ok (.iconst 0, 1) := by decide +kernel
theorem dX7_multiplyPivots_30 : decode cX7_multiplyPivots 30 = .ok (.istore_n 3, 1) := by decide +kernel
theorem dX7_multiplyPivots_31 : decode cX7_multiplyPivots 31 = .ok (.iload_n 3, 1) := by decide +kernel
theorem dX7_multiplyPivots_32 : decode cX7_multiplyPivots 32 = .ok (.aload_n 0, 1) := by decide +kernel
theorem dX7_multiplyPivots_33 : decode cX7_multiplyPivots 33 = .ok (.getfield 42, 3) := by decide +kernel
theorem dX7_multiplyPivots_36 : decode cX7_multiplyPivots 36 = .ok (.if_icmp .ge 111, 3) := by decide +kernel
theorem dX7_multiplyPivots_39 : decode cX7_multiplyPivots 39 = .ok (.aload_n 0, 1) := by decide +kernel
theorem dX7_multiplyPivots_40 : decode cX7_multiplyPivots 40 = .ok (.iload_n 3, 1) := by decide +kernel
theorem dX7_multiplyPivots_41 : decode cX7_multiplyPivots 41 = .ok (.invokevirtual 153, 3) := by decide +kernel
theorem dX7_multiplyPivots_44 : decode cX7_multiplyPivots 44 = .ok (.istore 4, 2) := by decide +kernel
theorem dX7_multiplyPivots_46 : decode cX7_multiplyPivots 46 = .ok (.aload_n 0, 1) := by decide +kernel
theorem dX7_multiplyPivots_47 : decode cX7_multiplyPivots 47 = .ok (.iload_n 3, 1) := by decide +kernel
theorem dX7_multiplyPivots_48 : decode cX7_multiplyPivots 48 = .ok (.invokevirtual 156, 3) := by decide +kernel
theorem dX7_multiplyPivots_51 : decode cX7_multiplyPivots 51 = .ok (.istore 5, 2) := by decide +kernel
theorem dX7_multiplyPivots_53 : decode cX7_multiplyPivots 53 = .ok (.aload_n 1, 1) := by decide +kernel
theorem dX7_multiplyPivots_54 : decode cX7_multiplyPivots 54 = .ok (.aload_n 0, 1) := by decide +kernel
theorem dX7_multiplyPivots_55 : decode cX7_multiplyPivots 55 = .ok (.getfield 12, 3) := by decide +kernel
theorem dX7_multiplyPivots_58 : decode cX7_multiplyPivots 58 = .ok (.iload 4, 2) := by decide +kernel
theorem dX7_multiplyPivots_60 : decode cX7_multiplyPivots 60 = .ok (.iload 5, 2) := by decide +kernel
theorem dX7_multiplyPivots_62 : decode cX7_multiplyPivots 62 = .ok (.invokevirtual 85, 3) := by decide +kernel
theorem dX7_multiplyPivots_65 : decode cX7_multiplyPivots 65 = .ok (.i2l, 1) := by decide +kernel
theorem dX7_multiplyPivots_66 : decode cX7_multiplyPivots 66 = .ok (.aload_n 0, 1) := by decide +kernel
theorem dX7_multiplyPivots_67 : decode cX7_multiplyPivots 67 = .ok (.getfield 12, 3) := by decide +kernel
theorem dX7_multiplyPivots_70 : decode cX7_multiplyPivots 70 = .ok (.iload 4, 2) := by decide +kernel
theorem dX7_multiplyPivots_72 : decode cX7_multiplyPivots 72 = .ok (.iload 5, 2) := by decide +kernel
theorem dX7_multiplyPivots_74 : decode cX7_multiplyPivots 74 = .ok (.invokevirtual 101, 3) := by decide +kernel
theorem dX7_multiplyPivots_77 : decode cX7_multiplyPivots 77 = .ok (.i2l, 1) := by decide +kernel
theorem dX7_multiplyPivots_78 : decode cX7_multiplyPivots 78 = .ok (.invokevirtual 159, 3) := by decide +kernel
theorem dX7_multiplyPivots_81 : decode cX7_multiplyPivots 81 = .ok (.iconst 0, 1) := by decide +kernel
theorem dX7_multiplyPivots_82 : decode cX7_multiplyPivots 82 = .ok (.istore 6, 2) := by decide +kernel
theorem dX7_multiplyPivots_84 : decode cX7_multiplyPivots 84 = .ok (.iload 6, 2) := by decide +kernel
theorem dX7_multiplyPivots_86 : decode cX7_multiplyPivots 86 = .ok (.iload_n 3, 1) := by decide +kernel
theorem dX7_multiplyPivots_87 : decode cX7_multiplyPivots 87 = .ok (.if_icmp .ge 54, 3) := by decide +kernel
theorem dX7_multiplyPivots_90 : decode cX7_multiplyPivots 90 = .ok (.aload_n 0, 1) := by decide +kernel
theorem dX7_multiplyPivots_91 : decode cX7_multiplyPivots 91 = .ok (.iload 6, 2) := by decide +kernel
theorem dX7_multiplyPivots_93 : decode cX7_multiplyPivots 93 = .ok (.invokevirtual 153, 3) := by decide +kernel
theorem dX7_multiplyPivots_96 : decode cX7_multiplyPivots 96 = .ok (.iload 4, 2) := by decide +kernel
theorem dX7_multiplyPivots_98 : decode cX7_multiplyPivots 98 = .ok (.if_icmp .ge 7, 3) := by decide +kernel
theorem dX7_multiplyPivots_101 : decode cX7_multiplyPivots 101 = .ok (.iconst 1, 1) := by decide +kernel
theorem dX7_multiplyPivots_102 : decode cX7_multiplyPivots 102 = .ok (.goto 4, 3) := by decide +kernel
theorem dX7_multiplyPivots_105 : decode cX7_multiplyPivots 105 = .ok (.iconst 0, 1) := by decide +kernel
theorem dX7_multiplyPivots_106 : decode cX7_multiplyPivots 106 = .ok (.aload_n 0, 1) := by decide +kernel
theorem dX7_multiplyPivots_107 : decode cX7_multiplyPivots 107 = .ok (.iload 6, 2) := by decide +kernel
theorem dX7_multiplyPivots_109 : decode cX7_multiplyPivots 109 = .ok (.invokevirtual 156, 3) := by decide +kernel
theorem dX7_multiplyPivots_112 : decode cX7_multiplyPivots 112 = .ok (.iload 5, 2) := by decide +kernel
theorem dX7_multiplyPivots_114 : decode cX7_multiplyPivots 114 = .ok (.if_icmp .ge 7, 3) := by decide +kernel
theorem dX7_multiplyPivots_117 : decode cX7_multiplyPivots 117 = .ok (.iconst 1, 1) := by decide +kernel
theorem dX7_multiplyPivots_118 : decode cX7_multiplyPivots 118 = .ok (.goto 4, 3) := by decide +kernel
theorem dX7_multiplyPivots_121 : decode cX7_multiplyPivots 121 = .ok (.iconst 0, 1) := by decide +kernel
theorem dX7_multiplyPivots_122 : decode cX7_multiplyPivots 122 = .ok (.if_icmp .eq 13, 3) := by decide +kernel
theorem dX7_multiplyPivots_125 : decode cX7_multiplyPivots 125 = .ok (.iload_n 2, 1) := by decide +kernel
theorem dX7_multiplyPivots_126 : decode cX7_multiplyPivots 126 = .ok (.ifCond .ne 7, 3) := by decide +kernel
theorem dX7_multiplyPivots_129 : decode cX7_multiplyPivots 129 = .ok (.iconst 1, 1) := by decide +kernel
theorem dX7_multiplyPivots_130 : decode cX7_multiplyPivots 130 = .ok (.goto 4, 3) := by decide +kernel
theorem dX7_multiplyPivots_133 : decode cX7_multiplyPivots 133 = .ok (.iconst 0, 1) := by decide +kernel
theorem dX7_multiplyPivots_134 : decode cX7_multiplyPivots 134 = .ok (.istore_n 2, 1) := by decide +kernel
theorem dX7_multiplyPivots_135 : decode cX7_multiplyPivots 135 = .ok (.iinc 6 1, 3) := by decide +kernel
theorem dX7_multiplyPivots_138 : decode cX7_multiplyPivots 138 = .ok (.goto (-54), 3) := by decide +kernel
theorem dX7_multiplyPivots_141 : decode cX7_multiplyPivots 141 = .ok (.iinc 3 1, 3) := by decide +kernel
theorem dX7_multiplyPivots_144 : decode cX7_multiplyPivots 144 = .ok (.goto (-113), 3) := by decide +kernel
theorem dX7_multiplyPivots_147 : decode cX7_multiplyPivots 147 = .ok (.iload_n 2, 1) := by decide +kernel
theorem dX7_multiplyPivots_148 : decode cX7_multiplyPivots 148 = .ok (.ifCond .eq 7, 3) := by decide +kernel
theorem dX7_multiplyPivots_151 : decode cX7_multiplyPivots 151 = .ok (.aload_n 1, 1) := by decide +kernel
theorem dX7_multiplyPivots_152 : decode cX7_multiplyPivots 152 = .ok (.invokevirtual 123, 3) := by decide +kernel
theorem dX7_multiplyPivots_155 : decode cX7_multiplyPivots 155 = .ok (.return_, 1) := by decide +kernel
theorem dX8_init_0 : decode cX8_init 0 = .ok (.aload_n 0, 1) := by decide +kernel
theorem dX8_init_1 : decode cX8_init 1 = .ok (.invokespecial 3, 3) := by decide +kernel
theorem dX8_init_4 : decode cX8_init 4 = .ok (.aload_n 0, 1) := by decide +kernel
theorem dX8_init_5 : decode cX8_init 5 = .ok (.sipush 400, 3) := by decide +kernel
theorem dX8_init_8 : decode cX8_init 8 = .ok (.newarray .byte, 2) := by decide +kernel
theorem dX8_init_10 : decode cX8_init 10 = .ok (.putfield 9, 3) := by decide +kernel
theorem dX8_init_13 : decode cX8_init 13 = .ok (.return_, 1) := by decide +kernel
theorem dX8_append_0 : decode cX8_append 0 = .ok (.bipush 24, 2) := by decide +kernel
theorem dX8_append_2 : decode cX8_append 2 = .ok (.istore_n 2, 1) := by decide +kernel
theorem dX8_append_3 : decode cX8_append 3 = .ok (.iload_n 2, 1) := by decide +kernel
theorem dX8_append_4 : decode cX8_append 4 = .ok (.ifCond .lt 49, 3) := by decide +kernel
theorem dX8_append_7 : decode cX8_append 7 = .ok (.aload_n 0, 1) := by decide +kernel
theorem dX8_append_8 : decode cX8_append 8 = .ok (.getfield 15, 3) := by decide +kernel
theorem dX8_append_11 : decode cX8_append 11 = .ok (.sipush 400, 3) := by decide +kernel
theorem dX8_append_14 : decode cX8_append 14 = .ok (.if_icmp .ge 39, 3) := by decide +kernel
theorem dX8_append_17 : decode cX8_append 17 = .ok (.aload_n 0, 1) := by decide +kernel
theorem dX8_append_18 : decode cX8_append 18 = .ok (.getfield 15, 3) := by decide +kernel
theorem dX8_append_21 : decode cX8_append 21 = .ok (.ifCond .lt 32, 3) := by decide +kernel
theorem dX8_append_24 : decode cX8_append 24 = .ok (.aload_n 0, 1) := by decide +kernel
theorem dX8_append_25 : decode cX8_append 25 = .ok (.getfield 9, 3) := by decide +kernel
theorem dX8_append_28 : decode cX8_append 28 = .ok (.aload_n 0, 1) := by decide +kernel
theorem dX8_append_29 : decode cX8_append 29 = .ok (.getfield 15, 3) := by decide +kernel
theorem dX8_append_32 : decode cX8_append 32 = .ok (.iload_n 1, 1) := by decide +kernel
theorem dX8_append_33 : decode cX8_append 33 = .ok (.iload_n 2, 1) := by decide +kernel
theorem dX8_append_34 : decode cX8_append 34 = .ok (.ishr, 1) := by decide +kernel
theorem dX8_append_35 : decode cX8_append 35 = .ok (.i2b, 1) := by decide +kernel
theorem dX8_append_36 : decode cX8_append 36 = .ok (.bastore, 1) := by decide +kernel
theorem dX8_append_37 : decode cX8_append 37 = .ok (.aload_n 0, 1) := by decide +kernel
theorem dX8_append_38 : decode cX8_append 38 = .ok (.dup, 1) := by decide +kernel
theorem dX8_append_39 : decode cX8_append 39 = .ok (.getfield 15, 3) := by decide +kernel
theorem dX8_append_42 : decode cX8_append 42 = .ok (.iconst 1, 1) := by decide +kernel
theorem dX8_append_43 : decode cX8_append 43 = .ok (.iadd, 1) := by decide +kernel
theorem dX8_append_44 : decode cX8_append 44 = .ok (.putfield 15, 3) := by decide +kernel
theorem dX8_append_47 : decode cX8_append 47 = .ok (.iinc 2 (-8), 3) := by decide +kernel
theorem dX8_append_50 : decode cX8_append 50 = .ok (.goto (-47), 3) := by decide +kernel
theorem dX8_append_53 : decode cX8_append 53 = .ok (.return_, 1) := by decide +kernel
theorem dX8_copy_0 : decode cX8_copy 0 = .ok (.aload_n 0, 1) := by decide +kernel
theorem dX8_copy_1 : decode cX8_copy 1 = .ok (.aload_n 1, 1) := by decide +kernel
theorem dX8_copy_2 : decode cX8_copy 2 = .ok (.getfield 15, 3) := by decide +kernel
theorem dX8_copy_5 : decode cX8_copy 5 = .ok (.putfield 15, 3) := by decide +kernel
theorem dX8_copy_8 : decode cX8_copy 8 = .ok (.aload_n 1, 1) := by decide +kernel
theorem dX8_copy_9 : decode cX8_copy 9 = .ok (.getfield 9, 3) := by decide +kernel
theorem dX8_copy_12 : decode cX8_copy 12 = .ok (.iconst 0, 1) := by decide +kernel
theorem dX8_copy_13 : decode cX8_copy 13 = .ok (.aload_n 0, 1) := by decide +kernel
theorem dX8_copy_14 : decode cX8_copy 14 = .ok (.getfield 9, 3) := by decide +kernel
theorem dX8_copy_17 : decode cX8_copy 17 = .ok (.iconst 0, 1) := by decide +kernel
theorem dX8_copy_18 : decode cX8_copy 18 = .ok (.sipush 400, 3) := by decide +kernel
theorem dX8_copy_21 : decode cX8_copy 21 = .ok (.invokestatic 19, 3) := by decide +kernel
theorem dX8_copy_24 : decode cX8_copy 24 = .ok (.return_, 1) := by decide +kernel
theorem dX8_byteAt_0 : decode cX8_byteAt 0 = .ok (.iload_n 1, 1) := by decide +kernel
theorem dX8_byteAt_1 : decode cX8_byteAt 1 = .ok (.ifCond .lt 31, 3) := by decide +kernel
theorem dX8_byteAt_4 : decode cX8_byteAt 4 = .ok (.iload_n 1, 1) := by decide +kernel
theorem dX8_byteAt_5 : decode cX8_byteAt 5 = .ok (.aload_n 0, 1) := by decide +kernel
theorem dX8_byteAt_6 : decode cX8_byteAt 6 = .ok (.getfield 15, 3) := by decide +kernel
theorem dX8_byteAt_9 : decode cX8_byteAt 9 = .ok (.if_icmp .ge 23, 3) := by decide +kernel
theorem dX8_byteAt_12 : decode cX8_byteAt 12 = .ok (.iload_n 1, 1) := by decide +kernel
theorem dX8_byteAt_13 : decode cX8_byteAt 13 = .ok (.sipush 400, 3) := by decide +kernel
theorem dX8_byteAt_16 : decode cX8_byteAt 16 = .ok (.if_icmp .ge 16, 3) := by decide +kernel
theorem dX8_byteAt_19 : decode cX8_byteAt 19 = .ok (.aload_n 0, 1) := by decide +kernel
theorem dX8_byteAt_20 : decode cX8_byteAt 20 = .ok (.getfield 9, 3) := by decide +kernel
theorem dX8_byteAt_23 : decode cX8_byteAt 23 = .ok (.iload_n 1, 1) := by decide +kernel
theorem dX8_byteAt_24 : decode cX8_byteAt 24 = .ok (.baload, 1) := by decide +kernel
theorem dX8_byteAt_25 : decode cX8_byteAt 25 = .ok (.sipush 255, 3) := by decide +kernel
theorem dX8_byteAt_28 : decode cX8_byteAt 28 = .ok (.iand, 1) := by decide +kernel
theorem dX8_byteAt_29 : decode cX8_byteAt 29 = .ok (.goto 4, 3) := by decide +kernel
theorem dX8_byteAt_32 : decode cX8_byteAt 32 = .ok (.iconst (-1), 1) := by decide +kernel
theorem dX8_byteAt_33 : decode cX8_byteAt 33 = .ok (.ireturn, 1) := by decide +kernel
set_option maxRecDepth 20000 in
theorem ggX9_init_X3_init : GoodIn wsX9_init wsX3_init := goodIn_r _ [13, 14, 2, 3, 15, 21, 22, 23] rfl rfl
set_option maxRecDepth 20000 in
theorem gX9_init_X3_init_n20 : GoodIn wsX9_init (wsX3_init) := ggX9_init_X3_init
theorem dX9_init_0 : decode cX9_init 0 = .ok (.aload_n 0, 1) := by decide +kernel
theorem dX9_init_1 : decode cX9_init 1 = .ok (.invokespecial 3, 3) := by decide +kernel
theorem dX9_init_4 : decode cX9_init 4 = .ok (.aload_n 0, 1) := by decide +kernel
theorem dX9_init_5 : decode cX9_init 5 = .ok (.bipush 6, 2) := by decide +kernel
theorem dX9_init_7 : decode cX9_init 7 = .ok (.newarray .int, 2) := by decide +kernel
theorem dX9_init_9 : decode cX9_init 9 = .ok (.putfield 9, 3) := by decide +kernel
theorem dX9_init_12 : decode cX9_init 12 = .ok (.aload_n 0, 1) := by decide +kernel
theorem dX9_init_13 : decode cX9_init 13 = .ok (.bipush 6, 2) := by decide +kernel
theorem dX9_init_15 : decode cX9_init 15 = .ok (.newarray .int, 2) := by decide +kernel
theorem dX9_init_17 : decode cX9_init 17 = .ok (.putfield 15, 3) := by decide +kernel
theorem dX9_init_20 : decode cX9_init 20 = .ok (.aload_n 0, 1) := by decide +kernel
theorem dX9_init_21 : decode cX9_init 21 = .ok (.new 18, 3) := by decide +kernel
theorem dX9_init_24 : decode cX9_init 24 = .ok (.dup, 1) := by decide +kernel
theorem dX9_init_25 : decode cX9_init 25 = .ok (.invokespecial 20, 3) := by decide +kernel
theorem dX9_init_28 : decode cX9_init 28 = .ok (.putfield 21, 3) := by decide +kernel
theorem dX9_init_31 : decode cX9_init 31 = .ok (.aload_n 0, 1) := by decide +kernel
theorem dX9_init_32 : decode cX9_init 32 = .ok (.new 18, 3) := by decide +kernel
theorem dX9_init_35 : decode cX9_init 35 = .ok (.dup, 1) := by decide +kernel
theorem dX9_init_36 : decode cX9_init 36 = .ok (.invokespecial 20, 3) := by decide +kernel
theorem dX9_init_39 : decode cX9_init 39 = .ok (.putfield 25, 3) := by decide +kernel
theorem dX9_init_42 : decode cX9_init 42 = .ok (.return_, 1) := by decide +kernel
set_option maxRecDepth 20000 in
theorem ggX9_solveSides_X9_clear : GoodIn wsX9_solveSides wsX9_clear := goodIn_r _ [5, 6, 7, 8, 9, 10, 11, 12, 93, 94, 95, 96, 97] rfl rfl
set_option maxRecDepth 20000 in
theorem gX9_solveSides_X9_clear : GoodIn wsX9_solveSides (wsV RX9 28 RX9 yX9_clear wsX9_clear) := goodIn_app (goodIn_of _ (by decide +kernel)) ggX9_solveSides_X9_clear
set_option maxRecDepth 20000 in
theorem ggX9_solveSides_X9_substitute : GoodIn wsX9_solveSides wsX9_substitute := goodIn_r _ [16, 17, 18, 19, 20, 21, 22, 23, 24, 25, 26, 27, 28, 29, 30, 31, 32, 33, 34, 35, 36, 37, 38, 39, 40, 41, 42, 43, 44, 45, 46, 47, 48, 49, 50, 51, 52, 53, 54, 55, 56, 57, 58, 59, 60, 61, 62, 63, 64, 65, 66, 67, 68, 69, 70, 71, 72, 4, 73, 8, 6, 7, 74, 75, 76, 77, 78, 79, 80, 81, 82, 83, 84, 85, 86, 87, 88, 89, 90, 91, 92, 98, 99, 100, 101, 102, 103, 104, 105, 106, 107, 108, 109, 110, 111, 93, 94, 95, 96, 97, 112, 113, 114, 115, 116, 117, 118, 119] rfl rfl
set_option maxRecDepth 20000 in
theorem gX9_solveSides_X9_substitute : GoodIn wsX9_solveSides (wsV RX9 31 RX9 yX9_substitute wsX9_substitute) := goodIn_app (goodIn_of _ (by decide +kernel)) ggX9_solveSides_X9_substitute
theorem dX9_solveSides_0 : decode cX9_solveSides 0 = .ok (.aload_n 0, 1) := by decide +kernel
theorem dX9_solveSides_1 : decode cX9_solveSides 1 = .ok (.invokevirtual 28, 3) := by decide +kernel
theorem dX9_solveSides_4 : decode cX9_solveSides 4 = .ok (.aload_n 0, 1) := by decide +kernel
theorem dX9_solveSides_5 : decode cX9_solveSides 5 = .ok (.aload_n 1, 1) := by decide +kernel
theorem dX9_solveSides_6 : decode cX9_solveSides 6 = .ok (.iconst 1, 1) := by decide +kernel
theorem dX9_solveSides_7 : decode cX9_solveSides 7 = .ok (.invokevirtual 31, 3) := by decide +kernel
theorem dX9_solveSides_10 : decode cX9_solveSides 10 = .ok (.return_, 1) := by decide +kernel
set_option maxRecDepth 20000 in
theorem ggX9_solveNull_X9_clear : GoodIn wsX9_solveNull wsX9_clear := goodIn_r _ [6, 7, 8, 9, 10, 11, 12, 13, 93, 94, 95, 96, 97] rfl rfl
set_option maxRecDepth 20000 in
theorem gX9_solveNull_X9_clear : GoodIn wsX9_solveNull (wsV RX9 28 RX9 yX9_clear wsX9_clear) := goodIn_app (goodIn_of _ (by decide +kernel)) ggX9_solveNull_X9_clear
set_option maxRecDepth 20000 in
theorem ggX9_solveNull_X3_start : GoodIn wsX9_solveNull wsX3_start := goodIn_r _ [18, 19, 20, 21, 22, 17, 23, 24, 25, 26, 27, 28, 29, 30, 31, 98, 99, 100] rfl rfl
set_option maxRecDepth 20000 in
theorem gX9_solveNull_X3_start : GoodIn wsX9_solveNull (wsV RX9 35 RX3 yX3_start wsX3_start) := goodIn_app (goodIn_of _ (by decide +kernel)) ggX9_solveNull_X3_start
set_option maxRecDepth 20000 in
theorem ggX9_solveNull_X9_keep : GoodIn wsX9_solveNull wsX9_keep := goodIn_r _ [35, 7, 1, 36, 8, 37, 38, 9, 93, 94, 95, 96, 97, 98, 99, 100] rfl rfl
set_option maxRecDepth 20000 in
theorem gX9_solveNull_X9_keep : GoodIn wsX9_solveNull (wsV RX9 39 RX9 yX9_keep wsX9_keep) := goodIn_app (goodIn_of _ (by decide +kernel)) ggX9_solveNull_X9_keep
set_option maxRecDepth 20000 in
theorem ggX9_solveNull_X9_substitute : GoodIn wsX9_solveNull wsX9_substitute := goodIn_r _ [42, 43, 44, 1, 45, 46, 38, 36, 37, 47, 48, 49, 50, 51, 52, 53, 54, 55, 56, 57, 58, 14, 15, 16, 17, 18, 19, 20, 21, 22, 23, 24, 25, 26, 27, 28, 29, 30, 31, 59, 60, 61, 62, 63, 64, 65, 66, 67, 68, 69, 70, 71, 72, 73, 74, 75, 76, 5, 77, 9, 7, 8, 78, 79, 80, 81, 82, 83, 84, 85, 86, 87, 88, 89, 90, 91, 92, 32, 33, 34, 35, 101, 102, 103, 104, 105, 106, 107, 108, 109, 110, 111, 112, 113, 114, 93, 94, 95, 96, 97, 115, 116, 117, 118, 119, 98, 99, 100] rfl rfl
set_option maxRecDepth 20000 in
theorem gX9_solveNull_X9_substitute : GoodIn wsX9_solveNull (wsV RX9 31 RX9 yX9_substitute wsX9_substitute) := goodIn_app (goodIn_of _ (by decide +kernel)) ggX9_solveNull_X9_substitute
theorem dX9_solveNull_0 : decode cX9_solveNull 0 = .ok (.aload_n 0, 1) := by decide +kernel
theorem dX9_solveNull_1 : decode cX9_solveNull 1 = .ok (.invokevirtual 28, 3) := by decide +kernel
theorem dX9_solveNull_4 : decode cX9_solveNull 4 = .ok (.aload_n 0, 1) := by decide +kernel
theorem dX9_solveNull_5 : decode cX9_solveNull 5 = .ok (.getfield 21, 3) := by decide +kernel
theorem dX9_solveNull_8 : decode cX9_solveNull 8 = .ok (.lconst 1, 1) := by decide +kernel
theorem dX9_solveNull_9 : decode cX9_solveNull 9 = .ok (.lconst 1, 1) := by decide +kernel
theorem dX9_solveNull_10 : decode cX9_solveNull 10 = .ok (.invokevirtual 35, 3) := by decide +kernel
theorem dX9_solveNull_13 : decode cX9_solveNull 13 = .ok (.aload_n 0, 1) := by decide +kernel
theorem dX9_solveNull_14 : decode cX9_solveNull 14 = .ok (.iload_n 2, 1) := by decide +kernel
theorem dX9_solveNull_15 : decode cX9_solveNull 15 = .ok (.invokevirtual 39, 3) := by decide +kernel
theorem dX9_solveNull_18 : decode cX9_solveNull 18 = .ok (.aload_n 0, 1) := by decide +kernel
theorem dX9_solveNull_19 : decode cX9_solveNull 19 = .ok (.aload_n 1, 1) := by decide +kernel
theorem dX9_solveNull_20 : decode cX9_solveNull 20 = .ok (.iconst 0, 1) := by decide +kernel
theorem dX9_solveNull_21 : decode cX9_solveNull 21 = .ok (.invokevirtual 31, 3) := by decide +kernel
theorem dX9_solveNull_24 : decode cX9_solveNull 24 = .ok (.return_, 1) := by decide +kernel
theorem dX9_answer_0 : decode cX9_answer 0 = .ok (.iload_n 1, 1) := by decide +kernel
theorem dX9_answer_1 : decode cX9_answer 1 = .ok (.ifCond .lt 20, 3) := by decide +kernel
theorem dX9_answer_4 : decode cX9_answer 4 = .ok (.iload_n 1, 1) := by decide +kernel
theorem dX9_answer_5 : decode cX9_answer 5 = .ok (.bipush 6, 2) := by decide +kernel
theorem dX9_answer_7 : decode cX9_answer 7 = .ok (.if_icmp .ge 14, 3) := by decide +kernel
theorem dX9_answer_10 : decode cX9_answer 10 = .ok (.aload_n 0, 1) := by decide +kernel
theorem dX9_answer_11 : decode cX9_answer 11 = .ok (.getfield 43, 3) := by decide +kernel
theorem dX9_answer_14 : decode cX9_answer 14 = .ok (.iload_n 1, 1) := by decide +kernel
theorem dX9_answer_15 : decode cX9_answer 15 = .ok (.ishr, 1) := by decide +kernel
theorem dX9_answer_16 : decode cX9_answer 16 = .ok (.iconst 1, 1) := by decide +kernel
theorem dX9_answer_17 : decode cX9_answer 17 = .ok (.iand, 1) := by decide +kernel
theorem dX9_answer_18 : decode cX9_answer 18 = .ok (.ifCond .ne 6, 3) := by decide +kernel
theorem dX9_answer_21 : decode cX9_answer 21 = .ok (.ldc 47, 2) := by decide +kernel
theorem dX9_answer_23 : decode cX9_answer 23 = .ok (.ireturn, 1) := by decide +kernel
theorem dX9_answer_24 : decode cX9_answer 24 = .ok (.iload_n 2, 1) := by decide +kernel
theorem dX9_answer_25 : decode cX9_answer 25 = .ok (.ifCond .eq 12, 3) := by decide +kernel
theorem dX9_answer_28 : decode cX9_answer 28 = .ok (.aload_n 0, 1) := by decide +kernel
theorem dX9_answer_29 : decode cX9_answer 29 = .ok (.getfield 15, 3) := by decide +kernel
theorem dX9_answer_32 : decode cX9_answer 32 = .ok (.iload_n 1, 1) := by decide +kernel
theorem dX9_answer_33 : decode cX9_answer 33 = .ok (.iaload, 1) := by decide +kernel
theorem dX9_answer_34 : decode cX9_answer 34 = .ok (.goto 9, 3) := by decide +kernel
theorem dX9_answer_37 : decode cX9_answer 37 = .ok (.aload_n 0, 1) := by decide +kernel
theorem dX9_answer_38 : decode cX9_answer 38 = .ok (.getfield 9, 3) := by decide +kernel
theorem dX9_answer_41 : decode cX9_answer 41 = .ok (.iload_n 1, 1) := by decide +kernel
theorem dX9_answer_42 : decode cX9_answer 42 = .ok (.iaload, 1) := by decide +kernel
theorem dX9_answer_43 : decode cX9_answer 43 = .ok (.ireturn, 1) := by decide +kernel
set_option maxRecDepth 20000 in
theorem ggX9_residueOf_X3_start : GoodIn wsX9_residueOf wsX3_start := goodIn_r _ [10, 11, 12, 13, 14, 9, 15, 16, 17, 18, 19, 20, 21, 22, 23, 72, 73, 74] rfl rfl
set_option maxRecDepth 20000 in
theorem gX9_residueOf_X3_start : GoodIn wsX9_residueOf (wsV RX9 35 RX3 yX3_start wsX3_start) := goodIn_app (goodIn_of _ (by decide +kernel)) ggX9_residueOf_X3_start
set_option maxRecDepth 20000 in
theorem ggX9_residueOf_X9_multiply : GoodIn wsX9_residueOf wsX9_multiply := goodIn_r _ [28, 2, 4, 29, 30, 31, 32, 33, 34, 9, 35, 11, 16, 17, 36, 37, 38, 39, 40, 41, 42, 43, 44, 45, 46, 47, 21, 22, 23, 48, 49, 50, 51, 12, 13, 14, 15, 18, 19, 20, 67, 68, 69, 70, 71, 72, 73, 74, 62, 63, 64, 65, 66] rfl rfl
set_option maxRecDepth 20000 in
theorem gX9_residueOf_X9_multiply : GoodIn wsX9_residueOf (wsV RX9 53 RX9 yX9_multiply wsX9_multiply) := goodIn_app (goodIn_of _ (by decide +kernel)) ggX9_residueOf_X9_multiply
set_option maxRecDepth 20000 in
theorem ggX9_residueOf_X3_spoil : GoodIn wsX9_residueOf wsX3_spoil := goodIn_r _ [23, 11, 16, 17, 72, 73, 74] rfl rfl
set_option maxRecDepth 20000 in
theorem gX9_residueOf_X3_spoil : GoodIn wsX9_residueOf (wsV RX9 61 RX3 yX3_spoil wsX3_spoil) := goodIn_app (goodIn_of _ (by decide +kernel)) ggX9_residueOf_X3_spoil
set_option maxRecDepth 20000 in
theorem ggX9_residueOf_X3_plus : GoodIn wsX9_residueOf wsX3_plus := goodIn_r _ [55, 16, 17, 12, 13, 14, 9, 15, 11, 18, 19, 20, 21, 22, 23, 72, 73, 74] rfl rfl
set_option maxRecDepth 20000 in
theorem gX9_residueOf_X3_plus : GoodIn wsX9_residueOf (wsV RX9 69 RX3 yX3_plus wsX3_plus) := goodIn_app (goodIn_of _ (by decide +kernel)) ggX9_residueOf_X3_plus
set_option maxRecDepth 20000 in
theorem ggX9_residueOf_X1_upperAt : GoodIn wsX9_residueOf wsX1_upperAt := goodIn_r _ [40, 41, 62, 63, 64, 65, 66] rfl rfl
set_option maxRecDepth 20000 in
theorem gX9_residueOf_X1_upperAt : GoodIn wsX9_residueOf (wsV RX9 72 RX1 yX1_upperAt wsX1_upperAt) := goodIn_app (goodIn_of _ (by decide +kernel)) ggX9_residueOf_X1_upperAt
set_option maxRecDepth 20000 in
theorem ggX9_residueOf_X1_lowerAt : GoodIn wsX9_residueOf wsX1_lowerAt := goodIn_r _ [45, 46, 62, 63, 64, 65, 66] rfl rfl
set_option maxRecDepth 20000 in
theorem gX9_residueOf_X1_lowerAt : GoodIn wsX9_residueOf (wsV RX9 76 RX1 yX1_lowerAt wsX1_lowerAt) := goodIn_app (goodIn_of _ (by decide +kernel)) ggX9_residueOf_X1_lowerAt
set_option maxRecDepth 20000 in
theorem ggX9_residueOf_X3_minus : GoodIn wsX9_residueOf wsX3_minus := goodIn_r _ [61, 16, 17, 12, 13, 14, 9, 15, 11, 18, 19, 20, 21, 22, 23, 72, 73, 74] rfl rfl
set_option maxRecDepth 20000 in
theorem gX9_residueOf_X3_minus : GoodIn wsX9_residueOf (wsV RX9 79 RX3 yX3_minus wsX3_minus) := goodIn_app (goodIn_of _ (by decide +kernel)) ggX9_residueOf_X3_minus
theorem dX9_residueOf_0 : decode cX9_residueOf 0 = .ok (.aload_n 3, 1) := by decide +kernel
theorem dX9_residueOf_1 : decode cX9_residueOf 1 = .ok (.lconst 0, 1) := by decide +kernel
theorem dX9_residueOf_2 : decode cX9_residueOf 2 = .ok (.lconst 1, 1) := by decide +kernel
theorem dX9_residueOf_3 : decode cX9_residueOf 3 = .ok (.invokevirtual 35, 3) := by decide +kernel
theorem dX9_residueOf_6 : decode cX9_residueOf 6 = .ok (.iconst 0, 1) := by decide +kernel
theorem dX9_residueOf_7 : decode cX9_residueOf 7 = .ok (.istore 4, 2) := by decide +kernel
theorem dX9_residueOf_9 : decode cX9_residueOf 9 = .ok (.iload 4, 2) := by decide +kernel
theorem dX9_residueOf_11 : decode cX9_residueOf 11 = .ok (.aload_n 1, 1) := by decide +kernel
theorem dX9_residueOf_12 : decode cX9_residueOf 12 = .ok (.getfield 48, 3) := by decide +kernel
theorem dX9_residueOf_15 : decode cX9_residueOf 15 = .ok (.if_icmp .ge 49, 3) := by decide +kernel
theorem dX9_residueOf_18 : decode cX9_residueOf 18 = .ok (.aload_n 0, 1) := by decide +kernel
theorem dX9_residueOf_19 : decode cX9_residueOf 19 = .ok (.aload_n 1, 1) := by decide +kernel
theorem dX9_residueOf_20 : decode cX9_residueOf 20 = .ok (.iload_n 2, 1) := by decide +kernel
theorem dX9_residueOf_21 : decode cX9_residueOf 21 = .ok (.iload 4, 2) := by decide +kernel
theorem dX9_residueOf_23 : decode cX9_residueOf 23 = .ok (.invokevirtual 53, 3) := by decide +kernel
theorem dX9_residueOf_26 : decode cX9_residueOf 26 = .ok (.aload_n 0, 1) := by decide +kernel
theorem dX9_residueOf_27 : decode cX9_residueOf 27 = .ok (.getfield 25, 3) := by decide +kernel
theorem dX9_residueOf_30 : decode cX9_residueOf 30 = .ok (.getfield 57, 3) := by decide +kernel
theorem dX9_residueOf_33 : decode cX9_residueOf 33 = .ok (.ifCond .eq 7, 3) := by decide +kernel
theorem dX9_residueOf_36 : decode cX9_residueOf 36 = .ok (.aload_n 3, 1) := by decide +kernel
theorem dX9_residueOf_37 : decode cX9_residueOf 37 = .ok (.invokevirtual 61, 3) := by decide +kernel
theorem dX9_residueOf_40 : decode cX9_residueOf 40 = .ok (.aload_n 3, 1) := by decide +kernel
theorem dX9_residueOf_41 : decode cX9_residueOf 41 = .ok (.aload_n 0, 1) := by decide +kernel
theorem dX9_residueOf_42 : decode cX9_residueOf 42 = .ok (.getfield 25, 3) := by decide +kernel
theorem dX9_residueOf_45 : decode cX9_residueOf 45 = .ok (.getfield 64, 3) := by decide +kernel
theorem dX9_residueOf_48 : decode cX9_residueOf 48 = .ok (.aload_n 0, 1) := by decide +kernel
theorem dX9_residueOf_49 : decode cX9_residueOf 49 = .ok (.getfield 25, 3) := by decide +kernel
theorem dX9_residueOf_52 : decode cX9_residueOf 52 = .ok (.getfield 67, 3) := by decide +kernel
theorem dX9_residueOf_55 : decode cX9_residueOf 55 = .ok (.invokevirtual 69, 3) := by decide +kernel
theorem dX9_residueOf_58 : decode cX9_residueOf 58 = .ok (.iinc 4 1, 3) := by decide +kernel
theorem dX9_residueOf_61 : decode cX9_residueOf 61 = .ok (.goto (-52), 3) := by decide +kernel
theorem dX9_residueOf_64 : decode cX9_residueOf 64 = .ok (.aload_n 3, 1) := by decide +kernel
theorem dX9_residueOf_65 : decode cX9_residueOf 65 = .ok (.aload_n 1, 1) := by decide +kernel
theorem dX9_residueOf_66 : decode cX9_residueOf 66 = .ok (.iload_n 2, 1) := by decide +kernel
theorem dX9_residueOf_67 : decode cX9_residueOf 67 = .ok (.aload_n 1, 1) := by decide +kernel
theorem dX9_residueOf_68 : decode cX9_residueOf 68 = .ok (.getfield 48, 3) := by decide +kernel
theorem dX9_residueOf_71 : decode cX9_residueOf 71 = .ok (.invokevirtual 72, 3) := by decide +kernel
theorem dX9_residueOf_74 : decode cX9_residueOf 74 = .ok (.i2l, 1) := by decide +kernel
theorem dX9_residueOf_75 : decode cX9_residueOf 75 = .ok (.aload_n 1, 1) := by decide +kernel
theorem dX9_residueOf_76 : decode cX9_residueOf 76 = .ok (.iload_n 2, 1) := by decide +kernel
theorem dX9_residueOf_77 : decode cX9_residueOf 77 = .ok (.aload_n 1, 1) := by decide +kernel
theorem dX9_residueOf_78 : decode cX9_residueOf 78 = .ok (.getfield 48, 3) := by decide +kernel
theorem dX9_residueOf_81 : decode cX9_residueOf 81 = .ok (.invokevirtual 76, 3) := by decide +kernel
theorem dX9_residueOf_84 : decode cX9_residueOf 84 = .ok (.i2l, 1) := by decide +kernel
theorem dX9_residueOf_85 : decode cX9_residueOf 85 = .ok (.invokevirtual 79, 3) := by decide +kernel
theorem dX9_residueOf_88 : decode cX9_residueOf 88 = .ok (.return_, 1) := by decide +kernel
set_option maxRecDepth 20000 in
theorem ggX9_clear_J7_fill_53178 : GoodIn wsX9_clear wsJ7_fill_53178 := goodIn_r _ [7] rfl rfl
set_option maxRecDepth 20000 in
theorem gX9_clear_J7_fill_53178 : GoodIn wsX9_clear (va_wsS RX9 82 yJ7_fill_53178 wsJ7_fill_53178) := goodIn_app (goodIn_of _ (by decide +kernel)) ggX9_clear_J7_fill_53178
theorem dX9_clear_0 : decode cX9_clear 0 = .ok (.aload_n 0, 1) := by decide +kernel
theorem dX9_clear_1 : decode cX9_clear 1 = .ok (.getfield 9, 3) := by decide +kernel
theorem dX9_clear_4 : decode cX9_clear 4 = .ok (.iconst 0, 1) := by decide +kernel
theorem dX9_clear_5 : decode cX9_clear 5 = .ok (.invokestatic 82, 3) := by decide +kernel
theorem dX9_clear_8 : decode cX9_clear 8 = .ok (.aload_n 0, 1) := by decide +kernel
theorem dX9_clear_9 : decode cX9_clear 9 = .ok (.getfield 15, 3) := by decide +kernel
theorem dX9_clear_12 : decode cX9_clear 12 = .ok (.iconst 1, 1) := by decide +kernel
theorem dX9_clear_13 : decode cX9_clear 13 = .ok (.invokestatic 82, 3) := by decide +kernel
theorem dX9_clear_16 : decode cX9_clear 16 = .ok (.aload_n 0, 1) := by decide +kernel
theorem dX9_clear_17 : decode cX9_clear 17 = .ok (.bipush 63, 2) := by decide +kernel
theorem dX9_clear_19 : decode cX9_clear 19 = .ok (.putfield 43, 3) := by decide +kernel
theorem dX9_clear_22 : decode cX9_clear 22 = .ok (.return_, 1) := by decide +kernel
set_option maxRecDepth 20000 in
theorem ggX9_substitute_X7_rowOf : GoodIn wsX9_substitute wsX7_rowOf := goodIn_r _ [13, 14, 15, 81, 82, 83, 84, 85, 86, 87, 88, 89, 90, 91, 92, 93, 94] rfl rfl
set_option maxRecDepth 20000 in
theorem gX9_substitute_X7_rowOf : GoodIn wsX9_substitute (wsV RX9 97 RX7 yX7_rowOf wsX7_rowOf) := goodIn_app (goodIn_of _ (by decide +kernel)) ggX9_substitute_X7_rowOf
set_option maxRecDepth 20000 in
theorem ggX9_substitute_X7_columnOf : GoodIn wsX9_substitute wsX7_columnOf := goodIn_r _ [19, 14, 20, 81, 82, 83, 84, 85, 86, 87, 88, 89, 90, 91, 92, 93, 94] rfl rfl
set_option maxRecDepth 20000 in
theorem gX9_substitute_X7_columnOf : GoodIn wsX9_substitute (wsV RX9 101 RX7 yX7_columnOf wsX7_columnOf) := goodIn_app (goodIn_of _ (by decide +kernel)) ggX9_substitute_X7_columnOf
set_option maxRecDepth 20000 in
theorem ggX9_substitute_X3_start : GoodIn wsX9_substitute wsX3_start := goodIn_r _ [25, 26, 27, 28, 29, 24, 30, 31, 32, 33, 34, 35, 36, 37, 38, 105, 106, 107] rfl rfl
set_option maxRecDepth 20000 in
theorem gX9_substitute_X3_start : GoodIn wsX9_substitute (wsV RX9 35 RX3 yX3_start wsX3_start) := goodIn_app (goodIn_of _ (by decide +kernel)) ggX9_substitute_X3_start
set_option maxRecDepth 20000 in
theorem ggX9_substitute_X3_load : GoodIn wsX9_substitute wsX3_load := goodIn_r _ [42, 26, 31, 32, 43, 44, 45, 46, 47, 48, 49, 50, 51, 52, 53, 105, 106, 107, 100, 101, 102, 103, 104] rfl rfl
set_option maxRecDepth 20000 in
theorem gX9_substitute_X3_load : GoodIn wsX9_substitute (wsV RX9 104 RX3 yX3_load wsX3_load) := goodIn_app (goodIn_of _ (by decide +kernel)) ggX9_substitute_X3_load
set_option maxRecDepth 20000 in
theorem ggX9_substitute_X9_multiply : GoodIn wsX9_substitute wsX9_multiply := goodIn_r _ [58, 5, 7, 59, 60, 61, 39, 40, 41, 24, 42, 26, 31, 32, 43, 44, 45, 46, 47, 48, 49, 50, 51, 52, 53, 62, 36, 37, 38, 63, 64, 65, 66, 27, 28, 29, 30, 33, 34, 35, 95, 96, 97, 98, 99, 105, 106, 107, 100, 101, 102, 103, 104] rfl rfl
set_option maxRecDepth 20000 in
theorem gX9_substitute_X9_multiply : GoodIn wsX9_substitute (wsV RX9 53 RX9 yX9_multiply wsX9_multiply) := goodIn_app (goodIn_of _ (by decide +kernel)) ggX9_substitute_X9_multiply
set_option maxRecDepth 20000 in
theorem ggX9_substitute_X3_spoil : GoodIn wsX9_substitute wsX3_spoil := goodIn_r _ [38, 26, 31, 32, 105, 106, 107] rfl rfl
set_option maxRecDepth 20000 in
theorem gX9_substitute_X3_spoil : GoodIn wsX9_substitute (wsV RX9 61 RX3 yX3_spoil wsX3_spoil) := goodIn_app (goodIn_of _ (by decide +kernel)) ggX9_substitute_X3_spoil
set_option maxRecDepth 20000 in
theorem ggX9_substitute_X3_minus : GoodIn wsX9_substitute wsX3_minus := goodIn_r _ [70, 31, 32, 27, 28, 29, 24, 30, 26, 33, 34, 35, 36, 37, 38, 105, 106, 107] rfl rfl
set_option maxRecDepth 20000 in
theorem gX9_substitute_X3_minus : GoodIn wsX9_substitute (wsV RX9 79 RX3 yX3_minus wsX3_minus) := goodIn_app (goodIn_of _ (by decide +kernel)) ggX9_substitute_X3_minus
set_option maxRecDepth 20000 in
theorem ggX9_substitute_X1_upperAt : GoodIn wsX9_substitute wsX1_upperAt := goodIn_r _ [47, 48, 100, 101, 102, 103, 104] rfl rfl
set_option maxRecDepth 20000 in
theorem gX9_substitute_X1_upperAt : GoodIn wsX9_substitute (wsV RX9 72 RX1 yX1_upperAt wsX1_upperAt) := goodIn_app (goodIn_of _ (by decide +kernel)) ggX9_substitute_X1_upperAt
set_option maxRecDepth 20000 in
theorem ggX9_substitute_X1_lowerAt : GoodIn wsX9_substitute wsX1_lowerAt := goodIn_r _ [52, 53, 100, 101, 102, 103, 104] rfl rfl
set_option maxRecDepth 20000 in
theorem gX9_substitute_X1_lowerAt : GoodIn wsX9_substitute (wsV RX9 76 RX1 yX1_lowerAt wsX1_lowerAt) := goodIn_app (goodIn_of _ (by decide +kernel)) ggX9_substitute_X1_lowerAt
set_option maxRecDepth 20000 in
theorem ggX9_substitute_X3_over : GoodIn wsX9_substitute wsX3_over := goodIn_r _ [76, 31, 32, 27, 28, 29, 24, 30, 26, 33, 34, 35, 36, 37, 38, 105, 106, 107] rfl rfl
set_option maxRecDepth 20000 in
theorem gX9_substitute_X3_over : GoodIn wsX9_substitute (wsV RX9 107 RX3 yX3_over wsX3_over) := goodIn_app (goodIn_of _ (by decide +kernel)) ggX9_substitute_X3_over
set_option maxRecDepth 20000 in
theorem ggX9_substitute_X9_keep : GoodIn wsX9_substitute wsX9_keep := goodIn_r _ [80, 60, 3, 7, 61, 8, 6, 59, 95, 96, 97, 98, 99, 105, 106, 107] rfl rfl
set_option maxRecDepth 20000 in
theorem gX9_substitute_X9_keep : GoodIn wsX9_substitute (wsV RX9 39 RX9 yX9_keep wsX9_keep) := goodIn_app (goodIn_of _ (by decide +kernel)) ggX9_substitute_X9_keep
theorem dX9_substitute_0 : decode cX9_substitute 0 = .ok (.aload_n 1, 1) := by decide +kernel
theorem dX9_substitute_1 : decode cX9_substitute 1 = .ok (.getfield 88, 3) := by decide +kernel
theorem dX9_substitute_4 : decode cX9_substitute 4 = .ok (.astore_n 3, 1) := by decide +kernel
theorem dX9_substitute_5 : decode cX9_substitute 5 = .ok (.aload_n 1, 1) := by decide +kernel
theorem dX9_substitute_6 : decode cX9_substitute 6 = .ok (.getfield 94, 3) := by decide +kernel
theorem dX9_substitute_9 : decode cX9_substitute 9 = .ok (.iconst 1, 1) := by decide +kernel
theorem dX9_substitute_10 : decode cX9_substitute 10 = .ok (.isub, 1) := by decide +kernel
theorem dX9_substitute_11 : decode cX9_substitute 11 = .ok (.istore 4, 2) := by decide +kernel
theorem dX9_substitute_13 : decode cX9_substitute 13 = .ok (.iload 4, 2) := by decide +kernel
theorem dX9_substitute_15 : decode cX9_substitute 15 = .ok (.ifCond .lt 155, 3) := by decide +kernel
theorem dX9_substitute_18 : decode cX9_substitute 18 = .ok (.aload_n 1, 1) := by decide +kernel
theorem dX9_substitute_19 : decode cX9_substitute 19 = .ok (.iload 4, 2) := by decide +kernel
theorem dX9_substitute_21 : decode cX9_substitute 21 = .ok (.invokevirtual 97, 3) := by decide +kernel
theorem dX9_substitute_24 : decode cX9_substitute 24 = .ok (.istore 5, 2) := by decide +kernel
theorem dX9_substitute_26 : decode cX9_substitute 26 = .ok (.aload_n 1, 1) := by decide +kernel
theorem dX9_substitute_27 : decode cX9_substitute 27 = .ok (.iload 4, 2) := by decide +kernel
theorem dX9_substitute_29 : decode cX9_substitute 29 = .ok (.invokevirtual 101, 3) := by decide +kernel
theorem dX9_substitute_32 : decode cX9_substitute 32 = .ok (.istore 6, 2) := by decide +kernel
theorem dX9_substitute_34 : decode cX9_substitute 34 = .ok (.aload_n 0, 1) := by decide +kernel
theorem dX9_substitute_35 : decode cX9_substitute 35 = .ok (.getfield 21, 3) := by decide +kernel
theorem dX9_substitute_38 : decode cX9_substitute 38 = .ok (.lconst 0, 1) := by decide +kernel
theorem dX9_substitute_39 : decode cX9_substitute 39 = .ok (.lconst 1, 1) := by decide +kernel
theorem dX9_substitute_40 : decode cX9_substitute 40 = .ok (.invokevirtual 35, 3) := by decide +kernel
theorem dX9_substitute_43 : decode cX9_substitute 43 = .ok (.iload_n 2, 1) := by decide +kernel
theorem dX9_substitute_44 : decode cX9_substitute 44 = .ok (.ifCond .eq 17, 3) := by decide +kernel
theorem dX9_substitute_47 : decode cX9_substitute 47 = .ok (.aload_n 0, 1) := by decide +kernel
theorem dX9_substitute_48 : decode cX9_substitute 48 = .ok (.getfield 21, 3) := by decide +kernel
theorem dX9_substitute_51 : decode cX9_substitute 51 = .ok (.aload_n 3, 1) := by decide +kernel
theorem dX9_substitute_52 : decode cX9_substitute 52 = .ok (.iload 5, 2) := by decide +kernel
theorem dX9_substitute_54 : decode cX9_substitute 54 = .ok (.aload_n 3, 1) := by decide +kernel
theorem dX9_substitute_55 : decode cX9_substitute 55 = .ok (.getfield 48, 3) := by decide +kernel
theorem dX9_substitute_58 : decode cX9_substitute 58 = .ok (.invokevirtual 104, 3) := by decide +kernel
theorem dX9_substitute_61 : decode cX9_substitute 61 = .ok (.iconst 0, 1) := by decide +kernel
theorem dX9_substitute_62 : decode cX9_substitute 62 = .ok (.istore 7, 2) := by decide +kernel
theorem dX9_substitute_64 : decode cX9_substitute 64 = .ok (.iload 7, 2) := by decide +kernel
theorem dX9_substitute_66 : decode cX9_substitute 66 = .ok (.aload_n 3, 1) := by decide +kernel
theorem dX9_substitute_67 : decode cX9_substitute 67 = .ok (.getfield 48, 3) := by decide +kernel
theorem dX9_substitute_70 : decode cX9_substitute 70 = .ok (.if_icmp .ge 63, 3) := by decide +kernel
theorem dX9_substitute_73 : decode cX9_substitute 73 = .ok (.iload 7, 2) := by decide +kernel
theorem dX9_substitute_75 : decode cX9_substitute 75 = .ok (.iload 6, 2) := by decide +kernel
theorem dX9_substitute_77 : decode cX9_substitute 77 = .ok (.if_icmp .eq 50, 3) := by decide +kernel
theorem dX9_substitute_80 : decode cX9_substitute 80 = .ok (.aload_n 0, 1) := by decide +kernel
theorem dX9_substitute_81 : decode cX9_substitute 81 = .ok (.aload_n 3, 1) := by decide +kernel
theorem dX9_substitute_82 : decode cX9_substitute 82 = .ok (.iload 5, 2) := by decide +kernel
theorem dX9_substitute_84 : decode cX9_substitute 84 = .ok (.iload 7, 2) := by decide +kernel
theorem dX9_substitute_86 : decode cX9_substitute 86 = .ok (.invokevirtual 53, 3) := by decide +kernel
theorem dX9_substitute_89 : decode cX9_substitute 89 = .ok (.aload_n 0, 1) := by decide +kernel
theorem dX9_substitute_90 : decode cX9_substitute 90 = .ok (.getfield 25, 3) := by decide +kernel
theorem dX9_substitute_93 : decode cX9_substitute 93 = .ok (.getfield 57, 3) := by decide +kernel
theorem dX9_substitute_96 : decode cX9_substitute 96 = .ok (.ifCond .eq 10, 3) := by decide +kernel
theorem dX9_substitute_99 : decode cX9_substitute 99 = .ok (.aload_n 0, 1) := by decide +kernel
theorem dX9_substitute_100 : decode cX9_substitute 100 = .ok (.getfield 21, 3) := by decide +kernel
theorem dX9_substitute_103 : decode cX9_substitute 103 = .ok (.invokevirtual 61, 3) := by decide +kernel
theorem dX9_substitute_106 : decode cX9_substitute 106 = .ok (.aload_n 0, 1) := by decide +kernel
theorem dX9_substitute_107 : decode cX9_substitute 107 = .ok (.getfield 21, 3) := by decide +kernel
theorem dX9_substitute_110 : decode cX9_substitute 110 = .ok (.aload_n 0, 1) := by decide +kernel
theorem dX9_substitute_111 : decode cX9_substitute 111 = .ok (.getfield 25, 3) := by decide +kernel
theorem dX9_substitute_114 : decode cX9_substitute 114 = .ok (.getfield 64, 3) := by decide +kernel
theorem dX9_substitute_117 : decode cX9_substitute 117 = .ok (.aload_n 0, 1) := by decide +kernel
theorem dX9_substitute_118 : decode cX9_substitute 118 = .ok (.getfield 25, 3) := by decide +kernel
theorem dX9_substitute_121 : decode cX9_substitute 121 = .ok (.getfield 67, 3) := by decide +kernel
theorem dX9_substitute_124 : decode cX9_substitute 124 = .ok (.invokevirtual 79, 3) := by decide +kernel
theorem dX9_substitute_127 : decode cX9_substitute 127 = .ok (.iinc 7 1, 3) := by decide +kernel
theorem dX9_substitute_130 : decode cX9_substitute 130 = .ok (.goto (-66), 3) := by decide +kernel
theorem dX9_substitute_133 : decode cX9_substitute 133 = .ok (.aload_n 0, 1) := by decide +kernel
theorem dX9_substitute_134 : decode cX9_substitute 134 = .ok (.getfield 21, 3) := by decide +kernel
theorem dX9_substitute_137 : decode cX9_substitute 137 = .ok (.aload_n 3, 1) := by decide +kernel
theorem dX9_substitute_138 : decode cX9_substitute 138 = .ok (.iload 5, 2) := by decide +kernel
theorem dX9_substitute_140 : decode cX9_substitute 140 = .ok (.iload 6, 2) := by decide +kernel
theorem dX9_substitute_142 : decode cX9_substitute 142 = .ok (.invokevirtual 72, 3) := by decide +kernel
theorem dX9_substitute_145 : decode cX9_substitute 145 = .ok (.i2l, 1) := by decide +kernel
theorem dX9_substitute_146 : decode cX9_substitute 146 = .ok (.aload_n 3, 1) := by decide +kernel
theorem dX9_substitute_147 : decode cX9_substitute 147 = .ok (.iload 5, 2) := by decide +kernel
theorem dX9_substitute_149 : decode cX9_substitute 149 = .ok (.iload 6, 2) := by decide +kernel
theorem dX9_substitute_151 : decode cX9_substitute 151 = .ok (.invokevirtual 76, 3) := by decide +kernel
theorem dX9_substitute_154 : decode cX9_substitute 154 = .ok (.i2l, 1) := by decide +kernel
theorem dX9_substitute_155 : decode cX9_substitute 155 = .ok (.invokevirtual 107, 3) := by decide +kernel
theorem dX9_substitute_158 : decode cX9_substitute 158 = .ok (.aload_n 0, 1) := by decide +kernel
theorem dX9_substitute_159 : decode cX9_substitute 159 = .ok (.iload 6, 2) := by decide +kernel
theorem dX9_substitute_161 : decode cX9_substitute 161 = .ok (.invokevirtual 39, 3) := by decide +kernel
theorem dX9_substitute_164 : decode cX9_substitute 164 = .ok (.iinc 4 (-1), 3) := by decide +kernel
theorem dX9_substitute_167 : decode cX9_substitute 167 = .ok (.goto (-154), 3) := by decide +kernel
theorem dX9_substitute_170 : decode cX9_substitute 170 = .ok (.return_, 1) := by decide +kernel
theorem dX9_keep_0 : decode cX9_keep 0 = .ok (.iload_n 1, 1) := by decide +kernel
theorem dX9_keep_1 : decode cX9_keep 1 = .ok (.ifCond .lt 72, 3) := by decide +kernel
theorem dX9_keep_4 : decode cX9_keep 4 = .ok (.iload_n 1, 1) := by decide +kernel
theorem dX9_keep_5 : decode cX9_keep 5 = .ok (.bipush 6, 2) := by decide +kernel
theorem dX9_keep_7 : decode cX9_keep 7 = .ok (.if_icmp .ge 66, 3) := by decide +kernel
theorem dX9_keep_10 : decode cX9_keep 10 = .ok (.aload_n 0, 1) := by decide +kernel
theorem dX9_keep_11 : decode cX9_keep 11 = .ok (.getfield 9, 3) := by decide +kernel
theorem dX9_keep_14 : decode cX9_keep 14 = .ok (.iload_n 1, 1) := by decide +kernel
theorem dX9_keep_15 : decode cX9_keep 15 = .ok (.aload_n 0, 1) := by decide +kernel
theorem dX9_keep_16 : decode cX9_keep 16 = .ok (.getfield 21, 3) := by decide +kernel
theorem dX9_keep_19 : decode cX9_keep 19 = .ok (.getfield 64, 3) := by decide +kernel
theorem dX9_keep_22 : decode cX9_keep 22 = .ok (.l2i, 1) := by decide +kernel
theorem dX9_keep_23 : decode cX9_keep 23 = .ok (.iastore, 1) := by decide +kernel
theorem dX9_keep_24 : decode cX9_keep 24 = .ok (.aload_n 0, 1) := by decide +kernel
theorem dX9_keep_25 : decode cX9_keep 25 = .ok (.getfield 15, 3) := by decide +kernel
theorem dX9_keep_28 : decode cX9_keep 28 = .ok (.iload_n 1, 1) := by decide +kernel
theorem dX9_keep_29 : decode cX9_keep 29 = .ok (.aload_n 0, 1) := by decide +kernel
theorem dX9_keep_30 : decode cX9_keep 30 = .ok (.getfield 21, 3) := by decide +kernel
theorem dX9_keep_33 : decode cX9_keep 33 = .ok (.getfield 67, 3) := by decide +kernel
theorem dX9_keep_36 : decode cX9_keep 36 = .ok (.l2i, 1) := by decide +kernel
theorem dX9_keep_37 : decode cX9_keep 37 = .ok (.iastore, 1) := by decide +kernel
theorem dX9_keep_38 : decode cX9_keep 38 = .ok (.aload_n 0, 1) := by decide +kernel
theorem dX9_keep_39 : decode cX9_keep 39 = .ok (.aload_n 0, 1) := by decide +kernel
theorem dX9_keep_40 : decode cX9_keep 40 = .ok (.getfield 21, 3) := by decide +kernel
theorem dX9_keep_43 : decode cX9_keep 43 = .ok (.getfield 57, 3) := by decide +kernel
theorem dX9_keep_46 : decode cX9_keep 46 = .ok (.ifCond .eq 16, 3) := by decide +kernel
theorem dX9_keep_49 : decode cX9_keep 49 = .ok (.aload_n 0, 1) := by decide +kernel
theorem dX9_keep_50 : decode cX9_keep 50 = .ok (.getfield 43, 3) := by decide +kernel
theorem dX9_keep_53 : decode cX9_keep 53 = .ok (.iconst 1, 1) := by decide +kernel
theorem dX9_keep_54 : decode cX9_keep 54 = .ok (.iload_n 1, 1) := by decide +kernel
theorem dX9_keep_55 : decode cX9_keep 55 = .ok (.ishl, 1) := by decide +kernel
theorem dX9_keep_56 : decode cX9_keep 56 = .ok (.iconst (-1), 1) := by decide +kernel
theorem dX9_keep_57 : decode cX9_keep 57 = .ok (.ixor, 1) := by decide +kernel
theorem dX9_keep_58 : decode cX9_keep 58 = .ok (.iand, 1) := by decide +kernel
theorem dX9_keep_59 : decode cX9_keep 59 = .ok (.goto 11, 3) := by decide +kernel
theorem dX9_keep_62 : decode cX9_keep 62 = .ok (.aload_n 0, 1) := by decide +kernel
theorem dX9_keep_63 : decode cX9_keep 63 = .ok (.getfield 43, 3) := by decide +kernel
theorem dX9_keep_66 : decode cX9_keep 66 = .ok (.iconst 1, 1) := by decide +kernel
theorem dX9_keep_67 : decode cX9_keep 67 = .ok (.iload_n 1, 1) := by decide +kernel
theorem dX9_keep_68 : decode cX9_keep 68 = .ok (.ishl, 1) := by decide +kernel
theorem dX9_keep_69 : decode cX9_keep 69 = .ok (.ior, 1) := by decide +kernel
theorem dX9_keep_70 : decode cX9_keep 70 = .ok (.putfield 43, 3) := by decide +kernel
theorem dX9_keep_73 : decode cX9_keep 73 = .ok (.return_, 1) := by decide +kernel
set_option maxRecDepth 20000 in
theorem ggX9_multiply_X3_load : GoodIn wsX9_multiply wsX3_load := goodIn_r _ [10, 11, 12, 13, 14, 15, 16, 17, 18, 19, 20, 21, 22, 23, 24, 45, 46, 47, 48, 49, 50, 51, 52] rfl rfl
set_option maxRecDepth 20000 in
theorem gX9_multiply_X3_load : GoodIn wsX9_multiply (wsV RX9 104 RX3 yX3_load wsX3_load) := goodIn_app (goodIn_of _ (by decide +kernel)) ggX9_multiply_X3_load
set_option maxRecDepth 20000 in
theorem ggX9_multiply_X3_spoil : GoodIn wsX9_multiply wsX3_spoil := goodIn_r _ [28, 11, 12, 13, 45, 46, 47] rfl rfl
set_option maxRecDepth 20000 in
theorem gX9_multiply_X3_spoil : GoodIn wsX9_multiply (wsV RX9 61 RX3 yX3_spoil wsX3_spoil) := goodIn_app (goodIn_of _ (by decide +kernel)) ggX9_multiply_X3_spoil
set_option maxRecDepth 20000 in
theorem ggX9_multiply_X3_times : GoodIn wsX9_multiply wsX3_times := goodIn_r _ [32, 12, 13, 33, 34, 35, 9, 36, 11, 37, 38, 39, 26, 27, 28, 45, 46, 47] rfl rfl
set_option maxRecDepth 20000 in
theorem gX9_multiply_X3_times : GoodIn wsX9_multiply (wsV RX9 110 RX3 yX3_times wsX3_times) := goodIn_app (goodIn_of _ (by decide +kernel)) ggX9_multiply_X3_times
theorem dX9_multiply_0 : decode cX9_multiply 0 = .ok (.aload_n 0, 1) := by decide +kernel
theorem dX9_multiply_1 : decode cX9_multiply 1 = .ok (.getfield 25, 3) := by decide +kernel
theorem dX9_multiply_4 : decode cX9_multiply 4 = .ok (.aload_n 1, 1) := by decide +kernel
theorem dX9_multiply_5 : decode cX9_multiply 5 = .ok (.iload_n 2, 1) := by decide +kernel
theorem dX9_multiply_6 : decode cX9_multiply 6 = .ok (.iload_n 3, 1) := by decide +kernel
theorem dX9_multiply_7 : decode cX9_multiply 7 = .ok (.invokevirtual 104, 3) := by decide +kernel
theorem dX9_multiply_10 : decode cX9_multiply 10 = .ok (.aload_n 0, 1) := by decide +kernel
theorem dX9_multiply_11 : decode cX9_multiply 11 = .ok (.getfield 25, 3) := by decide +kernel
theorem dX9_multiply_14 : decode cX9_multiply 14 = .ok (.getfield 64, 3) := by decide +kernel
theorem dX9_multiply_17 : decode cX9_multiply 17 = .ok (.lconst 0, 1) := by decide +kernel
theorem dX9_multiply_18 : decode cX9_multiply 18 = .ok (.lcmp, 1) := by decide +kernel
theorem dX9_multiply_19 : decode cX9_multiply 19 = .ok (.ifCond .ne 4, 3) := by decide +kernel
theorem dX9_multiply_22 : decode cX9_multiply 22 = .ok (.return_, 1) := by decide +kernel
theorem dX9_multiply_23 : decode cX9_multiply 23 = .ok (.iload_n 3, 1) := by decide +kernel
theorem dX9_multiply_24 : decode cX9_multiply 24 = .ok (.ifCond .lt 20, 3) := by decide +kernel
theorem dX9_multiply_27 : decode cX9_multiply 27 = .ok (.iload_n 3, 1) := by decide +kernel
theorem dX9_multiply_28 : decode cX9_multiply 28 = .ok (.bipush 6, 2) := by decide +kernel
theorem dX9_multiply_30 : decode cX9_multiply 30 = .ok (.if_icmp .ge 14, 3) := by decide +kernel
theorem dX9_multiply_33 : decode cX9_multiply 33 = .ok (.aload_n 0, 1) := by decide +kernel
theorem dX9_multiply_34 : decode cX9_multiply 34 = .ok (.getfield 43, 3) := by decide +kernel
theorem dX9_multiply_37 : decode cX9_multiply 37 = .ok (.iload_n 3, 1) := by decide +kernel
theorem dX9_multiply_38 : decode cX9_multiply 38 = .ok (.ishr, 1) := by decide +kernel
theorem dX9_multiply_39 : decode cX9_multiply 39 = .ok (.iconst 1, 1) := by decide +kernel
theorem dX9_multiply_40 : decode cX9_multiply 40 = .ok (.iand, 1) := by decide +kernel
theorem dX9_multiply_41 : decode cX9_multiply 41 = .ok (.ifCond .ne 11, 3) := by decide +kernel
theorem dX9_multiply_44 : decode cX9_multiply 44 = .ok (.aload_n 0, 1) := by decide +kernel
theorem dX9_multiply_45 : decode cX9_multiply 45 = .ok (.getfield 25, 3) := by decide +kernel
theorem dX9_multiply_48 : decode cX9_multiply 48 = .ok (.invokevirtual 61, 3) := by decide +kernel
theorem dX9_multiply_51 : decode cX9_multiply 51 = .ok (.return_, 1) := by decide +kernel
theorem dX9_multiply_52 : decode cX9_multiply 52 = .ok (.aload_n 0, 1) := by decide +kernel
theorem dX9_multiply_53 : decode cX9_multiply 53 = .ok (.getfield 25, 3) := by decide +kernel
theorem dX9_multiply_56 : decode cX9_multiply 56 = .ok (.aload_n 0, 1) := by decide +kernel
theorem dX9_multiply_57 : decode cX9_multiply 57 = .ok (.getfield 9, 3) := by decide +kernel
theorem dX9_multiply_60 : decode cX9_multiply 60 = .ok (.iload_n 3, 1) := by decide +kernel
theorem dX9_multiply_61 : decode cX9_multiply 61 = .ok (.iaload, 1) := by decide +kernel
theorem dX9_multiply_62 : decode cX9_multiply 62 = .ok (.i2l, 1) := by decide +kernel
theorem dX9_multiply_63 : decode cX9_multiply 63 = .ok (.aload_n 0, 1) := by decide +kernel
theorem dX9_multiply_64 : decode cX9_multiply 64 = .ok (.getfield 15, 3) := by decide +kernel
theorem dX9_multiply_67 : decode cX9_multiply 67 = .ok (.iload_n 3, 1) := by decide +kernel
theorem dX9_multiply_68 : decode cX9_multiply 68 = .ok (.iaload, 1) := by decide +kernel
theorem dX9_multiply_69 : decode cX9_multiply 69 = .ok (.i2l, 1) := by decide +kernel
theorem dX9_multiply_70 : decode cX9_multiply 70 = .ok (.invokevirtual 110, 3) := by decide +kernel
theorem dX9_multiply_73 : decode cX9_multiply 73 = .ok (.return_, 1) := by decide +kernel
set_option maxRecDepth 20000 in
theorem ggX10_init_X6_init : GoodIn wsX10_init wsX6_init := goodIn_r _ [39, 40, 2, 3, 41, 30, 31, 42, 43, 44, 45, 46, 47, 48, 49, 50, 51, 52, 53, 54, 55, 56, 57, 58, 59, 35, 36, 60, 61, 62, 63, 64, 65, 66, 67, 68, 69, 70, 71, 72, 73, 175, 176, 177, 178, 179, 122, 123, 124, 125, 126, 127, 128, 183, 184, 180, 181, 182] rfl rfl
set_option maxRecDepth 20000 in
theorem gX10_init_X6_init_n11 : GoodIn wsX10_init (wsX6_init) := ggX10_init_X6_init
set_option maxRecDepth 20000 in
theorem ggX10_init_X2_init : GoodIn wsX10_init wsX2_init := goodIn_r _ [75, 76, 2, 3, 77, 78, 139, 140, 141] rfl rfl
set_option maxRecDepth 20000 in
theorem gX10_init_X2_init_n22 : GoodIn wsX10_init (wsX2_init) := ggX10_init_X2_init
set_option maxRecDepth 20000 in
theorem ggX10_init_X0_init : GoodIn wsX10_init wsX0_init := goodIn_r _ [80, 81, 2, 3, 82, 30, 31, 83, 84, 35, 36, 85, 86, 51, 52, 53, 54, 55, 56, 57, 58, 59, 60, 61, 62, 63, 64, 65, 66, 67, 68, 175, 176, 177, 178, 179, 142, 143, 144, 145, 180, 181, 182] rfl rfl
set_option maxRecDepth 20000 in
theorem gX10_init_X0_init_n29 : GoodIn wsX10_init (wsX0_init) := ggX10_init_X0_init
set_option maxRecDepth 20000 in
theorem ggX10_init_X7_init : GoodIn wsX10_init wsX7_init := goodIn_r _ [88, 89, 2, 3, 90, 30, 31, 91, 56, 92, 93, 94, 95, 96, 35, 36, 97, 98, 51, 52, 53, 54, 55, 57, 58, 59, 60, 61, 62, 63, 64, 65, 66, 67, 68, 175, 176, 177, 178, 179, 146, 147, 148, 149, 150, 151, 152, 153, 154, 155, 156, 157, 158, 159, 180, 181, 182] rfl rfl
set_option maxRecDepth 20000 in
theorem gX10_init_X7_init_n36 : GoodIn wsX10_init (wsX7_init) := ggX10_init_X7_init
set_option maxRecDepth 20000 in
theorem ggX10_init_X9_init : GoodIn wsX10_init wsX9_init := goodIn_r _ [100, 101, 2, 3, 56, 102, 103, 104, 35, 36, 105, 106, 61, 62, 63, 64, 160, 161, 162, 163, 164, 180, 181, 182] rfl rfl
set_option maxRecDepth 20000 in
theorem gX10_init_X9_init_n43 : GoodIn wsX10_init (wsX9_init) := ggX10_init_X9_init
set_option maxRecDepth 20000 in
theorem ggX10_init_X4_init : GoodIn wsX10_init wsX4_init := goodIn_r _ [108, 109, 2, 3, 110, 111, 112, 113, 56, 114, 115, 116, 117, 118, 119, 44, 45, 120, 69, 70, 71, 72, 73, 185, 186, 187, 188, 189, 165, 166, 167, 168, 169, 170, 171, 172, 173, 174, 183, 184] rfl rfl
set_option maxRecDepth 20000 in
theorem gX10_init_X4_init_n50 : GoodIn wsX10_init (wsX4_init) := ggX10_init_X4_init
set_option maxRecDepth 20000 in
theorem ggX10_init_X1_init : GoodIn wsX10_init wsX1_init := goodIn_r _ [52, 53, 2, 3, 54, 55, 56, 57, 58, 59, 35, 36, 60, 61, 62, 63, 64, 65, 66, 67, 68, 175, 176, 177, 178, 179, 180, 181, 182] rfl rfl
set_option maxRecDepth 20000 in
theorem gX10_init_X1_init : GoodIn wsX10_init (wsX1_init) := ggX10_init_X1_init
set_option maxRecDepth 20000 in
theorem ggX10_init_X3_init : GoodIn wsX10_init wsX3_init := goodIn_r _ [62, 63, 2, 3, 64, 180, 181, 182] rfl rfl
set_option maxRecDepth 20000 in
theorem gX10_init_X3_init_n67 : GoodIn wsX10_init (wsX3_init) := ggX10_init_X3_init
theorem dX10_init_0 : decode cX10_init 0 = .ok (.aload_n 0, 1) := by decide +kernel
theorem dX10_init_1 : decode cX10_init 1 = .ok (.invokespecial 3, 3) := by decide +kernel
theorem dX10_init_4 : decode cX10_init 4 = .ok (.aload_n 0, 1) := by decide +kernel
theorem dX10_init_5 : decode cX10_init 5 = .ok (.new 9, 3) := by decide +kernel
theorem dX10_init_8 : decode cX10_init 8 = .ok (.dup, 1) := by decide +kernel
theorem dX10_init_9 : decode cX10_init 9 = .ok (.invokespecial 11, 3) := by decide +kernel
theorem dX10_init_12 : decode cX10_init 12 = .ok (.putfield 12, 3) := by decide +kernel
theorem dX10_init_15 : decode cX10_init 15 = .ok (.aload_n 0, 1) := by decide +kernel
theorem dX10_init_16 : decode cX10_init 16 = .ok (.iconst 3, 1) := by decide +kernel
theorem dX10_init_17 : decode cX10_init 17 = .ok (.anewarray 9, 3) := by decide +kernel
theorem dX10_init_20 : decode cX10_init 20 = .ok (.putfield 16, 3) := by decide +kernel
theorem dX10_init_23 : decode cX10_init 23 = .ok (.aload_n 0, 1) := by decide +kernel
theorem dX10_init_24 : decode cX10_init 24 = .ok (.new 20, 3) := by decide +kernel
theorem dX10_init_27 : decode cX10_init 27 = .ok (.dup, 1) := by decide +kernel
theorem dX10_init_28 : decode cX10_init 28 = .ok (.invokespecial 22, 3) := by decide +kernel
theorem dX10_init_31 : decode cX10_init 31 = .ok (.putfield 23, 3) := by decide +kernel
theorem dX10_init_34 : decode cX10_init 34 = .ok (.aload_n 0, 1) := by decide +kernel
theorem dX10_init_35 : decode cX10_init 35 = .ok (.new 27, 3) := by decide +kernel
theorem dX10_init_38 : decode cX10_init 38 = .ok (.dup, 1) := by decide +kernel
theorem dX10_init_39 : decode cX10_init 39 = .ok (.invokespecial 29, 3) := by decide +kernel
theorem dX10_init_42 : decode cX10_init 42 = .ok (.putfield 30, 3) := by decide +kernel
theorem dX10_init_45 : decode cX10_init 45 = .ok (.aload_n 0, 1) := by decide +kernel
theorem dX10_init_46 : decode cX10_init 46 = .ok (.new 34, 3) := by decide +kernel
theorem dX10_init_49 : decode cX10_init 49 = .ok (.dup, 1) := by decide +kernel
theorem dX10_init_50 : decode cX10_init 50 = .ok (.invokespecial 36, 3) := by decide +kernel
theorem dX10_init_53 : decode cX10_init 53 = .ok (.putfield 37, 3) := by decide +kernel
theorem dX10_init_56 : decode cX10_init 56 = .ok (.aload_n 0, 1) := by decide +kernel
theorem dX10_init_57 : decode cX10_init 57 = .ok (.new 41, 3) := by decide +kernel
theorem dX10_init_60 : decode cX10_init 60 = .ok (.dup, 1) := by decide +kernel
theorem dX10_init_61 : decode cX10_init 61 = .ok (.invokespecial 43, 3) := by decide +kernel
theorem dX10_init_64 : decode cX10_init 64 = .ok (.putfield 44, 3) := by decide +kernel
theorem dX10_init_67 : decode cX10_init 67 = .ok (.aload_n 0, 1) := by decide +kernel
theorem dX10_init_68 : decode cX10_init 68 = .ok (.new 48, 3) := by decide +kernel
theorem dX10_init_71 : decode cX10_init 71 = .ok (.dup, 1) := by decide +kernel
theorem dX10_init_72 : decode cX10_init 72 = .ok (.invokespecial 50, 3) := by decide +kernel
theorem dX10_init_75 : decode cX10_init 75 = .ok (.putfield 51, 3) := by decide +kernel
theorem dX10_init_78 : decode cX10_init 78 = .ok (.aload_n 0, 1) := by decide +kernel
theorem dX10_init_79 : decode cX10_init 79 = .ok (.new 55, 3) := by decide +kernel
theorem dX10_init_82 : decode cX10_init 82 = .ok (.dup, 1) := by decide +kernel
theorem dX10_init_83 : decode cX10_init 83 = .ok (.invokespecial 57, 3) := by decide +kernel
theorem dX10_init_86 : decode cX10_init 86 = .ok (.putfield 58, 3) := by decide +kernel
theorem dX10_init_89 : decode cX10_init 89 = .ok (.aload_n 0, 1) := by decide +kernel
theorem dX10_init_90 : decode cX10_init 90 = .ok (.new 55, 3) := by decide +kernel
theorem dX10_init_93 : decode cX10_init 93 = .ok (.dup, 1) := by decide +kernel
theorem dX10_init_94 : decode cX10_init 94 = .ok (.invokespecial 57, 3) := by decide +kernel
theorem dX10_init_97 : decode cX10_init 97 = .ok (.putfield 62, 3) := by decide +kernel
theorem dX10_init_100 : decode cX10_init 100 = .ok (.aload_n 0, 1) := by decide +kernel
theorem dX10_init_101 : decode cX10_init 101 = .ok (.new 65, 3) := by decide +kernel
theorem dX10_init_104 : decode cX10_init 104 = .ok (.dup, 1) := by decide +kernel
theorem dX10_init_105 : decode cX10_init 105 = .ok (.invokespecial 67, 3) := by decide +kernel
theorem dX10_init_108 : decode cX10_init 108 = .ok (.putfield 68, 3) := by decide +kernel
theorem dX10_init_111 : decode cX10_init 111 = .ok (.return_, 1) := by decide +kernel
set_option maxRecDepth 20000 in
theorem ggX10_feed_X8_append : GoodIn wsX10_feed wsX8_append := goodIn_r _ [8, 9, 10, 28, 29] rfl rfl
set_option maxRecDepth 20000 in
theorem gX10_feed_X8_append : GoodIn wsX10_feed (wsV RX10 82 RX8 yX8_append wsX8_append) := goodIn_app (goodIn_of _ (by decide +kernel)) ggX10_feed_X8_append
theorem dX10_feed_0 : decode cX10_feed 0 = .ok (.aload_n 0, 1) := by decide +kernel
theorem dX10_feed_1 : decode cX10_feed 1 = .ok (.getfield 12, 3) := by decide +kernel
theorem dX10_feed_4 : decode cX10_feed 4 = .ok (.getfield 72, 3) := by decide +kernel
theorem dX10_feed_7 : decode cX10_feed 7 = .ok (.astore 6, 2) := by decide +kernel
theorem dX10_feed_9 : decode cX10_feed 9 = .ok (.aload 6, 2) := by decide +kernel
theorem dX10_feed_11 : decode cX10_feed 11 = .ok (.getfield 76, 3) := by decide +kernel
theorem dX10_feed_14 : decode cX10_feed 14 = .ok (.bipush 20, 2) := by decide +kernel
theorem dX10_feed_16 : decode cX10_feed 16 = .ok (.iadd, 1) := by decide +kernel
theorem dX10_feed_17 : decode cX10_feed 17 = .ok (.sipush 400, 3) := by decide +kernel
theorem dX10_feed_20 : decode cX10_feed 20 = .ok (.if_icmp .le 5, 3) := by decide +kernel
theorem dX10_feed_23 : decode cX10_feed 23 = .ok (.iconst (-1), 1) := by decide +kernel
theorem dX10_feed_24 : decode cX10_feed 24 = .ok (.ireturn, 1) := by decide +kernel
theorem dX10_feed_25 : decode cX10_feed 25 = .ok (.aload 6, 2) := by decide +kernel
theorem dX10_feed_27 : decode cX10_feed 27 = .ok (.iload_n 1, 1) := by decide +kernel
theorem dX10_feed_28 : decode cX10_feed 28 = .ok (.invokevirtual 82, 3) := by decide +kernel
theorem dX10_feed_31 : decode cX10_feed 31 = .ok (.aload 6, 2) := by decide +kernel
theorem dX10_feed_33 : decode cX10_feed 33 = .ok (.iload_n 2, 1) := by decide +kernel
theorem dX10_feed_34 : decode cX10_feed 34 = .ok (.invokevirtual 82, 3) := by decide +kernel
theorem dX10_feed_37 : decode cX10_feed 37 = .ok (.aload 6, 2) := by decide +kernel
theorem dX10_feed_39 : decode cX10_feed 39 = .ok (.iload_n 3, 1) := by decide +kernel
theorem dX10_feed_40 : decode cX10_feed 40 = .ok (.invokevirtual 82, 3) := by decide +kernel
theorem dX10_feed_43 : decode cX10_feed 43 = .ok (.aload 6, 2) := by decide +kernel
theorem dX10_feed_45 : decode cX10_feed 45 = .ok (.iload 4, 2) := by decide +kernel
theorem dX10_feed_47 : decode cX10_feed 47 = .ok (.invokevirtual 82, 3) := by decide +kernel
theorem dX10_feed_50 : decode cX10_feed 50 = .ok (.aload 6, 2) := by decide +kernel
theorem dX10_feed_52 : decode cX10_feed 52 = .ok (.iload 5, 2) := by decide +kernel
theorem dX10_feed_54 : decode cX10_feed 54 = .ok (.invokevirtual 82, 3) := by decide +kernel
theorem dX10_feed_57 : decode cX10_feed 57 = .ok (.aload 6, 2) := by decide +kernel
theorem dX10_feed_59 : decode cX10_feed 59 = .ok (.getfield 76, 3) := by decide +kernel
theorem dX10_feed_62 : decode cX10_feed 62 = .ok (.ireturn, 1) := by decide +kernel
theorem dX10_end_0 : decode cX10_end 0 = .ok (.iload_n 1, 1) := by decide +kernel
theorem dX10_end_1 : decode cX10_end 1 = .ok (.ifCond .lt 17, 3) := by decide +kernel
theorem dX10_end_4 : decode cX10_end 4 = .ok (.iload_n 1, 1) := by decide +kernel
theorem dX10_end_5 : decode cX10_end 5 = .ok (.aload_n 0, 1) := by decide +kernel
theorem dX10_end_6 : decode cX10_end 6 = .ok (.getfield 12, 3) := by decide +kernel
theorem dX10_end_9 : decode cX10_end 9 = .ok (.getfield 72, 3) := by decide +kernel
theorem dX10_end_12 : decode cX10_end 12 = .ok (.getfield 76, 3) := by decide +kernel
theorem dX10_end_15 : decode cX10_end 15 = .ok (.if_icmp .le 5, 3) := by decide +kernel
theorem dX10_end_18 : decode cX10_end 18 = .ok (.iconst (-1), 1) := by decide +kernel
theorem dX10_end_19 : decode cX10_end 19 = .ok (.ireturn, 1) := by decide +kernel
theorem dX10_end_20 : decode cX10_end 20 = .ok (.aload_n 0, 1) := by decide +kernel
theorem dX10_end_21 : decode cX10_end 21 = .ok (.getfield 12, 3) := by decide +kernel
theorem dX10_end_24 : decode cX10_end 24 = .ok (.getfield 72, 3) := by decide +kernel
theorem dX10_end_27 : decode cX10_end 27 = .ok (.iload_n 1, 1) := by decide +kernel
theorem dX10_end_28 : decode cX10_end 28 = .ok (.putfield 76, 3) := by decide +kernel
theorem dX10_end_31 : decode cX10_end 31 = .ok (.iload_n 1, 1) := by decide +kernel
theorem dX10_end_32 : decode cX10_end 32 = .ok (.ireturn, 1) := by decide +kernel
set_option maxRecDepth 20000 in
theorem ggX10_text_X4_open : GoodIn wsX10_text wsX4_open := goodIn_r _ [20, 21, 22, 23, 24, 25, 26, 27, 28, 29, 30, 31, 32, 33, 34, 35, 36, 37, 38, 39, 40, 41, 42, 43, 44, 45, 46, 47, 48, 49, 50, 51, 52, 53, 54, 55, 56, 57, 58, 59, 60, 61, 62, 63, 64, 65, 66, 67, 68, 69, 70, 442, 443, 444, 445, 446, 447, 448, 449, 450, 451, 459, 460, 461, 462, 463, 457, 458] rfl rfl
set_option maxRecDepth 20000 in
theorem gX10_text_X4_open : GoodIn wsX10_text (wsV RX10 86 RX4 yX4_open wsX4_open) := goodIn_app (goodIn_of _ (by decide +kernel)) ggX10_text_X4_open
set_option maxRecDepth 20000 in
theorem ggX10_text_X4_readSize : GoodIn wsX10_text wsX4_readSize := goodIn_r _ [74, 75, 76, 77, 78, 79, 19, 80, 23, 81, 82, 83, 84, 85, 86, 21, 22, 87, 88, 89, 27, 90, 91, 92, 93, 94, 30, 47, 29, 95, 96, 97, 98, 99, 100, 101, 102, 103, 104, 105, 106, 50, 51, 52, 34, 53, 36, 37, 107, 108, 109, 110, 111, 112, 113, 114, 115, 116, 117, 118, 119, 120, 121, 122, 123, 124, 125, 126, 127, 128, 129, 130, 131, 132, 133, 134, 135, 136, 137, 138, 139, 140, 141, 142, 143, 144, 43, 44, 45, 46, 48, 49, 54, 55, 56, 57, 58, 59, 60, 61, 62, 63, 64, 65, 66, 67, 68, 69, 70, 145, 146, 147, 148, 149, 150, 151, 152, 153, 154, 155, 156, 157, 158, 159, 160, 161, 162, 163, 164, 165, 166, 167, 168, 442, 443, 444, 445, 446, 447, 448, 449, 450, 451, 459, 460, 461, 462, 463, 457, 458] rfl rfl
set_option maxRecDepth 20000 in
theorem gX10_text_X4_readSize : GoodIn wsX10_text (wsV RX10 90 RX4 yX4_readSize wsX4_readSize) := goodIn_app (goodIn_of _ (by decide +kernel)) ggX10_text_X4_readSize
set_option maxRecDepth 20000 in
theorem ggX10_text_X1_clear : GoodIn wsX10_text wsX1_clear := goodIn_r _ [173, 174, 175, 176, 177, 178, 179, 180, 181, 452, 453, 454, 455, 456] rfl rfl
set_option maxRecDepth 20000 in
theorem gX10_text_X1_clear : GoodIn wsX10_text (wsV RX10 100 RX1 yX1_clear wsX1_clear) := goodIn_app (goodIn_of _ (by decide +kernel)) ggX10_text_X1_clear
set_option maxRecDepth 20000 in
theorem ggX10_text_X4_isAtEnd : GoodIn wsX10_text wsX4_isAtEnd := goodIn_r _ [185, 23, 82, 442, 443, 444, 445, 446, 447, 448, 449, 450, 451, 459, 460, 461, 462, 463] rfl rfl
set_option maxRecDepth 20000 in
theorem gX10_text_X4_isAtEnd : GoodIn wsX10_text (wsV RX10 104 RX4 yX4_isAtEnd wsX4_isAtEnd) := goodIn_app (goodIn_of _ (by decide +kernel)) ggX10_text_X4_isAtEnd
set_option maxRecDepth 20000 in
theorem ggX10_text_X4_readLine : GoodIn wsX10_text wsX4_readLine := goodIn_r _ [189, 75, 76, 77, 78, 79, 19, 80, 23, 81, 82, 83, 84, 85, 86, 21, 22, 87, 88, 89, 27, 90, 91, 92, 93, 94, 30, 47, 29, 95, 96, 97, 98, 99, 100, 101, 102, 103, 104, 105, 106, 50, 51, 52, 34, 53, 36, 37, 107, 108, 109, 110, 111, 112, 113, 114, 115, 116, 117, 118, 119, 120, 121, 122, 123, 124, 125, 126, 127, 128, 129, 130, 131, 132, 133, 134, 135, 136, 137, 138, 139, 140, 141, 142, 143, 144, 43, 44, 45, 46, 48, 49, 54, 55, 56, 57, 58, 59, 60, 61, 62, 63, 64, 65, 66, 67, 68, 69, 70, 145, 146, 147, 148, 149, 150, 151, 152, 153, 154, 155, 190, 191, 192, 193, 194, 195, 196, 197, 198, 199, 165, 166, 167, 168, 156, 157, 158, 159, 160, 442, 443, 444, 445, 446, 447, 448, 449, 450, 451, 459, 460, 461, 462, 463, 457, 458] rfl rfl
set_option maxRecDepth 20000 in
theorem gX10_text_X4_readLine : GoodIn wsX10_text (wsV RX10 113 RX4 yX4_readLine wsX4_readLine) := goodIn_app (goodIn_of _ (by decide +kernel)) ggX10_text_X4_readLine
set_option maxRecDepth 20000 in
theorem ggX10_text_X4_readStop : GoodIn wsX10_text wsX4_readStop := goodIn_r _ [164, 23, 81, 165, 166, 167, 27, 168, 49, 48, 83, 84, 85, 19, 86, 21, 22, 144, 43, 44, 45, 30, 29, 46, 47, 50, 51, 52, 34, 53, 36, 37, 54, 55, 56, 57, 58, 59, 60, 61, 62, 63, 64, 65, 66, 67, 68, 69, 70, 442, 443, 444, 445, 446, 447, 448, 449, 450, 451, 459, 460, 461, 462, 463, 457, 458] rfl rfl
set_option maxRecDepth 20000 in
theorem gX10_text_X4_readStop : GoodIn wsX10_text (wsV RX10 117 RX4 yX4_readStop wsX4_readStop) := goodIn_app (goodIn_of _ (by decide +kernel)) ggX10_text_X4_readStop
set_option maxRecDepth 20000 in
theorem ggX10_text_X10_carryOut : GoodIn wsX10_text wsX10_carryOut := goodIn_r _ [205, 1, 206, 4, 8, 6, 207, 5, 208, 209, 210, 211, 212, 19, 213, 198, 214, 215, 216, 217, 199, 218, 219, 220, 204, 221, 222, 223, 224, 225, 226, 227, 228, 229, 230, 231, 232, 233, 234, 235, 236, 237, 238, 239, 240, 241, 242, 243, 172, 244, 176, 245, 177, 246, 247, 248, 249, 250, 251, 252, 253, 254, 255, 256, 257, 258, 174, 259, 260, 261, 262, 175, 263, 39, 40, 41, 264, 265, 266, 267, 268, 269, 270, 271, 272, 273, 274, 275, 276, 277, 278, 279, 280, 281, 282, 283, 284, 285, 286, 287, 288, 289, 290, 291, 292, 293, 294, 295, 296, 297, 298, 299, 300, 301, 302, 303, 304, 305, 306, 307, 308, 309, 310, 311, 312, 313, 314, 315, 316, 317, 318, 319, 320, 321, 322, 323, 324, 325, 326, 327, 328, 329, 330, 331, 332, 333, 334, 335, 336, 337, 338, 339, 340, 341, 342, 343, 344, 345, 346, 347, 348, 349, 350, 351, 352, 353, 354, 355, 356, 357, 358, 359, 360, 361, 362, 363, 364, 365, 366, 367, 368, 369, 370, 371, 372, 373, 374, 375, 376, 377, 378, 379, 380, 381, 382, 383, 384, 385, 386, 387, 388, 389, 390, 391, 392, 393, 394, 395, 396, 397, 398, 399, 400, 401, 402, 403, 404, 405, 406, 407, 408, 409, 410, 411, 412, 413, 414, 415, 416, 76, 83, 84, 85, 86, 21, 22, 417, 425, 426, 427, 428, 429, 430, 431, 432, 433, 434, 442, 443, 444, 445, 446, 447, 448, 449, 450, 451, 452, 453, 454, 455, 456, 464, 465, 466, 467, 468, 469, 470, 471, 472, 473, 474, 475, 476, 477, 478, 479, 480, 481, 482, 483, 484] rfl rfl
set_option maxRecDepth 20000 in
theorem gX10_text_X10_carryOut : GoodIn wsX10_text (wsV RX10 120 RX10 yX10_carryOut wsX10_carryOut) := goodIn_app (goodIn_of _ (by decide +kernel)) ggX10_text_X10_carryOut
set_option maxRecDepth 20000 in
theorem ggX10_text_X1_copy : GoodIn wsX10_text wsX1_copy := goodIn_r _ [262, 174, 175, 176, 263, 39, 40, 41, 177, 452, 453, 454, 455, 456] rfl rfl
set_option maxRecDepth 20000 in
theorem gX10_text_X1_copy : GoodIn wsX10_text (wsV RX10 134 RX1 yX1_copy wsX1_copy) := goodIn_app (goodIn_of _ (by decide +kernel)) ggX10_text_X1_copy
set_option maxRecDepth 20000 in
theorem ggX10_text_X2_forget : GoodIn wsX10_text wsX2_forget := goodIn_r _ [422, 423, 424, 485, 486, 487] rfl rfl
set_option maxRecDepth 20000 in
theorem gX10_text_X2_forget : GoodIn wsX10_text (wsV RX10 138 RX2 yX2_forget wsX2_forget) := goodIn_app (goodIn_of _ (by decide +kernel)) ggX10_text_X2_forget
theorem dX10_text_0 : decode cX10_text 0 = .ok (.iconst 0, 1) := by decide +kernel
theorem dX10_text_1 : decode cX10_text 1 = .ok (.istore_n 1, 1) := by decide +kernel
theorem dX10_text_2 : decode cX10_text 2 = .ok (.aload_n 0, 1) := by decide +kernel
theorem dX10_text_3 : decode cX10_text 3 = .ok (.getfield 51, 3) := by decide +kernel
theorem dX10_text_6 : decode cX10_text 6 = .ok (.aload_n 0, 1) := by decide +kernel
theorem dX10_text_7 : decode cX10_text 7 = .ok (.getfield 12, 3) := by decide +kernel
theorem dX10_text_10 : decode cX10_text 10 = .ok (.getfield 72, 3) := by decide +kernel
theorem dX10_text_13 : decode cX10_text 13 = .ok (.invokevirtual 86, 3) := by decide +kernel
theorem dX10_text_16 : decode cX10_text 16 = .ok (.aload_n 0, 1) := by decide +kernel
theorem dX10_text_17 : decode cX10_text 17 = .ok (.getfield 51, 3) := by decide +kernel
theorem dX10_text_20 : decode cX10_text 20 = .ok (.invokevirtual 90, 3) := by decide +kernel
theorem dX10_text_23 : decode cX10_text 23 = .ok (.istore_n 2, 1) := by decide +kernel
theorem dX10_text_24 : decode cX10_text 24 = .ok (.iload_n 2, 1) := by decide +kernel
theorem dX10_text_25 : decode cX10_text 25 = .ok (.ifCond .eq 24, 3) := by decide +kernel
theorem dX10_text_28 : decode cX10_text 28 = .ok (.aload_n 0, 1) := by decide +kernel
theorem dX10_text_29 : decode cX10_text 29 = .ok (.getfield 58, 3) := by decide +kernel
theorem dX10_text_32 : decode cX10_text 32 = .ok (.aload_n 0, 1) := by decide +kernel
theorem dX10_text_33 : decode cX10_text 33 = .ok (.getfield 51, 3) := by decide +kernel
theorem dX10_text_36 : decode cX10_text 36 = .ok (.getfield 94, 3) := by decide +kernel
theorem dX10_text_39 : decode cX10_text 39 = .ok (.aload_n 0, 1) := by decide +kernel
theorem dX10_text_40 : decode cX10_text 40 = .ok (.getfield 51, 3) := by decide +kernel
theorem dX10_text_43 : decode cX10_text 43 = .ok (.getfield 97, 3) := by decide +kernel
theorem dX10_text_46 : decode cX10_text 46 = .ok (.invokevirtual 100, 3) := by decide +kernel
theorem dX10_text_49 : decode cX10_text 49 = .ok (.iload_n 2, 1) := by decide +kernel
theorem dX10_text_50 : decode cX10_text 50 = .ok (.ifCond .eq 73, 3) := by decide +kernel
theorem dX10_text_53 : decode cX10_text 53 = .ok (.iload_n 1, 1) := by decide +kernel
theorem dX10_text_54 : decode cX10_text 54 = .ok (.sipush 400, 3) := by decide +kernel
theorem dX10_text_57 : decode cX10_text 57 = .ok (.if_icmp .ge 66, 3) := by decide +kernel
theorem dX10_text_60 : decode cX10_text 60 = .ok (.aload_n 0, 1) := by decide +kernel
theorem dX10_text_61 : decode cX10_text 61 = .ok (.getfield 51, 3) := by decide +kernel
theorem dX10_text_64 : decode cX10_text 64 = .ok (.invokevirtual 104, 3) := by decide +kernel
theorem dX10_text_67 : decode cX10_text 67 = .ok (.ifCond .ne 56, 3) := by decide +kernel
theorem dX10_text_70 : decode cX10_text 70 = .ok (.aload_n 0, 1) := by decide +kernel
theorem dX10_text_71 : decode cX10_text 71 = .ok (.getfield 51, 3) := by decide +kernel
theorem dX10_text_74 : decode cX10_text 74 = .ok (.aload_n 0, 1) := by decide +kernel
theorem dX10_text_75 : decode cX10_text 75 = .ok (.getfield 58, 3) := by decide +kernel
theorem dX10_text_78 : decode cX10_text 78 = .ok (.getfield 107, 3) := by decide +kernel
theorem dX10_text_81 : decode cX10_text 81 = .ok (.aload_n 0, 1) := by decide +kernel
theorem dX10_text_82 : decode cX10_text 82 = .ok (.getfield 58, 3) := by decide +kernel
theorem dX10_text_85 : decode cX10_text 85 = .ok (.getfield 110, 3) := by decide +kernel
theorem dX10_text_88 : decode cX10_text 88 = .ok (.invokevirtual 113, 3) := by decide +kernel
theorem dX10_text_91 : decode cX10_text 91 = .ok (.ifCond .eq 24, 3) := by decide +kernel
theorem dX10_text_94 : decode cX10_text 94 = .ok (.aload_n 0, 1) := by decide +kernel
theorem dX10_text_95 : decode cX10_text 95 = .ok (.getfield 51, 3) := by decide +kernel
theorem dX10_text_98 : decode cX10_text 98 = .ok (.invokevirtual 117, 3) := by decide +kernel
theorem dX10_text_101 : decode cX10_text 101 = .ok (.ifCond .eq 14, 3) := by decide +kernel
theorem dX10_text_104 : decode cX10_text 104 = .ok (.aload_n 0, 1) := by decide +kernel
theorem dX10_text_105 : decode cX10_text 105 = .ok (.invokevirtual 120, 3) := by decide +kernel
theorem dX10_text_108 : decode cX10_text 108 = .ok (.ifCond .eq 7, 3) := by decide +kernel
theorem dX10_text_111 : decode cX10_text 111 = .ok (.iconst 1, 1) := by decide +kernel
theorem dX10_text_112 : decode cX10_text 112 = .ok (.goto 4, 3) := by decide +kernel
theorem dX10_text_115 : decode cX10_text 115 = .ok (.iconst 0, 1) := by decide +kernel
theorem dX10_text_116 : decode cX10_text 116 = .ok (.istore_n 2, 1) := by decide +kernel
theorem dX10_text_117 : decode cX10_text 117 = .ok (.iinc 1 1, 3) := by decide +kernel
theorem dX10_text_120 : decode cX10_text 120 = .ok (.goto (-71), 3) := by decide +kernel
theorem dX10_text_123 : decode cX10_text 123 = .ok (.aload_n 0, 1) := by decide +kernel
theorem dX10_text_124 : decode cX10_text 124 = .ok (.getfield 12, 3) := by decide +kernel
theorem dX10_text_127 : decode cX10_text 127 = .ok (.getfield 72, 3) := by decide +kernel
theorem dX10_text_130 : decode cX10_text 130 = .ok (.iconst 0, 1) := by decide +kernel
theorem dX10_text_131 : decode cX10_text 131 = .ok (.putfield 76, 3) := by decide +kernel
theorem dX10_text_134 : decode cX10_text 134 = .ok (.aload_n 0, 1) := by decide +kernel
theorem dX10_text_135 : decode cX10_text 135 = .ok (.getfield 12, 3) := by decide +kernel
theorem dX10_text_138 : decode cX10_text 138 = .ok (.aload_n 0, 1) := by decide +kernel
theorem dX10_text_139 : decode cX10_text 139 = .ok (.getfield 51, 3) := by decide +kernel
theorem dX10_text_142 : decode cX10_text 142 = .ok (.getfield 123, 3) := by decide +kernel
theorem dX10_text_145 : decode cX10_text 145 = .ok (.putfield 126, 3) := by decide +kernel
theorem dX10_text_148 : decode cX10_text 148 = .ok (.aload_n 0, 1) := by decide +kernel
theorem dX10_text_149 : decode cX10_text 149 = .ok (.getfield 12, 3) := by decide +kernel
theorem dX10_text_152 : decode cX10_text 152 = .ok (.aload_n 0, 1) := by decide +kernel
theorem dX10_text_153 : decode cX10_text 153 = .ok (.getfield 51, 3) := by decide +kernel
theorem dX10_text_156 : decode cX10_text 156 = .ok (.getfield 127, 3) := by decide +kernel
theorem dX10_text_159 : decode cX10_text 159 = .ok (.putfield 130, 3) := by decide +kernel
theorem dX10_text_162 : decode cX10_text 162 = .ok (.iload_n 2, 1) := by decide +kernel
theorem dX10_text_163 : decode cX10_text 163 = .ok (.ifCond .ne 5, 3) := by decide +kernel
theorem dX10_text_166 : decode cX10_text 166 = .ok (.iconst (-1), 1) := by decide +kernel
theorem dX10_text_167 : decode cX10_text 167 = .ok (.ireturn, 1) := by decide +kernel
theorem dX10_text_168 : decode cX10_text 168 = .ok (.aload_n 0, 1) := by decide +kernel
theorem dX10_text_169 : decode cX10_text 169 = .ok (.getfield 12, 3) := by decide +kernel
theorem dX10_text_172 : decode cX10_text 172 = .ok (.getfield 131, 3) := by decide +kernel
theorem dX10_text_175 : decode cX10_text 175 = .ok (.aload_n 0, 1) := by decide +kernel
theorem dX10_text_176 : decode cX10_text 176 = .ok (.getfield 58, 3) := by decide +kernel
theorem dX10_text_179 : decode cX10_text 179 = .ok (.invokevirtual 134, 3) := by decide +kernel
theorem dX10_text_182 : decode cX10_text 182 = .ok (.aload_n 0, 1) := by decide +kernel
theorem dX10_text_183 : decode cX10_text 183 = .ok (.getfield 23, 3) := by decide +kernel
theorem dX10_text_186 : decode cX10_text 186 = .ok (.invokevirtual 138, 3) := by decide +kernel
theorem dX10_text_189 : decode cX10_text 189 = .ok (.iload_n 1, 1) := by decide +kernel
theorem dX10_text_190 : decode cX10_text 190 = .ok (.ireturn, 1) := by decide +kernel
theorem dX10_fault_0 : decode cX10_fault 0 = .ok (.iload_n 1, 1) := by decide +kernel
theorem dX10_fault_1 : decode cX10_fault 1 = .ok (.ifCond .ne 11, 3) := by decide +kernel
theorem dX10_fault_4 : decode cX10_fault 4 = .ok (.aload_n 0, 1) := by decide +kernel
theorem dX10_fault_5 : decode cX10_fault 5 = .ok (.getfield 12, 3) := by decide +kernel
theorem dX10_fault_8 : decode cX10_fault 8 = .ok (.getfield 126, 3) := by decide +kernel
theorem dX10_fault_11 : decode cX10_fault 11 = .ok (.ireturn, 1) := by decide +kernel
theorem dX10_fault_12 : decode cX10_fault 12 = .ok (.iload_n 1, 1) := by decide +kernel
theorem dX10_fault_13 : decode cX10_fault 13 = .ok (.iconst 1, 1) := by decide +kernel
theorem dX10_fault_14 : decode cX10_fault 14 = .ok (.if_icmp .ne 13, 3) := by decide +kernel
theorem dX10_fault_17 : decode cX10_fault 17 = .ok (.aload_n 0, 1) := by decide +kernel
theorem dX10_fault_18 : decode cX10_fault 18 = .ok (.getfield 12, 3) := by decide +kernel
theorem dX10_fault_21 : decode cX10_fault 21 = .ok (.getfield 130, 3) := by decide +kernel
theorem dX10_fault_24 : decode cX10_fault 24 = .ok (.goto 4, 3) := by decide +kernel
theorem dX10_fault_27 : decode cX10_fault 27 = .ok (.iconst (-1), 1) := by decide +kernel
theorem dX10_fault_28 : decode cX10_fault 28 = .ok (.ireturn, 1) := by decide +kernel
set_option maxRecDepth 20000 in
theorem ggX10_carryOut_X4_upperRead : GoodIn wsX10_carryOut wsX4_upperRead := goodIn_r _ [14, 15, 247, 248, 249, 250, 251, 252, 253, 254, 255, 256] rfl rfl
set_option maxRecDepth 20000 in
theorem gX10_carryOut_X4_upperRead : GoodIn wsX10_carryOut (wsV RX10 141 RX4 yX4_upperRead wsX4_upperRead) := goodIn_app (goodIn_of _ (by decide +kernel)) ggX10_carryOut_X4_upperRead
set_option maxRecDepth 20000 in
theorem ggX10_carryOut_X4_lowerRead : GoodIn wsX10_carryOut wsX4_lowerRead := goodIn_r _ [19, 20, 247, 248, 249, 250, 251, 252, 253, 254, 255, 256] rfl rfl
set_option maxRecDepth 20000 in
theorem gX10_carryOut_X4_lowerRead : GoodIn wsX10_carryOut (wsV RX10 145 RX4 yX4_lowerRead wsX4_lowerRead) := goodIn_app (goodIn_of _ (by decide +kernel)) ggX10_carryOut_X4_lowerRead
set_option maxRecDepth 20000 in
theorem ggX10_carryOut_X10_tellRead : GoodIn wsX10_carryOut wsX10_tellRead := goodIn_r _ [25, 26, 1, 3, 7, 10, 11, 12, 13, 14, 15, 16, 17, 18, 19, 20, 27, 28, 29, 30, 31, 32, 33, 34, 35, 36, 37, 38, 39, 40, 41, 42, 43, 44, 45, 46, 47, 48, 49, 50, 51, 52, 53, 237, 238, 239, 240, 241, 242, 243, 244, 245, 246, 247, 248, 249, 250, 251, 252, 253, 254, 255, 256, 266, 267, 268, 257, 258, 259, 260, 261] rfl rfl
set_option maxRecDepth 20000 in
theorem gX10_carryOut_X10_tellRead : GoodIn wsX10_carryOut (wsV RX10 151 RX10 yX10_tellRead wsX10_tellRead) := goodIn_app (goodIn_of _ (by decide +kernel)) ggX10_carryOut_X10_tellRead
set_option maxRecDepth 20000 in
theorem ggX10_carryOut_X0_exchange : GoodIn wsX10_carryOut wsX0_exchange := goodIn_r _ [58, 59, 60, 61, 62, 63, 64, 48, 65, 66, 67, 68, 69, 70, 71, 50, 72, 73, 74, 75, 52, 76, 77, 78, 30, 79, 32, 37, 38, 80, 81, 82, 83, 84, 85, 86, 87, 88, 46, 47, 49, 51, 53, 89, 90, 91, 92, 93, 94, 95, 96, 97, 98, 99, 100, 262, 263, 264, 265, 257, 258, 259, 260, 261, 266, 267, 268] rfl rfl
set_option maxRecDepth 20000 in
theorem gX10_carryOut_X0_exchange : GoodIn wsX10_carryOut (wsV RX10 154 RX0 yX0_exchange wsX0_exchange) := goodIn_app (goodIn_of _ (by decide +kernel)) ggX10_carryOut_X0_exchange
set_option maxRecDepth 20000 in
theorem ggX10_carryOut_X0_stretch : GoodIn wsX10_carryOut wsX0_stretch := goodIn_r _ [104, 59, 60, 61, 105, 62, 63, 64, 48, 65, 66, 106, 24, 107, 108, 109, 110, 111, 71, 99, 81, 82, 83, 50, 67, 68, 69, 70, 72, 73, 74, 75, 52, 76, 77, 78, 30, 79, 32, 37, 38, 80, 84, 85, 86, 87, 112, 113, 114, 115, 33, 34, 35, 36, 39, 40, 41, 42, 43, 44, 116, 117, 118, 57, 119, 120, 121, 88, 46, 47, 49, 51, 53, 262, 263, 264, 265, 257, 258, 259, 260, 261, 266, 267, 268] rfl rfl
set_option maxRecDepth 20000 in
theorem gX10_carryOut_X0_stretch : GoodIn wsX10_carryOut (wsV RX10 158 RX0 yX0_stretch wsX0_stretch) := goodIn_app (goodIn_of _ (by decide +kernel)) ggX10_carryOut_X0_stretch
set_option maxRecDepth 20000 in
theorem ggX10_carryOut_X0_addRow : GoodIn wsX10_carryOut wsX0_addRow := goodIn_r _ [125, 59, 61, 126, 127, 62, 63, 64, 48, 65, 66, 106, 24, 107, 108, 109, 110, 111, 71, 99, 81, 82, 83, 50, 67, 68, 69, 70, 72, 73, 74, 75, 52, 128, 28, 29, 30, 31, 32, 33, 34, 35, 36, 37, 38, 39, 40, 41, 42, 43, 44, 129, 130, 131, 132, 93, 133, 94, 77, 78, 79, 80, 84, 85, 86, 87, 134, 113, 114, 115, 100, 135, 136, 137, 138, 139, 46, 47, 49, 51, 53, 116, 117, 118, 57, 119, 120, 121, 262, 263, 264, 265, 266, 267, 268, 257, 258, 259, 260, 261] rfl rfl
set_option maxRecDepth 20000 in
theorem gX10_carryOut_X0_addRow : GoodIn wsX10_carryOut (wsV RX10 162 RX0 yX0_addRow wsX0_addRow) := goodIn_app (goodIn_of _ (by decide +kernel)) ggX10_carryOut_X0_addRow
set_option maxRecDepth 20000 in
theorem ggX10_carryOut_X7_run : GoodIn wsX10_carryOut wsX7_run := goodIn_r _ [144, 145, 146, 147, 148, 149, 150, 151, 152, 153, 154, 155, 156, 157, 68, 69, 48, 70, 66, 71, 50, 72, 73, 74, 75, 52, 158, 159, 160, 161, 162, 163, 164, 143, 165, 166, 167, 168, 169, 170, 171, 81, 82, 83, 172, 173, 174, 175, 176, 177, 178, 179, 180, 181, 182, 183, 184, 109, 110, 111, 99, 185, 186, 187, 188, 189, 190, 191, 192, 193, 194, 195, 196, 85, 86, 87, 197, 198, 199, 200, 201, 202, 203, 204, 205, 206, 207, 77, 78, 30, 79, 32, 37, 38, 80, 84, 208, 209, 210, 211, 33, 34, 35, 36, 39, 40, 41, 42, 43, 44, 212, 213, 214, 215, 216, 130, 131, 132, 93, 133, 94, 134, 113, 114, 115, 100, 135, 136, 137, 138, 139, 46, 47, 49, 51, 53, 269, 270, 271, 272, 273, 274, 275, 276, 277, 278, 279, 280, 281, 282, 257, 258, 259, 260, 261, 266, 267, 268] rfl rfl
set_option maxRecDepth 20000 in
theorem gX10_carryOut_X7_run : GoodIn wsX10_carryOut (wsV RX10 166 RX7 yX7_run wsX7_run) := goodIn_app (goodIn_of _ (by decide +kernel)) ggX10_carryOut_X7_run
set_option maxRecDepth 20000 in
theorem ggX10_carryOut_X0_takeSwept : GoodIn wsX10_carryOut wsX0_takeSwept := goodIn_r _ [220, 221, 222, 223, 59, 224, 116, 117, 118, 57, 119, 120, 121, 67, 68, 69, 48, 70, 66, 71, 50, 72, 73, 74, 75, 52, 89, 90, 91, 92, 93, 94, 77, 78, 30, 79, 32, 37, 38, 80, 81, 82, 83, 84, 85, 86, 87, 95, 96, 97, 98, 51, 53, 99, 100, 269, 270, 271, 272, 273, 274, 275, 276, 277, 278, 279, 280, 281, 282, 262, 263, 264, 265, 257, 258, 259, 260, 261, 266, 267, 268] rfl rfl
set_option maxRecDepth 20000 in
theorem gX10_carryOut_X0_takeSwept : GoodIn wsX10_carryOut (wsV RX10 170 RX0 yX0_takeSwept wsX0_takeSwept) := goodIn_app (goodIn_of _ (by decide +kernel)) ggX10_carryOut_X0_takeSwept
set_option maxRecDepth 20000 in
theorem ggX10_carryOut_X4_refuse : GoodIn wsX10_carryOut wsX4_refuse := goodIn_r _ [228, 229, 230, 231, 232, 13, 233, 234, 235, 247, 248, 249, 250, 251, 252, 253, 254, 255, 256] rfl rfl
set_option maxRecDepth 20000 in
theorem gX10_carryOut_X4_refuse : GoodIn wsX10_carryOut (wsV RX10 174 RX4 yX4_refuse wsX4_refuse) := goodIn_app (goodIn_of _ (by decide +kernel)) ggX10_carryOut_X4_refuse
set_option maxRecDepth 20000 in
theorem ggX10_carryOut_X1_copy : GoodIn wsX10_carryOut wsX1_copy := goodIn_r _ [70, 66, 71, 50, 72, 73, 74, 75, 52, 257, 258, 259, 260, 261] rfl rfl
set_option maxRecDepth 20000 in
theorem gX10_carryOut_X1_copy : GoodIn wsX10_carryOut (wsV RX10 134 RX1 yX1_copy wsX1_copy) := goodIn_app (goodIn_of _ (by decide +kernel)) ggX10_carryOut_X1_copy
theorem dX10_carryOut_0 : decode cX10_carryOut 0 = .ok (.aload_n 0, 1) := by decide +kernel
theorem dX10_carryOut_1 : decode cX10_carryOut 1 = .ok (.getfield 51, 3) := by decide +kernel
theorem dX10_carryOut_4 : decode cX10_carryOut 4 = .ok (.iconst 0, 1) := by decide +kernel
theorem dX10_carryOut_5 : decode cX10_carryOut 5 = .ok (.invokevirtual 141, 3) := by decide +kernel
theorem dX10_carryOut_8 : decode cX10_carryOut 8 = .ok (.istore_n 1, 1) := by decide +kernel
theorem dX10_carryOut_9 : decode cX10_carryOut 9 = .ok (.aload_n 0, 1) := by decide +kernel
theorem dX10_carryOut_10 : decode cX10_carryOut 10 = .ok (.getfield 51, 3) := by decide +kernel
theorem dX10_carryOut_13 : decode cX10_carryOut 13 = .ok (.iconst 0, 1) := by decide +kernel
theorem dX10_carryOut_14 : decode cX10_carryOut 14 = .ok (.invokevirtual 145, 3) := by decide +kernel
theorem dX10_carryOut_17 : decode cX10_carryOut 17 = .ok (.istore_n 2, 1) := by decide +kernel
theorem dX10_carryOut_18 : decode cX10_carryOut 18 = .ok (.aload_n 0, 1) := by decide +kernel
theorem dX10_carryOut_19 : decode cX10_carryOut 19 = .ok (.getfield 51, 3) := by decide +kernel
theorem dX10_carryOut_22 : decode cX10_carryOut 22 = .ok (.getfield 148, 3) := by decide +kernel
theorem dX10_carryOut_25 : decode cX10_carryOut 25 = .ok (.tableswitch 151 2 6 #[35, 48, 67, 96, 120], 35) := by decide +kernel
theorem dX10_carryOut_60 : decode cX10_carryOut 60 = .ok (.aload_n 0, 1) := by decide +kernel
theorem dX10_carryOut_61 : decode cX10_carryOut 61 = .ok (.iconst 0, 1) := by decide +kernel
theorem dX10_carryOut_62 : decode cX10_carryOut 62 = .ok (.aload_n 0, 1) := by decide +kernel
theorem dX10_carryOut_63 : decode cX10_carryOut 63 = .ok (.getfield 58, 3) := by decide +kernel
theorem dX10_carryOut_66 : decode cX10_carryOut 66 = .ok (.getfield 110, 3) := by decide +kernel
theorem dX10_carryOut_69 : decode cX10_carryOut 69 = .ok (.invokevirtual 151, 3) := by decide +kernel
theorem dX10_carryOut_72 : decode cX10_carryOut 72 = .ok (.ireturn, 1) := by decide +kernel
theorem dX10_carryOut_73 : decode cX10_carryOut 73 = .ok (.aload_n 0, 1) := by decide +kernel
theorem dX10_carryOut_74 : decode cX10_carryOut 74 = .ok (.aload_n 0, 1) := by decide +kernel
theorem dX10_carryOut_75 : decode cX10_carryOut 75 = .ok (.getfield 51, 3) := by decide +kernel
theorem dX10_carryOut_78 : decode cX10_carryOut 78 = .ok (.getfield 97, 3) := by decide +kernel
theorem dX10_carryOut_81 : decode cX10_carryOut 81 = .ok (.aload_n 0, 1) := by decide +kernel
theorem dX10_carryOut_82 : decode cX10_carryOut 82 = .ok (.getfield 51, 3) := by decide +kernel
theorem dX10_carryOut_85 : decode cX10_carryOut 85 = .ok (.getfield 97, 3) := by decide +kernel
theorem dX10_carryOut_88 : decode cX10_carryOut 88 = .ok (.invokevirtual 151, 3) := by decide +kernel
theorem dX10_carryOut_91 : decode cX10_carryOut 91 = .ok (.ireturn, 1) := by decide +kernel
theorem dX10_carryOut_92 : decode cX10_carryOut 92 = .ok (.aload_n 0, 1) := by decide +kernel
theorem dX10_carryOut_93 : decode cX10_carryOut 93 = .ok (.getfield 30, 3) := by decide +kernel
theorem dX10_carryOut_96 : decode cX10_carryOut 96 = .ok (.aload_n 0, 1) := by decide +kernel
theorem dX10_carryOut_97 : decode cX10_carryOut 97 = .ok (.getfield 58, 3) := by decide +kernel
theorem dX10_carryOut_100 : decode cX10_carryOut 100 = .ok (.aload_n 0, 1) := by decide +kernel
theorem dX10_carryOut_101 : decode cX10_carryOut 101 = .ok (.getfield 51, 3) := by decide +kernel
theorem dX10_carryOut_104 : decode cX10_carryOut 104 = .ok (.getfield 94, 3) := by decide +kernel
theorem dX10_carryOut_107 : decode cX10_carryOut 107 = .ok (.aload_n 0, 1) := by decide +kernel
theorem dX10_carryOut_108 : decode cX10_carryOut 108 = .ok (.getfield 51, 3) := by decide +kernel
theorem dX10_carryOut_111 : decode cX10_carryOut 111 = .ok (.getfield 97, 3) := by decide +kernel
theorem dX10_carryOut_114 : decode cX10_carryOut 114 = .ok (.invokevirtual 154, 3) := by decide +kernel
theorem dX10_carryOut_117 : decode cX10_carryOut 117 = .ok (.istore_n 3, 1) := by decide +kernel
theorem dX10_carryOut_118 : decode cX10_carryOut 118 = .ok (.goto 92, 3) := by decide +kernel
theorem dX10_carryOut_121 : decode cX10_carryOut 121 = .ok (.aload_n 0, 1) := by decide +kernel
theorem dX10_carryOut_122 : decode cX10_carryOut 122 = .ok (.getfield 30, 3) := by decide +kernel
theorem dX10_carryOut_125 : decode cX10_carryOut 125 = .ok (.aload_n 0, 1) := by decide +kernel
theorem dX10_carryOut_126 : decode cX10_carryOut 126 = .ok (.getfield 58, 3) := by decide +kernel
theorem dX10_carryOut_129 : decode cX10_carryOut 129 = .ok (.aload_n 0, 1) := by decide +kernel
theorem dX10_carryOut_130 : decode cX10_carryOut 130 = .ok (.getfield 51, 3) := by decide +kernel
theorem dX10_carryOut_133 : decode cX10_carryOut 133 = .ok (.getfield 94, 3) := by decide +kernel
theorem dX10_carryOut_136 : decode cX10_carryOut 136 = .ok (.iload_n 1, 1) := by decide +kernel
theorem dX10_carryOut_137 : decode cX10_carryOut 137 = .ok (.iload_n 2, 1) := by decide +kernel
theorem dX10_carryOut_138 : decode cX10_carryOut 138 = .ok (.invokevirtual 158, 3) := by decide +kernel
theorem dX10_carryOut_141 : decode cX10_carryOut 141 = .ok (.istore_n 3, 1) := by decide +kernel
theorem dX10_carryOut_142 : decode cX10_carryOut 142 = .ok (.goto 68, 3) := by decide +kernel
theorem dX10_carryOut_145 : decode cX10_carryOut 145 = .ok (.aload_n 0, 1) := by decide +kernel
theorem dX10_carryOut_146 : decode cX10_carryOut 146 = .ok (.getfield 30, 3) := by decide +kernel
theorem dX10_carryOut_149 : decode cX10_carryOut 149 = .ok (.aload_n 0, 1) := by decide +kernel
theorem dX10_carryOut_150 : decode cX10_carryOut 150 = .ok (.getfield 58, 3) := by decide +kernel
theorem dX10_carryOut_153 : decode cX10_carryOut 153 = .ok (.aload_n 0, 1) := by decide +kernel
theorem dX10_carryOut_154 : decode cX10_carryOut 154 = .ok (.getfield 51, 3) := by decide +kernel
theorem dX10_carryOut_157 : decode cX10_carryOut 157 = .ok (.getfield 94, 3) := by decide +kernel
theorem dX10_carryOut_160 : decode cX10_carryOut 160 = .ok (.aload_n 0, 1) := by decide +kernel
theorem dX10_carryOut_161 : decode cX10_carryOut 161 = .ok (.getfield 51, 3) := by decide +kernel
theorem dX10_carryOut_164 : decode cX10_carryOut 164 = .ok (.getfield 97, 3) := by decide +kernel
theorem dX10_carryOut_167 : decode cX10_carryOut 167 = .ok (.iload_n 1, 1) := by decide +kernel
theorem dX10_carryOut_168 : decode cX10_carryOut 168 = .ok (.iload_n 2, 1) := by decide +kernel
theorem dX10_carryOut_169 : decode cX10_carryOut 169 = .ok (.invokevirtual 162, 3) := by decide +kernel
theorem dX10_carryOut_172 : decode cX10_carryOut 172 = .ok (.istore_n 3, 1) := by decide +kernel
theorem dX10_carryOut_173 : decode cX10_carryOut 173 = .ok (.goto 37, 3) := by decide +kernel
theorem dX10_carryOut_176 : decode cX10_carryOut 176 = .ok (.aload_n 0, 1) := by decide +kernel
theorem dX10_carryOut_177 : decode cX10_carryOut 177 = .ok (.getfield 37, 3) := by decide +kernel
theorem dX10_carryOut_180 : decode cX10_carryOut 180 = .ok (.aload_n 0, 1) := by decide +kernel
theorem dX10_carryOut_181 : decode cX10_carryOut 181 = .ok (.getfield 58, 3) := by decide +kernel
theorem dX10_carryOut_184 : decode cX10_carryOut 184 = .ok (.aload_n 0, 1) := by decide +kernel
theorem dX10_carryOut_185 : decode cX10_carryOut 185 = .ok (.getfield 51, 3) := by decide +kernel
theorem dX10_carryOut_188 : decode cX10_carryOut 188 = .ok (.getfield 94, 3) := by decide +kernel
theorem dX10_carryOut_191 : decode cX10_carryOut 191 = .ok (.invokevirtual 166, 3) := by decide +kernel
theorem dX10_carryOut_194 : decode cX10_carryOut 194 = .ok (.aload_n 0, 1) := by decide +kernel
theorem dX10_carryOut_195 : decode cX10_carryOut 195 = .ok (.getfield 30, 3) := by decide +kernel
theorem dX10_carryOut_198 : decode cX10_carryOut 198 = .ok (.aload_n 0, 1) := by decide +kernel
theorem dX10_carryOut_199 : decode cX10_carryOut 199 = .ok (.getfield 58, 3) := by decide +kernel
theorem dX10_carryOut_202 : decode cX10_carryOut 202 = .ok (.aload_n 0, 1) := by decide +kernel
theorem dX10_carryOut_203 : decode cX10_carryOut 203 = .ok (.getfield 37, 3) := by decide +kernel
theorem dX10_carryOut_206 : decode cX10_carryOut 206 = .ok (.invokevirtual 170, 3) := by decide +kernel
theorem dX10_carryOut_209 : decode cX10_carryOut 209 = .ok (.istore_n 3, 1) := by decide +kernel
theorem dX10_carryOut_210 : decode cX10_carryOut 210 = .ok (.iload_n 3, 1) := by decide +kernel
theorem dX10_carryOut_211 : decode cX10_carryOut 211 = .ok (.ifCond .eq 11, 3) := by decide +kernel
theorem dX10_carryOut_214 : decode cX10_carryOut 214 = .ok (.aload_n 0, 1) := by decide +kernel
theorem dX10_carryOut_215 : decode cX10_carryOut 215 = .ok (.getfield 51, 3) := by decide +kernel
theorem dX10_carryOut_218 : decode cX10_carryOut 218 = .ok (.invokevirtual 174, 3) := by decide +kernel
theorem dX10_carryOut_221 : decode cX10_carryOut 221 = .ok (.ireturn, 1) := by decide +kernel
theorem dX10_carryOut_222 : decode cX10_carryOut 222 = .ok (.aload_n 0, 1) := by decide +kernel
theorem dX10_carryOut_223 : decode cX10_carryOut 223 = .ok (.getfield 58, 3) := by decide +kernel
theorem dX10_carryOut_226 : decode cX10_carryOut 226 = .ok (.aload_n 0, 1) := by decide +kernel
theorem dX10_carryOut_227 : decode cX10_carryOut 227 = .ok (.getfield 30, 3) := by decide +kernel
theorem dX10_carryOut_230 : decode cX10_carryOut 230 = .ok (.getfield 177, 3) := by decide +kernel
theorem dX10_carryOut_233 : decode cX10_carryOut 233 = .ok (.invokevirtual 134, 3) := by decide +kernel
theorem dX10_carryOut_236 : decode cX10_carryOut 236 = .ok (.iconst 1, 1) := by decide +kernel
theorem dX10_carryOut_237 : decode cX10_carryOut 237 = .ok (.ireturn, 1) := by decide +kernel
set_option maxRecDepth 20000 in
theorem ggX10_tellRead_X4_upperRead : GoodIn wsX10_tellRead wsX4_upperRead := goodIn_r _ [9, 10, 53, 54, 55, 56, 57, 58, 59, 60, 61, 62] rfl rfl
set_option maxRecDepth 20000 in
theorem gX10_tellRead_X4_upperRead : GoodIn wsX10_tellRead (wsV RX10 141 RX4 yX4_upperRead wsX4_upperRead) := goodIn_app (goodIn_of _ (by decide +kernel)) ggX10_tellRead_X4_upperRead
set_option maxRecDepth 20000 in
theorem ggX10_tellRead_X4_lowerRead : GoodIn wsX10_tellRead wsX4_lowerRead := goodIn_r _ [14, 15, 53, 54, 55, 56, 57, 58, 59, 60, 61, 62] rfl rfl
set_option maxRecDepth 20000 in
theorem gX10_tellRead_X4_lowerRead : GoodIn wsX10_tellRead (wsV RX10 145 RX4 yX4_lowerRead wsX4_lowerRead) := goodIn_app (goodIn_of _ (by decide +kernel)) ggX10_tellRead_X4_lowerRead
set_option maxRecDepth 20000 in
theorem ggX10_tellRead_X3_start : GoodIn wsX10_tellRead wsX3_start := goodIn_r _ [20, 21, 22, 23, 24, 19, 25, 26, 27, 28, 29, 30, 31, 32, 33, 63, 64, 65] rfl rfl
set_option maxRecDepth 20000 in
theorem gX10_tellRead_X3_start : GoodIn wsX10_tellRead (wsV RX10 180 RX3 yX3_start wsX3_start) := goodIn_app (goodIn_of _ (by decide +kernel)) ggX10_tellRead_X3_start
set_option maxRecDepth 20000 in
theorem ggX10_tellRead_X1_put : GoodIn wsX10_tellRead wsX1_put := goodIn_r _ [38, 39, 40, 41, 42, 66, 67, 68, 69, 70, 63, 64, 65] rfl rfl
set_option maxRecDepth 20000 in
theorem gX10_tellRead_X1_put : GoodIn wsX10_tellRead (wsV RX10 184 RX1 yX1_put wsX1_put) := goodIn_app (goodIn_of _ (by decide +kernel)) ggX10_tellRead_X1_put
theorem dX10_tellRead_0 : decode cX10_tellRead 0 = .ok (.iload_n 1, 1) := by decide +kernel
theorem dX10_tellRead_1 : decode cX10_tellRead 1 = .ok (.istore_n 3, 1) := by decide +kernel
theorem dX10_tellRead_2 : decode cX10_tellRead 2 = .ok (.iload_n 3, 1) := by decide +kernel
theorem dX10_tellRead_3 : decode cX10_tellRead 3 = .ok (.iload_n 2, 1) := by decide +kernel
theorem dX10_tellRead_4 : decode cX10_tellRead 4 = .ok (.if_icmp .gt 63, 3) := by decide +kernel
theorem dX10_tellRead_7 : decode cX10_tellRead 7 = .ok (.iload_n 3, 1) := by decide +kernel
theorem dX10_tellRead_8 : decode cX10_tellRead 8 = .ok (.bipush 7, 2) := by decide +kernel
theorem dX10_tellRead_10 : decode cX10_tellRead 10 = .ok (.if_icmp .ge 57, 3) := by decide +kernel
theorem dX10_tellRead_13 : decode cX10_tellRead 13 = .ok (.aload_n 0, 1) := by decide +kernel
theorem dX10_tellRead_14 : decode cX10_tellRead 14 = .ok (.getfield 68, 3) := by decide +kernel
theorem dX10_tellRead_17 : decode cX10_tellRead 17 = .ok (.aload_n 0, 1) := by decide +kernel
theorem dX10_tellRead_18 : decode cX10_tellRead 18 = .ok (.getfield 51, 3) := by decide +kernel
theorem dX10_tellRead_21 : decode cX10_tellRead 21 = .ok (.iload_n 3, 1) := by decide +kernel
theorem dX10_tellRead_22 : decode cX10_tellRead 22 = .ok (.iload_n 1, 1) := by decide +kernel
theorem dX10_tellRead_23 : decode cX10_tellRead 23 = .ok (.isub, 1) := by decide +kernel
theorem dX10_tellRead_24 : decode cX10_tellRead 24 = .ok (.invokevirtual 141, 3) := by decide +kernel
theorem dX10_tellRead_27 : decode cX10_tellRead 27 = .ok (.i2l, 1) := by decide +kernel
theorem dX10_tellRead_28 : decode cX10_tellRead 28 = .ok (.aload_n 0, 1) := by decide +kernel
theorem dX10_tellRead_29 : decode cX10_tellRead 29 = .ok (.getfield 51, 3) := by decide +kernel
theorem dX10_tellRead_32 : decode cX10_tellRead 32 = .ok (.iload_n 3, 1) := by decide +kernel
theorem dX10_tellRead_33 : decode cX10_tellRead 33 = .ok (.iload_n 1, 1) := by decide +kernel
theorem dX10_tellRead_34 : decode cX10_tellRead 34 = .ok (.isub, 1) := by decide +kernel
theorem dX10_tellRead_35 : decode cX10_tellRead 35 = .ok (.invokevirtual 145, 3) := by decide +kernel
theorem dX10_tellRead_38 : decode cX10_tellRead 38 = .ok (.i2l, 1) := by decide +kernel
theorem dX10_tellRead_39 : decode cX10_tellRead 39 = .ok (.invokevirtual 180, 3) := by decide +kernel
theorem dX10_tellRead_42 : decode cX10_tellRead 42 = .ok (.aload_n 0, 1) := by decide +kernel
theorem dX10_tellRead_43 : decode cX10_tellRead 43 = .ok (.getfield 58, 3) := by decide +kernel
theorem dX10_tellRead_46 : decode cX10_tellRead 46 = .ok (.aload_n 0, 1) := by decide +kernel
theorem dX10_tellRead_47 : decode cX10_tellRead 47 = .ok (.getfield 51, 3) := by decide +kernel
theorem dX10_tellRead_50 : decode cX10_tellRead 50 = .ok (.getfield 94, 3) := by decide +kernel
theorem dX10_tellRead_53 : decode cX10_tellRead 53 = .ok (.iload_n 3, 1) := by decide +kernel
theorem dX10_tellRead_54 : decode cX10_tellRead 54 = .ok (.aload_n 0, 1) := by decide +kernel
theorem dX10_tellRead_55 : decode cX10_tellRead 55 = .ok (.getfield 68, 3) := by decide +kernel
theorem dX10_tellRead_58 : decode cX10_tellRead 58 = .ok (.invokevirtual 184, 3) := by decide +kernel
theorem dX10_tellRead_61 : decode cX10_tellRead 61 = .ok (.iinc 3 1, 3) := by decide +kernel
theorem dX10_tellRead_64 : decode cX10_tellRead 64 = .ok (.goto (-62), 3) := by decide +kernel
theorem dX10_tellRead_67 : decode cX10_tellRead 67 = .ok (.iconst 1, 1) := by decide +kernel
theorem dX10_tellRead_68 : decode cX10_tellRead 68 = .ok (.ireturn, 1) := by decide +kernel
set_option maxRecDepth 20000 in
theorem ggX10_set_X0_tell : GoodIn wsX10_set wsX0_tell := goodIn_r _ [8, 9, 10, 11, 12, 13, 14, 15, 16, 17, 18, 19, 20, 21, 22, 23, 24, 25, 26, 27, 28, 29, 30, 31, 32, 33, 34, 35, 36, 37, 38, 39, 40, 41, 42, 43, 44, 45, 46, 47, 48, 49, 50, 51, 52, 53, 54, 55, 56, 57, 58, 59, 60, 61, 62, 63, 64, 65, 66, 67, 68, 69, 70, 132, 133, 134, 135, 136, 137, 138, 139, 140, 141, 142, 143] rfl rfl
set_option maxRecDepth 20000 in
theorem gX10_set_X0_tell : GoodIn wsX10_set (wsV RX10 188 RX0 yX0_tell wsX0_tell) := goodIn_app (goodIn_of _ (by decide +kernel)) ggX10_set_X0_tell
set_option maxRecDepth 20000 in
theorem ggX10_set_X10_conclude : GoodIn wsX10_set wsX10_conclude := goodIn_r _ [74, 2, 75, 1, 76, 77, 78, 79, 80, 3, 81, 82, 83, 84, 85, 86, 87, 88, 89, 90, 14, 91, 92, 93, 94, 95, 96, 97, 98, 99, 100, 101, 16, 21, 102, 53, 58, 103, 104, 28, 105, 106, 107, 108, 36, 109, 110, 111, 112, 113, 60, 61, 62, 63, 64, 65, 66, 114, 115, 116, 117, 118, 119, 120, 121, 122, 123, 124, 125, 126, 127, 128, 129, 130, 131, 132, 133, 134, 135, 144, 145, 146, 136, 137, 138, 139, 140, 141, 142, 143] rfl rfl
set_option maxRecDepth 20000 in
theorem gX10_set_X10_conclude : GoodIn wsX10_set (wsV RX10 191 RX10 yX10_conclude wsX10_conclude) := goodIn_app (goodIn_of _ (by decide +kernel)) ggX10_set_X10_conclude
theorem dX10_set_0 : decode cX10_set 0 = .ok (.aload_n 0, 1) := by decide +kernel
theorem dX10_set_1 : decode cX10_set 1 = .ok (.aload_n 0, 1) := by decide +kernel
theorem dX10_set_2 : decode cX10_set 2 = .ok (.getfield 30, 3) := by decide +kernel
theorem dX10_set_5 : decode cX10_set 5 = .ok (.aload_n 0, 1) := by decide +kernel
theorem dX10_set_6 : decode cX10_set 6 = .ok (.getfield 12, 3) := by decide +kernel
theorem dX10_set_9 : decode cX10_set 9 = .ok (.getfield 131, 3) := by decide +kernel
theorem dX10_set_12 : decode cX10_set 12 = .ok (.iload_n 1, 1) := by decide +kernel
theorem dX10_set_13 : decode cX10_set 13 = .ok (.iload_n 2, 1) := by decide +kernel
theorem dX10_set_14 : decode cX10_set 14 = .ok (.iload_n 3, 1) := by decide +kernel
theorem dX10_set_15 : decode cX10_set 15 = .ok (.iload 4, 2) := by decide +kernel
theorem dX10_set_17 : decode cX10_set 17 = .ok (.invokevirtual 188, 3) := by decide +kernel
theorem dX10_set_20 : decode cX10_set 20 = .ok (.invokevirtual 191, 3) := by decide +kernel
theorem dX10_set_23 : decode cX10_set 23 = .ok (.ireturn, 1) := by decide +kernel
set_option maxRecDepth 20000 in
theorem ggX10_swap_X0_exchange : GoodIn wsX10_swap wsX0_exchange := goodIn_r _ [8, 9, 10, 11, 12, 13, 14, 15, 16, 17, 18, 19, 20, 21, 22, 23, 24, 25, 26, 27, 28, 29, 30, 31, 32, 33, 34, 35, 36, 37, 38, 39, 40, 41, 42, 43, 44, 45, 46, 47, 48, 49, 50, 51, 52, 53, 54, 55, 56, 57, 58, 59, 60, 61, 62, 124, 125, 126, 127, 128, 129, 130, 131, 132, 133, 134, 135] rfl rfl
set_option maxRecDepth 20000 in
theorem gX10_swap_X0_exchange : GoodIn wsX10_swap (wsV RX10 154 RX0 yX0_exchange wsX0_exchange) := goodIn_app (goodIn_of _ (by decide +kernel)) ggX10_swap_X0_exchange
set_option maxRecDepth 20000 in
theorem ggX10_swap_X10_conclude : GoodIn wsX10_swap wsX10_conclude := goodIn_r _ [67, 2, 68, 1, 69, 70, 71, 72, 73, 3, 74, 75, 76, 77, 78, 79, 80, 81, 82, 83, 15, 84, 85, 86, 87, 88, 89, 90, 91, 92, 93, 94, 17, 22, 95, 23, 28, 96, 97, 32, 55, 98, 99, 100, 36, 101, 102, 103, 104, 105, 19, 20, 21, 24, 25, 26, 27, 106, 107, 108, 109, 110, 111, 112, 113, 114, 115, 116, 117, 118, 119, 120, 121, 122, 123, 124, 125, 126, 127, 136, 137, 138, 128, 129, 130, 131, 132, 133, 134, 135] rfl rfl
set_option maxRecDepth 20000 in
theorem gX10_swap_X10_conclude : GoodIn wsX10_swap (wsV RX10 191 RX10 yX10_conclude wsX10_conclude) := goodIn_app (goodIn_of _ (by decide +kernel)) ggX10_swap_X10_conclude
theorem dX10_swap_0 : decode cX10_swap 0 = .ok (.aload_n 0, 1) := by decide +kernel
theorem dX10_swap_1 : decode cX10_swap 1 = .ok (.aload_n 0, 1) := by decide +kernel
theorem dX10_swap_2 : decode cX10_swap 2 = .ok (.getfield 30, 3) := by decide +kernel
theorem dX10_swap_5 : decode cX10_swap 5 = .ok (.aload_n 0, 1) := by decide +kernel
theorem dX10_swap_6 : decode cX10_swap 6 = .ok (.getfield 12, 3) := by decide +kernel
theorem dX10_swap_9 : decode cX10_swap 9 = .ok (.getfield 131, 3) := by decide +kernel
theorem dX10_swap_12 : decode cX10_swap 12 = .ok (.iload_n 1, 1) := by decide +kernel
theorem dX10_swap_13 : decode cX10_swap 13 = .ok (.iload_n 2, 1) := by decide +kernel
theorem dX10_swap_14 : decode cX10_swap 14 = .ok (.invokevirtual 154, 3) := by decide +kernel
theorem dX10_swap_17 : decode cX10_swap 17 = .ok (.invokevirtual 191, 3) := by decide +kernel
theorem dX10_swap_20 : decode cX10_swap 20 = .ok (.ireturn, 1) := by decide +kernel
set_option maxRecDepth 20000 in
theorem ggX10_scale_X0_stretch : GoodIn wsX10_scale wsX0_stretch := goodIn_r _ [8, 9, 10, 11, 12, 13, 14, 15, 16, 17, 18, 19, 20, 21, 22, 23, 24, 25, 26, 27, 28, 29, 30, 31, 32, 33, 34, 35, 36, 37, 38, 39, 40, 41, 42, 43, 44, 45, 46, 47, 48, 49, 50, 51, 52, 53, 54, 55, 56, 57, 58, 59, 60, 61, 62, 63, 64, 65, 66, 67, 68, 69, 70, 7, 71, 72, 73, 74, 75, 76, 77, 78, 79, 141, 142, 143, 144, 145, 146, 147, 148, 149, 150, 151, 152] rfl rfl
set_option maxRecDepth 20000 in
theorem gX10_scale_X0_stretch : GoodIn wsX10_scale (wsV RX10 158 RX0 yX0_stretch wsX0_stretch) := goodIn_app (goodIn_of _ (by decide +kernel)) ggX10_scale_X0_stretch
set_option maxRecDepth 20000 in
theorem ggX10_scale_X10_conclude : GoodIn wsX10_scale wsX10_conclude := goodIn_r _ [83, 2, 84, 1, 85, 86, 87, 88, 89, 3, 90, 91, 92, 93, 94, 95, 96, 97, 98, 99, 16, 100, 101, 102, 103, 104, 105, 106, 107, 108, 109, 110, 18, 26, 111, 31, 40, 112, 113, 44, 114, 115, 116, 117, 48, 118, 119, 120, 121, 122, 33, 34, 35, 36, 37, 38, 39, 123, 124, 125, 126, 127, 128, 129, 130, 131, 132, 133, 134, 135, 136, 137, 138, 139, 140, 141, 142, 143, 144, 153, 154, 155, 145, 146, 147, 148, 149, 150, 151, 152] rfl rfl
set_option maxRecDepth 20000 in
theorem gX10_scale_X10_conclude : GoodIn wsX10_scale (wsV RX10 191 RX10 yX10_conclude wsX10_conclude) := goodIn_app (goodIn_of _ (by decide +kernel)) ggX10_scale_X10_conclude
theorem dX10_scale_0 : decode cX10_scale 0 = .ok (.aload_n 0, 1) := by decide +kernel
theorem dX10_scale_1 : decode cX10_scale 1 = .ok (.aload_n 0, 1) := by decide +kernel
theorem dX10_scale_2 : decode cX10_scale 2 = .ok (.getfield 30, 3) := by decide +kernel
theorem dX10_scale_5 : decode cX10_scale 5 = .ok (.aload_n 0, 1) := by decide +kernel
theorem dX10_scale_6 : decode cX10_scale 6 = .ok (.getfield 12, 3) := by decide +kernel
theorem dX10_scale_9 : decode cX10_scale 9 = .ok (.getfield 131, 3) := by decide +kernel
theorem dX10_scale_12 : decode cX10_scale 12 = .ok (.iload_n 1, 1) := by decide +kernel
theorem dX10_scale_13 : decode cX10_scale 13 = .ok (.iload_n 2, 1) := by decide +kernel
theorem dX10_scale_14 : decode cX10_scale 14 = .ok (.iload_n 3, 1) := by decide +kernel
theorem dX10_scale_15 : decode cX10_scale 15 = .ok (.invokevirtual 158, 3) := by decide +kernel
theorem dX10_scale_18 : decode cX10_scale 18 = .ok (.invokevirtual 191, 3) := by decide +kernel
theorem dX10_scale_21 : decode cX10_scale 21 = .ok (.ireturn, 1) := by decide +kernel
set_option maxRecDepth 20000 in
theorem ggX10_add_X0_addRow : GoodIn wsX10_add wsX0_addRow := goodIn_r _ [8, 9, 10, 11, 12, 13, 14, 15, 16, 17, 18, 19, 20, 21, 22, 23, 24, 25, 26, 27, 28, 29, 30, 31, 32, 33, 34, 35, 36, 37, 38, 39, 40, 41, 42, 43, 44, 45, 46, 47, 48, 49, 50, 51, 52, 53, 54, 55, 56, 57, 58, 59, 60, 61, 62, 63, 64, 65, 66, 67, 68, 69, 70, 71, 72, 73, 74, 75, 76, 77, 78, 79, 80, 81, 82, 83, 84, 85, 86, 87, 88, 89, 90, 91, 7, 92, 93, 94, 155, 156, 157, 158, 159, 160, 161, 162, 163, 164, 165, 166] rfl rfl
set_option maxRecDepth 20000 in
theorem gX10_add_X0_addRow : GoodIn wsX10_add (wsV RX10 162 RX0 yX0_addRow wsX0_addRow) := goodIn_app (goodIn_of _ (by decide +kernel)) ggX10_add_X0_addRow
set_option maxRecDepth 20000 in
theorem ggX10_add_X10_conclude : GoodIn wsX10_add wsX10_conclude := goodIn_r _ [98, 2, 99, 1, 100, 101, 102, 103, 104, 3, 105, 106, 107, 108, 109, 110, 111, 112, 113, 114, 16, 115, 116, 117, 118, 119, 120, 121, 122, 123, 124, 125, 18, 26, 126, 31, 40, 127, 128, 44, 63, 129, 130, 131, 52, 132, 133, 134, 135, 136, 33, 34, 35, 36, 37, 38, 39, 137, 138, 139, 140, 141, 142, 143, 144, 145, 146, 147, 148, 149, 150, 151, 152, 153, 154, 155, 156, 157, 158, 167, 168, 169, 162, 163, 164, 165, 166, 159, 160, 161] rfl rfl
set_option maxRecDepth 20000 in
theorem gX10_add_X10_conclude : GoodIn wsX10_add (wsV RX10 191 RX10 yX10_conclude wsX10_conclude) := goodIn_app (goodIn_of _ (by decide +kernel)) ggX10_add_X10_conclude
theorem dX10_add_0 : decode cX10_add 0 = .ok (.aload_n 0, 1) := by decide +kernel
theorem dX10_add_1 : decode cX10_add 1 = .ok (.aload_n 0, 1) := by decide +kernel
theorem dX10_add_2 : decode cX10_add 2 = .ok (.getfield 30, 3) := by decide +kernel
theorem dX10_add_5 : decode cX10_add 5 = .ok (.aload_n 0, 1) := by decide +kernel
theorem dX10_add_6 : decode cX10_add 6 = .ok (.getfield 12, 3) := by decide +kernel
theorem dX10_add_9 : decode cX10_add 9 = .ok (.getfield 131, 3) := by decide +kernel
theorem dX10_add_12 : decode cX10_add 12 = .ok (.iload_n 1, 1) := by decide +kernel
theorem dX10_add_13 : decode cX10_add 13 = .ok (.iload_n 2, 1) := by decide +kernel
theorem dX10_add_14 : decode cX10_add 14 = .ok (.iload_n 3, 1) := by decide +kernel
theorem dX10_add_15 : decode cX10_add 15 = .ok (.iload 4, 2) := by decide +kernel
theorem dX10_add_17 : decode cX10_add 17 = .ok (.invokevirtual 162, 3) := by decide +kernel
theorem dX10_add_20 : decode cX10_add 20 = .ok (.invokevirtual 191, 3) := by decide +kernel
theorem dX10_add_23 : decode cX10_add 23 = .ok (.ireturn, 1) := by decide +kernel
set_option maxRecDepth 20000 in
theorem ggX10_reduce_X10_isRule : GoodIn wsX10_reduce wsX10_isRule := goodIn_r _ [8] rfl rfl
set_option maxRecDepth 20000 in
theorem gX10_reduce_X10_isRule : GoodIn wsX10_reduce (va_wsS RX10 194 yX10_isRule wsX10_isRule) := goodIn_app (goodIn_of _ (by decide +kernel)) ggX10_reduce_X10_isRule
set_option maxRecDepth 20000 in
theorem ggX10_reduce_X10_conclude : GoodIn wsX10_reduce wsX10_conclude := goodIn_r _ [12, 2, 13, 4, 14, 15, 16, 17, 18, 3, 19, 20, 21, 22, 23, 24, 25, 26, 27, 28, 29, 30, 31, 32, 33, 34, 35, 36, 37, 38, 39, 40, 41, 42, 43, 44, 45, 46, 47, 48, 49, 50, 51, 52, 53, 54, 55, 56, 57, 58, 59, 60, 61, 62, 63, 64, 65, 66, 215, 216, 217, 218, 219, 220, 221, 222, 223, 224, 225, 226, 227, 228, 229, 230, 231, 232, 233, 234, 235, 236, 237, 238, 239, 240, 241, 242, 243, 244, 245, 246] rfl rfl
set_option maxRecDepth 20000 in
theorem gX10_reduce_X10_conclude : GoodIn wsX10_reduce (wsV RX10 191 RX10 yX10_conclude wsX10_conclude) := goodIn_app (goodIn_of _ (by decide +kernel)) ggX10_reduce_X10_conclude
set_option maxRecDepth 20000 in
theorem ggX10_reduce_X7_run : GoodIn wsX10_reduce wsX7_run := goodIn_r _ [71, 72, 73, 74, 75, 76, 77, 78, 79, 80, 81, 82, 83, 84, 59, 60, 29, 61, 41, 42, 44, 62, 63, 64, 65, 45, 85, 86, 87, 88, 89, 90, 91, 70, 92, 93, 94, 95, 96, 97, 98, 99, 100, 101, 102, 103, 104, 105, 106, 107, 33, 108, 109, 110, 111, 112, 113, 114, 115, 116, 117, 118, 119, 120, 121, 122, 123, 124, 125, 126, 127, 128, 129, 130, 131, 132, 133, 134, 135, 136, 137, 138, 139, 140, 141, 142, 143, 144, 145, 48, 146, 147, 148, 53, 149, 150, 151, 152, 153, 154, 155, 156, 157, 158, 159, 160, 161, 162, 163, 164, 165, 166, 167, 168, 169, 170, 171, 172, 49, 173, 174, 175, 176, 177, 178, 179, 180, 181, 182, 183, 184, 185, 186, 187, 188, 189, 247, 248, 249, 250, 251, 252, 253, 254, 255, 256, 257, 258, 259, 260, 239, 240, 241, 242, 243, 244, 245, 246] rfl rfl
set_option maxRecDepth 20000 in
theorem gX10_reduce_X7_run : GoodIn wsX10_reduce (wsV RX10 166 RX7 yX7_run wsX7_run) := goodIn_app (goodIn_of _ (by decide +kernel)) ggX10_reduce_X7_run
set_option maxRecDepth 20000 in
theorem ggX10_reduce_X0_takeSwept : GoodIn wsX10_reduce wsX0_takeSwept := goodIn_r _ [194, 195, 196, 197, 198, 199, 200, 201, 202, 193, 203, 204, 205, 206, 59, 60, 29, 61, 41, 42, 44, 62, 63, 64, 65, 45, 207, 208, 209, 210, 49, 174, 144, 145, 48, 146, 147, 148, 53, 149, 99, 100, 101, 150, 130, 131, 132, 211, 212, 213, 214, 188, 189, 117, 179, 247, 248, 249, 250, 251, 252, 253, 254, 255, 256, 257, 258, 259, 260, 232, 233, 234, 235, 239, 240, 241, 242, 243, 244, 245, 246] rfl rfl
set_option maxRecDepth 20000 in
theorem gX10_reduce_X0_takeSwept : GoodIn wsX10_reduce (wsV RX10 170 RX0 yX0_takeSwept wsX0_takeSwept) := goodIn_app (goodIn_of _ (by decide +kernel)) ggX10_reduce_X0_takeSwept
theorem dX10_reduce_0 : decode cX10_reduce 0 = .ok (.iload_n 1, 1) := by decide +kernel
theorem dX10_reduce_1 : decode cX10_reduce 1 = .ok (.invokestatic 194, 3) := by decide +kernel
theorem dX10_reduce_4 : decode cX10_reduce 4 = .ok (.ifCond .ne 9, 3) := by decide +kernel
theorem dX10_reduce_7 : decode cX10_reduce 7 = .ok (.aload_n 0, 1) := by decide +kernel
theorem dX10_reduce_8 : decode cX10_reduce 8 = .ok (.iconst 1, 1) := by decide +kernel
theorem dX10_reduce_9 : decode cX10_reduce 9 = .ok (.invokevirtual 191, 3) := by decide +kernel
theorem dX10_reduce_12 : decode cX10_reduce 12 = .ok (.ireturn, 1) := by decide +kernel
theorem dX10_reduce_13 : decode cX10_reduce 13 = .ok (.aload_n 0, 1) := by decide +kernel
theorem dX10_reduce_14 : decode cX10_reduce 14 = .ok (.getfield 37, 3) := by decide +kernel
theorem dX10_reduce_17 : decode cX10_reduce 17 = .ok (.aload_n 0, 1) := by decide +kernel
theorem dX10_reduce_18 : decode cX10_reduce 18 = .ok (.getfield 12, 3) := by decide +kernel
theorem dX10_reduce_21 : decode cX10_reduce 21 = .ok (.getfield 131, 3) := by decide +kernel
theorem dX10_reduce_24 : decode cX10_reduce 24 = .ok (.iload_n 1, 1) := by decide +kernel
theorem dX10_reduce_25 : decode cX10_reduce 25 = .ok (.invokevirtual 166, 3) := by decide +kernel
theorem dX10_reduce_28 : decode cX10_reduce 28 = .ok (.aload_n 0, 1) := by decide +kernel
theorem dX10_reduce_29 : decode cX10_reduce 29 = .ok (.aload_n 0, 1) := by decide +kernel
theorem dX10_reduce_30 : decode cX10_reduce 30 = .ok (.getfield 30, 3) := by decide +kernel
theorem dX10_reduce_33 : decode cX10_reduce 33 = .ok (.aload_n 0, 1) := by decide +kernel
theorem dX10_reduce_34 : decode cX10_reduce 34 = .ok (.getfield 12, 3) := by decide +kernel
theorem dX10_reduce_37 : decode cX10_reduce 37 = .ok (.getfield 131, 3) := by decide +kernel
theorem dX10_reduce_40 : decode cX10_reduce 40 = .ok (.aload_n 0, 1) := by decide +kernel
theorem dX10_reduce_41 : decode cX10_reduce 41 = .ok (.getfield 37, 3) := by decide +kernel
theorem dX10_reduce_44 : decode cX10_reduce 44 = .ok (.invokevirtual 170, 3) := by decide +kernel
theorem dX10_reduce_47 : decode cX10_reduce 47 = .ok (.invokevirtual 191, 3) := by decide +kernel
theorem dX10_reduce_50 : decode cX10_reduce 50 = .ok (.ireturn, 1) := by decide +kernel
theorem dX10_why_0 : decode cX10_why 0 = .ok (.iload_n 1, 1) := by decide +kernel
theorem dX10_why_1 : decode cX10_why 1 = .ok (.ifCond .lt 17, 3) := by decide +kernel
theorem dX10_why_4 : decode cX10_why 4 = .ok (.iload_n 1, 1) := by decide +kernel
theorem dX10_why_5 : decode cX10_why 5 = .ok (.iconst 1, 1) := by decide +kernel
theorem dX10_why_6 : decode cX10_why 6 = .ok (.if_icmp .gt 12, 3) := by decide +kernel
theorem dX10_why_9 : decode cX10_why 9 = .ok (.iload_n 2, 1) := by decide +kernel
theorem dX10_why_10 : decode cX10_why 10 = .ok (.ifCond .lt 8, 3) := by decide +kernel
theorem dX10_why_13 : decode cX10_why 13 = .ok (.iload_n 2, 1) := by decide +kernel
theorem dX10_why_14 : decode cX10_why 14 = .ok (.iconst 2, 1) := by decide +kernel
theorem dX10_why_15 : decode cX10_why 15 = .ok (.if_icmp .le 5, 3) := by decide +kernel
theorem dX10_why_18 : decode cX10_why 18 = .ok (.iconst (-1), 1) := by decide +kernel
theorem dX10_why_19 : decode cX10_why 19 = .ok (.ireturn, 1) := by decide +kernel
theorem dX10_why_20 : decode cX10_why 20 = .ok (.iload_n 1, 1) := by decide +kernel
theorem dX10_why_21 : decode cX10_why 21 = .ok (.ifCond .ne 21, 3) := by decide +kernel
theorem dX10_why_24 : decode cX10_why 24 = .ok (.aload_n 0, 1) := by decide +kernel
theorem dX10_why_25 : decode cX10_why 25 = .ok (.getfield 12, 3) := by decide +kernel
theorem dX10_why_28 : decode cX10_why 28 = .ok (.getfield 198, 3) := by decide +kernel
theorem dX10_why_31 : decode cX10_why 31 = .ok (.ifCond .eq 7, 3) := by decide +kernel
theorem dX10_why_34 : decode cX10_why 34 = .ok (.iconst 1, 1) := by decide +kernel
theorem dX10_why_35 : decode cX10_why 35 = .ok (.goto 23, 3) := by decide +kernel
theorem dX10_why_38 : decode cX10_why 38 = .ok (.iconst 0, 1) := by decide +kernel
theorem dX10_why_39 : decode cX10_why 39 = .ok (.goto 19, 3) := by decide +kernel
theorem dX10_why_42 : decode cX10_why 42 = .ok (.aload_n 0, 1) := by decide +kernel
theorem dX10_why_43 : decode cX10_why 43 = .ok (.getfield 12, 3) := by decide +kernel
theorem dX10_why_46 : decode cX10_why 46 = .ok (.getfield 198, 3) := by decide +kernel
theorem dX10_why_49 : decode cX10_why 49 = .ok (.iconst 3, 1) := by decide +kernel
theorem dX10_why_50 : decode cX10_why 50 = .ok (.if_icmp .ne 7, 3) := by decide +kernel
theorem dX10_why_53 : decode cX10_why 53 = .ok (.iconst 1, 1) := by decide +kernel
theorem dX10_why_54 : decode cX10_why 54 = .ok (.goto 4, 3) := by decide +kernel
theorem dX10_why_57 : decode cX10_why 57 = .ok (.iconst 0, 1) := by decide +kernel
theorem dX10_why_58 : decode cX10_why 58 = .ok (.istore_n 3, 1) := by decide +kernel
theorem dX10_why_59 : decode cX10_why 59 = .ok (.iload_n 3, 1) := by decide +kernel
theorem dX10_why_60 : decode cX10_why 60 = .ok (.ifCond .ne 5, 3) := by decide +kernel
theorem dX10_why_63 : decode cX10_why 63 = .ok (.iconst 0, 1) := by decide +kernel
theorem dX10_why_64 : decode cX10_why 64 = .ok (.ireturn, 1) := by decide +kernel
theorem dX10_why_65 : decode cX10_why 65 = .ok (.iload_n 2, 1) := by decide +kernel
theorem dX10_why_66 : decode cX10_why 66 = .ok (.ifCond .ne 19, 3) := by decide +kernel
theorem dX10_why_69 : decode cX10_why 69 = .ok (.iload_n 1, 1) := by decide +kernel
theorem dX10_why_70 : decode cX10_why 70 = .ok (.ifCond .ne 13, 3) := by decide +kernel
theorem dX10_why_73 : decode cX10_why 73 = .ok (.aload_n 0, 1) := by decide +kernel
theorem dX10_why_74 : decode cX10_why 74 = .ok (.getfield 12, 3) := by decide +kernel
theorem dX10_why_77 : decode cX10_why 77 = .ok (.getfield 198, 3) := by decide +kernel
theorem dX10_why_80 : decode cX10_why 80 = .ok (.goto 4, 3) := by decide +kernel
theorem dX10_why_83 : decode cX10_why 83 = .ok (.iconst 4, 1) := by decide +kernel
theorem dX10_why_84 : decode cX10_why 84 = .ok (.ireturn, 1) := by decide +kernel
theorem dX10_why_85 : decode cX10_why 85 = .ok (.iload_n 1, 1) := by decide +kernel
theorem dX10_why_86 : decode cX10_why 86 = .ok (.ifCond .ne 5, 3) := by decide +kernel
theorem dX10_why_89 : decode cX10_why 89 = .ok (.iconst (-1), 1) := by decide +kernel
theorem dX10_why_90 : decode cX10_why 90 = .ok (.ireturn, 1) := by decide +kernel
theorem dX10_why_91 : decode cX10_why 91 = .ok (.iload_n 2, 1) := by decide +kernel
theorem dX10_why_92 : decode cX10_why 92 = .ok (.iconst 1, 1) := by decide +kernel
theorem dX10_why_93 : decode cX10_why 93 = .ok (.if_icmp .ne 13, 3) := by decide +kernel
theorem dX10_why_96 : decode cX10_why 96 = .ok (.aload_n 0, 1) := by decide +kernel
theorem dX10_why_97 : decode cX10_why 97 = .ok (.getfield 12, 3) := by decide +kernel
theorem dX10_why_100 : decode cX10_why 100 = .ok (.getfield 201, 3) := by decide +kernel
theorem dX10_why_103 : decode cX10_why 103 = .ok (.goto 10, 3) := by decide +kernel
theorem dX10_why_106 : decode cX10_why 106 = .ok (.aload_n 0, 1) := by decide +kernel
theorem dX10_why_107 : decode cX10_why 107 = .ok (.getfield 12, 3) := by decide +kernel
theorem dX10_why_110 : decode cX10_why 110 = .ok (.getfield 204, 3) := by decide +kernel
theorem dX10_why_113 : decode cX10_why 113 = .ok (.ireturn, 1) := by decide +kernel
set_option maxRecDepth 20000 in
theorem ggX10_undo_X2_takeBack : GoodIn wsX10_undo wsX2_takeBack := goodIn_r _ [9, 10, 11, 12, 13, 14, 15, 16, 17, 18, 19, 20, 21, 22, 23, 24, 25, 36, 37, 38, 46, 47, 48, 49, 50] rfl rfl
set_option maxRecDepth 20000 in
theorem gX10_undo_X2_takeBack : GoodIn wsX10_undo (wsV RX10 210 RX2 yX2_takeBack wsX2_takeBack) := goodIn_app (goodIn_of _ (by decide +kernel)) ggX10_undo_X2_takeBack
theorem dX10_undo_0 : decode cX10_undo 0 = .ok (.aload_n 0, 1) := by decide +kernel
theorem dX10_undo_1 : decode cX10_undo 1 = .ok (.getfield 23, 3) := by decide +kernel
theorem dX10_undo_4 : decode cX10_undo 4 = .ok (.getfield 207, 3) := by decide +kernel
theorem dX10_undo_7 : decode cX10_undo 7 = .ok (.ifCond .ne 5, 3) := by decide +kernel
theorem dX10_undo_10 : decode cX10_undo 10 = .ok (.iconst (-1), 1) := by decide +kernel
theorem dX10_undo_11 : decode cX10_undo 11 = .ok (.ireturn, 1) := by decide +kernel
theorem dX10_undo_12 : decode cX10_undo 12 = .ok (.aload_n 0, 1) := by decide +kernel
theorem dX10_undo_13 : decode cX10_undo 13 = .ok (.getfield 23, 3) := by decide +kernel
theorem dX10_undo_16 : decode cX10_undo 16 = .ok (.aload_n 0, 1) := by decide +kernel
theorem dX10_undo_17 : decode cX10_undo 17 = .ok (.getfield 12, 3) := by decide +kernel
theorem dX10_undo_20 : decode cX10_undo 20 = .ok (.getfield 131, 3) := by decide +kernel
theorem dX10_undo_23 : decode cX10_undo 23 = .ok (.invokevirtual 210, 3) := by decide +kernel
theorem dX10_undo_26 : decode cX10_undo 26 = .ok (.aload_n 0, 1) := by decide +kernel
theorem dX10_undo_27 : decode cX10_undo 27 = .ok (.getfield 23, 3) := by decide +kernel
theorem dX10_undo_30 : decode cX10_undo 30 = .ok (.getfield 207, 3) := by decide +kernel
theorem dX10_undo_33 : decode cX10_undo 33 = .ok (.ireturn, 1) := by decide +kernel
set_option maxRecDepth 20000 in
theorem ggX10_conclude_X2_keep : GoodIn wsX10_conclude wsX2_keep := goodIn_r _ [15, 16, 17, 18, 19, 20, 21, 22, 23, 24, 25, 26, 27, 28, 29, 30, 31, 32, 33, 34, 35, 36, 37, 38, 39, 40, 41, 42, 43, 44, 45, 46, 47, 48, 49, 50, 51, 52, 53, 54, 55, 56, 79, 80, 81, 82, 83, 84, 85, 86, 87, 88, 89] rfl rfl
set_option maxRecDepth 20000 in
theorem gX10_conclude_X2_keep : GoodIn wsX10_conclude (wsV RX10 215 RX2 yX2_keep wsX2_keep) := goodIn_app (goodIn_of _ (by decide +kernel)) ggX10_conclude_X2_keep
set_option maxRecDepth 20000 in
theorem ggX10_conclude_X1_copy : GoodIn wsX10_conclude wsX1_copy := goodIn_r _ [52, 32, 33, 35, 53, 54, 55, 56, 36, 82, 83, 84, 85, 86] rfl rfl
set_option maxRecDepth 20000 in
theorem gX10_conclude_X1_copy : GoodIn wsX10_conclude (wsV RX10 134 RX1 yX1_copy wsX1_copy) := goodIn_app (goodIn_of _ (by decide +kernel)) ggX10_conclude_X1_copy
theorem dX10_conclude_0 : decode cX10_conclude 0 = .ok (.aload_n 0, 1) := by decide +kernel
theorem dX10_conclude_1 : decode cX10_conclude 1 = .ok (.getfield 12, 3) := by decide +kernel
theorem dX10_conclude_4 : decode cX10_conclude 4 = .ok (.iload_n 1, 1) := by decide +kernel
theorem dX10_conclude_5 : decode cX10_conclude 5 = .ok (.putfield 198, 3) := by decide +kernel
theorem dX10_conclude_8 : decode cX10_conclude 8 = .ok (.aload_n 0, 1) := by decide +kernel
theorem dX10_conclude_9 : decode cX10_conclude 9 = .ok (.getfield 12, 3) := by decide +kernel
theorem dX10_conclude_12 : decode cX10_conclude 12 = .ok (.iload_n 1, 1) := by decide +kernel
theorem dX10_conclude_13 : decode cX10_conclude 13 = .ok (.iconst 3, 1) := by decide +kernel
theorem dX10_conclude_14 : decode cX10_conclude 14 = .ok (.if_icmp .ne 13, 3) := by decide +kernel
theorem dX10_conclude_17 : decode cX10_conclude 17 = .ok (.aload_n 0, 1) := by decide +kernel
theorem dX10_conclude_18 : decode cX10_conclude 18 = .ok (.getfield 30, 3) := by decide +kernel
theorem dX10_conclude_21 : decode cX10_conclude 21 = .ok (.getfield 213, 3) := by decide +kernel
theorem dX10_conclude_24 : decode cX10_conclude 24 = .ok (.goto 4, 3) := by decide +kernel
theorem dX10_conclude_27 : decode cX10_conclude 27 = .ok (.iconst (-1), 1) := by decide +kernel
theorem dX10_conclude_28 : decode cX10_conclude 28 = .ok (.putfield 201, 3) := by decide +kernel
theorem dX10_conclude_31 : decode cX10_conclude 31 = .ok (.aload_n 0, 1) := by decide +kernel
theorem dX10_conclude_32 : decode cX10_conclude 32 = .ok (.getfield 12, 3) := by decide +kernel
theorem dX10_conclude_35 : decode cX10_conclude 35 = .ok (.iload_n 1, 1) := by decide +kernel
theorem dX10_conclude_36 : decode cX10_conclude 36 = .ok (.iconst 3, 1) := by decide +kernel
theorem dX10_conclude_37 : decode cX10_conclude 37 = .ok (.if_icmp .ne 13, 3) := by decide +kernel
theorem dX10_conclude_40 : decode cX10_conclude 40 = .ok (.aload_n 0, 1) := by decide +kernel
theorem dX10_conclude_41 : decode cX10_conclude 41 = .ok (.getfield 30, 3) := by decide +kernel
theorem dX10_conclude_44 : decode cX10_conclude 44 = .ok (.getfield 214, 3) := by decide +kernel
theorem dX10_conclude_47 : decode cX10_conclude 47 = .ok (.goto 4, 3) := by decide +kernel
theorem dX10_conclude_50 : decode cX10_conclude 50 = .ok (.iconst (-1), 1) := by decide +kernel
theorem dX10_conclude_51 : decode cX10_conclude 51 = .ok (.putfield 204, 3) := by decide +kernel
theorem dX10_conclude_54 : decode cX10_conclude 54 = .ok (.iload_n 1, 1) := by decide +kernel
theorem dX10_conclude_55 : decode cX10_conclude 55 = .ok (.ifCond .ne 34, 3) := by decide +kernel
theorem dX10_conclude_58 : decode cX10_conclude 58 = .ok (.aload_n 0, 1) := by decide +kernel
theorem dX10_conclude_59 : decode cX10_conclude 59 = .ok (.getfield 23, 3) := by decide +kernel
theorem dX10_conclude_62 : decode cX10_conclude 62 = .ok (.aload_n 0, 1) := by decide +kernel
theorem dX10_conclude_63 : decode cX10_conclude 63 = .ok (.getfield 12, 3) := by decide +kernel
theorem dX10_conclude_66 : decode cX10_conclude 66 = .ok (.getfield 131, 3) := by decide +kernel
theorem dX10_conclude_69 : decode cX10_conclude 69 = .ok (.invokevirtual 215, 3) := by decide +kernel
theorem dX10_conclude_72 : decode cX10_conclude 72 = .ok (.aload_n 0, 1) := by decide +kernel
theorem dX10_conclude_73 : decode cX10_conclude 73 = .ok (.getfield 12, 3) := by decide +kernel
theorem dX10_conclude_76 : decode cX10_conclude 76 = .ok (.getfield 131, 3) := by decide +kernel
theorem dX10_conclude_79 : decode cX10_conclude 79 = .ok (.aload_n 0, 1) := by decide +kernel
theorem dX10_conclude_80 : decode cX10_conclude 80 = .ok (.getfield 30, 3) := by decide +kernel
theorem dX10_conclude_83 : decode cX10_conclude 83 = .ok (.getfield 177, 3) := by decide +kernel
theorem dX10_conclude_86 : decode cX10_conclude 86 = .ok (.invokevirtual 134, 3) := by decide +kernel
theorem dX10_conclude_89 : decode cX10_conclude 89 = .ok (.iload_n 1, 1) := by decide +kernel
theorem dX10_conclude_90 : decode cX10_conclude 90 = .ok (.ireturn, 1) := by decide +kernel
set_option maxRecDepth 20000 in
theorem ggX10_entry_X1_hasRow : GoodIn wsX10_entry wsX1_hasRow := goodIn_r _ [8, 9, 42, 43, 44, 45, 46] rfl rfl
set_option maxRecDepth 20000 in
theorem gX10_entry_X1_hasRow : GoodIn wsX10_entry (wsV RX10 218 RX1 yX1_hasRow wsX1_hasRow) := goodIn_app (goodIn_of _ (by decide +kernel)) ggX10_entry_X1_hasRow
set_option maxRecDepth 20000 in
theorem ggX10_entry_X1_hasColumnOrSide : GoodIn wsX10_entry wsX1_hasColumnOrSide := goodIn_r _ [13, 14, 42, 43, 44, 45, 46] rfl rfl
set_option maxRecDepth 20000 in
theorem gX10_entry_X1_hasColumnOrSide : GoodIn wsX10_entry (wsV RX10 221 RX1 yX1_hasColumnOrSide wsX1_hasColumnOrSide) := goodIn_app (goodIn_of _ (by decide +kernel)) ggX10_entry_X1_hasColumnOrSide
set_option maxRecDepth 20000 in
theorem ggX10_entry_X1_lowerAt : GoodIn wsX10_entry wsX1_lowerAt := goodIn_r _ [18, 19, 42, 43, 44, 45, 46] rfl rfl
set_option maxRecDepth 20000 in
theorem gX10_entry_X1_lowerAt : GoodIn wsX10_entry (wsV RX10 225 RX1 yX1_lowerAt wsX1_lowerAt) := goodIn_app (goodIn_of _ (by decide +kernel)) ggX10_entry_X1_lowerAt
set_option maxRecDepth 20000 in
theorem ggX10_entry_X1_upperAt : GoodIn wsX10_entry wsX1_upperAt := goodIn_r _ [23, 24, 42, 43, 44, 45, 46] rfl rfl
set_option maxRecDepth 20000 in
theorem gX10_entry_X1_upperAt : GoodIn wsX10_entry (wsV RX10 229 RX1 yX1_upperAt wsX1_upperAt) := goodIn_app (goodIn_of _ (by decide +kernel)) ggX10_entry_X1_upperAt
theorem dX10_entry_0 : decode cX10_entry 0 = .ok (.aload_n 0, 1) := by decide +kernel
theorem dX10_entry_1 : decode cX10_entry 1 = .ok (.getfield 12, 3) := by decide +kernel
theorem dX10_entry_4 : decode cX10_entry 4 = .ok (.getfield 131, 3) := by decide +kernel
theorem dX10_entry_7 : decode cX10_entry 7 = .ok (.astore 4, 2) := by decide +kernel
theorem dX10_entry_9 : decode cX10_entry 9 = .ok (.aload 4, 2) := by decide +kernel
theorem dX10_entry_11 : decode cX10_entry 11 = .ok (.iload_n 1, 1) := by decide +kernel
theorem dX10_entry_12 : decode cX10_entry 12 = .ok (.invokevirtual 218, 3) := by decide +kernel
theorem dX10_entry_15 : decode cX10_entry 15 = .ok (.ifCond .eq 12, 3) := by decide +kernel
theorem dX10_entry_18 : decode cX10_entry 18 = .ok (.aload 4, 2) := by decide +kernel
theorem dX10_entry_20 : decode cX10_entry 20 = .ok (.iload_n 2, 1) := by decide +kernel
theorem dX10_entry_21 : decode cX10_entry 21 = .ok (.invokevirtual 221, 3) := by decide +kernel
theorem dX10_entry_24 : decode cX10_entry 24 = .ok (.ifCond .ne 6, 3) := by decide +kernel
theorem dX10_entry_27 : decode cX10_entry 27 = .ok (.ldc 224, 2) := by decide +kernel
theorem dX10_entry_29 : decode cX10_entry 29 = .ok (.ireturn, 1) := by decide +kernel
theorem dX10_entry_30 : decode cX10_entry 30 = .ok (.iload_n 3, 1) := by decide +kernel
theorem dX10_entry_31 : decode cX10_entry 31 = .ok (.ifCond .eq 13, 3) := by decide +kernel
theorem dX10_entry_34 : decode cX10_entry 34 = .ok (.aload 4, 2) := by decide +kernel
theorem dX10_entry_36 : decode cX10_entry 36 = .ok (.iload_n 1, 1) := by decide +kernel
theorem dX10_entry_37 : decode cX10_entry 37 = .ok (.iload_n 2, 1) := by decide +kernel
theorem dX10_entry_38 : decode cX10_entry 38 = .ok (.invokevirtual 225, 3) := by decide +kernel
theorem dX10_entry_41 : decode cX10_entry 41 = .ok (.goto 10, 3) := by decide +kernel
theorem dX10_entry_44 : decode cX10_entry 44 = .ok (.aload 4, 2) := by decide +kernel
theorem dX10_entry_46 : decode cX10_entry 46 = .ok (.iload_n 1, 1) := by decide +kernel
theorem dX10_entry_47 : decode cX10_entry 47 = .ok (.iload_n 2, 1) := by decide +kernel
theorem dX10_entry_48 : decode cX10_entry 48 = .ok (.invokevirtual 229, 3) := by decide +kernel
theorem dX10_entry_51 : decode cX10_entry 51 = .ok (.ireturn, 1) := by decide +kernel
set_option maxRecDepth 20000 in
theorem ggX10_count_X1_filled : GoodIn wsX10_count wsX1_filled := goodIn_r _ [13, 14, 15, 16, 17, 12, 18, 19, 20, 21, 22, 23, 24, 25, 26, 27, 28, 29, 30, 31, 32, 33, 34, 35, 183, 184, 185, 186, 187] rfl rfl
set_option maxRecDepth 20000 in
theorem gX10_count_X1_filled : GoodIn wsX10_count (wsV RX10 232 RX1 yX1_filled wsX1_filled) := goodIn_app (goodIn_of _ (by decide +kernel)) ggX10_count_X1_filled
set_option maxRecDepth 20000 in
theorem ggX10_count_X10_leastFillingRule : GoodIn wsX10_count wsX10_leastFillingRule := goodIn_r _ [40, 41, 1, 2, 42, 43, 44, 45, 46, 47, 48, 49, 50, 51, 52, 53, 54, 55, 56, 57, 58, 59, 60, 61, 62, 12, 63, 14, 19, 24, 64, 65, 66, 67, 68, 69, 26, 27, 28, 70, 71, 72, 73, 74, 75, 76, 77, 78, 79, 21, 22, 23, 80, 81, 82, 83, 84, 85, 86, 87, 88, 89, 90, 91, 92, 16, 17, 18, 20, 93, 30, 31, 32, 33, 34, 35, 94, 95, 96, 97, 98, 99, 100, 101, 102, 103, 104, 105, 106, 107, 108, 109, 110, 111, 112, 113, 114, 115, 116, 117, 118, 119, 120, 121, 122, 123, 124, 125, 126, 127, 128, 129, 130, 131, 132, 133, 134, 135, 136, 137, 138, 139, 140, 141, 142, 143, 144, 145, 146, 147, 148, 149, 150, 151, 152, 153, 154, 155, 156, 157, 158, 159, 160, 161, 162, 163, 164, 165, 166, 167, 168, 169, 170, 171, 172, 173, 174, 175, 176, 177, 178, 179, 180, 181, 182, 193, 194, 195, 196, 197, 198, 199, 200, 201, 202, 203, 204, 205, 206, 183, 184, 185, 186, 187, 207, 208, 209] rfl rfl
set_option maxRecDepth 20000 in
theorem gX10_count_X10_leastFillingRule : GoodIn wsX10_count (wsV RX10 236 RX10 yX10_leastFillingRule wsX10_leastFillingRule) := goodIn_app (goodIn_of _ (by decide +kernel)) ggX10_count_X10_leastFillingRule
theorem dX10_count_0 : decode cX10_count 0 = .ok (.iload_n 1, 1) := by decide +kernel
theorem dX10_count_1 : decode cX10_count 1 = .ok (.tableswitch 96 0 5 #[39, 50, 61, 72, 80, 91], 39) := by decide +kernel
theorem dX10_count_40 : decode cX10_count 40 = .ok (.aload_n 0, 1) := by decide +kernel
theorem dX10_count_41 : decode cX10_count 41 = .ok (.getfield 12, 3) := by decide +kernel
theorem dX10_count_44 : decode cX10_count 44 = .ok (.getfield 131, 3) := by decide +kernel
theorem dX10_count_47 : decode cX10_count 47 = .ok (.getfield 107, 3) := by decide +kernel
theorem dX10_count_50 : decode cX10_count 50 = .ok (.ireturn, 1) := by decide +kernel
theorem dX10_count_51 : decode cX10_count 51 = .ok (.aload_n 0, 1) := by decide +kernel
theorem dX10_count_52 : decode cX10_count 52 = .ok (.getfield 12, 3) := by decide +kernel
theorem dX10_count_55 : decode cX10_count 55 = .ok (.getfield 131, 3) := by decide +kernel
theorem dX10_count_58 : decode cX10_count 58 = .ok (.getfield 110, 3) := by decide +kernel
theorem dX10_count_61 : decode cX10_count 61 = .ok (.ireturn, 1) := by decide +kernel
theorem dX10_count_62 : decode cX10_count 62 = .ok (.aload_n 0, 1) := by decide +kernel
theorem dX10_count_63 : decode cX10_count 63 = .ok (.getfield 12, 3) := by decide +kernel
theorem dX10_count_66 : decode cX10_count 66 = .ok (.getfield 131, 3) := by decide +kernel
theorem dX10_count_69 : decode cX10_count 69 = .ok (.invokevirtual 232, 3) := by decide +kernel
theorem dX10_count_72 : decode cX10_count 72 = .ok (.ireturn, 1) := by decide +kernel
theorem dX10_count_73 : decode cX10_count 73 = .ok (.aload_n 0, 1) := by decide +kernel
theorem dX10_count_74 : decode cX10_count 74 = .ok (.getfield 23, 3) := by decide +kernel
theorem dX10_count_77 : decode cX10_count 77 = .ok (.getfield 207, 3) := by decide +kernel
theorem dX10_count_80 : decode cX10_count 80 = .ok (.ireturn, 1) := by decide +kernel
theorem dX10_count_81 : decode cX10_count 81 = .ok (.aload_n 0, 1) := by decide +kernel
theorem dX10_count_82 : decode cX10_count 82 = .ok (.getfield 12, 3) := by decide +kernel
theorem dX10_count_85 : decode cX10_count 85 = .ok (.getfield 72, 3) := by decide +kernel
theorem dX10_count_88 : decode cX10_count 88 = .ok (.getfield 76, 3) := by decide +kernel
theorem dX10_count_91 : decode cX10_count 91 = .ok (.ireturn, 1) := by decide +kernel
theorem dX10_count_92 : decode cX10_count 92 = .ok (.aload_n 0, 1) := by decide +kernel
theorem dX10_count_93 : decode cX10_count 93 = .ok (.invokevirtual 236, 3) := by decide +kernel
theorem dX10_count_96 : decode cX10_count 96 = .ok (.ireturn, 1) := by decide +kernel
theorem dX10_count_97 : decode cX10_count 97 = .ok (.iconst (-1), 1) := by decide +kernel
theorem dX10_count_98 : decode cX10_count 98 = .ok (.ireturn, 1) := by decide +kernel
set_option maxRecDepth 20000 in
theorem ggX10_pattern_X1_hasColumnOrSide : GoodIn wsX10_pattern wsX1_hasColumnOrSide := goodIn_r _ [7, 8, 44, 45, 46, 47, 48] rfl rfl
set_option maxRecDepth 20000 in
theorem gX10_pattern_X1_hasColumnOrSide : GoodIn wsX10_pattern (wsV RX10 221 RX1 yX1_hasColumnOrSide wsX1_hasColumnOrSide) := goodIn_app (goodIn_of _ (by decide +kernel)) ggX10_pattern_X1_hasColumnOrSide
set_option maxRecDepth 20000 in
theorem ggX10_pattern_X1_columnBits : GoodIn wsX10_pattern wsX1_columnBits := goodIn_r _ [12, 13, 14, 15, 16, 6, 17, 18, 44, 45, 46, 47, 48] rfl rfl
set_option maxRecDepth 20000 in
theorem gX10_pattern_X1_columnBits : GoodIn wsX10_pattern (wsV RX10 239 RX1 yX1_columnBits wsX1_columnBits) := goodIn_app (goodIn_of _ (by decide +kernel)) ggX10_pattern_X1_columnBits
set_option maxRecDepth 20000 in
theorem ggX10_pattern_X1_hasRow : GoodIn wsX10_pattern wsX1_hasRow := goodIn_r _ [22, 13, 44, 45, 46, 47, 48] rfl rfl
set_option maxRecDepth 20000 in
theorem gX10_pattern_X1_hasRow : GoodIn wsX10_pattern (wsV RX10 218 RX1 yX1_hasRow wsX1_hasRow) := goodIn_app (goodIn_of _ (by decide +kernel)) ggX10_pattern_X1_hasRow
set_option maxRecDepth 20000 in
theorem ggX10_pattern_X1_rowBits : GoodIn wsX10_pattern wsX1_rowBits := goodIn_r _ [26, 8, 14, 15, 16, 6, 17, 18, 44, 45, 46, 47, 48] rfl rfl
set_option maxRecDepth 20000 in
theorem gX10_pattern_X1_rowBits : GoodIn wsX10_pattern (wsV RX10 242 RX1 yX1_rowBits wsX1_rowBits) := goodIn_app (goodIn_of _ (by decide +kernel)) ggX10_pattern_X1_rowBits
theorem dX10_pattern_0 : decode cX10_pattern 0 = .ok (.aload_n 0, 1) := by decide +kernel
theorem dX10_pattern_1 : decode cX10_pattern 1 = .ok (.getfield 12, 3) := by decide +kernel
theorem dX10_pattern_4 : decode cX10_pattern 4 = .ok (.getfield 131, 3) := by decide +kernel
theorem dX10_pattern_7 : decode cX10_pattern 7 = .ok (.astore_n 3, 1) := by decide +kernel
theorem dX10_pattern_8 : decode cX10_pattern 8 = .ok (.iload_n 2, 1) := by decide +kernel
theorem dX10_pattern_9 : decode cX10_pattern 9 = .ok (.ifCond .eq 21, 3) := by decide +kernel
theorem dX10_pattern_12 : decode cX10_pattern 12 = .ok (.aload_n 3, 1) := by decide +kernel
theorem dX10_pattern_13 : decode cX10_pattern 13 = .ok (.iload_n 1, 1) := by decide +kernel
theorem dX10_pattern_14 : decode cX10_pattern 14 = .ok (.invokevirtual 221, 3) := by decide +kernel
theorem dX10_pattern_17 : decode cX10_pattern 17 = .ok (.ifCond .eq 11, 3) := by decide +kernel
theorem dX10_pattern_20 : decode cX10_pattern 20 = .ok (.aload_n 3, 1) := by decide +kernel
theorem dX10_pattern_21 : decode cX10_pattern 21 = .ok (.iload_n 1, 1) := by decide +kernel
theorem dX10_pattern_22 : decode cX10_pattern 22 = .ok (.invokevirtual 239, 3) := by decide +kernel
theorem dX10_pattern_25 : decode cX10_pattern 25 = .ok (.goto 4, 3) := by decide +kernel
theorem dX10_pattern_28 : decode cX10_pattern 28 = .ok (.iconst (-1), 1) := by decide +kernel
theorem dX10_pattern_29 : decode cX10_pattern 29 = .ok (.ireturn, 1) := by decide +kernel
theorem dX10_pattern_30 : decode cX10_pattern 30 = .ok (.aload_n 3, 1) := by decide +kernel
theorem dX10_pattern_31 : decode cX10_pattern 31 = .ok (.iload_n 1, 1) := by decide +kernel
theorem dX10_pattern_32 : decode cX10_pattern 32 = .ok (.invokevirtual 218, 3) := by decide +kernel
theorem dX10_pattern_35 : decode cX10_pattern 35 = .ok (.ifCond .eq 11, 3) := by decide +kernel
theorem dX10_pattern_38 : decode cX10_pattern 38 = .ok (.aload_n 3, 1) := by decide +kernel
theorem dX10_pattern_39 : decode cX10_pattern 39 = .ok (.iload_n 1, 1) := by decide +kernel
theorem dX10_pattern_40 : decode cX10_pattern 40 = .ok (.invokevirtual 242, 3) := by decide +kernel
theorem dX10_pattern_43 : decode cX10_pattern 43 = .ok (.goto 4, 3) := by decide +kernel
theorem dX10_pattern_46 : decode cX10_pattern 46 = .ok (.iconst (-1), 1) := by decide +kernel
theorem dX10_pattern_47 : decode cX10_pattern 47 = .ok (.ireturn, 1) := by decide +kernel
set_option maxRecDepth 20000 in
theorem ggX10_leastFillingRule_X7_run : GoodIn wsX10_leastFillingRule wsX7_run := goodIn_r _ [9, 10, 11, 12, 13, 14, 15, 16, 17, 18, 19, 20, 21, 22, 23, 24, 25, 26, 27, 28, 29, 30, 31, 32, 33, 34, 35, 36, 37, 38, 39, 40, 41, 8, 42, 43, 44, 45, 46, 47, 48, 49, 50, 51, 52, 53, 54, 55, 56, 57, 58, 59, 60, 61, 62, 63, 64, 65, 66, 67, 68, 69, 70, 71, 72, 73, 74, 75, 76, 77, 78, 79, 80, 81, 82, 83, 84, 85, 86, 87, 88, 89, 90, 91, 92, 93, 94, 95, 96, 97, 98, 99, 100, 101, 102, 103, 104, 105, 106, 107, 108, 109, 110, 111, 112, 113, 114, 115, 116, 117, 118, 119, 120, 121, 122, 123, 124, 125, 126, 127, 128, 129, 130, 131, 132, 133, 134, 135, 136, 137, 138, 139, 140, 141, 142, 143, 165, 166, 167, 168, 169, 170, 171, 172, 173, 174, 175, 176, 177, 178, 179, 180, 181, 182, 183, 184, 185, 186] rfl rfl
set_option maxRecDepth 20000 in
theorem gX10_leastFillingRule_X7_run : GoodIn wsX10_leastFillingRule (wsV RX10 166 RX7 yX7_run wsX7_run) := goodIn_app (goodIn_of _ (by decide +kernel)) ggX10_leastFillingRule_X7_run
set_option maxRecDepth 20000 in
theorem ggX10_leastFillingRule_X7_fillOfAll : GoodIn wsX10_leastFillingRule wsX7_fillOfAll := goodIn_r _ [147, 11, 21, 165, 166, 167, 168, 169, 170, 171, 172, 173, 174, 175, 176, 177, 178] rfl rfl
set_option maxRecDepth 20000 in
theorem gX10_leastFillingRule_X7_fillOfAll : GoodIn wsX10_leastFillingRule (wsV RX10 245 RX7 yX7_fillOfAll wsX7_fillOfAll) := goodIn_app (goodIn_of _ (by decide +kernel)) ggX10_leastFillingRule_X7_fillOfAll
theorem dX10_leastFillingRule_0 : decode cX10_leastFillingRule 0 = .ok (.iconst (-1), 1) := by decide +kernel
theorem dX10_leastFillingRule_1 : decode cX10_leastFillingRule 1 = .ok (.istore_n 1, 1) := by decide +kernel
theorem dX10_leastFillingRule_2 : decode cX10_leastFillingRule 2 = .ok (.iconst 0, 1) := by decide +kernel
theorem dX10_leastFillingRule_3 : decode cX10_leastFillingRule 3 = .ok (.istore_n 2, 1) := by decide +kernel
theorem dX10_leastFillingRule_4 : decode cX10_leastFillingRule 4 = .ok (.iconst 0, 1) := by decide +kernel
theorem dX10_leastFillingRule_5 : decode cX10_leastFillingRule 5 = .ok (.istore_n 3, 1) := by decide +kernel
theorem dX10_leastFillingRule_6 : decode cX10_leastFillingRule 6 = .ok (.iload_n 3, 1) := by decide +kernel
theorem dX10_leastFillingRule_7 : decode cX10_leastFillingRule 7 = .ok (.iconst 3, 1) := by decide +kernel
theorem dX10_leastFillingRule_8 : decode cX10_leastFillingRule 8 = .ok (.if_icmp .ge 59, 3) := by decide +kernel
theorem dX10_leastFillingRule_11 : decode cX10_leastFillingRule 11 = .ok (.aload_n 0, 1) := by decide +kernel
theorem dX10_leastFillingRule_12 : decode cX10_leastFillingRule 12 = .ok (.getfield 37, 3) := by decide +kernel
theorem dX10_leastFillingRule_15 : decode cX10_leastFillingRule 15 = .ok (.aload_n 0, 1) := by decide +kernel
theorem dX10_leastFillingRule_16 : decode cX10_leastFillingRule 16 = .ok (.getfield 12, 3) := by decide +kernel
theorem dX10_leastFillingRule_19 : decode cX10_leastFillingRule 19 = .ok (.getfield 131, 3) := by decide +kernel
theorem dX10_leastFillingRule_22 : decode cX10_leastFillingRule 22 = .ok (.iload_n 3, 1) := by decide +kernel
theorem dX10_leastFillingRule_23 : decode cX10_leastFillingRule 23 = .ok (.invokevirtual 166, 3) := by decide +kernel
theorem dX10_leastFillingRule_26 : decode cX10_leastFillingRule 26 = .ok (.aload_n 0, 1) := by decide +kernel
theorem dX10_leastFillingRule_27 : decode cX10_leastFillingRule 27 = .ok (.getfield 37, 3) := by decide +kernel
theorem dX10_leastFillingRule_30 : decode cX10_leastFillingRule 30 = .ok (.invokevirtual 245, 3) := by decide +kernel
theorem dX10_leastFillingRule_33 : decode cX10_leastFillingRule 33 = .ok (.istore 4, 2) := by decide +kernel
theorem dX10_leastFillingRule_35 : decode cX10_leastFillingRule 35 = .ok (.aload_n 0, 1) := by decide +kernel
theorem dX10_leastFillingRule_36 : decode cX10_leastFillingRule 36 = .ok (.getfield 37, 3) := by decide +kernel
theorem dX10_leastFillingRule_39 : decode cX10_leastFillingRule 39 = .ok (.getfield 248, 3) := by decide +kernel
theorem dX10_leastFillingRule_42 : decode cX10_leastFillingRule 42 = .ok (.ifCond .ne 19, 3) := by decide +kernel
theorem dX10_leastFillingRule_45 : decode cX10_leastFillingRule 45 = .ok (.iload_n 1, 1) := by decide +kernel
theorem dX10_leastFillingRule_46 : decode cX10_leastFillingRule 46 = .ok (.iconst (-1), 1) := by decide +kernel
theorem dX10_leastFillingRule_47 : decode cX10_leastFillingRule 47 = .ok (.if_icmp .eq 9, 3) := by decide +kernel
theorem dX10_leastFillingRule_50 : decode cX10_leastFillingRule 50 = .ok (.iload 4, 2) := by decide +kernel
theorem dX10_leastFillingRule_52 : decode cX10_leastFillingRule 52 = .ok (.iload_n 2, 1) := by decide +kernel
theorem dX10_leastFillingRule_53 : decode cX10_leastFillingRule 53 = .ok (.if_icmp .ge 8, 3) := by decide +kernel
theorem dX10_leastFillingRule_56 : decode cX10_leastFillingRule 56 = .ok (.iload_n 3, 1) := by decide +kernel
theorem dX10_leastFillingRule_57 : decode cX10_leastFillingRule 57 = .ok (.istore_n 1, 1) := by decide +kernel
theorem dX10_leastFillingRule_58 : decode cX10_leastFillingRule 58 = .ok (.iload 4, 2) := by decide +kernel
theorem dX10_leastFillingRule_60 : decode cX10_leastFillingRule 60 = .ok (.istore_n 2, 1) := by decide +kernel
theorem dX10_leastFillingRule_61 : decode cX10_leastFillingRule 61 = .ok (.iinc 3 1, 3) := by decide +kernel
theorem dX10_leastFillingRule_64 : decode cX10_leastFillingRule 64 = .ok (.goto (-58), 3) := by decide +kernel
theorem dX10_leastFillingRule_67 : decode cX10_leastFillingRule 67 = .ok (.iload_n 1, 1) := by decide +kernel
theorem dX10_leastFillingRule_68 : decode cX10_leastFillingRule 68 = .ok (.ireturn, 1) := by decide +kernel
set_option maxRecDepth 20000 in
theorem ggX10_pivot_X10_isRule : GoodIn wsX10_pivot wsX10_isRule := goodIn_r _ [10] rfl rfl
set_option maxRecDepth 20000 in
theorem gX10_pivot_X10_isRule : GoodIn wsX10_pivot (va_wsS RX10 194 yX10_isRule wsX10_isRule) := goodIn_app (goodIn_of _ (by decide +kernel)) ggX10_pivot_X10_isRule
set_option maxRecDepth 20000 in
theorem ggX10_pivot_X7_run : GoodIn wsX10_pivot wsX7_run := goodIn_r _ [15, 16, 17, 18, 19, 20, 21, 22, 23, 24, 25, 26, 27, 28, 29, 30, 31, 32, 33, 34, 35, 36, 37, 38, 39, 40, 41, 42, 43, 44, 45, 46, 47, 14, 48, 49, 50, 51, 52, 53, 54, 55, 56, 57, 58, 59, 60, 61, 62, 63, 64, 65, 66, 67, 68, 69, 70, 71, 72, 73, 74, 75, 76, 77, 78, 79, 80, 81, 82, 83, 84, 85, 86, 87, 88, 89, 90, 91, 92, 93, 94, 95, 96, 97, 98, 99, 100, 101, 102, 103, 104, 105, 106, 107, 108, 109, 110, 111, 112, 113, 114, 115, 116, 117, 118, 119, 120, 121, 122, 123, 124, 125, 126, 127, 128, 129, 130, 131, 132, 133, 134, 135, 136, 137, 138, 139, 140, 141, 142, 143, 144, 145, 146, 147, 148, 149, 176, 177, 178, 179, 180, 181, 182, 183, 184, 185, 186, 187, 188, 189, 190, 191, 192, 193, 194, 195, 196, 197] rfl rfl
set_option maxRecDepth 20000 in
theorem gX10_pivot_X7_run : GoodIn wsX10_pivot (wsV RX10 166 RX7 yX7_run wsX7_run) := goodIn_app (goodIn_of _ (by decide +kernel)) ggX10_pivot_X7_run
set_option maxRecDepth 20000 in
theorem ggX10_pivot_X7_fillOfAll : GoodIn wsX10_pivot wsX7_fillOfAll := goodIn_r _ [153, 17, 27, 176, 177, 178, 179, 180, 181, 182, 183, 184, 185, 186, 187, 188, 189] rfl rfl
set_option maxRecDepth 20000 in
theorem gX10_pivot_X7_fillOfAll : GoodIn wsX10_pivot (wsV RX10 245 RX7 yX7_fillOfAll wsX7_fillOfAll) := goodIn_app (goodIn_of _ (by decide +kernel)) ggX10_pivot_X7_fillOfAll
set_option maxRecDepth 20000 in
theorem ggX10_pivot_X7_pivotNumber : GoodIn wsX10_pivot wsX7_pivotNumber := goodIn_r _ [157, 17, 158, 23, 24, 27, 26, 16, 54, 55, 56, 31, 57, 35, 86, 87, 88, 89, 40, 176, 177, 178, 179, 180, 181, 182, 183, 184, 185, 186, 187, 188, 189, 190, 191, 192, 193, 194] rfl rfl
set_option maxRecDepth 20000 in
theorem gX10_pivot_X7_pivotNumber : GoodIn wsX10_pivot (wsV RX10 255 RX7 yX7_pivotNumber wsX7_pivotNumber) := goodIn_app (goodIn_of _ (by decide +kernel)) ggX10_pivot_X7_pivotNumber
theorem dX10_pivot_0 : decode cX10_pivot 0 = .ok (.iload_n 1, 1) := by decide +kernel
theorem dX10_pivot_1 : decode cX10_pivot 1 = .ok (.invokestatic 194, 3) := by decide +kernel
theorem dX10_pivot_4 : decode cX10_pivot 4 = .ok (.ifCond .ne 6, 3) := by decide +kernel
theorem dX10_pivot_7 : decode cX10_pivot 7 = .ok (.ldc 224, 2) := by decide +kernel
theorem dX10_pivot_9 : decode cX10_pivot 9 = .ok (.ireturn, 1) := by decide +kernel
theorem dX10_pivot_10 : decode cX10_pivot 10 = .ok (.aload_n 0, 1) := by decide +kernel
theorem dX10_pivot_11 : decode cX10_pivot 11 = .ok (.getfield 37, 3) := by decide +kernel
theorem dX10_pivot_14 : decode cX10_pivot 14 = .ok (.aload_n 0, 1) := by decide +kernel
theorem dX10_pivot_15 : decode cX10_pivot 15 = .ok (.getfield 12, 3) := by decide +kernel
theorem dX10_pivot_18 : decode cX10_pivot 18 = .ok (.getfield 131, 3) := by decide +kernel
theorem dX10_pivot_21 : decode cX10_pivot 21 = .ok (.iload_n 1, 1) := by decide +kernel
theorem dX10_pivot_22 : decode cX10_pivot 22 = .ok (.invokevirtual 166, 3) := by decide +kernel
theorem dX10_pivot_25 : decode cX10_pivot 25 = .ok (.aload_n 0, 1) := by decide +kernel
theorem dX10_pivot_26 : decode cX10_pivot 26 = .ok (.getfield 37, 3) := by decide +kernel
theorem dX10_pivot_29 : decode cX10_pivot 29 = .ok (.getfield 248, 3) := by decide +kernel
theorem dX10_pivot_32 : decode cX10_pivot 32 = .ok (.ifCond .eq 6, 3) := by decide +kernel
theorem dX10_pivot_35 : decode cX10_pivot 35 = .ok (.ldc 224, 2) := by decide +kernel
theorem dX10_pivot_37 : decode cX10_pivot 37 = .ok (.ireturn, 1) := by decide +kernel
theorem dX10_pivot_38 : decode cX10_pivot 38 = .ok (.iload_n 2, 1) := by decide +kernel
theorem dX10_pivot_39 : decode cX10_pivot 39 = .ok (.iconst (-1), 1) := by decide +kernel
theorem dX10_pivot_40 : decode cX10_pivot 40 = .ok (.if_icmp .ne 33, 3) := by decide +kernel
theorem dX10_pivot_43 : decode cX10_pivot 43 = .ok (.iload_n 3, 1) := by decide +kernel
theorem dX10_pivot_44 : decode cX10_pivot 44 = .ok (.ifCond .ne 11, 3) := by decide +kernel
theorem dX10_pivot_47 : decode cX10_pivot 47 = .ok (.aload_n 0, 1) := by decide +kernel
theorem dX10_pivot_48 : decode cX10_pivot 48 = .ok (.getfield 37, 3) := by decide +kernel
theorem dX10_pivot_51 : decode cX10_pivot 51 = .ok (.getfield 252, 3) := by decide +kernel
theorem dX10_pivot_54 : decode cX10_pivot 54 = .ok (.ireturn, 1) := by decide +kernel
theorem dX10_pivot_55 : decode cX10_pivot 55 = .ok (.iload_n 3, 1) := by decide +kernel
theorem dX10_pivot_56 : decode cX10_pivot 56 = .ok (.iconst 1, 1) := by decide +kernel
theorem dX10_pivot_57 : decode cX10_pivot 57 = .ok (.if_icmp .ne 13, 3) := by decide +kernel
theorem dX10_pivot_60 : decode cX10_pivot 60 = .ok (.aload_n 0, 1) := by decide +kernel
theorem dX10_pivot_61 : decode cX10_pivot 61 = .ok (.getfield 37, 3) := by decide +kernel
theorem dX10_pivot_64 : decode cX10_pivot 64 = .ok (.invokevirtual 245, 3) := by decide +kernel
theorem dX10_pivot_67 : decode cX10_pivot 67 = .ok (.goto 5, 3) := by decide +kernel
theorem dX10_pivot_70 : decode cX10_pivot 70 = .ok (.ldc 224, 2) := by decide +kernel
theorem dX10_pivot_72 : decode cX10_pivot 72 = .ok (.ireturn, 1) := by decide +kernel
theorem dX10_pivot_73 : decode cX10_pivot 73 = .ok (.aload_n 0, 1) := by decide +kernel
theorem dX10_pivot_74 : decode cX10_pivot 74 = .ok (.getfield 37, 3) := by decide +kernel
theorem dX10_pivot_77 : decode cX10_pivot 77 = .ok (.iload_n 2, 1) := by decide +kernel
theorem dX10_pivot_78 : decode cX10_pivot 78 = .ok (.iload_n 3, 1) := by decide +kernel
theorem dX10_pivot_79 : decode cX10_pivot 79 = .ok (.invokevirtual 255, 3) := by decide +kernel
theorem dX10_pivot_82 : decode cX10_pivot 82 = .ok (.ireturn, 1) := by decide +kernel
set_option maxRecDepth 20000 in
theorem ggX10_kind_X7_run : GoodIn wsX10_kind wsX7_run := goodIn_r _ [8, 9, 10, 11, 12, 13, 14, 15, 16, 17, 18, 19, 20, 21, 22, 23, 24, 25, 26, 27, 28, 29, 30, 31, 32, 33, 34, 35, 36, 37, 38, 39, 40, 7, 41, 42, 43, 44, 45, 46, 47, 48, 49, 50, 51, 52, 53, 54, 55, 56, 57, 58, 59, 60, 61, 62, 63, 64, 65, 66, 67, 68, 69, 70, 71, 72, 73, 74, 75, 76, 77, 78, 79, 80, 81, 82, 83, 84, 85, 86, 87, 88, 89, 90, 91, 92, 93, 94, 95, 96, 97, 98, 99, 100, 101, 102, 103, 104, 105, 106, 107, 108, 109, 110, 111, 112, 113, 114, 115, 116, 117, 118, 119, 120, 121, 122, 123, 124, 125, 126, 127, 128, 129, 130, 131, 132, 133, 134, 135, 136, 137, 138, 139, 140, 141, 142, 165, 166, 167, 168, 169, 170, 171, 172, 173, 174, 175, 176, 177, 178, 179, 180, 181, 182, 183, 184, 185, 186] rfl rfl
set_option maxRecDepth 20000 in
theorem gX10_kind_X7_run : GoodIn wsX10_kind (wsV RX10 166 RX7 yX7_run wsX7_run) := goodIn_app (goodIn_of _ (by decide +kernel)) ggX10_kind_X7_run
set_option maxRecDepth 20000 in
theorem ggX10_kind_X7_kindFound : GoodIn wsX10_kind wsX7_kindFound := goodIn_r _ [146, 11, 147, 9, 42, 13, 14, 75, 76, 77, 24, 78, 26, 67, 48, 49, 50, 28, 165, 166, 167, 168, 169, 170, 171, 172, 173, 174, 175, 176, 177, 178, 179, 180, 181, 182, 183] rfl rfl
set_option maxRecDepth 20000 in
theorem gX10_kind_X7_kindFound : GoodIn wsX10_kind (wsV RX10 258 RX7 yX7_kindFound wsX7_kindFound) := goodIn_app (goodIn_of _ (by decide +kernel)) ggX10_kind_X7_kindFound
theorem dX10_kind_0 : decode cX10_kind 0 = .ok (.aload_n 0, 1) := by decide +kernel
theorem dX10_kind_1 : decode cX10_kind 1 = .ok (.getfield 37, 3) := by decide +kernel
theorem dX10_kind_4 : decode cX10_kind 4 = .ok (.aload_n 0, 1) := by decide +kernel
theorem dX10_kind_5 : decode cX10_kind 5 = .ok (.getfield 12, 3) := by decide +kernel
theorem dX10_kind_8 : decode cX10_kind 8 = .ok (.getfield 131, 3) := by decide +kernel
theorem dX10_kind_11 : decode cX10_kind 11 = .ok (.iconst 1, 1) := by decide +kernel
theorem dX10_kind_12 : decode cX10_kind 12 = .ok (.invokevirtual 166, 3) := by decide +kernel
theorem dX10_kind_15 : decode cX10_kind 15 = .ok (.aload_n 0, 1) := by decide +kernel
theorem dX10_kind_16 : decode cX10_kind 16 = .ok (.getfield 37, 3) := by decide +kernel
theorem dX10_kind_19 : decode cX10_kind 19 = .ok (.invokevirtual 258, 3) := by decide +kernel
theorem dX10_kind_22 : decode cX10_kind 22 = .ok (.ireturn, 1) := by decide +kernel
set_option maxRecDepth 20000 in
theorem ggX10_solution_X10_solved : GoodIn wsX10_solution wsX10_solved := goodIn_r _ [7, 8, 9, 10, 11, 12, 13, 14, 15, 16, 17, 18, 19, 20, 21, 22, 23, 24, 25, 26, 27, 28, 29, 30, 31, 32, 33, 34, 35, 36, 37, 38, 39, 40, 41, 42, 43, 44, 45, 46, 47, 48, 49, 50, 51, 52, 53, 54, 55, 56, 57, 58, 59, 60, 61, 62, 63, 64, 65, 66, 67, 68, 69, 70, 71, 72, 73, 74, 75, 76, 77, 78, 79, 80, 81, 82, 83, 84, 85, 86, 87, 88, 89, 90, 91, 92, 93, 94, 95, 96, 97, 98, 99, 100, 101, 102, 103, 104, 105, 106, 107, 108, 109, 110, 111, 112, 113, 114, 115, 116, 117, 118, 119, 120, 121, 122, 123, 124, 125, 126, 127, 128, 129, 130, 131, 132, 133, 134, 135, 136, 137, 138, 139, 140, 141, 142, 143, 144, 145, 146, 147, 148, 149, 150, 151, 152, 153, 154, 155, 156, 157, 158, 159, 160, 161, 162, 163, 164, 165, 166, 167, 168, 169, 170, 171, 172, 173, 174, 175, 176, 177, 178, 179, 180, 181, 182, 183, 184, 185, 186, 187, 188, 189, 190, 191, 192, 193, 194, 195, 196, 197, 198, 199, 200, 201, 202, 203, 204, 205, 206, 207, 208, 209, 210, 211, 212, 213, 214, 215, 216, 217, 218, 219, 220, 221, 222, 223, 224, 225, 226, 227, 228, 229, 230, 231, 232, 233, 234, 235, 243, 244, 245, 246, 247, 248, 249, 250, 251, 252, 253, 254, 255, 256, 257, 258, 259, 260, 261, 262, 263, 264, 265, 266, 267, 268, 269] rfl rfl
set_option maxRecDepth 20000 in
theorem gX10_solution_X10_solved : GoodIn wsX10_solution (wsV RX10 261 RX10 yX10_solved wsX10_solved) := goodIn_app (goodIn_of _ (by decide +kernel)) ggX10_solution_X10_solved
theorem dX10_solution_0 : decode cX10_solution 0 = .ok (.aload_n 0, 1) := by decide +kernel
theorem dX10_solution_1 : decode cX10_solution 1 = .ok (.aload_n 0, 1) := by decide +kernel
theorem dX10_solution_2 : decode cX10_solution 2 = .ok (.getfield 12, 3) := by decide +kernel
theorem dX10_solution_5 : decode cX10_solution 5 = .ok (.getfield 131, 3) := by decide +kernel
theorem dX10_solution_8 : decode cX10_solution 8 = .ok (.iload_n 1, 1) := by decide +kernel
theorem dX10_solution_9 : decode cX10_solution 9 = .ok (.iload_n 2, 1) := by decide +kernel
theorem dX10_solution_10 : decode cX10_solution 10 = .ok (.invokevirtual 261, 3) := by decide +kernel
theorem dX10_solution_13 : decode cX10_solution 13 = .ok (.ireturn, 1) := by decide +kernel
set_option maxRecDepth 20000 in
theorem ggX10_free_X7_run : GoodIn wsX10_free wsX7_run := goodIn_r _ [10, 11, 12, 13, 14, 15, 16, 17, 18, 19, 20, 21, 22, 23, 24, 25, 26, 27, 28, 29, 30, 31, 32, 33, 34, 35, 36, 37, 38, 39, 40, 41, 42, 9, 43, 44, 45, 46, 47, 48, 49, 50, 51, 52, 53, 54, 55, 56, 57, 58, 59, 60, 61, 62, 63, 64, 65, 66, 67, 68, 69, 70, 71, 72, 73, 74, 75, 76, 77, 78, 79, 80, 81, 82, 83, 84, 85, 86, 87, 88, 89, 90, 91, 92, 93, 94, 95, 96, 97, 98, 99, 100, 101, 102, 103, 104, 105, 106, 107, 108, 109, 110, 111, 112, 113, 114, 115, 116, 117, 118, 119, 120, 121, 122, 123, 124, 125, 126, 127, 128, 129, 130, 131, 132, 133, 134, 135, 136, 137, 138, 139, 140, 141, 142, 143, 144, 166, 167, 168, 169, 170, 171, 172, 173, 174, 175, 176, 177, 178, 179, 180, 181, 182, 183, 184, 185, 186, 187] rfl rfl
set_option maxRecDepth 20000 in
theorem gX10_free_X7_run : GoodIn wsX10_free (wsV RX10 166 RX7 yX7_run wsX7_run) := goodIn_app (goodIn_of _ (by decide +kernel)) ggX10_free_X7_run
set_option maxRecDepth 20000 in
theorem ggX10_free_X7_freeBits : GoodIn wsX10_free wsX7_freeBits := goodIn_r _ [148, 16, 166, 167, 168, 169, 170, 171, 172, 173, 174, 175, 176, 177, 178, 179] rfl rfl
set_option maxRecDepth 20000 in
theorem gX10_free_X7_freeBits : GoodIn wsX10_free (wsV RX10 265 RX7 yX7_freeBits wsX7_freeBits) := goodIn_app (goodIn_of _ (by decide +kernel)) ggX10_free_X7_freeBits
theorem dX10_free_0 : decode cX10_free 0 = .ok (.aload_n 0, 1) := by decide +kernel
theorem dX10_free_1 : decode cX10_free 1 = .ok (.getfield 37, 3) := by decide +kernel
theorem dX10_free_4 : decode cX10_free 4 = .ok (.aload_n 0, 1) := by decide +kernel
theorem dX10_free_5 : decode cX10_free 5 = .ok (.getfield 12, 3) := by decide +kernel
theorem dX10_free_8 : decode cX10_free 8 = .ok (.getfield 131, 3) := by decide +kernel
theorem dX10_free_11 : decode cX10_free 11 = .ok (.iconst 1, 1) := by decide +kernel
theorem dX10_free_12 : decode cX10_free 12 = .ok (.invokevirtual 166, 3) := by decide +kernel
theorem dX10_free_15 : decode cX10_free 15 = .ok (.aload_n 0, 1) := by decide +kernel
theorem dX10_free_16 : decode cX10_free 16 = .ok (.getfield 37, 3) := by decide +kernel
theorem dX10_free_19 : decode cX10_free 19 = .ok (.getfield 248, 3) := by decide +kernel
theorem dX10_free_22 : decode cX10_free 22 = .ok (.ifCond .eq 8, 3) := by decide +kernel
theorem dX10_free_25 : decode cX10_free 25 = .ok (.ldc 224, 2) := by decide +kernel
theorem dX10_free_27 : decode cX10_free 27 = .ok (.goto 10, 3) := by decide +kernel
theorem dX10_free_30 : decode cX10_free 30 = .ok (.aload_n 0, 1) := by decide +kernel
theorem dX10_free_31 : decode cX10_free 31 = .ok (.getfield 37, 3) := by decide +kernel
theorem dX10_free_34 : decode cX10_free 34 = .ok (.invokevirtual 265, 3) := by decide +kernel
theorem dX10_free_37 : decode cX10_free 37 = .ok (.ireturn, 1) := by decide +kernel
set_option maxRecDepth 20000 in
theorem ggX10_zero_X1_hasColumn : GoodIn wsX10_zero wsX1_hasColumn := goodIn_r _ [11, 12, 248, 249, 250, 251, 252] rfl rfl
set_option maxRecDepth 20000 in
theorem gX10_zero_X1_hasColumn : GoodIn wsX10_zero (wsV RX10 268 RX1 yX1_hasColumn wsX1_hasColumn) := goodIn_app (goodIn_of _ (by decide +kernel)) ggX10_zero_X1_hasColumn
set_option maxRecDepth 20000 in
theorem ggX10_zero_X7_run : GoodIn wsX10_zero wsX7_run := goodIn_r _ [17, 18, 19, 20, 21, 22, 23, 24, 25, 26, 27, 28, 29, 30, 31, 32, 10, 33, 34, 12, 35, 36, 37, 38, 39, 40, 41, 42, 43, 44, 45, 46, 47, 16, 48, 49, 50, 51, 52, 53, 54, 55, 56, 57, 58, 59, 60, 61, 62, 63, 64, 65, 66, 67, 68, 69, 70, 71, 72, 73, 74, 75, 76, 77, 78, 79, 80, 81, 82, 83, 84, 85, 86, 87, 88, 89, 90, 91, 92, 93, 94, 95, 96, 97, 98, 99, 100, 101, 102, 103, 104, 105, 106, 107, 108, 109, 110, 111, 112, 113, 114, 115, 116, 117, 118, 119, 120, 121, 122, 123, 124, 125, 126, 127, 128, 129, 130, 131, 132, 133, 134, 135, 136, 137, 138, 139, 140, 141, 142, 143, 144, 145, 146, 147, 148, 149, 234, 235, 236, 237, 238, 239, 240, 241, 242, 243, 244, 245, 246, 247, 248, 249, 250, 251, 252, 253, 254, 255] rfl rfl
set_option maxRecDepth 20000 in
theorem gX10_zero_X7_run : GoodIn wsX10_zero (wsV RX10 166 RX7 yX7_run wsX7_run) := goodIn_app (goodIn_of _ (by decide +kernel)) ggX10_zero_X7_run
set_option maxRecDepth 20000 in
theorem ggX10_zero_X7_freeBits : GoodIn wsX10_zero wsX7_freeBits := goodIn_r _ [153, 23, 234, 235, 236, 237, 238, 239, 240, 241, 242, 243, 244, 245, 246, 247] rfl rfl
set_option maxRecDepth 20000 in
theorem gX10_zero_X7_freeBits : GoodIn wsX10_zero (wsV RX10 265 RX7 yX7_freeBits wsX7_freeBits) := goodIn_app (goodIn_of _ (by decide +kernel)) ggX10_zero_X7_freeBits
set_option maxRecDepth 20000 in
theorem ggX10_zero_X9_solveNull : GoodIn wsX10_zero wsX9_solveNull := goodIn_r _ [158, 159, 160, 161, 162, 157, 163, 164, 165, 166, 167, 168, 169, 170, 171, 172, 173, 103, 174, 105, 114, 115, 116, 117, 106, 107, 118, 119, 120, 121, 122, 123, 175, 176, 177, 178, 179, 180, 181, 182, 183, 184, 185, 186, 187, 188, 189, 190, 191, 192, 16, 193, 19, 25, 194, 195, 196, 197, 26, 198, 101, 102, 104, 108, 55, 56, 10, 57, 35, 109, 87, 88, 89, 40, 199, 200, 201, 202, 203, 204, 136, 137, 138, 205, 206, 207, 208, 209, 210, 211, 111, 112, 113, 256, 257, 258, 259, 260, 253, 254, 255, 234, 235, 236, 237, 238, 239, 240, 241, 242, 243, 244, 245, 246, 247, 248, 249, 250, 251, 252] rfl rfl
set_option maxRecDepth 20000 in
theorem gX10_zero_X9_solveNull : GoodIn wsX10_zero (wsV RX10 271 RX9 yX9_solveNull wsX9_solveNull) := goodIn_app (goodIn_of _ (by decide +kernel)) ggX10_zero_X9_solveNull
set_option maxRecDepth 20000 in
theorem ggX10_zero_X9_answer : GoodIn wsX10_zero wsX9_answer := goodIn_r _ [215, 166, 216, 165, 164, 256, 257, 258, 259, 260] rfl rfl
set_option maxRecDepth 20000 in
theorem gX10_zero_X9_answer : GoodIn wsX10_zero (wsV RX10 275 RX9 yX9_answer wsX9_answer) := goodIn_app (goodIn_of _ (by decide +kernel)) ggX10_zero_X9_answer
theorem dX10_zero_0 : decode cX10_zero 0 = .ok (.aload_n 0, 1) := by decide +kernel
theorem dX10_zero_1 : decode cX10_zero 1 = .ok (.getfield 12, 3) := by decide +kernel
theorem dX10_zero_4 : decode cX10_zero 4 = .ok (.getfield 131, 3) := by decide +kernel
theorem dX10_zero_7 : decode cX10_zero 7 = .ok (.iload_n 1, 1) := by decide +kernel
theorem dX10_zero_8 : decode cX10_zero 8 = .ok (.invokevirtual 268, 3) := by decide +kernel
theorem dX10_zero_11 : decode cX10_zero 11 = .ok (.ifCond .eq 17, 3) := by decide +kernel
theorem dX10_zero_14 : decode cX10_zero 14 = .ok (.aload_n 0, 1) := by decide +kernel
theorem dX10_zero_15 : decode cX10_zero 15 = .ok (.getfield 12, 3) := by decide +kernel
theorem dX10_zero_18 : decode cX10_zero 18 = .ok (.getfield 131, 3) := by decide +kernel
theorem dX10_zero_21 : decode cX10_zero 21 = .ok (.iload_n 2, 1) := by decide +kernel
theorem dX10_zero_22 : decode cX10_zero 22 = .ok (.invokevirtual 268, 3) := by decide +kernel
theorem dX10_zero_25 : decode cX10_zero 25 = .ok (.ifCond .ne 6, 3) := by decide +kernel
theorem dX10_zero_28 : decode cX10_zero 28 = .ok (.ldc 224, 2) := by decide +kernel
theorem dX10_zero_30 : decode cX10_zero 30 = .ok (.ireturn, 1) := by decide +kernel
theorem dX10_zero_31 : decode cX10_zero 31 = .ok (.aload_n 0, 1) := by decide +kernel
theorem dX10_zero_32 : decode cX10_zero 32 = .ok (.getfield 37, 3) := by decide +kernel
theorem dX10_zero_35 : decode cX10_zero 35 = .ok (.aload_n 0, 1) := by decide +kernel
theorem dX10_zero_36 : decode cX10_zero 36 = .ok (.getfield 12, 3) := by decide +kernel
theorem dX10_zero_39 : decode cX10_zero 39 = .ok (.getfield 131, 3) := by decide +kernel
theorem dX10_zero_42 : decode cX10_zero 42 = .ok (.iconst 1, 1) := by decide +kernel
theorem dX10_zero_43 : decode cX10_zero 43 = .ok (.invokevirtual 166, 3) := by decide +kernel
theorem dX10_zero_46 : decode cX10_zero 46 = .ok (.aload_n 0, 1) := by decide +kernel
theorem dX10_zero_47 : decode cX10_zero 47 = .ok (.getfield 37, 3) := by decide +kernel
theorem dX10_zero_50 : decode cX10_zero 50 = .ok (.getfield 248, 3) := by decide +kernel
theorem dX10_zero_53 : decode cX10_zero 53 = .ok (.ifCond .ne 17, 3) := by decide +kernel
theorem dX10_zero_56 : decode cX10_zero 56 = .ok (.aload_n 0, 1) := by decide +kernel
theorem dX10_zero_57 : decode cX10_zero 57 = .ok (.getfield 37, 3) := by decide +kernel
theorem dX10_zero_60 : decode cX10_zero 60 = .ok (.invokevirtual 265, 3) := by decide +kernel
theorem dX10_zero_63 : decode cX10_zero 63 = .ok (.iload_n 1, 1) := by decide +kernel
theorem dX10_zero_64 : decode cX10_zero 64 = .ok (.ishr, 1) := by decide +kernel
theorem dX10_zero_65 : decode cX10_zero 65 = .ok (.iconst 1, 1) := by decide +kernel
theorem dX10_zero_66 : decode cX10_zero 66 = .ok (.iand, 1) := by decide +kernel
theorem dX10_zero_67 : decode cX10_zero 67 = .ok (.ifCond .ne 6, 3) := by decide +kernel
theorem dX10_zero_70 : decode cX10_zero 70 = .ok (.ldc 224, 2) := by decide +kernel
theorem dX10_zero_72 : decode cX10_zero 72 = .ok (.ireturn, 1) := by decide +kernel
theorem dX10_zero_73 : decode cX10_zero 73 = .ok (.aload_n 0, 1) := by decide +kernel
theorem dX10_zero_74 : decode cX10_zero 74 = .ok (.getfield 44, 3) := by decide +kernel
theorem dX10_zero_77 : decode cX10_zero 77 = .ok (.aload_n 0, 1) := by decide +kernel
theorem dX10_zero_78 : decode cX10_zero 78 = .ok (.getfield 37, 3) := by decide +kernel
theorem dX10_zero_81 : decode cX10_zero 81 = .ok (.iload_n 1, 1) := by decide +kernel
theorem dX10_zero_82 : decode cX10_zero 82 = .ok (.invokevirtual 271, 3) := by decide +kernel
theorem dX10_zero_85 : decode cX10_zero 85 = .ok (.aload_n 0, 1) := by decide +kernel
theorem dX10_zero_86 : decode cX10_zero 86 = .ok (.getfield 44, 3) := by decide +kernel
theorem dX10_zero_89 : decode cX10_zero 89 = .ok (.iload_n 2, 1) := by decide +kernel
theorem dX10_zero_90 : decode cX10_zero 90 = .ok (.iload_n 3, 1) := by decide +kernel
theorem dX10_zero_91 : decode cX10_zero 91 = .ok (.invokevirtual 275, 3) := by decide +kernel
theorem dX10_zero_94 : decode cX10_zero 94 = .ok (.ireturn, 1) := by decide +kernel
set_option maxRecDepth 20000 in
theorem ggX10_determinant_X10_determinantOf : GoodIn wsX10_determinant wsX10_determinantOf := goodIn_r _ [7, 8, 9, 10, 11, 12, 13, 14, 15, 16, 17, 18, 19, 20, 21, 22, 23, 24, 25, 26, 27, 28, 29, 30, 31, 32, 33, 34, 35, 36, 37, 38, 39, 40, 41, 42, 43, 44, 45, 46, 47, 48, 49, 50, 51, 52, 53, 54, 55, 56, 57, 58, 59, 60, 61, 62, 63, 64, 65, 66, 67, 68, 69, 70, 71, 72, 73, 74, 75, 76, 77, 78, 79, 80, 81, 82, 83, 84, 85, 86, 87, 88, 89, 90, 91, 92, 93, 94, 95, 96, 97, 98, 99, 100, 101, 102, 103, 104, 105, 106, 107, 108, 109, 110, 111, 112, 113, 114, 115, 116, 117, 118, 119, 120, 121, 122, 123, 124, 125, 126, 127, 128, 129, 130, 131, 132, 133, 134, 135, 136, 137, 138, 139, 140, 141, 142, 143, 144, 145, 146, 147, 148, 149, 150, 151, 152, 153, 154, 155, 156, 157, 158, 159, 160, 161, 162, 163, 164, 165, 166, 167, 168, 169, 170, 171, 172, 173, 174, 175, 176, 177, 178, 179, 180, 181, 182, 183, 184, 185, 186, 187, 195, 196, 197, 198, 199, 200, 201, 202, 203, 204, 205, 206, 207, 208, 209, 210, 211, 212, 213, 214, 215, 216] rfl rfl
set_option maxRecDepth 20000 in
theorem gX10_determinant_X10_determinantOf : GoodIn wsX10_determinant (wsV RX10 279 RX10 yX10_determinantOf wsX10_determinantOf) := goodIn_app (goodIn_of _ (by decide +kernel)) ggX10_determinant_X10_determinantOf
theorem dX10_determinant_0 : decode cX10_determinant 0 = .ok (.aload_n 0, 1) := by decide +kernel
theorem dX10_determinant_1 : decode cX10_determinant 1 = .ok (.aload_n 0, 1) := by decide +kernel
theorem dX10_determinant_2 : decode cX10_determinant 2 = .ok (.getfield 12, 3) := by decide +kernel
theorem dX10_determinant_5 : decode cX10_determinant 5 = .ok (.getfield 131, 3) := by decide +kernel
theorem dX10_determinant_8 : decode cX10_determinant 8 = .ok (.iconst 0, 1) := by decide +kernel
theorem dX10_determinant_9 : decode cX10_determinant 9 = .ok (.iload_n 1, 1) := by decide +kernel
theorem dX10_determinant_10 : decode cX10_determinant 10 = .ok (.invokevirtual 279, 3) := by decide +kernel
theorem dX10_determinant_13 : decode cX10_determinant 13 = .ok (.ireturn, 1) := by decide +kernel
set_option maxRecDepth 20000 in
theorem ggX10_inverse_X1_isSquare : GoodIn wsX10_inverse wsX1_isSquare := goodIn_r _ [16, 17, 18, 251, 252, 253, 254, 255] rfl rfl
set_option maxRecDepth 20000 in
theorem gX10_inverse_X1_isSquare : GoodIn wsX10_inverse (wsV RX10 283 RX1 yX1_isSquare wsX1_isSquare) := goodIn_app (goodIn_of _ (by decide +kernel)) ggX10_inverse_X1_isSquare
set_option maxRecDepth 20000 in
theorem ggX10_inverse_X1_hasRow : GoodIn wsX10_inverse wsX1_hasRow := goodIn_r _ [22, 17, 251, 252, 253, 254, 255] rfl rfl
set_option maxRecDepth 20000 in
theorem gX10_inverse_X1_hasRow : GoodIn wsX10_inverse (wsV RX10 218 RX1 yX1_hasRow wsX1_hasRow) := goodIn_app (goodIn_of _ (by decide +kernel)) ggX10_inverse_X1_hasRow
set_option maxRecDepth 20000 in
theorem ggX10_inverse_X1_hasColumn : GoodIn wsX10_inverse wsX1_hasColumn := goodIn_r _ [26, 18, 251, 252, 253, 254, 255] rfl rfl
set_option maxRecDepth 20000 in
theorem gX10_inverse_X1_hasColumn : GoodIn wsX10_inverse (wsV RX10 268 RX1 yX1_hasColumn wsX1_hasColumn) := goodIn_app (goodIn_of _ (by decide +kernel)) ggX10_inverse_X1_hasColumn
set_option maxRecDepth 20000 in
theorem ggX10_inverse_X1_copy : GoodIn wsX10_inverse wsX1_copy := goodIn_r _ [30, 17, 18, 31, 32, 33, 34, 35, 36, 251, 252, 253, 254, 255] rfl rfl
set_option maxRecDepth 20000 in
theorem gX10_inverse_X1_copy : GoodIn wsX10_inverse (wsV RX10 134 RX1 yX1_copy wsX1_copy) := goodIn_app (goodIn_of _ (by decide +kernel)) ggX10_inverse_X1_copy
set_option maxRecDepth 20000 in
theorem ggX10_inverse_X1_clearSides : GoodIn wsX10_inverse wsX1_clearSides := goodIn_r _ [40, 41, 17, 18, 42, 43, 44, 45, 46, 47, 48, 49, 50, 51, 52, 53, 54, 55, 56, 57, 58, 59, 60, 61, 62, 15, 63, 31, 64, 36, 65, 251, 252, 253, 254, 255, 270, 271, 272] rfl rfl
set_option maxRecDepth 20000 in
theorem gX10_inverse_X1_clearSides : GoodIn wsX10_inverse (wsV RX10 286 RX1 yX1_clearSides wsX1_clearSides) := goodIn_app (goodIn_of _ (by decide +kernel)) ggX10_inverse_X1_clearSides
set_option maxRecDepth 20000 in
theorem ggX10_inverse_X3_start : GoodIn wsX10_inverse wsX3_start := goodIn_r _ [46, 47, 48, 49, 50, 45, 51, 52, 53, 54, 55, 56, 57, 58, 59, 270, 271, 272] rfl rfl
set_option maxRecDepth 20000 in
theorem gX10_inverse_X3_start : GoodIn wsX10_inverse (wsV RX10 180 RX3 yX3_start wsX3_start) := goodIn_app (goodIn_of _ (by decide +kernel)) ggX10_inverse_X3_start
set_option maxRecDepth 20000 in
theorem ggX10_inverse_X1_put : GoodIn wsX10_inverse wsX1_put := goodIn_r _ [63, 31, 64, 36, 65, 251, 252, 253, 254, 255, 270, 271, 272] rfl rfl
set_option maxRecDepth 20000 in
theorem gX10_inverse_X1_put : GoodIn wsX10_inverse (wsV RX10 184 RX1 yX1_put wsX1_put) := goodIn_app (goodIn_of _ (by decide +kernel)) ggX10_inverse_X1_put
set_option maxRecDepth 20000 in
theorem ggX10_inverse_X7_run : GoodIn wsX10_inverse wsX7_run := goodIn_r _ [72, 73, 74, 75, 76, 77, 78, 79, 80, 81, 82, 83, 84, 85, 28, 29, 15, 30, 17, 18, 31, 32, 33, 34, 35, 36, 86, 87, 88, 89, 90, 91, 92, 71, 93, 94, 95, 96, 97, 98, 99, 100, 101, 102, 103, 104, 105, 106, 107, 108, 109, 110, 111, 112, 113, 114, 115, 116, 117, 118, 119, 120, 121, 122, 123, 124, 125, 126, 127, 128, 129, 130, 131, 132, 133, 134, 135, 136, 137, 138, 139, 140, 141, 142, 143, 144, 145, 146, 147, 45, 148, 47, 52, 53, 149, 150, 151, 152, 153, 154, 48, 49, 50, 51, 54, 55, 56, 57, 58, 59, 155, 156, 157, 158, 159, 160, 161, 162, 41, 163, 164, 165, 166, 167, 168, 169, 170, 171, 172, 173, 60, 61, 62, 63, 64, 65, 256, 257, 258, 259, 260, 261, 262, 263, 264, 265, 266, 267, 268, 269, 251, 252, 253, 254, 255, 270, 271, 272] rfl rfl
set_option maxRecDepth 20000 in
theorem gX10_inverse_X7_run : GoodIn wsX10_inverse (wsV RX10 166 RX7 yX7_run wsX7_run) := goodIn_app (goodIn_of _ (by decide +kernel)) ggX10_inverse_X7_run
set_option maxRecDepth 20000 in
theorem ggX10_inverse_X9_solveSides : GoodIn wsX10_inverse wsX9_solveSides := goodIn_r _ [178, 179, 180, 181, 177, 182, 183, 184, 185, 186, 187, 188, 189, 190, 191, 192, 193, 194, 195, 196, 197, 198, 199, 200, 201, 202, 203, 204, 71, 205, 74, 80, 206, 207, 208, 209, 81, 210, 43, 44, 45, 46, 47, 48, 49, 50, 51, 52, 53, 54, 55, 56, 57, 58, 59, 211, 146, 147, 148, 149, 100, 101, 15, 102, 31, 150, 132, 133, 134, 36, 212, 213, 214, 215, 216, 217, 166, 167, 168, 218, 219, 220, 221, 222, 223, 224, 152, 153, 154, 225, 226, 227, 228, 273, 274, 275, 276, 277, 256, 257, 258, 259, 260, 261, 262, 263, 264, 265, 266, 267, 268, 269, 251, 252, 253, 254, 255, 270, 271, 272] rfl rfl
set_option maxRecDepth 20000 in
theorem gX10_inverse_X9_solveSides : GoodIn wsX10_inverse (wsV RX10 289 RX9 yX9_solveSides wsX9_solveSides) := goodIn_app (goodIn_of _ (by decide +kernel)) ggX10_inverse_X9_solveSides
set_option maxRecDepth 20000 in
theorem ggX10_inverse_X9_answer : GoodIn wsX10_inverse wsX9_answer := goodIn_r _ [232, 185, 233, 184, 183, 273, 274, 275, 276, 277] rfl rfl
set_option maxRecDepth 20000 in
theorem gX10_inverse_X9_answer : GoodIn wsX10_inverse (wsV RX10 275 RX9 yX9_answer wsX9_answer) := goodIn_app (goodIn_of _ (by decide +kernel)) ggX10_inverse_X9_answer
theorem dX10_inverse_0 : decode cX10_inverse 0 = .ok (.aload_n 0, 1) := by decide +kernel
theorem dX10_inverse_1 : decode cX10_inverse 1 = .ok (.getfield 12, 3) := by decide +kernel
theorem dX10_inverse_4 : decode cX10_inverse 4 = .ok (.getfield 131, 3) := by decide +kernel
theorem dX10_inverse_7 : decode cX10_inverse 7 = .ok (.astore 4, 2) := by decide +kernel
theorem dX10_inverse_9 : decode cX10_inverse 9 = .ok (.aload 4, 2) := by decide +kernel
theorem dX10_inverse_11 : decode cX10_inverse 11 = .ok (.invokevirtual 283, 3) := by decide +kernel
theorem dX10_inverse_14 : decode cX10_inverse 14 = .ok (.ifCond .eq 21, 3) := by decide +kernel
theorem dX10_inverse_17 : decode cX10_inverse 17 = .ok (.aload 4, 2) := by decide +kernel
theorem dX10_inverse_19 : decode cX10_inverse 19 = .ok (.iload_n 1, 1) := by decide +kernel
theorem dX10_inverse_20 : decode cX10_inverse 20 = .ok (.invokevirtual 218, 3) := by decide +kernel
theorem dX10_inverse_23 : decode cX10_inverse 23 = .ok (.ifCond .eq 12, 3) := by decide +kernel
theorem dX10_inverse_26 : decode cX10_inverse 26 = .ok (.aload 4, 2) := by decide +kernel
theorem dX10_inverse_28 : decode cX10_inverse 28 = .ok (.iload_n 2, 1) := by decide +kernel
theorem dX10_inverse_29 : decode cX10_inverse 29 = .ok (.invokevirtual 268, 3) := by decide +kernel
theorem dX10_inverse_32 : decode cX10_inverse 32 = .ok (.ifCond .ne 6, 3) := by decide +kernel
theorem dX10_inverse_35 : decode cX10_inverse 35 = .ok (.ldc 224, 2) := by decide +kernel
theorem dX10_inverse_37 : decode cX10_inverse 37 = .ok (.ireturn, 1) := by decide +kernel
theorem dX10_inverse_38 : decode cX10_inverse 38 = .ok (.aload_n 0, 1) := by decide +kernel
theorem dX10_inverse_39 : decode cX10_inverse 39 = .ok (.getfield 62, 3) := by decide +kernel
theorem dX10_inverse_42 : decode cX10_inverse 42 = .ok (.aload 4, 2) := by decide +kernel
theorem dX10_inverse_44 : decode cX10_inverse 44 = .ok (.invokevirtual 134, 3) := by decide +kernel
theorem dX10_inverse_47 : decode cX10_inverse 47 = .ok (.aload_n 0, 1) := by decide +kernel
theorem dX10_inverse_48 : decode cX10_inverse 48 = .ok (.getfield 62, 3) := by decide +kernel
theorem dX10_inverse_51 : decode cX10_inverse 51 = .ok (.invokevirtual 286, 3) := by decide +kernel
theorem dX10_inverse_54 : decode cX10_inverse 54 = .ok (.aload_n 0, 1) := by decide +kernel
theorem dX10_inverse_55 : decode cX10_inverse 55 = .ok (.getfield 68, 3) := by decide +kernel
theorem dX10_inverse_58 : decode cX10_inverse 58 = .ok (.lconst 1, 1) := by decide +kernel
theorem dX10_inverse_59 : decode cX10_inverse 59 = .ok (.lconst 1, 1) := by decide +kernel
theorem dX10_inverse_60 : decode cX10_inverse 60 = .ok (.invokevirtual 180, 3) := by decide +kernel
theorem dX10_inverse_63 : decode cX10_inverse 63 = .ok (.aload_n 0, 1) := by decide +kernel
theorem dX10_inverse_64 : decode cX10_inverse 64 = .ok (.getfield 62, 3) := by decide +kernel
theorem dX10_inverse_67 : decode cX10_inverse 67 = .ok (.iload_n 2, 1) := by decide +kernel
theorem dX10_inverse_68 : decode cX10_inverse 68 = .ok (.aload_n 0, 1) := by decide +kernel
theorem dX10_inverse_69 : decode cX10_inverse 69 = .ok (.getfield 62, 3) := by decide +kernel
theorem dX10_inverse_72 : decode cX10_inverse 72 = .ok (.getfield 110, 3) := by decide +kernel
theorem dX10_inverse_75 : decode cX10_inverse 75 = .ok (.aload_n 0, 1) := by decide +kernel
theorem dX10_inverse_76 : decode cX10_inverse 76 = .ok (.getfield 68, 3) := by decide +kernel
theorem dX10_inverse_79 : decode cX10_inverse 79 = .ok (.invokevirtual 184, 3) := by decide +kernel
theorem dX10_inverse_82 : decode cX10_inverse 82 = .ok (.aload_n 0, 1) := by decide +kernel
theorem dX10_inverse_83 : decode cX10_inverse 83 = .ok (.getfield 37, 3) := by decide +kernel
theorem dX10_inverse_86 : decode cX10_inverse 86 = .ok (.aload_n 0, 1) := by decide +kernel
theorem dX10_inverse_87 : decode cX10_inverse 87 = .ok (.getfield 62, 3) := by decide +kernel
theorem dX10_inverse_90 : decode cX10_inverse 90 = .ok (.iconst 1, 1) := by decide +kernel
theorem dX10_inverse_91 : decode cX10_inverse 91 = .ok (.invokevirtual 166, 3) := by decide +kernel
theorem dX10_inverse_94 : decode cX10_inverse 94 = .ok (.aload_n 0, 1) := by decide +kernel
theorem dX10_inverse_95 : decode cX10_inverse 95 = .ok (.getfield 37, 3) := by decide +kernel
theorem dX10_inverse_98 : decode cX10_inverse 98 = .ok (.getfield 248, 3) := by decide +kernel
theorem dX10_inverse_101 : decode cX10_inverse 101 = .ok (.ifCond .ne 20, 3) := by decide +kernel
theorem dX10_inverse_104 : decode cX10_inverse 104 = .ok (.aload_n 0, 1) := by decide +kernel
theorem dX10_inverse_105 : decode cX10_inverse 105 = .ok (.getfield 37, 3) := by decide +kernel
theorem dX10_inverse_108 : decode cX10_inverse 108 = .ok (.getfield 252, 3) := by decide +kernel
theorem dX10_inverse_111 : decode cX10_inverse 111 = .ok (.aload_n 0, 1) := by decide +kernel
theorem dX10_inverse_112 : decode cX10_inverse 112 = .ok (.getfield 62, 3) := by decide +kernel
theorem dX10_inverse_115 : decode cX10_inverse 115 = .ok (.getfield 107, 3) := by decide +kernel
theorem dX10_inverse_118 : decode cX10_inverse 118 = .ok (.if_icmp .ge 6, 3) := by decide +kernel
theorem dX10_inverse_121 : decode cX10_inverse 121 = .ok (.ldc 224, 2) := by decide +kernel
theorem dX10_inverse_123 : decode cX10_inverse 123 = .ok (.ireturn, 1) := by decide +kernel
theorem dX10_inverse_124 : decode cX10_inverse 124 = .ok (.aload_n 0, 1) := by decide +kernel
theorem dX10_inverse_125 : decode cX10_inverse 125 = .ok (.getfield 44, 3) := by decide +kernel
theorem dX10_inverse_128 : decode cX10_inverse 128 = .ok (.aload_n 0, 1) := by decide +kernel
theorem dX10_inverse_129 : decode cX10_inverse 129 = .ok (.getfield 37, 3) := by decide +kernel
theorem dX10_inverse_132 : decode cX10_inverse 132 = .ok (.invokevirtual 289, 3) := by decide +kernel
theorem dX10_inverse_135 : decode cX10_inverse 135 = .ok (.aload_n 0, 1) := by decide +kernel
theorem dX10_inverse_136 : decode cX10_inverse 136 = .ok (.getfield 44, 3) := by decide +kernel
theorem dX10_inverse_139 : decode cX10_inverse 139 = .ok (.iload_n 1, 1) := by decide +kernel
theorem dX10_inverse_140 : decode cX10_inverse 140 = .ok (.iload_n 3, 1) := by decide +kernel
theorem dX10_inverse_141 : decode cX10_inverse 141 = .ok (.invokevirtual 275, 3) := by decide +kernel
theorem dX10_inverse_144 : decode cX10_inverse 144 = .ok (.ireturn, 1) := by decide +kernel
set_option maxRecDepth 20000 in
theorem ggX10_minor_X1_isSquare : GoodIn wsX10_minor wsX1_isSquare := goodIn_r _ [10, 11, 12, 217, 218, 219, 220, 221] rfl rfl
set_option maxRecDepth 20000 in
theorem gX10_minor_X1_isSquare : GoodIn wsX10_minor (wsV RX10 283 RX1 yX1_isSquare wsX1_isSquare) := goodIn_app (goodIn_of _ (by decide +kernel)) ggX10_minor_X1_isSquare
set_option maxRecDepth 20000 in
theorem ggX10_minor_X1_hasRow : GoodIn wsX10_minor wsX1_hasRow := goodIn_r _ [16, 11, 217, 218, 219, 220, 221] rfl rfl
set_option maxRecDepth 20000 in
theorem gX10_minor_X1_hasRow : GoodIn wsX10_minor (wsV RX10 218 RX1 yX1_hasRow wsX1_hasRow) := goodIn_app (goodIn_of _ (by decide +kernel)) ggX10_minor_X1_hasRow
set_option maxRecDepth 20000 in
theorem ggX10_minor_X1_hasColumn : GoodIn wsX10_minor wsX1_hasColumn := goodIn_r _ [20, 12, 217, 218, 219, 220, 221] rfl rfl
set_option maxRecDepth 20000 in
theorem gX10_minor_X1_hasColumn : GoodIn wsX10_minor (wsV RX10 268 RX1 yX1_hasColumn wsX1_hasColumn) := goodIn_app (goodIn_of _ (by decide +kernel)) ggX10_minor_X1_hasColumn
set_option maxRecDepth 20000 in
theorem ggX10_minor_X1_copyWithout : GoodIn wsX10_minor wsX1_copyWithout := goodIn_r _ [24, 11, 12, 25, 26, 27, 28, 9, 29, 30, 31, 32, 33, 34, 35, 36, 37, 38, 39, 40, 41, 42, 43, 44, 45, 46, 47, 48, 49, 50, 51, 52, 53, 54, 55, 56, 57, 217, 218, 219, 220, 221, 222, 223, 224] rfl rfl
set_option maxRecDepth 20000 in
theorem gX10_minor_X1_copyWithout : GoodIn wsX10_minor (wsV RX10 293 RX1 yX1_copyWithout wsX1_copyWithout) := goodIn_app (goodIn_of _ (by decide +kernel)) ggX10_minor_X1_copyWithout
set_option maxRecDepth 20000 in
theorem ggX10_minor_X10_determinantOf : GoodIn wsX10_minor wsX10_determinantOf := goodIn_r _ [62, 3, 63, 64, 65, 6, 7, 8, 9, 10, 11, 12, 66, 67, 68, 69, 70, 71, 72, 73, 74, 75, 76, 77, 78, 79, 80, 81, 82, 83, 84, 85, 86, 30, 87, 88, 89, 90, 31, 91, 92, 93, 94, 95, 96, 97, 98, 99, 100, 101, 102, 103, 104, 45, 46, 47, 105, 106, 107, 108, 109, 110, 111, 112, 113, 114, 115, 116, 117, 118, 119, 120, 121, 122, 123, 124, 125, 126, 127, 128, 129, 130, 131, 132, 133, 49, 50, 51, 134, 135, 136, 137, 138, 139, 140, 141, 142, 143, 144, 37, 38, 39, 40, 41, 42, 43, 44, 48, 145, 146, 147, 148, 149, 150, 151, 152, 153, 154, 155, 156, 157, 158, 159, 160, 161, 162, 163, 164, 165, 166, 25, 167, 36, 168, 169, 170, 171, 172, 173, 174, 175, 176, 52, 53, 54, 55, 56, 57, 177, 178, 179, 180, 181, 182, 183, 184, 185, 186, 187, 188, 189, 190, 191, 192, 193, 194, 195, 196, 197, 198, 199, 200, 201, 202, 203, 204, 205, 206, 207, 208, 209, 225, 226, 227, 228, 229, 230, 231, 232, 233, 234, 235, 236, 237, 238, 217, 218, 219, 220, 221, 222, 223, 224] rfl rfl
set_option maxRecDepth 20000 in
theorem gX10_minor_X10_determinantOf : GoodIn wsX10_minor (wsV RX10 279 RX10 yX10_determinantOf wsX10_determinantOf) := goodIn_app (goodIn_of _ (by decide +kernel)) ggX10_minor_X10_determinantOf
theorem dX10_minor_0 : decode cX10_minor 0 = .ok (.aload_n 0, 1) := by decide +kernel
theorem dX10_minor_1 : decode cX10_minor 1 = .ok (.getfield 12, 3) := by decide +kernel
theorem dX10_minor_4 : decode cX10_minor 4 = .ok (.getfield 131, 3) := by decide +kernel
theorem dX10_minor_7 : decode cX10_minor 7 = .ok (.astore 4, 2) := by decide +kernel
theorem dX10_minor_9 : decode cX10_minor 9 = .ok (.aload 4, 2) := by decide +kernel
theorem dX10_minor_11 : decode cX10_minor 11 = .ok (.invokevirtual 283, 3) := by decide +kernel
theorem dX10_minor_14 : decode cX10_minor 14 = .ok (.ifCond .eq 21, 3) := by decide +kernel
theorem dX10_minor_17 : decode cX10_minor 17 = .ok (.aload 4, 2) := by decide +kernel
theorem dX10_minor_19 : decode cX10_minor 19 = .ok (.iload_n 1, 1) := by decide +kernel
theorem dX10_minor_20 : decode cX10_minor 20 = .ok (.invokevirtual 218, 3) := by decide +kernel
theorem dX10_minor_23 : decode cX10_minor 23 = .ok (.ifCond .eq 12, 3) := by decide +kernel
theorem dX10_minor_26 : decode cX10_minor 26 = .ok (.aload 4, 2) := by decide +kernel
theorem dX10_minor_28 : decode cX10_minor 28 = .ok (.iload_n 2, 1) := by decide +kernel
theorem dX10_minor_29 : decode cX10_minor 29 = .ok (.invokevirtual 268, 3) := by decide +kernel
theorem dX10_minor_32 : decode cX10_minor 32 = .ok (.ifCond .ne 6, 3) := by decide +kernel
theorem dX10_minor_35 : decode cX10_minor 35 = .ok (.ldc 224, 2) := by decide +kernel
theorem dX10_minor_37 : decode cX10_minor 37 = .ok (.ireturn, 1) := by decide +kernel
theorem dX10_minor_38 : decode cX10_minor 38 = .ok (.aload 4, 2) := by decide +kernel
theorem dX10_minor_40 : decode cX10_minor 40 = .ok (.getfield 107, 3) := by decide +kernel
theorem dX10_minor_43 : decode cX10_minor 43 = .ok (.iconst 1, 1) := by decide +kernel
theorem dX10_minor_44 : decode cX10_minor 44 = .ok (.if_icmp .ne 5, 3) := by decide +kernel
theorem dX10_minor_47 : decode cX10_minor 47 = .ok (.iconst 1, 1) := by decide +kernel
theorem dX10_minor_48 : decode cX10_minor 48 = .ok (.ireturn, 1) := by decide +kernel
theorem dX10_minor_49 : decode cX10_minor 49 = .ok (.aload_n 0, 1) := by decide +kernel
theorem dX10_minor_50 : decode cX10_minor 50 = .ok (.getfield 62, 3) := by decide +kernel
theorem dX10_minor_53 : decode cX10_minor 53 = .ok (.aload 4, 2) := by decide +kernel
theorem dX10_minor_55 : decode cX10_minor 55 = .ok (.iload_n 1, 1) := by decide +kernel
theorem dX10_minor_56 : decode cX10_minor 56 = .ok (.iload_n 2, 1) := by decide +kernel
theorem dX10_minor_57 : decode cX10_minor 57 = .ok (.invokevirtual 293, 3) := by decide +kernel
theorem dX10_minor_60 : decode cX10_minor 60 = .ok (.aload_n 0, 1) := by decide +kernel
theorem dX10_minor_61 : decode cX10_minor 61 = .ok (.aload_n 0, 1) := by decide +kernel
theorem dX10_minor_62 : decode cX10_minor 62 = .ok (.getfield 62, 3) := by decide +kernel
theorem dX10_minor_65 : decode cX10_minor 65 = .ok (.iload_n 1, 1) := by decide +kernel
theorem dX10_minor_66 : decode cX10_minor 66 = .ok (.iload_n 2, 1) := by decide +kernel
theorem dX10_minor_67 : decode cX10_minor 67 = .ok (.iadd, 1) := by decide +kernel
theorem dX10_minor_68 : decode cX10_minor 68 = .ok (.iconst 2, 1) := by decide +kernel
theorem dX10_minor_69 : decode cX10_minor 69 = .ok (.irem, 1) := by decide +kernel
theorem dX10_minor_70 : decode cX10_minor 70 = .ok (.ifCond .eq 7, 3) := by decide +kernel
theorem dX10_minor_73 : decode cX10_minor 73 = .ok (.iconst 1, 1) := by decide +kernel
theorem dX10_minor_74 : decode cX10_minor 74 = .ok (.goto 4, 3) := by decide +kernel
theorem dX10_minor_77 : decode cX10_minor 77 = .ok (.iconst 0, 1) := by decide +kernel
theorem dX10_minor_78 : decode cX10_minor 78 = .ok (.iload_n 3, 1) := by decide +kernel
theorem dX10_minor_79 : decode cX10_minor 79 = .ok (.invokevirtual 279, 3) := by decide +kernel
theorem dX10_minor_82 : decode cX10_minor 82 = .ok (.ireturn, 1) := by decide +kernel
set_option maxRecDepth 20000 in
theorem ggX10_cramer_X1_isSquare : GoodIn wsX10_cramer wsX1_isSquare := goodIn_r _ [12, 13, 14, 210, 211, 212, 213, 214] rfl rfl
set_option maxRecDepth 20000 in
theorem gX10_cramer_X1_isSquare : GoodIn wsX10_cramer (wsV RX10 283 RX1 yX1_isSquare wsX1_isSquare) := goodIn_app (goodIn_of _ (by decide +kernel)) ggX10_cramer_X1_isSquare
set_option maxRecDepth 20000 in
theorem ggX10_cramer_X1_hasColumn : GoodIn wsX10_cramer wsX1_hasColumn := goodIn_r _ [18, 14, 210, 211, 212, 213, 214] rfl rfl
set_option maxRecDepth 20000 in
theorem gX10_cramer_X1_hasColumn : GoodIn wsX10_cramer (wsV RX10 268 RX1 yX1_hasColumn wsX1_hasColumn) := goodIn_app (goodIn_of _ (by decide +kernel)) ggX10_cramer_X1_hasColumn
set_option maxRecDepth 20000 in
theorem ggX10_cramer_X1_copy : GoodIn wsX10_cramer wsX1_copy := goodIn_r _ [22, 13, 14, 23, 24, 25, 26, 27, 28, 210, 211, 212, 213, 214] rfl rfl
set_option maxRecDepth 20000 in
theorem gX10_cramer_X1_copy : GoodIn wsX10_cramer (wsV RX10 134 RX1 yX1_copy wsX1_copy) := goodIn_app (goodIn_of _ (by decide +kernel)) ggX10_cramer_X1_copy
set_option maxRecDepth 20000 in
theorem ggX10_cramer_X3_load : GoodIn wsX10_cramer wsX3_load := goodIn_r _ [33, 34, 35, 36, 37, 38, 39, 11, 40, 23, 41, 42, 43, 44, 28, 215, 216, 217, 210, 211, 212, 213, 214] rfl rfl
set_option maxRecDepth 20000 in
theorem gX10_cramer_X3_load : GoodIn wsX10_cramer (wsV RX10 297 RX3 yX3_load wsX3_load) := goodIn_app (goodIn_of _ (by decide +kernel)) ggX10_cramer_X3_load
set_option maxRecDepth 20000 in
theorem ggX10_cramer_X1_put : GoodIn wsX10_cramer wsX1_put := goodIn_r _ [48, 23, 49, 28, 50, 210, 211, 212, 213, 214, 215, 216, 217] rfl rfl
set_option maxRecDepth 20000 in
theorem gX10_cramer_X1_put : GoodIn wsX10_cramer (wsV RX10 184 RX1 yX1_put wsX1_put) := goodIn_app (goodIn_of _ (by decide +kernel)) ggX10_cramer_X1_put
set_option maxRecDepth 20000 in
theorem ggX10_cramer_X1_clearSides : GoodIn wsX10_cramer wsX1_clearSides := goodIn_r _ [54, 55, 13, 14, 56, 57, 58, 32, 59, 34, 60, 61, 62, 63, 35, 36, 64, 65, 66, 67, 68, 69, 70, 46, 47, 11, 48, 23, 49, 28, 50, 210, 211, 212, 213, 214, 215, 216, 217] rfl rfl
set_option maxRecDepth 20000 in
theorem gX10_cramer_X1_clearSides : GoodIn wsX10_cramer (wsV RX10 286 RX1 yX1_clearSides wsX1_clearSides) := goodIn_app (goodIn_of _ (by decide +kernel)) ggX10_cramer_X1_clearSides
set_option maxRecDepth 20000 in
theorem ggX10_cramer_X10_determinantOf : GoodIn wsX10_cramer wsX10_determinantOf := goodIn_r _ [75, 3, 76, 77, 6, 8, 9, 10, 11, 12, 13, 14, 78, 79, 80, 81, 82, 83, 84, 85, 86, 87, 88, 89, 90, 91, 92, 93, 94, 95, 20, 21, 22, 23, 24, 25, 26, 27, 28, 96, 97, 98, 99, 100, 101, 102, 103, 104, 105, 106, 107, 108, 109, 38, 39, 40, 110, 111, 112, 113, 114, 115, 116, 117, 118, 119, 120, 121, 122, 123, 124, 125, 126, 127, 128, 129, 130, 131, 132, 133, 134, 135, 136, 137, 138, 42, 43, 44, 139, 140, 141, 142, 143, 144, 145, 146, 147, 148, 149, 30, 31, 32, 33, 34, 35, 36, 37, 41, 150, 151, 152, 153, 60, 61, 62, 63, 64, 65, 66, 67, 68, 69, 154, 155, 156, 157, 158, 159, 160, 161, 55, 162, 163, 164, 165, 166, 167, 168, 169, 170, 171, 172, 70, 46, 47, 48, 49, 50, 173, 174, 175, 176, 177, 57, 58, 59, 178, 179, 180, 181, 182, 183, 184, 185, 186, 187, 188, 189, 190, 191, 192, 193, 194, 195, 196, 197, 198, 199, 200, 201, 202, 218, 219, 220, 221, 222, 223, 224, 225, 226, 227, 228, 229, 230, 231, 210, 211, 212, 213, 214, 215, 216, 217] rfl rfl
set_option maxRecDepth 20000 in
theorem gX10_cramer_X10_determinantOf : GoodIn wsX10_cramer (wsV RX10 279 RX10 yX10_determinantOf wsX10_determinantOf) := goodIn_app (goodIn_of _ (by decide +kernel)) ggX10_cramer_X10_determinantOf
theorem dX10_cramer_0 : decode cX10_cramer 0 = .ok (.aload_n 0, 1) := by decide +kernel
theorem dX10_cramer_1 : decode cX10_cramer 1 = .ok (.getfield 12, 3) := by decide +kernel
theorem dX10_cramer_4 : decode cX10_cramer 4 = .ok (.getfield 131, 3) := by decide +kernel
theorem dX10_cramer_7 : decode cX10_cramer 7 = .ok (.astore_n 3, 1) := by decide +kernel
theorem dX10_cramer_8 : decode cX10_cramer 8 = .ok (.aload_n 3, 1) := by decide +kernel
theorem dX10_cramer_9 : decode cX10_cramer 9 = .ok (.invokevirtual 283, 3) := by decide +kernel
theorem dX10_cramer_12 : decode cX10_cramer 12 = .ok (.ifCond .eq 11, 3) := by decide +kernel
theorem dX10_cramer_15 : decode cX10_cramer 15 = .ok (.aload_n 3, 1) := by decide +kernel
theorem dX10_cramer_16 : decode cX10_cramer 16 = .ok (.iload_n 1, 1) := by decide +kernel
theorem dX10_cramer_17 : decode cX10_cramer 17 = .ok (.invokevirtual 268, 3) := by decide +kernel
theorem dX10_cramer_20 : decode cX10_cramer 20 = .ok (.ifCond .ne 6, 3) := by decide +kernel
theorem dX10_cramer_23 : decode cX10_cramer 23 = .ok (.ldc 224, 2) := by decide +kernel
theorem dX10_cramer_25 : decode cX10_cramer 25 = .ok (.ireturn, 1) := by decide +kernel
theorem dX10_cramer_26 : decode cX10_cramer 26 = .ok (.aload_n 0, 1) := by decide +kernel
theorem dX10_cramer_27 : decode cX10_cramer 27 = .ok (.getfield 62, 3) := by decide +kernel
theorem dX10_cramer_30 : decode cX10_cramer 30 = .ok (.aload_n 3, 1) := by decide +kernel
theorem dX10_cramer_31 : decode cX10_cramer 31 = .ok (.invokevirtual 134, 3) := by decide +kernel
theorem dX10_cramer_34 : decode cX10_cramer 34 = .ok (.iconst 0, 1) := by decide +kernel
theorem dX10_cramer_35 : decode cX10_cramer 35 = .ok (.istore 4, 2) := by decide +kernel
theorem dX10_cramer_37 : decode cX10_cramer 37 = .ok (.iload 4, 2) := by decide +kernel
theorem dX10_cramer_39 : decode cX10_cramer 39 = .ok (.aload_n 0, 1) := by decide +kernel
theorem dX10_cramer_40 : decode cX10_cramer 40 = .ok (.getfield 62, 3) := by decide +kernel
theorem dX10_cramer_43 : decode cX10_cramer 43 = .ok (.getfield 107, 3) := by decide +kernel
theorem dX10_cramer_46 : decode cX10_cramer 46 = .ok (.if_icmp .ge 37, 3) := by decide +kernel
theorem dX10_cramer_49 : decode cX10_cramer 49 = .ok (.aload_n 0, 1) := by decide +kernel
theorem dX10_cramer_50 : decode cX10_cramer 50 = .ok (.getfield 68, 3) := by decide +kernel
theorem dX10_cramer_53 : decode cX10_cramer 53 = .ok (.aload_n 3, 1) := by decide +kernel
theorem dX10_cramer_54 : decode cX10_cramer 54 = .ok (.iload 4, 2) := by decide +kernel
theorem dX10_cramer_56 : decode cX10_cramer 56 = .ok (.aload_n 3, 1) := by decide +kernel
theorem dX10_cramer_57 : decode cX10_cramer 57 = .ok (.getfield 110, 3) := by decide +kernel
theorem dX10_cramer_60 : decode cX10_cramer 60 = .ok (.invokevirtual 297, 3) := by decide +kernel
theorem dX10_cramer_63 : decode cX10_cramer 63 = .ok (.aload_n 0, 1) := by decide +kernel
theorem dX10_cramer_64 : decode cX10_cramer 64 = .ok (.getfield 62, 3) := by decide +kernel
theorem dX10_cramer_67 : decode cX10_cramer 67 = .ok (.iload 4, 2) := by decide +kernel
theorem dX10_cramer_69 : decode cX10_cramer 69 = .ok (.iload_n 1, 1) := by decide +kernel
theorem dX10_cramer_70 : decode cX10_cramer 70 = .ok (.aload_n 0, 1) := by decide +kernel
theorem dX10_cramer_71 : decode cX10_cramer 71 = .ok (.getfield 68, 3) := by decide +kernel
theorem dX10_cramer_74 : decode cX10_cramer 74 = .ok (.invokevirtual 184, 3) := by decide +kernel
theorem dX10_cramer_77 : decode cX10_cramer 77 = .ok (.iinc 4 1, 3) := by decide +kernel
theorem dX10_cramer_80 : decode cX10_cramer 80 = .ok (.goto (-43), 3) := by decide +kernel
theorem dX10_cramer_83 : decode cX10_cramer 83 = .ok (.aload_n 0, 1) := by decide +kernel
theorem dX10_cramer_84 : decode cX10_cramer 84 = .ok (.getfield 62, 3) := by decide +kernel
theorem dX10_cramer_87 : decode cX10_cramer 87 = .ok (.invokevirtual 286, 3) := by decide +kernel
theorem dX10_cramer_90 : decode cX10_cramer 90 = .ok (.aload_n 0, 1) := by decide +kernel
theorem dX10_cramer_91 : decode cX10_cramer 91 = .ok (.aload_n 0, 1) := by decide +kernel
theorem dX10_cramer_92 : decode cX10_cramer 92 = .ok (.getfield 62, 3) := by decide +kernel
theorem dX10_cramer_95 : decode cX10_cramer 95 = .ok (.iconst 0, 1) := by decide +kernel
theorem dX10_cramer_96 : decode cX10_cramer 96 = .ok (.iload_n 2, 1) := by decide +kernel
theorem dX10_cramer_97 : decode cX10_cramer 97 = .ok (.invokevirtual 279, 3) := by decide +kernel
theorem dX10_cramer_100 : decode cX10_cramer 100 = .ok (.ireturn, 1) := by decide +kernel
set_option maxRecDepth 20000 in
theorem ggX10_would_X1_hasColumnOrSide : GoodIn wsX10_would wsX1_hasColumnOrSide := goodIn_r _ [13, 14, 259, 260, 261, 262, 263] rfl rfl
set_option maxRecDepth 20000 in
theorem gX10_would_X1_hasColumnOrSide : GoodIn wsX10_would (wsV RX10 221 RX1 yX1_hasColumnOrSide wsX1_hasColumnOrSide) := goodIn_app (goodIn_of _ (by decide +kernel)) ggX10_would_X1_hasColumnOrSide
set_option maxRecDepth 20000 in
theorem ggX10_would_X10_isTold : GoodIn wsX10_would wsX10_isTold := goodIn_r _ [18] rfl rfl
set_option maxRecDepth 20000 in
theorem gX10_would_X10_isTold : GoodIn wsX10_would (va_wsS RX10 300 yX10_isTold wsX10_isTold) := goodIn_app (goodIn_of _ (by decide +kernel)) ggX10_would_X10_isTold
set_option maxRecDepth 20000 in
theorem ggX10_would_X1_copy : GoodIn wsX10_would wsX1_copy := goodIn_r _ [22, 23, 14, 24, 25, 26, 27, 28, 29, 259, 260, 261, 262, 263] rfl rfl
set_option maxRecDepth 20000 in
theorem gX10_would_X1_copy : GoodIn wsX10_would (wsV RX10 134 RX1 yX1_copy wsX1_copy) := goodIn_app (goodIn_of _ (by decide +kernel)) ggX10_would_X1_copy
set_option maxRecDepth 20000 in
theorem ggX10_would_X3_load : GoodIn wsX10_would wsX3_load := goodIn_r _ [34, 35, 36, 37, 38, 39, 40, 12, 41, 24, 42, 43, 44, 45, 29, 264, 265, 266, 259, 260, 261, 262, 263] rfl rfl
set_option maxRecDepth 20000 in
theorem gX10_would_X3_load : GoodIn wsX10_would (wsV RX10 297 RX3 yX3_load wsX3_load) := goodIn_app (goodIn_of _ (by decide +kernel)) ggX10_would_X3_load
set_option maxRecDepth 20000 in
theorem ggX10_would_X3_times : GoodIn wsX10_would wsX3_times := goodIn_r _ [49, 36, 37, 50, 51, 52, 33, 53, 35, 54, 55, 56, 57, 58, 59, 264, 265, 266] rfl rfl
set_option maxRecDepth 20000 in
theorem gX10_would_X3_times : GoodIn wsX10_would (wsV RX10 303 RX3 yX3_times wsX3_times) := goodIn_app (goodIn_of _ (by decide +kernel)) ggX10_would_X3_times
set_option maxRecDepth 20000 in
theorem ggX10_would_X1_put : GoodIn wsX10_would wsX1_put := goodIn_r _ [63, 24, 64, 29, 65, 259, 260, 261, 262, 263, 264, 265, 266] rfl rfl
set_option maxRecDepth 20000 in
theorem gX10_would_X1_put : GoodIn wsX10_would (wsV RX10 184 RX1 yX1_put wsX1_put) := goodIn_app (goodIn_of _ (by decide +kernel)) ggX10_would_X1_put
set_option maxRecDepth 20000 in
theorem ggX10_would_X10_solved : GoodIn wsX10_would wsX10_solved := goodIn_r _ [69, 3, 70, 71, 72, 73, 74, 12, 75, 14, 76, 77, 78, 79, 80, 81, 82, 83, 84, 85, 86, 87, 88, 89, 90, 91, 92, 93, 20, 21, 22, 23, 24, 25, 26, 27, 28, 29, 94, 95, 96, 97, 98, 99, 100, 101, 102, 103, 104, 105, 106, 107, 39, 40, 41, 108, 109, 110, 111, 112, 113, 114, 115, 116, 117, 118, 119, 120, 121, 122, 123, 124, 125, 126, 127, 128, 129, 130, 131, 132, 133, 134, 135, 136, 43, 44, 45, 137, 138, 139, 140, 141, 142, 143, 144, 145, 146, 147, 31, 32, 33, 34, 35, 36, 37, 38, 42, 148, 149, 150, 151, 50, 51, 52, 53, 54, 55, 56, 57, 58, 59, 152, 153, 154, 155, 156, 157, 158, 159, 160, 161, 162, 163, 47, 48, 49, 164, 165, 166, 167, 168, 169, 61, 62, 63, 64, 65, 170, 171, 172, 173, 174, 175, 176, 177, 178, 179, 180, 181, 182, 183, 184, 185, 186, 187, 188, 189, 190, 191, 192, 193, 194, 195, 196, 197, 198, 199, 200, 201, 202, 203, 204, 205, 206, 207, 208, 209, 210, 211, 212, 213, 214, 215, 216, 217, 218, 219, 220, 221, 222, 223, 224, 225, 226, 227, 228, 229, 230, 231, 232, 233, 234, 235, 236, 237, 238, 239, 240, 241, 242, 243, 244, 245, 246, 247, 248, 249, 250, 251, 259, 260, 261, 262, 263, 267, 268, 269, 270, 271, 272, 273, 274, 275, 276, 277, 278, 279, 280, 264, 265, 266, 281, 282, 283, 284, 285] rfl rfl
set_option maxRecDepth 20000 in
theorem gX10_would_X10_solved : GoodIn wsX10_would (wsV RX10 261 RX10 yX10_solved wsX10_solved) := goodIn_app (goodIn_of _ (by decide +kernel)) ggX10_would_X10_solved
theorem dX10_would_0 : decode cX10_would 0 = .ok (.aload_n 0, 1) := by decide +kernel
theorem dX10_would_1 : decode cX10_would 1 = .ok (.getfield 12, 3) := by decide +kernel
theorem dX10_would_4 : decode cX10_would 4 = .ok (.getfield 131, 3) := by decide +kernel
theorem dX10_would_7 : decode cX10_would 7 = .ok (.astore 6, 2) := by decide +kernel
theorem dX10_would_9 : decode cX10_would 9 = .ok (.aload 6, 2) := by decide +kernel
theorem dX10_would_11 : decode cX10_would 11 = .ok (.iload_n 1, 1) := by decide +kernel
theorem dX10_would_12 : decode cX10_would 12 = .ok (.invokevirtual 221, 3) := by decide +kernel
theorem dX10_would_15 : decode cX10_would 15 = .ok (.ifCond .eq 11, 3) := by decide +kernel
theorem dX10_would_18 : decode cX10_would 18 = .ok (.iload_n 2, 1) := by decide +kernel
theorem dX10_would_19 : decode cX10_would 19 = .ok (.iload_n 3, 1) := by decide +kernel
theorem dX10_would_20 : decode cX10_would 20 = .ok (.invokestatic 300, 3) := by decide +kernel
theorem dX10_would_23 : decode cX10_would 23 = .ok (.ifCond .ne 6, 3) := by decide +kernel
theorem dX10_would_26 : decode cX10_would 26 = .ok (.ldc 224, 2) := by decide +kernel
theorem dX10_would_28 : decode cX10_would 28 = .ok (.ireturn, 1) := by decide +kernel
theorem dX10_would_29 : decode cX10_would 29 = .ok (.aload_n 0, 1) := by decide +kernel
theorem dX10_would_30 : decode cX10_would 30 = .ok (.getfield 62, 3) := by decide +kernel
theorem dX10_would_33 : decode cX10_would 33 = .ok (.aload 6, 2) := by decide +kernel
theorem dX10_would_35 : decode cX10_would 35 = .ok (.invokevirtual 134, 3) := by decide +kernel
theorem dX10_would_38 : decode cX10_would 38 = .ok (.iconst 0, 1) := by decide +kernel
theorem dX10_would_39 : decode cX10_would 39 = .ok (.istore 7, 2) := by decide +kernel
theorem dX10_would_41 : decode cX10_would 41 = .ok (.iload 7, 2) := by decide +kernel
theorem dX10_would_43 : decode cX10_would 43 = .ok (.aload_n 0, 1) := by decide +kernel
theorem dX10_would_44 : decode cX10_would 44 = .ok (.getfield 62, 3) := by decide +kernel
theorem dX10_would_47 : decode cX10_would 47 = .ok (.getfield 107, 3) := by decide +kernel
theorem dX10_would_50 : decode cX10_would 50 = .ok (.if_icmp .ge 65, 3) := by decide +kernel
theorem dX10_would_53 : decode cX10_would 53 = .ok (.aload_n 0, 1) := by decide +kernel
theorem dX10_would_54 : decode cX10_would 54 = .ok (.getfield 68, 3) := by decide +kernel
theorem dX10_would_57 : decode cX10_would 57 = .ok (.aload 6, 2) := by decide +kernel
theorem dX10_would_59 : decode cX10_would 59 = .ok (.iload 7, 2) := by decide +kernel
theorem dX10_would_61 : decode cX10_would 61 = .ok (.iload_n 1, 1) := by decide +kernel
theorem dX10_would_62 : decode cX10_would 62 = .ok (.invokevirtual 297, 3) := by decide +kernel
theorem dX10_would_65 : decode cX10_would 65 = .ok (.aload_n 0, 1) := by decide +kernel
theorem dX10_would_66 : decode cX10_would 66 = .ok (.getfield 68, 3) := by decide +kernel
theorem dX10_would_69 : decode cX10_would 69 = .ok (.iload_n 2, 1) := by decide +kernel
theorem dX10_would_70 : decode cX10_would 70 = .ok (.i2l, 1) := by decide +kernel
theorem dX10_would_71 : decode cX10_would 71 = .ok (.iload_n 3, 1) := by decide +kernel
theorem dX10_would_72 : decode cX10_would 72 = .ok (.i2l, 1) := by decide +kernel
theorem dX10_would_73 : decode cX10_would 73 = .ok (.invokevirtual 303, 3) := by decide +kernel
theorem dX10_would_76 : decode cX10_would 76 = .ok (.aload_n 0, 1) := by decide +kernel
theorem dX10_would_77 : decode cX10_would 77 = .ok (.getfield 68, 3) := by decide +kernel
theorem dX10_would_80 : decode cX10_would 80 = .ok (.getfield 306, 3) := by decide +kernel
theorem dX10_would_83 : decode cX10_would 83 = .ok (.ifCond .eq 6, 3) := by decide +kernel
theorem dX10_would_86 : decode cX10_would 86 = .ok (.ldc 224, 2) := by decide +kernel
theorem dX10_would_88 : decode cX10_would 88 = .ok (.ireturn, 1) := by decide +kernel
theorem dX10_would_89 : decode cX10_would 89 = .ok (.aload_n 0, 1) := by decide +kernel
theorem dX10_would_90 : decode cX10_would 90 = .ok (.getfield 62, 3) := by decide +kernel
theorem dX10_would_93 : decode cX10_would 93 = .ok (.iload 7, 2) := by decide +kernel
theorem dX10_would_95 : decode cX10_would 95 = .ok (.aload_n 0, 1) := by decide +kernel
theorem dX10_would_96 : decode cX10_would 96 = .ok (.getfield 62, 3) := by decide +kernel
theorem dX10_would_99 : decode cX10_would 99 = .ok (.getfield 110, 3) := by decide +kernel
theorem dX10_would_102 : decode cX10_would 102 = .ok (.aload_n 0, 1) := by decide +kernel
theorem dX10_would_103 : decode cX10_would 103 = .ok (.getfield 68, 3) := by decide +kernel
theorem dX10_would_106 : decode cX10_would 106 = .ok (.invokevirtual 184, 3) := by decide +kernel
theorem dX10_would_109 : decode cX10_would 109 = .ok (.iinc 7 1, 3) := by decide +kernel
theorem dX10_would_112 : decode cX10_would 112 = .ok (.goto (-71), 3) := by decide +kernel
theorem dX10_would_115 : decode cX10_would 115 = .ok (.aload_n 0, 1) := by decide +kernel
theorem dX10_would_116 : decode cX10_would 116 = .ok (.aload_n 0, 1) := by decide +kernel
theorem dX10_would_117 : decode cX10_would 117 = .ok (.getfield 62, 3) := by decide +kernel
theorem dX10_would_120 : decode cX10_would 120 = .ok (.iload 4, 2) := by decide +kernel
theorem dX10_would_122 : decode cX10_would 122 = .ok (.iload 5, 2) := by decide +kernel
theorem dX10_would_124 : decode cX10_would 124 = .ok (.invokevirtual 261, 3) := by decide +kernel
theorem dX10_would_127 : decode cX10_would 127 = .ok (.ireturn, 1) := by decide +kernel
set_option maxRecDepth 20000 in
theorem ggX10_ranked_X1_hasRow : GoodIn wsX10_ranked wsX1_hasRow := goodIn_r _ [13, 14, 197, 198, 199, 200, 201] rfl rfl
set_option maxRecDepth 20000 in
theorem gX10_ranked_X1_hasRow : GoodIn wsX10_ranked (wsV RX10 218 RX1 yX1_hasRow wsX1_hasRow) := goodIn_app (goodIn_of _ (by decide +kernel)) ggX10_ranked_X1_hasRow
set_option maxRecDepth 20000 in
theorem ggX10_ranked_X1_hasColumn : GoodIn wsX10_ranked wsX1_hasColumn := goodIn_r _ [18, 19, 197, 198, 199, 200, 201] rfl rfl
set_option maxRecDepth 20000 in
theorem gX10_ranked_X1_hasColumn : GoodIn wsX10_ranked (wsV RX10 268 RX1 yX1_hasColumn wsX1_hasColumn) := goodIn_app (goodIn_of _ (by decide +kernel)) ggX10_ranked_X1_hasColumn
set_option maxRecDepth 20000 in
theorem ggX10_ranked_X10_isTold : GoodIn wsX10_ranked wsX10_isTold := goodIn_r _ [23] rfl rfl
set_option maxRecDepth 20000 in
theorem gX10_ranked_X10_isTold : GoodIn wsX10_ranked (va_wsS RX10 300 yX10_isTold wsX10_isTold) := goodIn_app (goodIn_of _ (by decide +kernel)) ggX10_ranked_X10_isTold
set_option maxRecDepth 20000 in
theorem ggX10_ranked_X1_copy : GoodIn wsX10_ranked wsX1_copy := goodIn_r _ [27, 14, 19, 28, 29, 30, 31, 32, 33, 197, 198, 199, 200, 201] rfl rfl
set_option maxRecDepth 20000 in
theorem gX10_ranked_X1_copy : GoodIn wsX10_ranked (wsV RX10 134 RX1 yX1_copy wsX1_copy) := goodIn_app (goodIn_of _ (by decide +kernel)) ggX10_ranked_X1_copy
set_option maxRecDepth 20000 in
theorem ggX10_ranked_X3_start : GoodIn wsX10_ranked wsX3_start := goodIn_r _ [38, 39, 40, 41, 42, 37, 43, 44, 45, 46, 47, 48, 49, 50, 51, 202, 203, 204] rfl rfl
set_option maxRecDepth 20000 in
theorem gX10_ranked_X3_start : GoodIn wsX10_ranked (wsV RX10 180 RX3 yX3_start wsX3_start) := goodIn_app (goodIn_of _ (by decide +kernel)) ggX10_ranked_X3_start
set_option maxRecDepth 20000 in
theorem ggX10_ranked_X1_put : GoodIn wsX10_ranked wsX1_put := goodIn_r _ [55, 28, 56, 33, 57, 197, 198, 199, 200, 201, 202, 203, 204] rfl rfl
set_option maxRecDepth 20000 in
theorem gX10_ranked_X1_put : GoodIn wsX10_ranked (wsV RX10 184 RX1 yX1_put wsX1_put) := goodIn_app (goodIn_of _ (by decide +kernel)) ggX10_ranked_X1_put
set_option maxRecDepth 20000 in
theorem ggX10_ranked_X7_run : GoodIn wsX10_ranked wsX7_run := goodIn_r _ [62, 63, 64, 65, 66, 67, 68, 69, 70, 71, 72, 73, 74, 75, 25, 26, 12, 27, 14, 19, 28, 29, 30, 31, 32, 33, 76, 77, 78, 79, 80, 81, 82, 61, 83, 84, 85, 86, 87, 88, 89, 90, 91, 92, 93, 94, 95, 96, 97, 98, 99, 100, 101, 102, 103, 104, 105, 106, 107, 108, 109, 110, 111, 112, 113, 114, 115, 116, 117, 118, 119, 120, 121, 122, 123, 124, 125, 126, 127, 128, 129, 130, 131, 132, 133, 134, 135, 136, 137, 37, 138, 39, 44, 45, 139, 140, 141, 142, 143, 144, 40, 41, 42, 43, 46, 47, 48, 49, 50, 51, 145, 146, 147, 148, 149, 150, 151, 152, 153, 154, 155, 156, 157, 158, 159, 160, 161, 162, 163, 164, 165, 53, 54, 55, 56, 57, 183, 184, 185, 186, 187, 188, 189, 190, 191, 192, 193, 194, 195, 196, 197, 198, 199, 200, 201, 202, 203, 204] rfl rfl
set_option maxRecDepth 20000 in
theorem gX10_ranked_X7_run : GoodIn wsX10_ranked (wsV RX10 166 RX7 yX7_run wsX7_run) := goodIn_app (goodIn_of _ (by decide +kernel)) ggX10_ranked_X7_run
theorem dX10_ranked_0 : decode cX10_ranked 0 = .ok (.aload_n 0, 1) := by decide +kernel
theorem dX10_ranked_1 : decode cX10_ranked 1 = .ok (.getfield 12, 3) := by decide +kernel
theorem dX10_ranked_4 : decode cX10_ranked 4 = .ok (.getfield 131, 3) := by decide +kernel
theorem dX10_ranked_7 : decode cX10_ranked 7 = .ok (.astore 5, 2) := by decide +kernel
theorem dX10_ranked_9 : decode cX10_ranked 9 = .ok (.aload 5, 2) := by decide +kernel
theorem dX10_ranked_11 : decode cX10_ranked 11 = .ok (.iload_n 1, 1) := by decide +kernel
theorem dX10_ranked_12 : decode cX10_ranked 12 = .ok (.invokevirtual 218, 3) := by decide +kernel
theorem dX10_ranked_15 : decode cX10_ranked 15 = .ok (.ifCond .eq 21, 3) := by decide +kernel
theorem dX10_ranked_18 : decode cX10_ranked 18 = .ok (.aload 5, 2) := by decide +kernel
theorem dX10_ranked_20 : decode cX10_ranked 20 = .ok (.iload_n 2, 1) := by decide +kernel
theorem dX10_ranked_21 : decode cX10_ranked 21 = .ok (.invokevirtual 268, 3) := by decide +kernel
theorem dX10_ranked_24 : decode cX10_ranked 24 = .ok (.ifCond .eq 12, 3) := by decide +kernel
theorem dX10_ranked_27 : decode cX10_ranked 27 = .ok (.iload_n 3, 1) := by decide +kernel
theorem dX10_ranked_28 : decode cX10_ranked 28 = .ok (.iload 4, 2) := by decide +kernel
theorem dX10_ranked_30 : decode cX10_ranked 30 = .ok (.invokestatic 300, 3) := by decide +kernel
theorem dX10_ranked_33 : decode cX10_ranked 33 = .ok (.ifCond .ne 6, 3) := by decide +kernel
theorem dX10_ranked_36 : decode cX10_ranked 36 = .ok (.ldc 224, 2) := by decide +kernel
theorem dX10_ranked_38 : decode cX10_ranked 38 = .ok (.ireturn, 1) := by decide +kernel
theorem dX10_ranked_39 : decode cX10_ranked 39 = .ok (.aload_n 0, 1) := by decide +kernel
theorem dX10_ranked_40 : decode cX10_ranked 40 = .ok (.getfield 62, 3) := by decide +kernel
theorem dX10_ranked_43 : decode cX10_ranked 43 = .ok (.aload 5, 2) := by decide +kernel
theorem dX10_ranked_45 : decode cX10_ranked 45 = .ok (.invokevirtual 134, 3) := by decide +kernel
theorem dX10_ranked_48 : decode cX10_ranked 48 = .ok (.aload_n 0, 1) := by decide +kernel
theorem dX10_ranked_49 : decode cX10_ranked 49 = .ok (.getfield 68, 3) := by decide +kernel
theorem dX10_ranked_52 : decode cX10_ranked 52 = .ok (.iload_n 3, 1) := by decide +kernel
theorem dX10_ranked_53 : decode cX10_ranked 53 = .ok (.i2l, 1) := by decide +kernel
theorem dX10_ranked_54 : decode cX10_ranked 54 = .ok (.iload 4, 2) := by decide +kernel
theorem dX10_ranked_56 : decode cX10_ranked 56 = .ok (.i2l, 1) := by decide +kernel
theorem dX10_ranked_57 : decode cX10_ranked 57 = .ok (.invokevirtual 180, 3) := by decide +kernel
theorem dX10_ranked_60 : decode cX10_ranked 60 = .ok (.aload_n 0, 1) := by decide +kernel
theorem dX10_ranked_61 : decode cX10_ranked 61 = .ok (.getfield 62, 3) := by decide +kernel
theorem dX10_ranked_64 : decode cX10_ranked 64 = .ok (.iload_n 1, 1) := by decide +kernel
theorem dX10_ranked_65 : decode cX10_ranked 65 = .ok (.iload_n 2, 1) := by decide +kernel
theorem dX10_ranked_66 : decode cX10_ranked 66 = .ok (.aload_n 0, 1) := by decide +kernel
theorem dX10_ranked_67 : decode cX10_ranked 67 = .ok (.getfield 68, 3) := by decide +kernel
theorem dX10_ranked_70 : decode cX10_ranked 70 = .ok (.invokevirtual 184, 3) := by decide +kernel
theorem dX10_ranked_73 : decode cX10_ranked 73 = .ok (.aload_n 0, 1) := by decide +kernel
theorem dX10_ranked_74 : decode cX10_ranked 74 = .ok (.getfield 37, 3) := by decide +kernel
theorem dX10_ranked_77 : decode cX10_ranked 77 = .ok (.aload_n 0, 1) := by decide +kernel
theorem dX10_ranked_78 : decode cX10_ranked 78 = .ok (.getfield 62, 3) := by decide +kernel
theorem dX10_ranked_81 : decode cX10_ranked 81 = .ok (.iconst 1, 1) := by decide +kernel
theorem dX10_ranked_82 : decode cX10_ranked 82 = .ok (.invokevirtual 166, 3) := by decide +kernel
theorem dX10_ranked_85 : decode cX10_ranked 85 = .ok (.aload_n 0, 1) := by decide +kernel
theorem dX10_ranked_86 : decode cX10_ranked 86 = .ok (.getfield 37, 3) := by decide +kernel
theorem dX10_ranked_89 : decode cX10_ranked 89 = .ok (.getfield 248, 3) := by decide +kernel
theorem dX10_ranked_92 : decode cX10_ranked 92 = .ok (.ifCond .eq 8, 3) := by decide +kernel
theorem dX10_ranked_95 : decode cX10_ranked 95 = .ok (.ldc 224, 2) := by decide +kernel
theorem dX10_ranked_97 : decode cX10_ranked 97 = .ok (.goto 10, 3) := by decide +kernel
theorem dX10_ranked_100 : decode cX10_ranked 100 = .ok (.aload_n 0, 1) := by decide +kernel
theorem dX10_ranked_101 : decode cX10_ranked 101 = .ok (.getfield 37, 3) := by decide +kernel
theorem dX10_ranked_104 : decode cX10_ranked 104 = .ok (.getfield 252, 3) := by decide +kernel
theorem dX10_ranked_107 : decode cX10_ranked 107 = .ok (.ireturn, 1) := by decide +kernel
set_option maxRecDepth 20000 in
theorem ggX10_residue_X1_hasRow : GoodIn wsX10_residue wsX1_hasRow := goodIn_r _ [11, 12, 244, 245, 246, 247, 248] rfl rfl
set_option maxRecDepth 20000 in
theorem gX10_residue_X1_hasRow : GoodIn wsX10_residue (wsV RX10 218 RX1 yX1_hasRow wsX1_hasRow) := goodIn_app (goodIn_of _ (by decide +kernel)) ggX10_residue_X1_hasRow
set_option maxRecDepth 20000 in
theorem ggX10_residue_X7_run : GoodIn wsX10_residue wsX7_run := goodIn_r _ [17, 18, 19, 20, 21, 22, 23, 24, 25, 26, 27, 28, 29, 30, 31, 32, 10, 33, 12, 34, 35, 36, 37, 38, 39, 40, 41, 42, 43, 44, 45, 46, 47, 16, 48, 49, 50, 51, 52, 53, 54, 55, 56, 57, 58, 59, 60, 61, 62, 63, 64, 65, 66, 67, 68, 69, 70, 71, 72, 73, 74, 75, 76, 77, 78, 79, 80, 81, 82, 83, 84, 85, 86, 87, 88, 89, 90, 91, 92, 93, 94, 95, 96, 97, 98, 99, 100, 101, 102, 103, 104, 105, 106, 107, 108, 109, 110, 111, 112, 113, 114, 115, 116, 117, 118, 119, 120, 121, 122, 123, 124, 125, 126, 127, 128, 129, 130, 131, 132, 133, 134, 135, 136, 137, 138, 139, 140, 141, 142, 143, 144, 145, 146, 147, 148, 149, 249, 250, 251, 252, 253, 254, 255, 256, 257, 258, 259, 260, 261, 262, 244, 245, 246, 247, 248, 263, 264, 265] rfl rfl
set_option maxRecDepth 20000 in
theorem gX10_residue_X7_run : GoodIn wsX10_residue (wsV RX10 166 RX7 yX7_run wsX7_run) := goodIn_app (goodIn_of _ (by decide +kernel)) ggX10_residue_X7_run
set_option maxRecDepth 20000 in
theorem ggX10_residue_X7_canBeSolved : GoodIn wsX10_residue wsX7_canBeSolved := goodIn_r _ [153, 154, 155, 156, 16, 157, 20, 158, 18, 49, 22, 23, 82, 83, 84, 10, 85, 12, 74, 55, 56, 57, 35, 249, 250, 251, 252, 253, 254, 255, 256, 257, 258, 259, 260, 261, 262, 244, 245, 246, 247, 248] rfl rfl
set_option maxRecDepth 20000 in
theorem gX10_residue_X7_canBeSolved : GoodIn wsX10_residue (wsV RX10 309 RX7 yX7_canBeSolved wsX7_canBeSolved) := goodIn_app (goodIn_of _ (by decide +kernel)) ggX10_residue_X7_canBeSolved
set_option maxRecDepth 20000 in
theorem ggX10_residue_X9_solveSides : GoodIn wsX10_residue wsX9_solveSides := goodIn_r _ [163, 164, 165, 166, 162, 167, 168, 169, 170, 171, 172, 173, 174, 175, 176, 177, 178, 179, 180, 181, 182, 183, 184, 185, 186, 187, 188, 189, 16, 190, 19, 25, 191, 192, 193, 194, 26, 195, 196, 197, 103, 198, 105, 114, 115, 116, 117, 106, 107, 118, 119, 120, 121, 122, 123, 199, 101, 102, 104, 108, 55, 56, 10, 57, 35, 109, 87, 88, 89, 40, 200, 201, 202, 203, 204, 205, 136, 137, 138, 206, 207, 208, 209, 210, 211, 212, 111, 112, 113, 213, 214, 215, 216, 266, 267, 268, 269, 270, 249, 250, 251, 252, 253, 254, 255, 256, 257, 258, 259, 260, 261, 262, 244, 245, 246, 247, 248, 263, 264, 265] rfl rfl
set_option maxRecDepth 20000 in
theorem gX10_residue_X9_solveSides : GoodIn wsX10_residue (wsV RX10 289 RX9 yX9_solveSides wsX9_solveSides) := goodIn_app (goodIn_of _ (by decide +kernel)) ggX10_residue_X9_solveSides
set_option maxRecDepth 20000 in
theorem ggX10_residue_X9_residueOf : GoodIn wsX10_residue wsX9_residueOf := goodIn_r _ [220, 182, 183, 184, 185, 186, 195, 196, 197, 103, 198, 105, 114, 115, 116, 117, 106, 107, 118, 119, 120, 121, 122, 123, 200, 201, 202, 162, 203, 170, 168, 169, 199, 101, 102, 104, 108, 55, 56, 10, 57, 35, 109, 87, 88, 89, 40, 204, 205, 136, 137, 138, 221, 141, 142, 143, 210, 211, 206, 207, 208, 209, 244, 245, 246, 247, 248, 266, 267, 268, 269, 270, 263, 264, 265] rfl rfl
set_option maxRecDepth 20000 in
theorem gX10_residue_X9_residueOf : GoodIn wsX10_residue (wsV RX10 312 RX9 yX9_residueOf wsX9_residueOf) := goodIn_app (goodIn_of _ (by decide +kernel)) ggX10_residue_X9_residueOf
set_option maxRecDepth 20000 in
theorem ggX10_residue_X3_answer : GoodIn wsX10_residue wsX3_answer := goodIn_r _ [225, 105, 226, 107, 106, 263, 264, 265] rfl rfl
set_option maxRecDepth 20000 in
theorem gX10_residue_X3_answer : GoodIn wsX10_residue (wsV RX10 316 RX3 yX3_answer wsX3_answer) := goodIn_app (goodIn_of _ (by decide +kernel)) ggX10_residue_X3_answer
theorem dX10_residue_0 : decode cX10_residue 0 = .ok (.aload_n 0, 1) := by decide +kernel
theorem dX10_residue_1 : decode cX10_residue 1 = .ok (.getfield 12, 3) := by decide +kernel
theorem dX10_residue_4 : decode cX10_residue 4 = .ok (.getfield 131, 3) := by decide +kernel
theorem dX10_residue_7 : decode cX10_residue 7 = .ok (.astore_n 3, 1) := by decide +kernel
theorem dX10_residue_8 : decode cX10_residue 8 = .ok (.aload_n 3, 1) := by decide +kernel
theorem dX10_residue_9 : decode cX10_residue 9 = .ok (.iload_n 1, 1) := by decide +kernel
theorem dX10_residue_10 : decode cX10_residue 10 = .ok (.invokevirtual 218, 3) := by decide +kernel
theorem dX10_residue_13 : decode cX10_residue 13 = .ok (.ifCond .ne 6, 3) := by decide +kernel
theorem dX10_residue_16 : decode cX10_residue 16 = .ok (.ldc 224, 2) := by decide +kernel
theorem dX10_residue_18 : decode cX10_residue 18 = .ok (.ireturn, 1) := by decide +kernel
theorem dX10_residue_19 : decode cX10_residue 19 = .ok (.aload_n 0, 1) := by decide +kernel
theorem dX10_residue_20 : decode cX10_residue 20 = .ok (.getfield 37, 3) := by decide +kernel
theorem dX10_residue_23 : decode cX10_residue 23 = .ok (.aload_n 3, 1) := by decide +kernel
theorem dX10_residue_24 : decode cX10_residue 24 = .ok (.iconst 1, 1) := by decide +kernel
theorem dX10_residue_25 : decode cX10_residue 25 = .ok (.invokevirtual 166, 3) := by decide +kernel
theorem dX10_residue_28 : decode cX10_residue 28 = .ok (.aload_n 0, 1) := by decide +kernel
theorem dX10_residue_29 : decode cX10_residue 29 = .ok (.getfield 37, 3) := by decide +kernel
theorem dX10_residue_32 : decode cX10_residue 32 = .ok (.invokevirtual 309, 3) := by decide +kernel
theorem dX10_residue_35 : decode cX10_residue 35 = .ok (.ifCond .ne 6, 3) := by decide +kernel
theorem dX10_residue_38 : decode cX10_residue 38 = .ok (.ldc 224, 2) := by decide +kernel
theorem dX10_residue_40 : decode cX10_residue 40 = .ok (.ireturn, 1) := by decide +kernel
theorem dX10_residue_41 : decode cX10_residue 41 = .ok (.aload_n 0, 1) := by decide +kernel
theorem dX10_residue_42 : decode cX10_residue 42 = .ok (.getfield 44, 3) := by decide +kernel
theorem dX10_residue_45 : decode cX10_residue 45 = .ok (.aload_n 0, 1) := by decide +kernel
theorem dX10_residue_46 : decode cX10_residue 46 = .ok (.getfield 37, 3) := by decide +kernel
theorem dX10_residue_49 : decode cX10_residue 49 = .ok (.invokevirtual 289, 3) := by decide +kernel
theorem dX10_residue_52 : decode cX10_residue 52 = .ok (.aload_n 0, 1) := by decide +kernel
theorem dX10_residue_53 : decode cX10_residue 53 = .ok (.getfield 44, 3) := by decide +kernel
theorem dX10_residue_56 : decode cX10_residue 56 = .ok (.aload_n 3, 1) := by decide +kernel
theorem dX10_residue_57 : decode cX10_residue 57 = .ok (.iload_n 1, 1) := by decide +kernel
theorem dX10_residue_58 : decode cX10_residue 58 = .ok (.aload_n 0, 1) := by decide +kernel
theorem dX10_residue_59 : decode cX10_residue 59 = .ok (.getfield 68, 3) := by decide +kernel
theorem dX10_residue_62 : decode cX10_residue 62 = .ok (.invokevirtual 312, 3) := by decide +kernel
theorem dX10_residue_65 : decode cX10_residue 65 = .ok (.aload_n 0, 1) := by decide +kernel
theorem dX10_residue_66 : decode cX10_residue 66 = .ok (.getfield 68, 3) := by decide +kernel
theorem dX10_residue_69 : decode cX10_residue 69 = .ok (.iload_n 2, 1) := by decide +kernel
theorem dX10_residue_70 : decode cX10_residue 70 = .ok (.invokevirtual 316, 3) := by decide +kernel
theorem dX10_residue_73 : decode cX10_residue 73 = .ok (.ireturn, 1) := by decide +kernel
set_option maxRecDepth 20000 in
theorem ggX10_image_X6_init : GoodIn wsX10_image wsX6_init := goodIn_r _ [7, 8, 9, 10, 11, 12, 13, 14, 15, 16, 17, 18, 19, 20, 21, 22, 23, 24, 25, 26, 27, 28, 29, 30, 31, 32, 33, 34, 35, 36, 37, 38, 39, 40, 41, 42, 43, 44, 45, 46, 47, 85, 86, 87, 88, 89, 78, 79, 80, 81, 82, 83, 84, 90, 91, 92, 93, 94] rfl rfl
set_option maxRecDepth 20000 in
theorem gX10_image_X6_init_n11 : GoodIn wsX10_image (wsX6_init) := ggX10_image_X6_init
set_option maxRecDepth 20000 in
theorem ggX10_image_X6_copy : GoodIn wsX10_image wsX6_copy := goodIn_r _ [51, 14, 18, 52, 19, 53, 20, 21, 54, 55, 56, 13, 57, 26, 27, 29, 58, 59, 60, 61, 30, 62, 63, 64, 17, 65, 66, 47, 67, 78, 79, 80, 81, 82, 83, 84, 85, 86, 87, 88, 89, 90, 91] rfl rfl
set_option maxRecDepth 20000 in
theorem gX10_image_X6_copy : GoodIn wsX10_image (wsV RX10 319 RX6 yX6_copy wsX6_copy) := goodIn_app (goodIn_of _ (by decide +kernel)) ggX10_image_X6_copy
theorem dX10_image_0 : decode cX10_image 0 = .ok (.iload_n 1, 1) := by decide +kernel
theorem dX10_image_1 : decode cX10_image 1 = .ok (.ifCond .lt 12, 3) := by decide +kernel
theorem dX10_image_4 : decode cX10_image 4 = .ok (.iload_n 1, 1) := by decide +kernel
theorem dX10_image_5 : decode cX10_image 5 = .ok (.aload_n 0, 1) := by decide +kernel
theorem dX10_image_6 : decode cX10_image 6 = .ok (.getfield 16, 3) := by decide +kernel
theorem dX10_image_9 : decode cX10_image 9 = .ok (.arraylength, 1) := by decide +kernel
theorem dX10_image_10 : decode cX10_image 10 = .ok (.if_icmp .lt 5, 3) := by decide +kernel
theorem dX10_image_13 : decode cX10_image 13 = .ok (.iconst 0, 1) := by decide +kernel
theorem dX10_image_14 : decode cX10_image 14 = .ok (.ireturn, 1) := by decide +kernel
theorem dX10_image_15 : decode cX10_image 15 = .ok (.aload_n 0, 1) := by decide +kernel
theorem dX10_image_16 : decode cX10_image 16 = .ok (.getfield 16, 3) := by decide +kernel
theorem dX10_image_19 : decode cX10_image 19 = .ok (.iload_n 1, 1) := by decide +kernel
theorem dX10_image_20 : decode cX10_image 20 = .ok (.aaload, 1) := by decide +kernel
theorem dX10_image_21 : decode cX10_image 21 = .ok (.astore_n 2, 1) := by decide +kernel
theorem dX10_image_22 : decode cX10_image 22 = .ok (.aload_n 2, 1) := by decide +kernel
theorem dX10_image_23 : decode cX10_image 23 = .ok (.ifnonnull 18, 3) := by decide +kernel
theorem dX10_image_26 : decode cX10_image 26 = .ok (.new 9, 3) := by decide +kernel
theorem dX10_image_29 : decode cX10_image 29 = .ok (.dup, 1) := by decide +kernel
theorem dX10_image_30 : decode cX10_image 30 = .ok (.invokespecial 11, 3) := by decide +kernel
theorem dX10_image_33 : decode cX10_image 33 = .ok (.astore_n 2, 1) := by decide +kernel
theorem dX10_image_34 : decode cX10_image 34 = .ok (.aload_n 0, 1) := by decide +kernel
theorem dX10_image_35 : decode cX10_image 35 = .ok (.getfield 16, 3) := by decide +kernel
theorem dX10_image_38 : decode cX10_image 38 = .ok (.iload_n 1, 1) := by decide +kernel
theorem dX10_image_39 : decode cX10_image 39 = .ok (.aload_n 2, 1) := by decide +kernel
theorem dX10_image_40 : decode cX10_image 40 = .ok (.aastore, 1) := by decide +kernel
theorem dX10_image_41 : decode cX10_image 41 = .ok (.aload_n 2, 1) := by decide +kernel
theorem dX10_image_42 : decode cX10_image 42 = .ok (.aload_n 0, 1) := by decide +kernel
theorem dX10_image_43 : decode cX10_image 43 = .ok (.getfield 12, 3) := by decide +kernel
theorem dX10_image_46 : decode cX10_image 46 = .ok (.invokevirtual 319, 3) := by decide +kernel
theorem dX10_image_49 : decode cX10_image 49 = .ok (.iconst 1, 1) := by decide +kernel
theorem dX10_image_50 : decode cX10_image 50 = .ok (.ireturn, 1) := by decide +kernel
set_option maxRecDepth 20000 in
theorem ggX10_again_X6_copy : GoodIn wsX10_again wsX6_copy := goodIn_r _ [8, 9, 10, 11, 12, 13, 14, 15, 16, 17, 18, 19, 20, 21, 22, 23, 24, 25, 26, 27, 28, 29, 30, 31, 32, 33, 34, 35, 36, 54, 55, 56, 57, 58, 59, 60, 61, 62, 63, 64, 65, 66, 67] rfl rfl
set_option maxRecDepth 20000 in
theorem gX10_again_X6_copy : GoodIn wsX10_again (wsV RX10 319 RX6 yX6_copy wsX6_copy) := goodIn_app (goodIn_of _ (by decide +kernel)) ggX10_again_X6_copy
set_option maxRecDepth 20000 in
theorem ggX10_again_X2_forget : GoodIn wsX10_again wsX2_forget := goodIn_r _ [41, 42, 43, 68, 69, 70] rfl rfl
set_option maxRecDepth 20000 in
theorem gX10_again_X2_forget : GoodIn wsX10_again (wsV RX10 138 RX2 yX2_forget wsX2_forget) := goodIn_app (goodIn_of _ (by decide +kernel)) ggX10_again_X2_forget
theorem dX10_again_0 : decode cX10_again 0 = .ok (.iload_n 1, 1) := by decide +kernel
theorem dX10_again_1 : decode cX10_again 1 = .ok (.ifCond .lt 12, 3) := by decide +kernel
theorem dX10_again_4 : decode cX10_again 4 = .ok (.iload_n 1, 1) := by decide +kernel
theorem dX10_again_5 : decode cX10_again 5 = .ok (.aload_n 0, 1) := by decide +kernel
theorem dX10_again_6 : decode cX10_again 6 = .ok (.getfield 16, 3) := by decide +kernel
theorem dX10_again_9 : decode cX10_again 9 = .ok (.arraylength, 1) := by decide +kernel
theorem dX10_again_10 : decode cX10_again 10 = .ok (.if_icmp .lt 5, 3) := by decide +kernel
theorem dX10_again_13 : decode cX10_again 13 = .ok (.iconst 0, 1) := by decide +kernel
theorem dX10_again_14 : decode cX10_again 14 = .ok (.ireturn, 1) := by decide +kernel
theorem dX10_again_15 : decode cX10_again 15 = .ok (.aload_n 0, 1) := by decide +kernel
theorem dX10_again_16 : decode cX10_again 16 = .ok (.getfield 16, 3) := by decide +kernel
theorem dX10_again_19 : decode cX10_again 19 = .ok (.iload_n 1, 1) := by decide +kernel
theorem dX10_again_20 : decode cX10_again 20 = .ok (.aaload, 1) := by decide +kernel
theorem dX10_again_21 : decode cX10_again 21 = .ok (.astore_n 2, 1) := by decide +kernel
theorem dX10_again_22 : decode cX10_again 22 = .ok (.aload_n 2, 1) := by decide +kernel
theorem dX10_again_23 : decode cX10_again 23 = .ok (.ifnonnull 5, 3) := by decide +kernel
theorem dX10_again_26 : decode cX10_again 26 = .ok (.iconst 0, 1) := by decide +kernel
theorem dX10_again_27 : decode cX10_again 27 = .ok (.ireturn, 1) := by decide +kernel
theorem dX10_again_28 : decode cX10_again 28 = .ok (.aload_n 0, 1) := by decide +kernel
theorem dX10_again_29 : decode cX10_again 29 = .ok (.getfield 12, 3) := by decide +kernel
theorem dX10_again_32 : decode cX10_again 32 = .ok (.aload_n 2, 1) := by decide +kernel
theorem dX10_again_33 : decode cX10_again 33 = .ok (.invokevirtual 319, 3) := by decide +kernel
theorem dX10_again_36 : decode cX10_again 36 = .ok (.aload_n 0, 1) := by decide +kernel
theorem dX10_again_37 : decode cX10_again 37 = .ok (.getfield 23, 3) := by decide +kernel
theorem dX10_again_40 : decode cX10_again 40 = .ok (.invokevirtual 138, 3) := by decide +kernel
theorem dX10_again_43 : decode cX10_again 43 = .ok (.iconst 1, 1) := by decide +kernel
theorem dX10_again_44 : decode cX10_again 44 = .ok (.ireturn, 1) := by decide +kernel
set_option maxRecDepth 20000 in
theorem ggX10_solved_X1_hasColumn : GoodIn wsX10_solved wsX1_hasColumn := goodIn_r _ [8, 9, 229, 230, 231, 232, 233] rfl rfl
set_option maxRecDepth 20000 in
theorem gX10_solved_X1_hasColumn : GoodIn wsX10_solved (wsV RX10 268 RX1 yX1_hasColumn wsX1_hasColumn) := goodIn_app (goodIn_of _ (by decide +kernel)) ggX10_solved_X1_hasColumn
set_option maxRecDepth 20000 in
theorem ggX10_solved_X7_run : GoodIn wsX10_solved wsX7_run := goodIn_r _ [14, 15, 16, 17, 18, 19, 20, 21, 22, 23, 24, 25, 26, 27, 28, 29, 7, 30, 31, 9, 32, 33, 34, 35, 36, 37, 38, 39, 40, 41, 42, 43, 44, 13, 45, 46, 47, 48, 49, 50, 51, 52, 53, 54, 55, 56, 57, 58, 59, 60, 61, 62, 63, 64, 65, 66, 67, 68, 69, 70, 71, 72, 73, 74, 75, 76, 77, 78, 79, 80, 81, 82, 83, 84, 85, 86, 87, 88, 89, 90, 91, 92, 93, 94, 95, 96, 97, 98, 99, 100, 101, 102, 103, 104, 105, 106, 107, 108, 109, 110, 111, 112, 113, 114, 115, 116, 117, 118, 119, 120, 121, 122, 123, 124, 125, 126, 127, 128, 129, 130, 131, 132, 133, 134, 135, 136, 137, 138, 139, 140, 141, 142, 143, 144, 145, 146, 234, 235, 236, 237, 238, 239, 240, 241, 242, 243, 244, 245, 246, 247, 229, 230, 231, 232, 233, 248, 249, 250] rfl rfl
set_option maxRecDepth 20000 in
theorem gX10_solved_X7_run : GoodIn wsX10_solved (wsV RX10 166 RX7 yX7_run wsX7_run) := goodIn_app (goodIn_of _ (by decide +kernel)) ggX10_solved_X7_run
set_option maxRecDepth 20000 in
theorem ggX10_solved_X7_canBeSolved : GoodIn wsX10_solved wsX7_canBeSolved := goodIn_r _ [150, 151, 152, 153, 13, 154, 17, 155, 15, 46, 19, 20, 79, 80, 81, 7, 82, 31, 71, 52, 53, 54, 32, 234, 235, 236, 237, 238, 239, 240, 241, 242, 243, 244, 245, 246, 247, 229, 230, 231, 232, 233] rfl rfl
set_option maxRecDepth 20000 in
theorem gX10_solved_X7_canBeSolved : GoodIn wsX10_solved (wsV RX10 309 RX7 yX7_canBeSolved wsX7_canBeSolved) := goodIn_app (goodIn_of _ (by decide +kernel)) ggX10_solved_X7_canBeSolved
set_option maxRecDepth 20000 in
theorem ggX10_solved_X9_solveSides : GoodIn wsX10_solved wsX9_solveSides := goodIn_r _ [160, 161, 162, 163, 159, 164, 165, 166, 167, 168, 169, 170, 171, 172, 173, 174, 175, 176, 177, 178, 179, 180, 181, 182, 183, 184, 185, 186, 13, 187, 16, 22, 188, 189, 190, 191, 23, 192, 193, 194, 100, 195, 102, 111, 112, 113, 114, 103, 104, 115, 116, 117, 118, 119, 120, 196, 98, 99, 101, 105, 52, 53, 7, 54, 32, 106, 84, 85, 86, 37, 197, 198, 199, 200, 201, 202, 133, 134, 135, 203, 204, 205, 206, 207, 208, 209, 108, 109, 110, 210, 211, 212, 213, 251, 252, 253, 254, 255, 234, 235, 236, 237, 238, 239, 240, 241, 242, 243, 244, 245, 246, 247, 229, 230, 231, 232, 233, 248, 249, 250] rfl rfl
set_option maxRecDepth 20000 in
theorem gX10_solved_X9_solveSides : GoodIn wsX10_solved (wsV RX10 289 RX9 yX9_solveSides wsX9_solveSides) := goodIn_app (goodIn_of _ (by decide +kernel)) ggX10_solved_X9_solveSides
set_option maxRecDepth 20000 in
theorem ggX10_solved_X9_answer : GoodIn wsX10_solved wsX9_answer := goodIn_r _ [217, 167, 218, 166, 165, 251, 252, 253, 254, 255] rfl rfl
set_option maxRecDepth 20000 in
theorem gX10_solved_X9_answer : GoodIn wsX10_solved (wsV RX10 275 RX9 yX9_answer wsX9_answer) := goodIn_app (goodIn_of _ (by decide +kernel)) ggX10_solved_X9_answer
theorem dX10_solved_0 : decode cX10_solved 0 = .ok (.aload_n 1, 1) := by decide +kernel
theorem dX10_solved_1 : decode cX10_solved 1 = .ok (.iload_n 2, 1) := by decide +kernel
theorem dX10_solved_2 : decode cX10_solved 2 = .ok (.invokevirtual 268, 3) := by decide +kernel
theorem dX10_solved_5 : decode cX10_solved 5 = .ok (.ifCond .ne 6, 3) := by decide +kernel
theorem dX10_solved_8 : decode cX10_solved 8 = .ok (.ldc 224, 2) := by decide +kernel
theorem dX10_solved_10 : decode cX10_solved 10 = .ok (.ireturn, 1) := by decide +kernel
theorem dX10_solved_11 : decode cX10_solved 11 = .ok (.aload_n 0, 1) := by decide +kernel
theorem dX10_solved_12 : decode cX10_solved 12 = .ok (.getfield 37, 3) := by decide +kernel
theorem dX10_solved_15 : decode cX10_solved 15 = .ok (.aload_n 1, 1) := by decide +kernel
theorem dX10_solved_16 : decode cX10_solved 16 = .ok (.iconst 1, 1) := by decide +kernel
theorem dX10_solved_17 : decode cX10_solved 17 = .ok (.invokevirtual 166, 3) := by decide +kernel
theorem dX10_solved_20 : decode cX10_solved 20 = .ok (.aload_n 0, 1) := by decide +kernel
theorem dX10_solved_21 : decode cX10_solved 21 = .ok (.getfield 37, 3) := by decide +kernel
theorem dX10_solved_24 : decode cX10_solved 24 = .ok (.invokevirtual 309, 3) := by decide +kernel
theorem dX10_solved_27 : decode cX10_solved 27 = .ok (.ifCond .ne 6, 3) := by decide +kernel
theorem dX10_solved_30 : decode cX10_solved 30 = .ok (.ldc 224, 2) := by decide +kernel
theorem dX10_solved_32 : decode cX10_solved 32 = .ok (.ireturn, 1) := by decide +kernel
theorem dX10_solved_33 : decode cX10_solved 33 = .ok (.aload_n 0, 1) := by decide +kernel
theorem dX10_solved_34 : decode cX10_solved 34 = .ok (.getfield 44, 3) := by decide +kernel
theorem dX10_solved_37 : decode cX10_solved 37 = .ok (.aload_n 0, 1) := by decide +kernel
theorem dX10_solved_38 : decode cX10_solved 38 = .ok (.getfield 37, 3) := by decide +kernel
theorem dX10_solved_41 : decode cX10_solved 41 = .ok (.invokevirtual 289, 3) := by decide +kernel
theorem dX10_solved_44 : decode cX10_solved 44 = .ok (.aload_n 0, 1) := by decide +kernel
theorem dX10_solved_45 : decode cX10_solved 45 = .ok (.getfield 44, 3) := by decide +kernel
theorem dX10_solved_48 : decode cX10_solved 48 = .ok (.iload_n 2, 1) := by decide +kernel
theorem dX10_solved_49 : decode cX10_solved 49 = .ok (.iload_n 3, 1) := by decide +kernel
theorem dX10_solved_50 : decode cX10_solved 50 = .ok (.invokevirtual 275, 3) := by decide +kernel
theorem dX10_solved_53 : decode cX10_solved 53 = .ok (.ireturn, 1) := by decide +kernel
set_option maxRecDepth 20000 in
theorem ggX10_determinantOf_X1_isSquare : GoodIn wsX10_determinantOf wsX1_isSquare := goodIn_r _ [9, 10, 11, 195, 196, 197, 198, 199] rfl rfl
set_option maxRecDepth 20000 in
theorem gX10_determinantOf_X1_isSquare : GoodIn wsX10_determinantOf (wsV RX10 283 RX1 yX1_isSquare wsX1_isSquare) := goodIn_app (goodIn_of _ (by decide +kernel)) ggX10_determinantOf_X1_isSquare
set_option maxRecDepth 20000 in
theorem ggX10_determinantOf_X7_run : GoodIn wsX10_determinantOf wsX7_run := goodIn_r _ [16, 17, 18, 19, 20, 21, 22, 23, 24, 25, 26, 27, 28, 29, 30, 31, 8, 32, 10, 11, 33, 34, 35, 36, 37, 38, 39, 40, 41, 42, 43, 44, 45, 15, 46, 47, 48, 49, 50, 51, 52, 53, 54, 55, 56, 57, 58, 59, 60, 61, 62, 63, 64, 65, 66, 67, 68, 69, 70, 71, 72, 73, 74, 75, 76, 77, 78, 79, 80, 81, 82, 83, 84, 85, 86, 87, 88, 89, 90, 91, 92, 93, 94, 95, 96, 97, 98, 99, 100, 101, 102, 103, 104, 105, 106, 107, 108, 109, 110, 111, 112, 113, 114, 115, 116, 117, 118, 119, 120, 121, 122, 123, 124, 125, 126, 127, 128, 129, 130, 131, 132, 133, 134, 135, 136, 137, 138, 139, 140, 141, 142, 143, 144, 145, 146, 147, 181, 182, 183, 184, 185, 186, 187, 188, 189, 190, 191, 192, 193, 194, 195, 196, 197, 198, 199, 200, 201, 202] rfl rfl
set_option maxRecDepth 20000 in
theorem gX10_determinantOf_X7_run : GoodIn wsX10_determinantOf (wsV RX10 166 RX7 yX7_run wsX7_run) := goodIn_app (goodIn_of _ (by decide +kernel)) ggX10_determinantOf_X7_run
set_option maxRecDepth 20000 in
theorem ggX10_determinantOf_X7_multiplyPivots : GoodIn wsX10_determinantOf wsX7_multiplyPivots := goodIn_r _ [151, 18, 17, 20, 152, 153, 154, 101, 155, 103, 112, 113, 114, 115, 104, 105, 116, 117, 118, 119, 120, 121, 156, 157, 158, 15, 159, 24, 160, 161, 162, 163, 25, 52, 53, 54, 8, 55, 33, 84, 85, 86, 87, 38, 164, 134, 135, 136, 122, 123, 124, 125, 181, 182, 183, 184, 185, 186, 187, 188, 189, 190, 191, 192, 193, 194, 195, 196, 197, 198, 199, 200, 201, 202] rfl rfl
set_option maxRecDepth 20000 in
theorem gX10_determinantOf_X7_multiplyPivots : GoodIn wsX10_determinantOf (wsV RX10 322 RX7 yX7_multiplyPivots wsX7_multiplyPivots) := goodIn_app (goodIn_of _ (by decide +kernel)) ggX10_determinantOf_X7_multiplyPivots
set_option maxRecDepth 20000 in
theorem ggX10_determinantOf_X3_negate : GoodIn wsX10_determinantOf wsX3_negate := goodIn_r _ [125, 104, 200, 201, 202] rfl rfl
set_option maxRecDepth 20000 in
theorem gX10_determinantOf_X3_negate : GoodIn wsX10_determinantOf (wsV RX10 326 RX3 yX3_negate wsX3_negate) := goodIn_app (goodIn_of _ (by decide +kernel)) ggX10_determinantOf_X3_negate
set_option maxRecDepth 20000 in
theorem ggX10_determinantOf_X3_answer : GoodIn wsX10_determinantOf wsX3_answer := goodIn_r _ [169, 103, 170, 105, 104, 200, 201, 202] rfl rfl
set_option maxRecDepth 20000 in
theorem gX10_determinantOf_X3_answer : GoodIn wsX10_determinantOf (wsV RX10 316 RX3 yX3_answer wsX3_answer) := goodIn_app (goodIn_of _ (by decide +kernel)) ggX10_determinantOf_X3_answer
theorem dX10_determinantOf_0 : decode cX10_determinantOf 0 = .ok (.aload_n 1, 1) := by decide +kernel
theorem dX10_determinantOf_1 : decode cX10_determinantOf 1 = .ok (.invokevirtual 283, 3) := by decide +kernel
theorem dX10_determinantOf_4 : decode cX10_determinantOf 4 = .ok (.ifCond .ne 6, 3) := by decide +kernel
theorem dX10_determinantOf_7 : decode cX10_determinantOf 7 = .ok (.ldc 224, 2) := by decide +kernel
theorem dX10_determinantOf_9 : decode cX10_determinantOf 9 = .ok (.ireturn, 1) := by decide +kernel
theorem dX10_determinantOf_10 : decode cX10_determinantOf 10 = .ok (.aload_n 0, 1) := by decide +kernel
theorem dX10_determinantOf_11 : decode cX10_determinantOf 11 = .ok (.getfield 37, 3) := by decide +kernel
theorem dX10_determinantOf_14 : decode cX10_determinantOf 14 = .ok (.aload_n 1, 1) := by decide +kernel
theorem dX10_determinantOf_15 : decode cX10_determinantOf 15 = .ok (.iconst 1, 1) := by decide +kernel
theorem dX10_determinantOf_16 : decode cX10_determinantOf 16 = .ok (.invokevirtual 166, 3) := by decide +kernel
theorem dX10_determinantOf_19 : decode cX10_determinantOf 19 = .ok (.aload_n 0, 1) := by decide +kernel
theorem dX10_determinantOf_20 : decode cX10_determinantOf 20 = .ok (.getfield 37, 3) := by decide +kernel
theorem dX10_determinantOf_23 : decode cX10_determinantOf 23 = .ok (.getfield 248, 3) := by decide +kernel
theorem dX10_determinantOf_26 : decode cX10_determinantOf 26 = .ok (.ifCond .eq 6, 3) := by decide +kernel
theorem dX10_determinantOf_29 : decode cX10_determinantOf 29 = .ok (.ldc 224, 2) := by decide +kernel
theorem dX10_determinantOf_31 : decode cX10_determinantOf 31 = .ok (.ireturn, 1) := by decide +kernel
theorem dX10_determinantOf_32 : decode cX10_determinantOf 32 = .ok (.aload_n 0, 1) := by decide +kernel
theorem dX10_determinantOf_33 : decode cX10_determinantOf 33 = .ok (.getfield 37, 3) := by decide +kernel
theorem dX10_determinantOf_36 : decode cX10_determinantOf 36 = .ok (.aload_n 0, 1) := by decide +kernel
theorem dX10_determinantOf_37 : decode cX10_determinantOf 37 = .ok (.getfield 68, 3) := by decide +kernel
theorem dX10_determinantOf_40 : decode cX10_determinantOf 40 = .ok (.invokevirtual 322, 3) := by decide +kernel
theorem dX10_determinantOf_43 : decode cX10_determinantOf 43 = .ok (.iload_n 2, 1) := by decide +kernel
theorem dX10_determinantOf_44 : decode cX10_determinantOf 44 = .ok (.ifCond .eq 10, 3) := by decide +kernel
theorem dX10_determinantOf_47 : decode cX10_determinantOf 47 = .ok (.aload_n 0, 1) := by decide +kernel
theorem dX10_determinantOf_48 : decode cX10_determinantOf 48 = .ok (.getfield 68, 3) := by decide +kernel
theorem dX10_determinantOf_51 : decode cX10_determinantOf 51 = .ok (.invokevirtual 326, 3) := by decide +kernel
theorem dX10_determinantOf_54 : decode cX10_determinantOf 54 = .ok (.aload_n 0, 1) := by decide +kernel
theorem dX10_determinantOf_55 : decode cX10_determinantOf 55 = .ok (.getfield 68, 3) := by decide +kernel
theorem dX10_determinantOf_58 : decode cX10_determinantOf 58 = .ok (.iload_n 3, 1) := by decide +kernel
theorem dX10_determinantOf_59 : decode cX10_determinantOf 59 = .ok (.invokevirtual 316, 3) := by decide +kernel
theorem dX10_determinantOf_62 : decode cX10_determinantOf 62 = .ok (.ireturn, 1) := by decide +kernel
theorem dX10_isRule_0 : decode cX10_isRule 0 = .ok (.iload_n 0, 1) := by decide +kernel
theorem dX10_isRule_1 : decode cX10_isRule 1 = .ok (.ifCond .lt 12, 3) := by decide +kernel
theorem dX10_isRule_4 : decode cX10_isRule 4 = .ok (.iload_n 0, 1) := by decide +kernel
theorem dX10_isRule_5 : decode cX10_isRule 5 = .ok (.iconst 3, 1) := by decide +kernel
theorem dX10_isRule_6 : decode cX10_isRule 6 = .ok (.if_icmp .ge 7, 3) := by decide +kernel
theorem dX10_isRule_9 : decode cX10_isRule 9 = .ok (.iconst 1, 1) := by decide +kernel
theorem dX10_isRule_10 : decode cX10_isRule 10 = .ok (.goto 4, 3) := by decide +kernel
theorem dX10_isRule_13 : decode cX10_isRule 13 = .ok (.iconst 0, 1) := by decide +kernel
theorem dX10_isRule_14 : decode cX10_isRule 14 = .ok (.ireturn, 1) := by decide +kernel
theorem dX10_isTold_0 : decode cX10_isTold 0 = .ok (.iload_n 0, 1) := by decide +kernel
theorem dX10_isTold_1 : decode cX10_isTold 1 = .ok (.sipush (-999), 3) := by decide +kernel
theorem dX10_isTold_4 : decode cX10_isTold 4 = .ok (.if_icmp .lt 25, 3) := by decide +kernel
theorem dX10_isTold_7 : decode cX10_isTold 7 = .ok (.iload_n 0, 1) := by decide +kernel
theorem dX10_isTold_8 : decode cX10_isTold 8 = .ok (.sipush 999, 3) := by decide +kernel
theorem dX10_isTold_11 : decode cX10_isTold 11 = .ok (.if_icmp .gt 18, 3) := by decide +kernel
theorem dX10_isTold_14 : decode cX10_isTold 14 = .ok (.iload_n 1, 1) := by decide +kernel
theorem dX10_isTold_15 : decode cX10_isTold 15 = .ok (.iconst 1, 1) := by decide +kernel
theorem dX10_isTold_16 : decode cX10_isTold 16 = .ok (.if_icmp .lt 13, 3) := by decide +kernel
theorem dX10_isTold_19 : decode cX10_isTold 19 = .ok (.iload_n 1, 1) := by decide +kernel
