theorem tin_1 {w : Cond} (h : w ∈ tables_1_1) : w ∈ lw_tbl := List.mem_append_right _ (List.mem_append_left _ h)
theorem tin_2 {w : Cond} (h : w ∈ tables_1_2) : w ∈ lw_tbl := List.mem_append_right _ (List.mem_append_right _ (List.mem_append_left _ h))
theorem tin_3 {w : Cond} (h : w ∈ tables_1_3) : w ∈ lw_tbl := List.mem_append_right _ (List.mem_append_right _ (List.mem_append_right _ (List.mem_append_left _ h)))
theorem tin_4 {w : Cond} (h : w ∈ tables_1_4) : w ∈ lw_tbl := List.mem_append_right _ (List.mem_append_right _ (List.mem_append_right _ (List.mem_append_right _ (List.mem_append_left _ h))))
theorem tin_5 {w : Cond} (h : w ∈ tables_1_5) : w ∈ lw_tbl := List.mem_append_right _ (List.mem_append_right _ (List.mem_append_right _ (List.mem_append_right _ (List.mem_append_right _ (List.mem_append_left _ h)))))
theorem tin_6 {w : Cond} (h : w ∈ tables_1_6) : w ∈ lw_tbl := List.mem_append_right _ (List.mem_append_right _ (List.mem_append_right _ (List.mem_append_right _ (List.mem_append_right _ (List.mem_append_right _ (List.mem_append_left _ h))))))
theorem tin_7 {w : Cond} (h : w ∈ tables_1_7) : w ∈ lw_tbl := List.mem_append_right _ (List.mem_append_right _ (List.mem_append_right _ (List.mem_append_right _ (List.mem_append_right _ (List.mem_append_right _ (List.mem_append_right _ (h)))))))
set_option maxRecDepth 20000 in
theorem tw_0 : Cond.code yX10_init cX10_init 1 none ∈ lw_tbl := tin_1 (List.mem_of_getElem? (i := 25) rfl)
set_option maxRecDepth 20000 in
theorem tw_1 : Cond.methodLink RX10 3 objectInit ∈ lw_tbl := tin_1 (List.mem_of_getElem? (i := 26) rfl)
set_option maxRecDepth 20000 in
theorem tw_2 : Cond.instanceMethod objectInit ∈ lw_tbl := tin_1 (List.mem_of_getElem? (i := 27) rfl)
set_option maxRecDepth 20000 in
theorem tw_3 : Cond.code objectInit ⟨#[0xb1]⟩ 1 none ∈ lw_tbl := tin_1 (List.mem_of_getElem? (i := 28) rfl)
set_option maxRecDepth 20000 in
theorem tw_4 : Cond.classLink RX10 9 RX6 ∈ lw_tbl := tin_1 (List.mem_of_getElem? (i := 29) rfl)
set_option maxRecDepth 20000 in
theorem tw_5 : Cond.instantiable RX6 7 ∈ lw_tbl := tin_1 (List.mem_of_getElem? (i := 30) rfl)
set_option maxRecDepth 20000 in
theorem tw_6 : Cond.initialized RX6 ∈ lw_tbl := tin_1 (List.mem_of_getElem? (i := 2) rfl)
set_option maxRecDepth 20000 in
theorem tw_7 : Cond.fieldLink RX10 12 "RowPivots" "now" "LRowPivots$State;" ∈ lw_tbl := tin_2 (List.mem_of_getElem? (i := 105) rfl)
set_option maxRecDepth 20000 in
theorem tw_8 : Cond.fieldLink RX10 16 "RowPivots" "images" "[LRowPivots$State;" ∈ lw_tbl := tin_2 (List.mem_of_getElem? (i := 106) rfl)
set_option maxRecDepth 20000 in
theorem tw_9 : Cond.classLink RX10 20 RX2 ∈ lw_tbl := tin_1 (List.mem_of_getElem? (i := 142) rfl)
set_option maxRecDepth 20000 in
theorem tw_10 : Cond.instantiable RX2 3 ∈ lw_tbl := tin_1 (List.mem_of_getElem? (i := 143) rfl)
set_option maxRecDepth 20000 in
theorem tw_11 : Cond.initialized RX2 ∈ lw_tbl := tin_1 (List.mem_of_getElem? (i := 7) rfl)
set_option maxRecDepth 20000 in
theorem tw_12 : Cond.fieldLink RX10 23 "RowPivots" "past" "LRowPivots$Past;" ∈ lw_tbl := tin_2 (List.mem_of_getElem? (i := 107) rfl)
set_option maxRecDepth 20000 in
theorem tw_13 : Cond.classLink RX10 27 RX0 ∈ lw_tbl := tin_1 (List.mem_of_getElem? (i := 161) rfl)
set_option maxRecDepth 20000 in
theorem tw_14 : Cond.instantiable RX0 4 ∈ lw_tbl := tin_1 (List.mem_of_getElem? (i := 162) rfl)
set_option maxRecDepth 20000 in
theorem tw_15 : Cond.initialized RX0 ∈ lw_tbl := tin_1 (List.mem_of_getElem? (i := 8) rfl)
set_option maxRecDepth 20000 in
theorem tw_16 : Cond.fieldLink RX10 30 "RowPivots" "acts" "LRowPivots$Acts;" ∈ lw_tbl := tin_2 (List.mem_of_getElem? (i := 108) rfl)
set_option maxRecDepth 20000 in
theorem tw_17 : Cond.classLink RX10 34 RX7 ∈ lw_tbl := tin_1 (List.mem_of_getElem? (i := 187) rfl)
set_option maxRecDepth 20000 in
theorem tw_18 : Cond.instantiable RX7 14 ∈ lw_tbl := tin_1 (List.mem_of_getElem? (i := 188) rfl)
set_option maxRecDepth 20000 in
theorem tw_19 : Cond.initialized RX7 ∈ lw_tbl := tin_1 (List.mem_of_getElem? (i := 9) rfl)
set_option maxRecDepth 20000 in
theorem tw_20 : Cond.fieldLink RX10 37 "RowPivots" "sweep" "LRowPivots$Sweep;" ∈ lw_tbl := tin_2 (List.mem_of_getElem? (i := 109) rfl)
set_option maxRecDepth 20000 in
theorem tw_21 : Cond.classLink RX10 41 RX9 ∈ lw_tbl := tin_2 (List.mem_of_getElem? (i := 8) rfl)
set_option maxRecDepth 20000 in
theorem tw_22 : Cond.instantiable RX9 5 ∈ lw_tbl := tin_2 (List.mem_of_getElem? (i := 9) rfl)
set_option maxRecDepth 20000 in
theorem tw_23 : Cond.initialized RX9 ∈ lw_tbl := tin_1 (List.mem_of_getElem? (i := 10) rfl)
set_option maxRecDepth 20000 in
theorem tw_24 : Cond.fieldLink RX10 44 "RowPivots" "values" "LRowPivots$Values;" ∈ lw_tbl := tin_2 (List.mem_of_getElem? (i := 110) rfl)
set_option maxRecDepth 20000 in
theorem tw_25 : Cond.classLink RX10 48 RX4 ∈ lw_tbl := tin_2 (List.mem_of_getElem? (i := 32) rfl)
set_option maxRecDepth 20000 in
theorem tw_26 : Cond.instantiable RX4 10 ∈ lw_tbl := tin_2 (List.mem_of_getElem? (i := 33) rfl)
set_option maxRecDepth 20000 in
theorem tw_27 : Cond.initialized RX4 ∈ lw_tbl := tin_1 (List.mem_of_getElem? (i := 11) rfl)
set_option maxRecDepth 20000 in
theorem tw_28 : Cond.fieldLink RX10 51 "RowPivots" "reader" "LRowPivots$Reader;" ∈ lw_tbl := tin_2 (List.mem_of_getElem? (i := 111) rfl)
set_option maxRecDepth 20000 in
theorem tw_29 : Cond.classLink RX10 55 RX1 ∈ lw_tbl := tin_2 (List.mem_of_getElem? (i := 101) rfl)
set_option maxRecDepth 20000 in
theorem tw_30 : Cond.instantiable RX1 5 ∈ lw_tbl := tin_1 (List.mem_of_getElem? (i := 36) rfl)
set_option maxRecDepth 20000 in
theorem tw_31 : Cond.initialized RX1 ∈ lw_tbl := tin_1 (List.mem_of_getElem? (i := 3) rfl)
set_option maxRecDepth 20000 in
theorem tw_32 : Cond.fieldLink RX10 58 "RowPivots" "told" "LRowPivots$Grid;" ∈ lw_tbl := tin_2 (List.mem_of_getElem? (i := 112) rfl)
set_option maxRecDepth 20000 in
theorem tw_33 : Cond.fieldLink RX10 62 "RowPivots" "trial" "LRowPivots$Grid;" ∈ lw_tbl := tin_2 (List.mem_of_getElem? (i := 113) rfl)
set_option maxRecDepth 20000 in
theorem tw_34 : Cond.classLink RX10 65 RX3 ∈ lw_tbl := tin_2 (List.mem_of_getElem? (i := 103) rfl)
set_option maxRecDepth 20000 in
theorem tw_35 : Cond.instantiable RX3 3 ∈ lw_tbl := tin_1 (List.mem_of_getElem? (i := 42) rfl)
set_option maxRecDepth 20000 in
theorem tw_36 : Cond.initialized RX3 ∈ lw_tbl := tin_1 (List.mem_of_getElem? (i := 4) rfl)
set_option maxRecDepth 20000 in
theorem tw_37 : Cond.fieldLink RX10 68 "RowPivots" "ratio" "LRowPivots$Ratio;" ∈ lw_tbl := tin_2 (List.mem_of_getElem? (i := 114) rfl)
set_option maxRecDepth 20000 in
theorem tw_38 : Cond.instanceMethod yX6_init ∈ lw_tbl := tin_1 (List.mem_of_getElem? (i := 32) rfl)
set_option maxRecDepth 20000 in
theorem tw_39 : Cond.code yX6_init cX6_init 1 none ∈ lw_tbl := tin_1 (List.mem_of_getElem? (i := 33) rfl)
set_option maxRecDepth 20000 in
theorem tw_40 : Cond.methodLink RX6 3 objectInit ∈ lw_tbl := tin_1 (List.mem_of_getElem? (i := 34) rfl)
set_option maxRecDepth 20000 in
theorem tw_41 : Cond.classLink RX6 9 RX1 ∈ lw_tbl := tin_1 (List.mem_of_getElem? (i := 35) rfl)
set_option maxRecDepth 20000 in
theorem tw_42 : Cond.fieldLink RX6 12 "RowPivots$State" "matrix" "LRowPivots$Grid;" ∈ lw_tbl := tin_1 (List.mem_of_getElem? (i := 112) rfl)
set_option maxRecDepth 20000 in
theorem tw_43 : Cond.classLink RX6 18 RX8 ∈ lw_tbl := tin_1 (List.mem_of_getElem? (i := 96) rfl)
set_option maxRecDepth 20000 in
theorem tw_44 : Cond.instantiable RX8 2 ∈ lw_tbl := tin_1 (List.mem_of_getElem? (i := 97) rfl)
set_option maxRecDepth 20000 in
theorem tw_45 : Cond.initialized RX8 ∈ lw_tbl := tin_1 (List.mem_of_getElem? (i := 6) rfl)
set_option maxRecDepth 20000 in
theorem tw_46 : Cond.fieldLink RX6 21 "RowPivots$State" "tape" "LRowPivots$Tape;" ∈ lw_tbl := tin_1 (List.mem_of_getElem? (i := 114) rfl)
set_option maxRecDepth 20000 in
theorem tw_47 : Cond.fieldLink RX6 25 "RowPivots$State" "faultPlace" "I" ∈ lw_tbl := tin_1 (List.mem_of_getElem? (i := 118) rfl)
set_option maxRecDepth 20000 in
theorem tw_48 : Cond.fieldLink RX6 29 "RowPivots$State" "longRow" "I" ∈ lw_tbl := tin_1 (List.mem_of_getElem? (i := 122) rfl)
set_option maxRecDepth 20000 in
theorem tw_49 : Cond.fieldLink RX6 32 "RowPivots$State" "longColumn" "I" ∈ lw_tbl := tin_1 (List.mem_of_getElem? (i := 124) rfl)
set_option maxRecDepth 20000 in
theorem tw_50 : Cond.methodLink RX6 11 yX1_init ∈ lw_tbl := tin_1 (List.mem_of_getElem? (i := 37) rfl)
set_option maxRecDepth 20000 in
theorem tw_51 : Cond.instanceMethod yX1_init ∈ lw_tbl := tin_1 (List.mem_of_getElem? (i := 38) rfl)
set_option maxRecDepth 20000 in
theorem tw_52 : Cond.code yX1_init cX1_init 1 none ∈ lw_tbl := tin_1 (List.mem_of_getElem? (i := 39) rfl)
set_option maxRecDepth 20000 in
theorem tw_53 : Cond.methodLink RX1 3 objectInit ∈ lw_tbl := tin_1 (List.mem_of_getElem? (i := 40) rfl)
set_option maxRecDepth 20000 in
theorem tw_54 : Cond.fieldLink RX1 9 "RowPivots$Grid" "rows" "I" ∈ lw_tbl := tin_1 (List.mem_of_getElem? (i := 74) rfl)
set_option maxRecDepth 20000 in
theorem tw_55 : Cond.fieldLink RX1 15 "RowPivots$Grid" "columns" "I" ∈ lw_tbl := tin_1 (List.mem_of_getElem? (i := 77) rfl)
set_option maxRecDepth 20000 in
theorem tw_56 : Cond.arrayClass .int ∈ lw_tbl := tin_1 (List.mem_of_getElem? (i := 70) rfl)
set_option maxRecDepth 20000 in
theorem tw_57 : Cond.fieldLink RX1 18 "RowPivots$Grid" "upper" "[I" ∈ lw_tbl := tin_1 (List.mem_of_getElem? (i := 82) rfl)
set_option maxRecDepth 20000 in
theorem tw_58 : Cond.fieldLink RX1 22 "RowPivots$Grid" "lower" "[I" ∈ lw_tbl := tin_1 (List.mem_of_getElem? (i := 83) rfl)
set_option maxRecDepth 20000 in
theorem tw_59 : Cond.classLink RX1 25 RX3 ∈ lw_tbl := tin_1 (List.mem_of_getElem? (i := 41) rfl)
set_option maxRecDepth 20000 in
theorem tw_60 : Cond.fieldLink RX1 28 "RowPivots$Grid" "sum" "LRowPivots$Ratio;" ∈ lw_tbl := tin_1 (List.mem_of_getElem? (i := 84) rfl)
set_option maxRecDepth 20000 in
theorem tw_61 : Cond.instanceMethod yX3_init ∈ lw_tbl := tin_1 (List.mem_of_getElem? (i := 44) rfl)
set_option maxRecDepth 20000 in
theorem tw_62 : Cond.code yX3_init cX3_init 1 none ∈ lw_tbl := tin_1 (List.mem_of_getElem? (i := 45) rfl)
set_option maxRecDepth 20000 in
theorem tw_63 : Cond.methodLink RX3 3 objectInit ∈ lw_tbl := tin_1 (List.mem_of_getElem? (i := 46) rfl)
set_option maxRecDepth 20000 in
theorem tw_64 : Cond.fieldLink RX3 9 "RowPivots$Ratio" "lower" "J" ∈ lw_tbl := tin_1 (List.mem_of_getElem? (i := 52) rfl)
set_option maxRecDepth 20000 in
theorem tw_65 : Cond.methodLink RX1 32 yJ7_fill_53178 ∈ lw_tbl := tin_1 (List.mem_of_getElem? (i := 71) rfl)
set_option maxRecDepth 20000 in
theorem tw_66 : Cond.static yJ7_fill_53178 ∈ lw_tbl := tin_1 (List.mem_of_getElem? (i := 72) rfl)
set_option maxRecDepth 20000 in
theorem tw_67 : Cond.initialized RJ7 ∈ lw_tbl := tin_1 (List.mem_of_getElem? (i := 5) rfl)
set_option maxRecDepth 20000 in
theorem tw_68 : Cond.code yJ7_fill_53178 cJ7_fill_53178 4 none ∈ lw_tbl := tin_1 (List.mem_of_getElem? (i := 73) rfl)
set_option maxRecDepth 20000 in
theorem tw_69 : Cond.instanceMethod yX8_init ∈ lw_tbl := tin_1 (List.mem_of_getElem? (i := 99) rfl)
set_option maxRecDepth 20000 in
theorem tw_70 : Cond.code yX8_init cX8_init 1 none ∈ lw_tbl := tin_1 (List.mem_of_getElem? (i := 100) rfl)
set_option maxRecDepth 20000 in
theorem tw_71 : Cond.methodLink RX8 3 objectInit ∈ lw_tbl := tin_1 (List.mem_of_getElem? (i := 101) rfl)
set_option maxRecDepth 20000 in
theorem tw_72 : Cond.arrayClass .byte ∈ lw_tbl := tin_1 (List.mem_of_getElem? (i := 111) rfl)
set_option maxRecDepth 20000 in
theorem tw_73 : Cond.fieldLink RX8 9 "RowPivots$Tape" "bytes" "[B" ∈ lw_tbl := tin_1 (List.mem_of_getElem? (i := 105) rfl)
set_option maxRecDepth 20000 in
theorem tw_74 : Cond.instanceMethod yX2_init ∈ lw_tbl := tin_1 (List.mem_of_getElem? (i := 145) rfl)
set_option maxRecDepth 20000 in
theorem tw_75 : Cond.code yX2_init cX2_init 1 none ∈ lw_tbl := tin_1 (List.mem_of_getElem? (i := 146) rfl)
set_option maxRecDepth 20000 in
theorem tw_76 : Cond.methodLink RX2 3 objectInit ∈ lw_tbl := tin_1 (List.mem_of_getElem? (i := 147) rfl)
set_option maxRecDepth 20000 in
theorem tw_77 : Cond.classLink RX2 9 RX1 ∈ lw_tbl := tin_1 (List.mem_of_getElem? (i := 148) rfl)
set_option maxRecDepth 20000 in
theorem tw_78 : Cond.fieldLink RX2 11 "RowPivots$Past" "kept" "[LRowPivots$Grid;" ∈ lw_tbl := tin_1 (List.mem_of_getElem? (i := 152) rfl)
set_option maxRecDepth 20000 in
theorem tw_79 : Cond.instanceMethod yX0_init ∈ lw_tbl := tin_1 (List.mem_of_getElem? (i := 164) rfl)
set_option maxRecDepth 20000 in
theorem tw_80 : Cond.code yX0_init cX0_init 1 none ∈ lw_tbl := tin_1 (List.mem_of_getElem? (i := 165) rfl)
set_option maxRecDepth 20000 in
theorem tw_81 : Cond.methodLink RX0 3 objectInit ∈ lw_tbl := tin_1 (List.mem_of_getElem? (i := 166) rfl)
set_option maxRecDepth 20000 in
theorem tw_82 : Cond.classLink RX0 9 RX1 ∈ lw_tbl := tin_1 (List.mem_of_getElem? (i := 167) rfl)
set_option maxRecDepth 20000 in
theorem tw_83 : Cond.fieldLink RX0 12 "RowPivots$Acts" "next" "LRowPivots$Grid;" ∈ lw_tbl := tin_1 (List.mem_of_getElem? (i := 171) rfl)
set_option maxRecDepth 20000 in
theorem tw_84 : Cond.classLink RX0 18 RX3 ∈ lw_tbl := tin_1 (List.mem_of_getElem? (i := 169) rfl)
set_option maxRecDepth 20000 in
theorem tw_85 : Cond.fieldLink RX0 21 "RowPivots$Acts" "value" "LRowPivots$Ratio;" ∈ lw_tbl := tin_1 (List.mem_of_getElem? (i := 177) rfl)
set_option maxRecDepth 20000 in
theorem tw_86 : Cond.methodLink RX0 11 yX1_init ∈ lw_tbl := tin_1 (List.mem_of_getElem? (i := 168) rfl)
set_option maxRecDepth 20000 in
theorem tw_87 : Cond.instanceMethod yX7_init ∈ lw_tbl := tin_1 (List.mem_of_getElem? (i := 190) rfl)
set_option maxRecDepth 20000 in
theorem tw_88 : Cond.code yX7_init cX7_init 1 none ∈ lw_tbl := tin_1 (List.mem_of_getElem? (i := 191) rfl)
set_option maxRecDepth 20000 in
theorem tw_89 : Cond.methodLink RX7 3 objectInit ∈ lw_tbl := tin_1 (List.mem_of_getElem? (i := 192) rfl)
set_option maxRecDepth 20000 in
theorem tw_90 : Cond.classLink RX7 9 RX1 ∈ lw_tbl := tin_1 (List.mem_of_getElem? (i := 193) rfl)
set_option maxRecDepth 20000 in
theorem tw_91 : Cond.fieldLink RX7 12 "RowPivots$Sweep" "grid" "LRowPivots$Grid;" ∈ lw_tbl := tin_1 (List.mem_of_getElem? (i := 197) rfl)
set_option maxRecDepth 20000 in
theorem tw_92 : Cond.fieldLink RX7 18 "RowPivots$Sweep" "pivotRows" "[I" ∈ lw_tbl := tin_1 (List.mem_of_getElem? (i := 210) rfl)
set_option maxRecDepth 20000 in
theorem tw_93 : Cond.fieldLink RX7 22 "RowPivots$Sweep" "pivotColumns" "[I" ∈ lw_tbl := tin_1 (List.mem_of_getElem? (i := 211) rfl)
set_option maxRecDepth 20000 in
theorem tw_94 : Cond.fieldLink RX7 25 "RowPivots$Sweep" "fills" "[I" ∈ lw_tbl := tin_1 (List.mem_of_getElem? (i := 212) rfl)
set_option maxRecDepth 20000 in
theorem tw_95 : Cond.fieldLink RX7 28 "RowPivots$Sweep" "weights" "[I" ∈ lw_tbl := tin_1 (List.mem_of_getElem? (i := 213) rfl)
set_option maxRecDepth 20000 in
theorem tw_96 : Cond.classLink RX7 31 RX3 ∈ lw_tbl := tin_1 (List.mem_of_getElem? (i := 195) rfl)
set_option maxRecDepth 20000 in
theorem tw_97 : Cond.fieldLink RX7 34 "RowPivots$Sweep" "factor" "LRowPivots$Ratio;" ∈ lw_tbl := tin_1 (List.mem_of_getElem? (i := 214) rfl)
set_option maxRecDepth 20000 in
theorem tw_98 : Cond.methodLink RX7 11 yX1_init ∈ lw_tbl := tin_1 (List.mem_of_getElem? (i := 194) rfl)
set_option maxRecDepth 20000 in
theorem tw_99 : Cond.instanceMethod yX9_init ∈ lw_tbl := tin_2 (List.mem_of_getElem? (i := 11) rfl)
set_option maxRecDepth 20000 in
theorem tw_100 : Cond.code yX9_init cX9_init 1 none ∈ lw_tbl := tin_2 (List.mem_of_getElem? (i := 12) rfl)
set_option maxRecDepth 20000 in
theorem tw_101 : Cond.methodLink RX9 3 objectInit ∈ lw_tbl := tin_2 (List.mem_of_getElem? (i := 13) rfl)
set_option maxRecDepth 20000 in
theorem tw_102 : Cond.fieldLink RX9 9 "RowPivots$Values" "upper" "[I" ∈ lw_tbl := tin_2 (List.mem_of_getElem? (i := 16) rfl)
set_option maxRecDepth 20000 in
theorem tw_103 : Cond.fieldLink RX9 15 "RowPivots$Values" "lower" "[I" ∈ lw_tbl := tin_2 (List.mem_of_getElem? (i := 17) rfl)
set_option maxRecDepth 20000 in
theorem tw_104 : Cond.classLink RX9 18 RX3 ∈ lw_tbl := tin_2 (List.mem_of_getElem? (i := 14) rfl)
set_option maxRecDepth 20000 in
theorem tw_105 : Cond.fieldLink RX9 21 "RowPivots$Values" "rest" "LRowPivots$Ratio;" ∈ lw_tbl := tin_2 (List.mem_of_getElem? (i := 19) rfl)
set_option maxRecDepth 20000 in
theorem tw_106 : Cond.fieldLink RX9 25 "RowPivots$Values" "part" "LRowPivots$Ratio;" ∈ lw_tbl := tin_2 (List.mem_of_getElem? (i := 20) rfl)
set_option maxRecDepth 20000 in
theorem tw_107 : Cond.instanceMethod yX4_init ∈ lw_tbl := tin_2 (List.mem_of_getElem? (i := 35) rfl)
set_option maxRecDepth 20000 in
theorem tw_108 : Cond.code yX4_init cX4_init 1 none ∈ lw_tbl := tin_2 (List.mem_of_getElem? (i := 36) rfl)
set_option maxRecDepth 20000 in
theorem tw_109 : Cond.methodLink RX4 3 objectInit ∈ lw_tbl := tin_2 (List.mem_of_getElem? (i := 37) rfl)
set_option maxRecDepth 20000 in
theorem tw_110 : Cond.classLink RX4 9 RX5 ∈ lw_tbl := tin_2 (List.mem_of_getElem? (i := 38) rfl)
set_option maxRecDepth 20000 in
theorem tw_111 : Cond.instantiable RX5 5 ∈ lw_tbl := tin_2 (List.mem_of_getElem? (i := 39) rfl)
set_option maxRecDepth 20000 in
theorem tw_112 : Cond.initialized RX5 ∈ lw_tbl := tin_1 (List.mem_of_getElem? (i := 12) rfl)
set_option maxRecDepth 20000 in
theorem tw_113 : Cond.fieldLink RX4 12 "RowPivots$Reader" "scanner" "LRowPivots$Scanner;" ∈ lw_tbl := tin_2 (List.mem_of_getElem? (i := 75) rfl)
set_option maxRecDepth 20000 in
theorem tw_114 : Cond.fieldLink RX4 18 "RowPivots$Reader" "uppers" "[I" ∈ lw_tbl := tin_2 (List.mem_of_getElem? (i := 76) rfl)
set_option maxRecDepth 20000 in
theorem tw_115 : Cond.fieldLink RX4 22 "RowPivots$Reader" "lowers" "[I" ∈ lw_tbl := tin_2 (List.mem_of_getElem? (i := 77) rfl)
set_option maxRecDepth 20000 in
theorem tw_116 : Cond.instanceMethod yX5_init ∈ lw_tbl := tin_2 (List.mem_of_getElem? (i := 41) rfl)
set_option maxRecDepth 20000 in
theorem tw_117 : Cond.code yX5_init cX5_init 1 none ∈ lw_tbl := tin_2 (List.mem_of_getElem? (i := 42) rfl)
set_option maxRecDepth 20000 in
theorem tw_118 : Cond.methodLink RX5 3 objectInit ∈ lw_tbl := tin_2 (List.mem_of_getElem? (i := 43) rfl)
set_option maxRecDepth 20000 in
theorem tw_119 : Cond.classLink RX5 9 RX8 ∈ lw_tbl := tin_2 (List.mem_of_getElem? (i := 44) rfl)
set_option maxRecDepth 20000 in
theorem tw_120 : Cond.fieldLink RX5 12 "RowPivots$Scanner" "tape" "LRowPivots$Tape;" ∈ lw_tbl := tin_2 (List.mem_of_getElem? (i := 52) rfl)
set_option maxRecDepth 20000 in
theorem tw_121 : Cond.methodLink RX10 57 yX1_init ∈ lw_tbl := tin_2 (List.mem_of_getElem? (i := 102) rfl)
set_option maxRecDepth 20000 in
theorem tw_122 : Cond.code yX11_init cX11_init 1 none ∈ lw_tbl := tin_5 (List.mem_of_getElem? (i := 38) rfl)
set_option maxRecDepth 20000 in
theorem tw_123 : Cond.methodLink RX11 1 objectInit ∈ lw_tbl := tin_5 (List.mem_of_getElem? (i := 39) rfl)
set_option maxRecDepth 20000 in
theorem tw_124 : Cond.fieldLink RX11 7 "RowPivotsModel" "all" "[I" ∈ lw_tbl := tin_5 (List.mem_of_getElem? (i := 44) rfl)
set_option maxRecDepth 20000 in
theorem tw_125 : Cond.fieldLink RX11 13 "RowPivotsModel" "tape" "[I" ∈ lw_tbl := tin_5 (List.mem_of_getElem? (i := 45) rfl)
set_option maxRecDepth 20000 in
theorem tw_126 : Cond.arrayClass .boolean ∈ lw_tbl := tin_5 (List.mem_of_getElem? (i := 153) rfl)
set_option maxRecDepth 20000 in
theorem tw_127 : Cond.fieldLink RX11 16 "RowPivotsModel" "isImage" "[Z" ∈ lw_tbl := tin_5 (List.mem_of_getElem? (i := 46) rfl)
set_option maxRecDepth 20000 in
theorem tw_128 : Cond.fieldLink RX11 20 "RowPivotsModel" "faultPlace" "I" ∈ lw_tbl := tin_5 (List.mem_of_getElem? (i := 49) rfl)
set_option maxRecDepth 20000 in
theorem tw_129 : Cond.fieldLink RX11 24 "RowPivotsModel" "cu" "[I" ∈ lw_tbl := tin_5 (List.mem_of_getElem? (i := 54) rfl)
set_option maxRecDepth 20000 in
theorem tw_130 : Cond.fieldLink RX11 27 "RowPivotsModel" "cl" "[I" ∈ lw_tbl := tin_5 (List.mem_of_getElem? (i := 55) rfl)
set_option maxRecDepth 20000 in
theorem tw_131 : Cond.fieldLink RX11 30 "RowPivotsModel" "pivotRow" "[I" ∈ lw_tbl := tin_5 (List.mem_of_getElem? (i := 56) rfl)
set_option maxRecDepth 20000 in
theorem tw_132 : Cond.fieldLink RX11 33 "RowPivotsModel" "pivotColumn" "[I" ∈ lw_tbl := tin_5 (List.mem_of_getElem? (i := 57) rfl)
set_option maxRecDepth 20000 in
theorem tw_133 : Cond.fieldLink RX11 36 "RowPivotsModel" "pivotFill" "[I" ∈ lw_tbl := tin_5 (List.mem_of_getElem? (i := 58) rfl)
set_option maxRecDepth 20000 in
theorem tw_134 : Cond.fieldLink RX11 39 "RowPivotsModel" "pivotWeight" "[I" ∈ lw_tbl := tin_5 (List.mem_of_getElem? (i := 59) rfl)
set_option maxRecDepth 20000 in
theorem tw_135 : Cond.fieldLink RX11 42 "RowPivotsModel" "liveRow" "[Z" ∈ lw_tbl := tin_5 (List.mem_of_getElem? (i := 60) rfl)
set_option maxRecDepth 20000 in
theorem tw_136 : Cond.fieldLink RX11 45 "RowPivotsModel" "liveColumn" "[Z" ∈ lw_tbl := tin_5 (List.mem_of_getElem? (i := 61) rfl)
set_option maxRecDepth 20000 in
theorem tw_137 : Cond.arrayClass .long ∈ lw_tbl := tin_5 (List.mem_of_getElem? (i := 154) rfl)
set_option maxRecDepth 20000 in
theorem tw_138 : Cond.fieldLink RX11 48 "RowPivotsModel" "xu" "[J" ∈ lw_tbl := tin_5 (List.mem_of_getElem? (i := 69) rfl)
set_option maxRecDepth 20000 in
theorem tw_139 : Cond.fieldLink RX11 52 "RowPivotsModel" "xl" "[J" ∈ lw_tbl := tin_5 (List.mem_of_getElem? (i := 70) rfl)
set_option maxRecDepth 20000 in
theorem tw_140 : Cond.fieldLink RX11 55 "RowPivotsModel" "isUnknown" "[Z" ∈ lw_tbl := tin_5 (List.mem_of_getElem? (i := 71) rfl)
set_option maxRecDepth 20000 in
theorem tw_141 : Cond.methodLink RX11 58 yX11_firsts ∈ lw_tbl := tin_5 (List.mem_of_getElem? (i := 40) rfl)
set_option maxRecDepth 20000 in
theorem tw_142 : Cond.instanceMethod yX11_firsts ∈ lw_tbl := tin_5 (List.mem_of_getElem? (i := 42) rfl)
set_option maxRecDepth 20000 in
theorem tw_143 : Cond.selects RX11 yX11_firsts yX11_firsts ∈ lw_tbl := List.mem_append_left _ (List.mem_of_getElem? (i := 27) rfl)
set_option maxRecDepth 20000 in
theorem tw_144 : Cond.initialized RX11 ∈ lw_tbl := tin_1 (List.mem_of_getElem? (i := 13) rfl)
set_option maxRecDepth 20000 in
theorem tw_145 : Cond.code yX11_firsts cX11_firsts 5 none ∈ lw_tbl := tin_5 (List.mem_of_getElem? (i := 43) rfl)
set_option maxRecDepth 20000 in
theorem tw_146 : Cond.code yX10_feed cX10_feed 7 (some .int) ∈ lw_tbl := tin_2 (List.mem_of_getElem? (i := 139) rfl)
set_option maxRecDepth 20000 in
theorem tw_147 : Cond.fieldLink RX10 72 "RowPivots$State" "tape" "LRowPivots$Tape;" ∈ lw_tbl := tin_1 (List.mem_of_getElem? (i := 115) rfl)
set_option maxRecDepth 20000 in
theorem tw_148 : Cond.fieldLink RX10 76 "RowPivots$Tape" "length" "I" ∈ lw_tbl := tin_1 (List.mem_of_getElem? (i := 103) rfl)
set_option maxRecDepth 20000 in
theorem tw_149 : Cond.methodLink RX10 82 yX8_append ∈ lw_tbl := tin_2 (List.mem_of_getElem? (i := 140) rfl)
set_option maxRecDepth 20000 in
theorem tw_150 : Cond.instanceMethod yX8_append ∈ lw_tbl := tin_2 (List.mem_of_getElem? (i := 141) rfl)
set_option maxRecDepth 20000 in
theorem tw_151 : Cond.selects RX8 yX8_append yX8_append ∈ lw_tbl := tin_2 (List.mem_of_getElem? (i := 142) rfl)
set_option maxRecDepth 20000 in
theorem tw_152 : Cond.code yX8_append cX8_append 3 none ∈ lw_tbl := tin_2 (List.mem_of_getElem? (i := 143) rfl)
set_option maxRecDepth 20000 in
theorem tw_153 : Cond.fieldLink RX8 15 "RowPivots$Tape" "length" "I" ∈ lw_tbl := tin_1 (List.mem_of_getElem? (i := 102) rfl)
set_option maxRecDepth 20000 in
theorem tw_154 : Cond.methodLink RL 13 yX10_feed ∈ lw_tbl := tin_2 (List.mem_of_getElem? (i := 136) rfl)
set_option maxRecDepth 20000 in
theorem tw_155 : Cond.instanceMethod yX10_feed ∈ lw_tbl := tin_2 (List.mem_of_getElem? (i := 137) rfl)
set_option maxRecDepth 20000 in
theorem tw_156 : Cond.selects RX10 yX10_feed yX10_feed ∈ lw_tbl := tin_2 (List.mem_of_getElem? (i := 138) rfl)
set_option maxRecDepth 20000 in
theorem tw_157 : Cond.initialized RX10 ∈ lw_tbl := tin_1 (List.mem_of_getElem? (i := 1) rfl)
set_option maxRecDepth 20000 in
theorem tw_158 : Cond.code yX11_feed cX11_feed 8 (some .int) ∈ lw_tbl := tin_6 (List.mem_of_getElem? (i := 181) rfl)
set_option maxRecDepth 20000 in
theorem tw_159 : Cond.fieldLink RX11 229 "RowPivotsModel" "taped" "I" ∈ lw_tbl := tin_5 (List.mem_of_getElem? (i := 47) rfl)
set_option maxRecDepth 20000 in
theorem tw_160 : Cond.methodLink RL 17 yX11_feed ∈ lw_tbl := tin_6 (List.mem_of_getElem? (i := 178) rfl)
set_option maxRecDepth 20000 in
theorem tw_161 : Cond.instanceMethod yX11_feed ∈ lw_tbl := tin_6 (List.mem_of_getElem? (i := 179) rfl)
set_option maxRecDepth 20000 in
theorem tw_162 : Cond.selects RX11 yX11_feed yX11_feed ∈ lw_tbl := tin_6 (List.mem_of_getElem? (i := 180) rfl)
set_option maxRecDepth 20000 in
theorem tw_163 : Cond.code yX10_end cX10_end 2 (some .int) ∈ lw_tbl := tin_2 (List.mem_of_getElem? (i := 147) rfl)
set_option maxRecDepth 20000 in
theorem tw_164 : Cond.methodLink RL 18 yX10_end ∈ lw_tbl := tin_2 (List.mem_of_getElem? (i := 144) rfl)
set_option maxRecDepth 20000 in
theorem tw_165 : Cond.instanceMethod yX10_end ∈ lw_tbl := tin_2 (List.mem_of_getElem? (i := 145) rfl)
set_option maxRecDepth 20000 in
theorem tw_166 : Cond.selects RX10 yX10_end yX10_end ∈ lw_tbl := tin_2 (List.mem_of_getElem? (i := 146) rfl)
set_option maxRecDepth 20000 in
theorem tw_167 : Cond.code yX11_end cX11_end 2 (some .int) ∈ lw_tbl := tin_6 (List.mem_of_getElem? (i := 185) rfl)
set_option maxRecDepth 20000 in
theorem tw_168 : Cond.methodLink RX11 85 yX11_isIn ∈ lw_tbl := tin_5 (List.mem_of_getElem? (i := 179) rfl)
set_option maxRecDepth 20000 in
theorem tw_169 : Cond.static yX11_isIn ∈ lw_tbl := tin_5 (List.mem_of_getElem? (i := 180) rfl)
set_option maxRecDepth 20000 in
theorem tw_170 : Cond.code yX11_isIn cX11_isIn 3 (some .boolean) ∈ lw_tbl := tin_5 (List.mem_of_getElem? (i := 181) rfl)
set_option maxRecDepth 20000 in
theorem tw_171 : Cond.methodLink RL 22 yX11_end ∈ lw_tbl := tin_6 (List.mem_of_getElem? (i := 182) rfl)
set_option maxRecDepth 20000 in
theorem tw_172 : Cond.instanceMethod yX11_end ∈ lw_tbl := tin_6 (List.mem_of_getElem? (i := 183) rfl)
set_option maxRecDepth 20000 in
theorem tw_173 : Cond.selects RX11 yX11_end yX11_end ∈ lw_tbl := tin_6 (List.mem_of_getElem? (i := 184) rfl)
set_option maxRecDepth 20000 in
theorem tw_174 : Cond.code yX10_text cX10_text 3 (some .int) ∈ lw_tbl := tin_2 (List.mem_of_getElem? (i := 151) rfl)
set_option maxRecDepth 20000 in
theorem tw_175 : Cond.fieldLink RX10 94 "RowPivots$Reader" "first" "I" ∈ lw_tbl := tin_2 (List.mem_of_getElem? (i := 71) rfl)
set_option maxRecDepth 20000 in
theorem tw_176 : Cond.fieldLink RX10 97 "RowPivots$Reader" "second" "I" ∈ lw_tbl := tin_2 (List.mem_of_getElem? (i := 73) rfl)
set_option maxRecDepth 20000 in
theorem tw_177 : Cond.fieldLink RX10 107 "RowPivots$Grid" "rows" "I" ∈ lw_tbl := tin_1 (List.mem_of_getElem? (i := 76) rfl)
set_option maxRecDepth 20000 in
theorem tw_178 : Cond.fieldLink RX10 110 "RowPivots$Grid" "columns" "I" ∈ lw_tbl := tin_1 (List.mem_of_getElem? (i := 80) rfl)
set_option maxRecDepth 20000 in
theorem tw_179 : Cond.fieldLink RX10 123 "RowPivots$Reader" "fault" "I" ∈ lw_tbl := tin_2 (List.mem_of_getElem? (i := 66) rfl)
set_option maxRecDepth 20000 in
theorem tw_180 : Cond.fieldLink RX10 126 "RowPivots$State" "fault" "I" ∈ lw_tbl := tin_1 (List.mem_of_getElem? (i := 117) rfl)
set_option maxRecDepth 20000 in
theorem tw_181 : Cond.fieldLink RX10 127 "RowPivots$Reader" "faultPlace" "I" ∈ lw_tbl := tin_2 (List.mem_of_getElem? (i := 68) rfl)
set_option maxRecDepth 20000 in
theorem tw_182 : Cond.fieldLink RX10 130 "RowPivots$State" "faultPlace" "I" ∈ lw_tbl := tin_1 (List.mem_of_getElem? (i := 119) rfl)
set_option maxRecDepth 20000 in
theorem tw_183 : Cond.fieldLink RX10 131 "RowPivots$State" "matrix" "LRowPivots$Grid;" ∈ lw_tbl := tin_1 (List.mem_of_getElem? (i := 113) rfl)
set_option maxRecDepth 20000 in
theorem tw_184 : Cond.methodLink RX10 86 yX4_open ∈ lw_tbl := tin_2 (List.mem_of_getElem? (i := 152) rfl)
set_option maxRecDepth 20000 in
theorem tw_185 : Cond.instanceMethod yX4_open ∈ lw_tbl := tin_2 (List.mem_of_getElem? (i := 153) rfl)
set_option maxRecDepth 20000 in
theorem tw_186 : Cond.selects RX4 yX4_open yX4_open ∈ lw_tbl := tin_2 (List.mem_of_getElem? (i := 154) rfl)
set_option maxRecDepth 20000 in
theorem tw_187 : Cond.code yX4_open cX4_open 2 none ∈ lw_tbl := tin_2 (List.mem_of_getElem? (i := 155) rfl)
set_option maxRecDepth 20000 in
theorem tw_188 : Cond.fieldLink RX4 25 "RowPivots$Reader" "fault" "I" ∈ lw_tbl := tin_2 (List.mem_of_getElem? (i := 65) rfl)
set_option maxRecDepth 20000 in
theorem tw_189 : Cond.fieldLink RX4 29 "RowPivots$Reader" "faultPlace" "I" ∈ lw_tbl := tin_2 (List.mem_of_getElem? (i := 67) rfl)
set_option maxRecDepth 20000 in
theorem tw_190 : Cond.methodLink RX4 32 yX5_open ∈ lw_tbl := tin_2 (List.mem_of_getElem? (i := 156) rfl)
set_option maxRecDepth 20000 in
theorem tw_191 : Cond.instanceMethod yX5_open ∈ lw_tbl := tin_2 (List.mem_of_getElem? (i := 157) rfl)
set_option maxRecDepth 20000 in
theorem tw_192 : Cond.selects RX5 yX5_open yX5_open ∈ lw_tbl := tin_2 (List.mem_of_getElem? (i := 158) rfl)
set_option maxRecDepth 20000 in
theorem tw_193 : Cond.code yX5_open cX5_open 2 none ∈ lw_tbl := tin_2 (List.mem_of_getElem? (i := 159) rfl)
set_option maxRecDepth 20000 in
theorem tw_194 : Cond.fieldLink RX5 22 "RowPivots$Scanner" "next" "I" ∈ lw_tbl := tin_2 (List.mem_of_getElem? (i := 53) rfl)
set_option maxRecDepth 20000 in
theorem tw_195 : Cond.methodLink RX5 18 yX8_copy ∈ lw_tbl := tin_2 (List.mem_of_getElem? (i := 160) rfl)
set_option maxRecDepth 20000 in
theorem tw_196 : Cond.instanceMethod yX8_copy ∈ lw_tbl := tin_2 (List.mem_of_getElem? (i := 161) rfl)
set_option maxRecDepth 20000 in
theorem tw_197 : Cond.selects RX8 yX8_copy yX8_copy ∈ lw_tbl := tin_2 (List.mem_of_getElem? (i := 162) rfl)
set_option maxRecDepth 20000 in
theorem tw_198 : Cond.code yX8_copy cX8_copy 2 none ∈ lw_tbl := tin_2 (List.mem_of_getElem? (i := 163) rfl)
set_option maxRecDepth 20000 in
theorem tw_199 : Cond.methodLink RX8 19 arraycopyName ∈ lw_tbl := tin_2 (List.mem_of_getElem? (i := 164) rfl)
set_option maxRecDepth 20000 in
theorem tw_200 : Cond.native arraycopyName ∈ lw_tbl := tin_2 (List.mem_of_getElem? (i := 166) rfl)
set_option maxRecDepth 20000 in
theorem tw_201 : Cond.static arraycopyName ∈ lw_tbl := tin_2 (List.mem_of_getElem? (i := 165) rfl)
set_option maxRecDepth 20000 in
theorem tw_202 : Cond.initialized "java/lang/System" ∈ lw_tbl := tin_1 (List.mem_of_getElem? (i := 14) rfl)
set_option maxRecDepth 20000 in
theorem tw_203 : Cond.methodLink RX5 26 yX5_advance ∈ lw_tbl := tin_2 (List.mem_of_getElem? (i := 167) rfl)
set_option maxRecDepth 20000 in
theorem tw_204 : Cond.instanceMethod yX5_advance ∈ lw_tbl := tin_2 (List.mem_of_getElem? (i := 168) rfl)
set_option maxRecDepth 20000 in
theorem tw_205 : Cond.selects RX5 yX5_advance yX5_advance ∈ lw_tbl := tin_2 (List.mem_of_getElem? (i := 169) rfl)
set_option maxRecDepth 20000 in
theorem tw_206 : Cond.code yX5_advance cX5_advance 2 none ∈ lw_tbl := tin_2 (List.mem_of_getElem? (i := 170) rfl)
set_option maxRecDepth 20000 in
theorem tw_207 : Cond.fieldLink RX5 35 "RowPivots$Tape" "length" "I" ∈ lw_tbl := tin_1 (List.mem_of_getElem? (i := 104) rfl)
set_option maxRecDepth 20000 in
theorem tw_208 : Cond.fieldLink RX5 46 "RowPivots$Scanner" "place" "I" ∈ lw_tbl := tin_2 (List.mem_of_getElem? (i := 48) rfl)
set_option maxRecDepth 20000 in
theorem tw_209 : Cond.fieldLink RX5 32 "RowPivots$Scanner" "value" "I" ∈ lw_tbl := tin_2 (List.mem_of_getElem? (i := 50) rfl)
set_option maxRecDepth 20000 in
theorem tw_210 : Cond.fieldLink RX5 29 "RowPivots$Scanner" "type" "I" ∈ lw_tbl := tin_2 (List.mem_of_getElem? (i := 46) rfl)
set_option maxRecDepth 20000 in
theorem tw_211 : Cond.methodLink RX5 38 yX8_byteAt ∈ lw_tbl := tin_2 (List.mem_of_getElem? (i := 171) rfl)
set_option maxRecDepth 20000 in
theorem tw_212 : Cond.instanceMethod yX8_byteAt ∈ lw_tbl := tin_2 (List.mem_of_getElem? (i := 172) rfl)
set_option maxRecDepth 20000 in
theorem tw_213 : Cond.selects RX8 yX8_byteAt yX8_byteAt ∈ lw_tbl := tin_2 (List.mem_of_getElem? (i := 173) rfl)
set_option maxRecDepth 20000 in
theorem tw_214 : Cond.code yX8_byteAt cX8_byteAt 2 (some .int) ∈ lw_tbl := tin_2 (List.mem_of_getElem? (i := 174) rfl)
set_option maxRecDepth 20000 in
theorem tw_215 : Cond.methodLink RX5 42 yX5_isBlank ∈ lw_tbl := tin_2 (List.mem_of_getElem? (i := 175) rfl)
set_option maxRecDepth 20000 in
theorem tw_216 : Cond.static yX5_isBlank ∈ lw_tbl := tin_2 (List.mem_of_getElem? (i := 176) rfl)
set_option maxRecDepth 20000 in
theorem tw_217 : Cond.code yX5_isBlank cX5_isBlank 1 (some .boolean) ∈ lw_tbl := tin_2 (List.mem_of_getElem? (i := 177) rfl)
set_option maxRecDepth 20000 in
theorem tw_218 : Cond.methodLink RX5 49 yX5_isLetter ∈ lw_tbl := tin_2 (List.mem_of_getElem? (i := 178) rfl)
set_option maxRecDepth 20000 in
theorem tw_219 : Cond.static yX5_isLetter ∈ lw_tbl := tin_2 (List.mem_of_getElem? (i := 179) rfl)
set_option maxRecDepth 20000 in
theorem tw_220 : Cond.code yX5_isLetter cX5_isLetter 1 (some .boolean) ∈ lw_tbl := tin_2 (List.mem_of_getElem? (i := 180) rfl)
set_option maxRecDepth 20000 in
theorem tw_221 : Cond.methodLink RX5 52 yX5_skipLetters ∈ lw_tbl := tin_2 (List.mem_of_getElem? (i := 181) rfl)
set_option maxRecDepth 20000 in
theorem tw_222 : Cond.instanceMethod yX5_skipLetters ∈ lw_tbl := tin_2 (List.mem_of_getElem? (i := 183) rfl)
set_option maxRecDepth 20000 in
theorem tw_223 : Cond.selects RX5 yX5_skipLetters yX5_skipLetters ∈ lw_tbl := List.mem_append_left _ (List.mem_of_getElem? (i := 0) rfl)
set_option maxRecDepth 20000 in
theorem tw_224 : Cond.code yX5_skipLetters cX5_skipLetters 1 none ∈ lw_tbl := tin_2 (List.mem_of_getElem? (i := 184) rfl)
set_option maxRecDepth 20000 in
theorem tw_225 : Cond.methodLink RX5 55 yX5_isDigit ∈ lw_tbl := tin_2 (List.mem_of_getElem? (i := 185) rfl)
set_option maxRecDepth 20000 in
theorem tw_226 : Cond.static yX5_isDigit ∈ lw_tbl := tin_2 (List.mem_of_getElem? (i := 186) rfl)
set_option maxRecDepth 20000 in
theorem tw_227 : Cond.code yX5_isDigit cX5_isDigit 1 (some .boolean) ∈ lw_tbl := tin_2 (List.mem_of_getElem? (i := 187) rfl)
set_option maxRecDepth 20000 in
theorem tw_228 : Cond.methodLink RX5 58 yX5_takeDigits ∈ lw_tbl := tin_2 (List.mem_of_getElem? (i := 188) rfl)
set_option maxRecDepth 20000 in
theorem tw_229 : Cond.instanceMethod yX5_takeDigits ∈ lw_tbl := tin_2 (List.mem_of_getElem? (i := 190) rfl)
set_option maxRecDepth 20000 in
theorem tw_230 : Cond.selects RX5 yX5_takeDigits yX5_takeDigits ∈ lw_tbl := List.mem_append_left _ (List.mem_of_getElem? (i := 1) rfl)
set_option maxRecDepth 20000 in
theorem tw_231 : Cond.code yX5_takeDigits cX5_takeDigits 1 none ∈ lw_tbl := tin_2 (List.mem_of_getElem? (i := 191) rfl)
set_option maxRecDepth 20000 in
theorem tw_232 : Cond.methodLink RX10 90 yX4_readSize ∈ lw_tbl := tin_2 (List.mem_of_getElem? (i := 192) rfl)
set_option maxRecDepth 20000 in
theorem tw_233 : Cond.instanceMethod yX4_readSize ∈ lw_tbl := tin_2 (List.mem_of_getElem? (i := 193) rfl)
set_option maxRecDepth 20000 in
theorem tw_234 : Cond.selects RX4 yX4_readSize yX4_readSize ∈ lw_tbl := tin_2 (List.mem_of_getElem? (i := 194) rfl)
set_option maxRecDepth 20000 in
theorem tw_235 : Cond.code yX4_readSize cX4_readSize 1 (some .boolean) ∈ lw_tbl := tin_2 (List.mem_of_getElem? (i := 195) rfl)
set_option maxRecDepth 20000 in
theorem tw_236 : Cond.fieldLink RX4 43 "RowPivots$Reader" "word" "I" ∈ lw_tbl := tin_2 (List.mem_of_getElem? (i := 69) rfl)
set_option maxRecDepth 20000 in
theorem tw_237 : Cond.fieldLink RX4 46 "RowPivots$Reader" "wordPlace" "I" ∈ lw_tbl := tin_2 (List.mem_of_getElem? (i := 78) rfl)
set_option maxRecDepth 20000 in
theorem tw_238 : Cond.methodLink RX4 39 yX4_takeWord ∈ lw_tbl := tin_2 (List.mem_of_getElem? (i := 196) rfl)
set_option maxRecDepth 20000 in
theorem tw_239 : Cond.instanceMethod yX4_takeWord ∈ lw_tbl := tin_2 (List.mem_of_getElem? (i := 198) rfl)
set_option maxRecDepth 20000 in
theorem tw_240 : Cond.selects RX4 yX4_takeWord yX4_takeWord ∈ lw_tbl := List.mem_append_left _ (List.mem_of_getElem? (i := 2) rfl)
set_option maxRecDepth 20000 in
theorem tw_241 : Cond.code yX4_takeWord cX4_takeWord 1 (some .boolean) ∈ lw_tbl := tin_2 (List.mem_of_getElem? (i := 199) rfl)
set_option maxRecDepth 20000 in
theorem tw_242 : Cond.fieldLink RX4 70 "RowPivots$Scanner" "place" "I" ∈ lw_tbl := tin_2 (List.mem_of_getElem? (i := 49) rfl)
set_option maxRecDepth 20000 in
theorem tw_243 : Cond.fieldLink RX4 36 "RowPivots$Scanner" "type" "I" ∈ lw_tbl := tin_2 (List.mem_of_getElem? (i := 47) rfl)
set_option maxRecDepth 20000 in
theorem tw_244 : Cond.methodLink RX4 49 yX4_fail ∈ lw_tbl := tin_2 (List.mem_of_getElem? (i := 200) rfl)
set_option maxRecDepth 20000 in
theorem tw_245 : Cond.instanceMethod yX4_fail ∈ lw_tbl := tin_2 (List.mem_of_getElem? (i := 202) rfl)
set_option maxRecDepth 20000 in
theorem tw_246 : Cond.selects RX4 yX4_fail yX4_fail ∈ lw_tbl := List.mem_append_left _ (List.mem_of_getElem? (i := 3) rfl)
set_option maxRecDepth 20000 in
theorem tw_247 : Cond.code yX4_fail cX4_fail 3 (some .boolean) ∈ lw_tbl := tin_2 (List.mem_of_getElem? (i := 203) rfl)
set_option maxRecDepth 20000 in
theorem tw_248 : Cond.methodLink RX4 76 yX5_wordAhead ∈ lw_tbl := tin_2 (List.mem_of_getElem? (i := 204) rfl)
set_option maxRecDepth 20000 in
theorem tw_249 : Cond.instanceMethod yX5_wordAhead ∈ lw_tbl := tin_2 (List.mem_of_getElem? (i := 205) rfl)
set_option maxRecDepth 20000 in
theorem tw_250 : Cond.selects RX5 yX5_wordAhead yX5_wordAhead ∈ lw_tbl := tin_2 (List.mem_of_getElem? (i := 206) rfl)
set_option maxRecDepth 20000 in
theorem tw_251 : Cond.code yX5_wordAhead cX5_wordAhead 1 (some .int) ∈ lw_tbl := tin_2 (List.mem_of_getElem? (i := 207) rfl)
set_option maxRecDepth 20000 in
theorem tw_252 : Cond.methodLink RX5 63 yX5_isWord ∈ lw_tbl := tin_2 (List.mem_of_getElem? (i := 209) rfl)
set_option maxRecDepth 20000 in
theorem tw_253 : Cond.instanceMethod yX5_isWord ∈ lw_tbl := tin_2 (List.mem_of_getElem? (i := 211) rfl)
set_option maxRecDepth 20000 in
theorem tw_254 : Cond.selects RX5 yX5_isWord yX5_isWord ∈ lw_tbl := List.mem_append_left _ (List.mem_of_getElem? (i := 4) rfl)
set_option maxRecDepth 20000 in
theorem tw_255 : Cond.code yX5_isWord cX5_isWord 3 (some .boolean) ∈ lw_tbl := tin_2 (List.mem_of_getElem? (i := 212) rfl)
set_option maxRecDepth 20000 in
theorem tw_256 : Cond.methodLink RX5 79 yJ0_length_8abf5 ∈ lw_tbl := tin_2 (List.mem_of_getElem? (i := 213) rfl)
set_option maxRecDepth 20000 in
theorem tw_257 : Cond.instanceMethod yJ0_length_8abf5 ∈ lw_tbl := tin_2 (List.mem_of_getElem? (i := 214) rfl)
set_option maxRecDepth 20000 in
theorem tw_258 : Cond.selects RJ0 yJ0_length_8abf5 yJ0_length_8abf5 ∈ lw_tbl := tin_2 (List.mem_of_getElem? (i := 215) rfl)
set_option maxRecDepth 20000 in
theorem tw_259 : Cond.initialized RJ0 ∈ lw_tbl := tin_1 (List.mem_of_getElem? (i := 15) rfl)
set_option maxRecDepth 20000 in
theorem tw_260 : Cond.code yJ0_length_8abf5 cJ0_length_8abf5 1 (some .int) ∈ lw_tbl := tin_2 (List.mem_of_getElem? (i := 216) rfl)
set_option maxRecDepth 20000 in
theorem tw_261 : Cond.fieldLink RJ0 9 "java/lang/String" "value" "[B" ∈ lw_tbl := tin_7 (List.mem_of_getElem? (i := 32) rfl)
set_option maxRecDepth 20000 in
theorem tw_262 : Cond.methodLink RJ0 335 yJ0_coder_7d493 ∈ lw_tbl := tin_2 (List.mem_of_getElem? (i := 217) rfl)
set_option maxRecDepth 20000 in
theorem tw_263 : Cond.instanceMethod yJ0_coder_7d493 ∈ lw_tbl := tin_2 (List.mem_of_getElem? (i := 218) rfl)
set_option maxRecDepth 20000 in
theorem tw_264 : Cond.selects RJ0 yJ0_coder_7d493 yJ0_coder_7d493 ∈ lw_tbl := tin_2 (List.mem_of_getElem? (i := 219) rfl)
set_option maxRecDepth 20000 in
theorem tw_265 : Cond.code yJ0_coder_7d493 cJ0_coder_7d493 1 (some .byte) ∈ lw_tbl := tin_2 (List.mem_of_getElem? (i := 220) rfl)
set_option maxRecDepth 20000 in
theorem tw_266 : Cond.fieldLink RJ0 38 "java/lang/String" "COMPACT_STRINGS" "Z" ∈ lw_tbl := tin_2 (List.mem_of_getElem? (i := 221) rfl)
set_option maxRecDepth 20000 in
theorem tw_267 : Cond.fieldLink RJ0 15 "java/lang/String" "coder" "B" ∈ lw_tbl := tin_7 (List.mem_of_getElem? (i := 33) rfl)
set_option maxRecDepth 20000 in
theorem tw_268 : Cond.methodLink RX5 84 yJ0_charAt_5068e ∈ lw_tbl := tin_2 (List.mem_of_getElem? (i := 223) rfl)
set_option maxRecDepth 20000 in
theorem tw_269 : Cond.instanceMethod yJ0_charAt_5068e ∈ lw_tbl := tin_2 (List.mem_of_getElem? (i := 224) rfl)
set_option maxRecDepth 20000 in
theorem tw_270 : Cond.selects RJ0 yJ0_charAt_5068e yJ0_charAt_5068e ∈ lw_tbl := tin_2 (List.mem_of_getElem? (i := 225) rfl)
set_option maxRecDepth 20000 in
theorem tw_271 : Cond.code yJ0_charAt_5068e cJ0_charAt_5068e 2 (some .char) ∈ lw_tbl := tin_2 (List.mem_of_getElem? (i := 226) rfl)
set_option maxRecDepth 20000 in
theorem tw_272 : Cond.methodLink RJ0 492 yJ0_isLatin1_aae02 ∈ lw_tbl := tin_2 (List.mem_of_getElem? (i := 227) rfl)
set_option maxRecDepth 20000 in
theorem tw_273 : Cond.instanceMethod yJ0_isLatin1_aae02 ∈ lw_tbl := tin_2 (List.mem_of_getElem? (i := 228) rfl)
set_option maxRecDepth 20000 in
theorem tw_274 : Cond.selects RJ0 yJ0_isLatin1_aae02 yJ0_isLatin1_aae02 ∈ lw_tbl := tin_2 (List.mem_of_getElem? (i := 229) rfl)
set_option maxRecDepth 20000 in
theorem tw_275 : Cond.code yJ0_isLatin1_aae02 cJ0_isLatin1_aae02 1 (some .boolean) ∈ lw_tbl := tin_2 (List.mem_of_getElem? (i := 230) rfl)
set_option maxRecDepth 20000 in
theorem tw_276 : Cond.methodLink RJ0 495 yJ1_charAt_3b067 ∈ lw_tbl := tin_2 (List.mem_of_getElem? (i := 231) rfl)
set_option maxRecDepth 20000 in
theorem tw_277 : Cond.static yJ1_charAt_3b067 ∈ lw_tbl := tin_2 (List.mem_of_getElem? (i := 232) rfl)
set_option maxRecDepth 20000 in
theorem tw_278 : Cond.initialized RJ1 ∈ lw_tbl := tin_1 (List.mem_of_getElem? (i := 16) rfl)
set_option maxRecDepth 20000 in
theorem tw_279 : Cond.code yJ1_charAt_3b067 cJ1_charAt_3b067 2 (some .char) ∈ lw_tbl := tin_2 (List.mem_of_getElem? (i := 233) rfl)
set_option maxRecDepth 20000 in
theorem tw_280 : Cond.methodLink RJ1 9 yJ0_checkIndex_df160 ∈ lw_tbl := tin_2 (List.mem_of_getElem? (i := 234) rfl)
set_option maxRecDepth 20000 in
theorem tw_281 : Cond.static yJ0_checkIndex_df160 ∈ lw_tbl := tin_2 (List.mem_of_getElem? (i := 235) rfl)
set_option maxRecDepth 20000 in
theorem tw_282 : Cond.code yJ0_checkIndex_df160 cJ0_checkIndex_df160 2 none ∈ lw_tbl := tin_2 (List.mem_of_getElem? (i := 236) rfl)
set_option maxRecDepth 20000 in
theorem tw_283 : Cond.fieldLink RJ0 1053 "jdk/internal/util/Preconditions" "SIOOBE_FORMATTER" "Ljava/util/function/BiFunction;" ∈ lw_tbl := tin_2 (List.mem_of_getElem? (i := 237) rfl)
set_option maxRecDepth 20000 in
theorem tw_284 : Cond.methodLink RJ0 1059 yJ3_checkIndex_8e157 ∈ lw_tbl := tin_2 (List.mem_of_getElem? (i := 239) rfl)
set_option maxRecDepth 20000 in
theorem tw_285 : Cond.static yJ3_checkIndex_8e157 ∈ lw_tbl := tin_3 (List.mem_of_getElem? (i := 0) rfl)
set_option maxRecDepth 20000 in
theorem tw_286 : Cond.initialized RJ3 ∈ lw_tbl := tin_1 (List.mem_of_getElem? (i := 17) rfl)
set_option maxRecDepth 20000 in
theorem tw_287 : Cond.code yJ3_checkIndex_8e157 cJ3_checkIndex_8e157 3 (some .int) ∈ lw_tbl := tin_3 (List.mem_of_getElem? (i := 1) rfl)
set_option maxRecDepth 20000 in
theorem tw_288 : Cond.methodLink RJ0 498 yJ2_charAt_3b067 ∈ lw_tbl := tin_3 (List.mem_of_getElem? (i := 2) rfl)
set_option maxRecDepth 20000 in
theorem tw_289 : Cond.static yJ2_charAt_3b067 ∈ lw_tbl := tin_3 (List.mem_of_getElem? (i := 3) rfl)
set_option maxRecDepth 20000 in
theorem tw_290 : Cond.initialized RJ2 ∈ lw_tbl := tin_1 (List.mem_of_getElem? (i := 18) rfl)
set_option maxRecDepth 20000 in
theorem tw_291 : Cond.code yJ2_charAt_3b067 cJ2_charAt_3b067 2 (some .char) ∈ lw_tbl := tin_3 (List.mem_of_getElem? (i := 4) rfl)
set_option maxRecDepth 20000 in
theorem tw_292 : Cond.methodLink RJ2 67 yJ2_checkIndex_2214a ∈ lw_tbl := tin_3 (List.mem_of_getElem? (i := 5) rfl)
set_option maxRecDepth 20000 in
theorem tw_293 : Cond.static yJ2_checkIndex_2214a ∈ lw_tbl := tin_3 (List.mem_of_getElem? (i := 6) rfl)
set_option maxRecDepth 20000 in
theorem tw_294 : Cond.code yJ2_checkIndex_2214a cJ2_checkIndex_2214a 2 none ∈ lw_tbl := tin_3 (List.mem_of_getElem? (i := 7) rfl)
set_option maxRecDepth 20000 in
theorem tw_295 : Cond.methodLink RJ2 48 yJ2_length_9d52b ∈ lw_tbl := tin_3 (List.mem_of_getElem? (i := 8) rfl)
set_option maxRecDepth 20000 in
theorem tw_296 : Cond.static yJ2_length_9d52b ∈ lw_tbl := tin_3 (List.mem_of_getElem? (i := 9) rfl)
set_option maxRecDepth 20000 in
theorem tw_297 : Cond.code yJ2_length_9d52b cJ2_length_9d52b 1 (some .int) ∈ lw_tbl := tin_3 (List.mem_of_getElem? (i := 10) rfl)
set_option maxRecDepth 20000 in
theorem tw_298 : Cond.methodLink RJ2 414 yJ0_checkIndex_df160 ∈ lw_tbl := tin_3 (List.mem_of_getElem? (i := 11) rfl)
set_option maxRecDepth 20000 in
theorem tw_299 : Cond.methodLink RJ2 71 yJ2_getChar_3b067 ∈ lw_tbl := tin_3 (List.mem_of_getElem? (i := 12) rfl)
set_option maxRecDepth 20000 in
theorem tw_300 : Cond.static yJ2_getChar_3b067 ∈ lw_tbl := tin_3 (List.mem_of_getElem? (i := 13) rfl)
set_option maxRecDepth 20000 in
theorem tw_301 : Cond.code yJ2_getChar_3b067 cJ2_getChar_3b067 2 (some .char) ∈ lw_tbl := tin_3 (List.mem_of_getElem? (i := 14) rfl)
set_option maxRecDepth 20000 in
theorem tw_302 : Cond.fieldLink RJ2 44 "java/lang/StringUTF16" "$assertionsDisabled" "Z" ∈ lw_tbl := tin_3 (List.mem_of_getElem? (i := 15) rfl)
set_option maxRecDepth 20000 in
theorem tw_303 : Cond.fieldLink RJ2 59 "java/lang/StringUTF16" "HI_BYTE_SHIFT" "I" ∈ lw_tbl := tin_3 (List.mem_of_getElem? (i := 17) rfl)
set_option maxRecDepth 20000 in
theorem tw_304 : Cond.fieldLink RJ2 63 "java/lang/StringUTF16" "LO_BYTE_SHIFT" "I" ∈ lw_tbl := tin_3 (List.mem_of_getElem? (i := 19) rfl)
set_option maxRecDepth 20000 in
theorem tw_305 : Cond.methodLink RX4 73 yX5_advance ∈ lw_tbl := tin_3 (List.mem_of_getElem? (i := 27) rfl)
set_option maxRecDepth 20000 in
theorem tw_306 : Cond.methodLink RX4 53 yX4_takeFirst ∈ lw_tbl := tin_3 (List.mem_of_getElem? (i := 28) rfl)
set_option maxRecDepth 20000 in
theorem tw_307 : Cond.instanceMethod yX4_takeFirst ∈ lw_tbl := tin_3 (List.mem_of_getElem? (i := 30) rfl)
set_option maxRecDepth 20000 in
theorem tw_308 : Cond.selects RX4 yX4_takeFirst yX4_takeFirst ∈ lw_tbl := List.mem_append_left _ (List.mem_of_getElem? (i := 5) rfl)
set_option maxRecDepth 20000 in
theorem tw_309 : Cond.code yX4_takeFirst cX4_takeFirst 4 (some .boolean) ∈ lw_tbl := tin_3 (List.mem_of_getElem? (i := 31) rfl)
set_option maxRecDepth 20000 in
theorem tw_310 : Cond.fieldLink RX4 83 "RowPivots$Reader" "number" "I" ∈ lw_tbl := tin_2 (List.mem_of_getElem? (i := 79) rfl)
set_option maxRecDepth 20000 in
theorem tw_311 : Cond.fieldLink RX4 86 "RowPivots$Reader" "first" "I" ∈ lw_tbl := tin_2 (List.mem_of_getElem? (i := 72) rfl)
set_option maxRecDepth 20000 in
theorem tw_312 : Cond.methodLink RX4 80 yX4_takeNumber ∈ lw_tbl := tin_3 (List.mem_of_getElem? (i := 32) rfl)
set_option maxRecDepth 20000 in
theorem tw_313 : Cond.instanceMethod yX4_takeNumber ∈ lw_tbl := tin_3 (List.mem_of_getElem? (i := 34) rfl)
set_option maxRecDepth 20000 in
theorem tw_314 : Cond.selects RX4 yX4_takeNumber yX4_takeNumber ∈ lw_tbl := List.mem_append_left _ (List.mem_of_getElem? (i := 6) rfl)
set_option maxRecDepth 20000 in
theorem tw_315 : Cond.code yX4_takeNumber cX4_takeNumber 3 (some .boolean) ∈ lw_tbl := tin_3 (List.mem_of_getElem? (i := 35) rfl)
set_option maxRecDepth 20000 in
theorem tw_316 : Cond.fieldLink RX4 92 "RowPivots$Scanner" "value" "I" ∈ lw_tbl := tin_2 (List.mem_of_getElem? (i := 51) rfl)
set_option maxRecDepth 20000 in
theorem tw_317 : Cond.methodLink RX4 56 yX4_takeSecond ∈ lw_tbl := tin_3 (List.mem_of_getElem? (i := 36) rfl)
set_option maxRecDepth 20000 in
theorem tw_318 : Cond.instanceMethod yX4_takeSecond ∈ lw_tbl := tin_3 (List.mem_of_getElem? (i := 38) rfl)
set_option maxRecDepth 20000 in
theorem tw_319 : Cond.selects RX4 yX4_takeSecond yX4_takeSecond ∈ lw_tbl := List.mem_append_left _ (List.mem_of_getElem? (i := 7) rfl)
set_option maxRecDepth 20000 in
theorem tw_320 : Cond.code yX4_takeSecond cX4_takeSecond 4 (some .boolean) ∈ lw_tbl := tin_3 (List.mem_of_getElem? (i := 39) rfl)
set_option maxRecDepth 20000 in
theorem tw_321 : Cond.fieldLink RX4 89 "RowPivots$Reader" "second" "I" ∈ lw_tbl := tin_2 (List.mem_of_getElem? (i := 74) rfl)
set_option maxRecDepth 20000 in
theorem tw_322 : Cond.methodLink RX4 59 yX4_readStop ∈ lw_tbl := tin_3 (List.mem_of_getElem? (i := 40) rfl)
set_option maxRecDepth 20000 in
theorem tw_323 : Cond.instanceMethod yX4_readStop ∈ lw_tbl := tin_3 (List.mem_of_getElem? (i := 41) rfl)
set_option maxRecDepth 20000 in
theorem tw_324 : Cond.selects RX4 yX4_readStop yX4_readStop ∈ lw_tbl := tin_3 (List.mem_of_getElem? (i := 42) rfl)
set_option maxRecDepth 20000 in
theorem tw_325 : Cond.code yX4_readStop cX4_readStop 1 (some .boolean) ∈ lw_tbl := tin_3 (List.mem_of_getElem? (i := 43) rfl)
set_option maxRecDepth 20000 in
theorem tw_326 : Cond.methodLink RX4 66 yX5_isSign ∈ lw_tbl := tin_3 (List.mem_of_getElem? (i := 44) rfl)
set_option maxRecDepth 20000 in
theorem tw_327 : Cond.instanceMethod yX5_isSign ∈ lw_tbl := tin_3 (List.mem_of_getElem? (i := 45) rfl)
set_option maxRecDepth 20000 in
theorem tw_328 : Cond.selects RX5 yX5_isSign yX5_isSign ∈ lw_tbl := tin_3 (List.mem_of_getElem? (i := 46) rfl)
set_option maxRecDepth 20000 in
theorem tw_329 : Cond.code yX5_isSign cX5_isSign 2 (some .boolean) ∈ lw_tbl := tin_3 (List.mem_of_getElem? (i := 47) rfl)
set_option maxRecDepth 20000 in
theorem tw_330 : Cond.methodLink RX10 100 yX1_clear ∈ lw_tbl := tin_3 (List.mem_of_getElem? (i := 48) rfl)
set_option maxRecDepth 20000 in
theorem tw_331 : Cond.instanceMethod yX1_clear ∈ lw_tbl := tin_3 (List.mem_of_getElem? (i := 49) rfl)
set_option maxRecDepth 20000 in
theorem tw_332 : Cond.selects RX1 yX1_clear yX1_clear ∈ lw_tbl := tin_3 (List.mem_of_getElem? (i := 50) rfl)
set_option maxRecDepth 20000 in
theorem tw_333 : Cond.code yX1_clear cX1_clear 3 none ∈ lw_tbl := tin_3 (List.mem_of_getElem? (i := 51) rfl)
set_option maxRecDepth 20000 in
theorem tw_334 : Cond.methodLink RX10 104 yX4_isAtEnd ∈ lw_tbl := tin_3 (List.mem_of_getElem? (i := 52) rfl)
set_option maxRecDepth 20000 in
theorem tw_335 : Cond.instanceMethod yX4_isAtEnd ∈ lw_tbl := tin_3 (List.mem_of_getElem? (i := 53) rfl)
set_option maxRecDepth 20000 in
theorem tw_336 : Cond.selects RX4 yX4_isAtEnd yX4_isAtEnd ∈ lw_tbl := tin_3 (List.mem_of_getElem? (i := 54) rfl)
set_option maxRecDepth 20000 in
theorem tw_337 : Cond.code yX4_isAtEnd cX4_isAtEnd 1 (some .boolean) ∈ lw_tbl := tin_3 (List.mem_of_getElem? (i := 55) rfl)
set_option maxRecDepth 20000 in
theorem tw_338 : Cond.methodLink RX10 113 yX4_readLine ∈ lw_tbl := tin_3 (List.mem_of_getElem? (i := 56) rfl)
set_option maxRecDepth 20000 in
theorem tw_339 : Cond.instanceMethod yX4_readLine ∈ lw_tbl := tin_3 (List.mem_of_getElem? (i := 57) rfl)
set_option maxRecDepth 20000 in
theorem tw_340 : Cond.selects RX4 yX4_readLine yX4_readLine ∈ lw_tbl := tin_3 (List.mem_of_getElem? (i := 58) rfl)
set_option maxRecDepth 20000 in
theorem tw_341 : Cond.code yX4_readLine cX4_readLine 3 (some .boolean) ∈ lw_tbl := tin_3 (List.mem_of_getElem? (i := 59) rfl)
set_option maxRecDepth 20000 in
theorem tw_342 : Cond.methodLink RX4 62 yX4_takeFractions ∈ lw_tbl := tin_3 (List.mem_of_getElem? (i := 60) rfl)
set_option maxRecDepth 20000 in
theorem tw_343 : Cond.instanceMethod yX4_takeFractions ∈ lw_tbl := tin_3 (List.mem_of_getElem? (i := 62) rfl)
set_option maxRecDepth 20000 in
theorem tw_344 : Cond.selects RX4 yX4_takeFractions yX4_takeFractions ∈ lw_tbl := List.mem_append_left _ (List.mem_of_getElem? (i := 8) rfl)
set_option maxRecDepth 20000 in
theorem tw_345 : Cond.code yX4_takeFractions cX4_takeFractions 3 (some .boolean) ∈ lw_tbl := tin_3 (List.mem_of_getElem? (i := 63) rfl)
set_option maxRecDepth 20000 in
theorem tw_346 : Cond.methodLink RX4 95 yX4_takeFraction ∈ lw_tbl := tin_3 (List.mem_of_getElem? (i := 64) rfl)
set_option maxRecDepth 20000 in
theorem tw_347 : Cond.instanceMethod yX4_takeFraction ∈ lw_tbl := tin_3 (List.mem_of_getElem? (i := 66) rfl)
set_option maxRecDepth 20000 in
theorem tw_348 : Cond.selects RX4 yX4_takeFraction yX4_takeFraction ∈ lw_tbl := List.mem_append_left _ (List.mem_of_getElem? (i := 9) rfl)
set_option maxRecDepth 20000 in
theorem tw_349 : Cond.code yX4_takeFraction cX4_takeFraction 3 (some .boolean) ∈ lw_tbl := tin_3 (List.mem_of_getElem? (i := 67) rfl)
set_option maxRecDepth 20000 in
theorem tw_350 : Cond.methodLink RX10 117 yX4_readStop ∈ lw_tbl := tin_3 (List.mem_of_getElem? (i := 68) rfl)
set_option maxRecDepth 20000 in
theorem tw_351 : Cond.methodLink RX10 120 yX10_carryOut ∈ lw_tbl := tin_3 (List.mem_of_getElem? (i := 69) rfl)
set_option maxRecDepth 20000 in
theorem tw_352 : Cond.instanceMethod yX10_carryOut ∈ lw_tbl := tin_3 (List.mem_of_getElem? (i := 71) rfl)
set_option maxRecDepth 20000 in
theorem tw_353 : Cond.selects RX10 yX10_carryOut yX10_carryOut ∈ lw_tbl := List.mem_append_left _ (List.mem_of_getElem? (i := 10) rfl)
set_option maxRecDepth 20000 in
theorem tw_354 : Cond.code yX10_carryOut cX10_carryOut 4 (some .boolean) ∈ lw_tbl := tin_3 (List.mem_of_getElem? (i := 72) rfl)
set_option maxRecDepth 20000 in
theorem tw_355 : Cond.fieldLink RX10 148 "RowPivots$Reader" "word" "I" ∈ lw_tbl := tin_2 (List.mem_of_getElem? (i := 70) rfl)
set_option maxRecDepth 20000 in
theorem tw_356 : Cond.fieldLink RX10 177 "RowPivots$Acts" "next" "LRowPivots$Grid;" ∈ lw_tbl := tin_1 (List.mem_of_getElem? (i := 172) rfl)
set_option maxRecDepth 20000 in
theorem tw_357 : Cond.methodLink RX10 141 yX4_upperRead ∈ lw_tbl := tin_3 (List.mem_of_getElem? (i := 73) rfl)
set_option maxRecDepth 20000 in
theorem tw_358 : Cond.instanceMethod yX4_upperRead ∈ lw_tbl := tin_3 (List.mem_of_getElem? (i := 74) rfl)
set_option maxRecDepth 20000 in
theorem tw_359 : Cond.selects RX4 yX4_upperRead yX4_upperRead ∈ lw_tbl := tin_3 (List.mem_of_getElem? (i := 75) rfl)
set_option maxRecDepth 20000 in
theorem tw_360 : Cond.code yX4_upperRead cX4_upperRead 2 (some .int) ∈ lw_tbl := tin_3 (List.mem_of_getElem? (i := 76) rfl)
set_option maxRecDepth 20000 in
theorem tw_361 : Cond.methodLink RX10 145 yX4_lowerRead ∈ lw_tbl := tin_3 (List.mem_of_getElem? (i := 77) rfl)
set_option maxRecDepth 20000 in
theorem tw_362 : Cond.instanceMethod yX4_lowerRead ∈ lw_tbl := tin_3 (List.mem_of_getElem? (i := 78) rfl)
set_option maxRecDepth 20000 in
theorem tw_363 : Cond.selects RX4 yX4_lowerRead yX4_lowerRead ∈ lw_tbl := tin_3 (List.mem_of_getElem? (i := 79) rfl)
set_option maxRecDepth 20000 in
theorem tw_364 : Cond.code yX4_lowerRead cX4_lowerRead 2 (some .int) ∈ lw_tbl := tin_3 (List.mem_of_getElem? (i := 80) rfl)
set_option maxRecDepth 20000 in
theorem tw_365 : Cond.methodLink RX10 151 yX10_tellRead ∈ lw_tbl := tin_3 (List.mem_of_getElem? (i := 81) rfl)
set_option maxRecDepth 20000 in
theorem tw_366 : Cond.instanceMethod yX10_tellRead ∈ lw_tbl := tin_3 (List.mem_of_getElem? (i := 83) rfl)
set_option maxRecDepth 20000 in
theorem tw_367 : Cond.selects RX10 yX10_tellRead yX10_tellRead ∈ lw_tbl := List.mem_append_left _ (List.mem_of_getElem? (i := 11) rfl)
set_option maxRecDepth 20000 in
theorem tw_368 : Cond.code yX10_tellRead cX10_tellRead 4 (some .boolean) ∈ lw_tbl := tin_3 (List.mem_of_getElem? (i := 84) rfl)
set_option maxRecDepth 20000 in
theorem tw_369 : Cond.methodLink RX10 180 yX3_start ∈ lw_tbl := tin_3 (List.mem_of_getElem? (i := 85) rfl)
set_option maxRecDepth 20000 in
theorem tw_370 : Cond.instanceMethod yX3_start ∈ lw_tbl := tin_3 (List.mem_of_getElem? (i := 86) rfl)
set_option maxRecDepth 20000 in
theorem tw_371 : Cond.selects RX3 yX3_start yX3_start ∈ lw_tbl := tin_3 (List.mem_of_getElem? (i := 87) rfl)
set_option maxRecDepth 20000 in
theorem tw_372 : Cond.code yX3_start cX3_start 5 none ∈ lw_tbl := tin_3 (List.mem_of_getElem? (i := 88) rfl)
set_option maxRecDepth 20000 in
theorem tw_373 : Cond.fieldLink RX3 15 "RowPivots$Ratio" "isLong" "Z" ∈ lw_tbl := tin_1 (List.mem_of_getElem? (i := 57) rfl)
set_option maxRecDepth 20000 in
theorem tw_374 : Cond.methodLink RX3 19 yX3_settle ∈ lw_tbl := tin_3 (List.mem_of_getElem? (i := 89) rfl)
set_option maxRecDepth 20000 in
theorem tw_375 : Cond.instanceMethod yX3_settle ∈ lw_tbl := tin_3 (List.mem_of_getElem? (i := 91) rfl)
set_option maxRecDepth 20000 in
theorem tw_376 : Cond.selects RX3 yX3_settle yX3_settle ∈ lw_tbl := List.mem_append_left _ (List.mem_of_getElem? (i := 12) rfl)
set_option maxRecDepth 20000 in
theorem tw_377 : Cond.code yX3_settle cX3_settle 12 none ∈ lw_tbl := tin_3 (List.mem_of_getElem? (i := 92) rfl)
set_option maxRecDepth 20000 in
theorem tw_378 : Cond.fieldLink RX3 29 "RowPivots$Ratio" "upper" "J" ∈ lw_tbl := tin_1 (List.mem_of_getElem? (i := 47) rfl)
set_option maxRecDepth 20000 in
theorem tw_379 : Cond.constantLong RX3 39 (1000000000) ∈ lw_tbl := tin_3 (List.mem_of_getElem? (i := 97) rfl)
set_option maxRecDepth 20000 in
theorem tw_380 : Cond.constantLong RX3 41 (-1000000000) ∈ lw_tbl := tin_3 (List.mem_of_getElem? (i := 98) rfl)
set_option maxRecDepth 20000 in
theorem tw_381 : Cond.methodLink RX3 36 yX3_spoil ∈ lw_tbl := tin_3 (List.mem_of_getElem? (i := 93) rfl)
set_option maxRecDepth 20000 in
theorem tw_382 : Cond.instanceMethod yX3_spoil ∈ lw_tbl := tin_3 (List.mem_of_getElem? (i := 94) rfl)
set_option maxRecDepth 20000 in
theorem tw_383 : Cond.selects RX3 yX3_spoil yX3_spoil ∈ lw_tbl := tin_3 (List.mem_of_getElem? (i := 95) rfl)
set_option maxRecDepth 20000 in
theorem tw_384 : Cond.code yX3_spoil cX3_spoil 1 none ∈ lw_tbl := tin_3 (List.mem_of_getElem? (i := 96) rfl)
set_option maxRecDepth 20000 in
theorem tw_385 : Cond.methodLink RX10 184 yX1_put ∈ lw_tbl := tin_3 (List.mem_of_getElem? (i := 99) rfl)
set_option maxRecDepth 20000 in
theorem tw_386 : Cond.instanceMethod yX1_put ∈ lw_tbl := tin_3 (List.mem_of_getElem? (i := 100) rfl)
set_option maxRecDepth 20000 in
theorem tw_387 : Cond.selects RX1 yX1_put yX1_put ∈ lw_tbl := tin_3 (List.mem_of_getElem? (i := 101) rfl)
set_option maxRecDepth 20000 in
theorem tw_388 : Cond.code yX1_put cX1_put 5 none ∈ lw_tbl := tin_3 (List.mem_of_getElem? (i := 102) rfl)
set_option maxRecDepth 20000 in
theorem tw_389 : Cond.fieldLink RX1 60 "RowPivots$Ratio" "upper" "J" ∈ lw_tbl := tin_1 (List.mem_of_getElem? (i := 51) rfl)
set_option maxRecDepth 20000 in
theorem tw_390 : Cond.fieldLink RX1 63 "RowPivots$Ratio" "lower" "J" ∈ lw_tbl := tin_1 (List.mem_of_getElem? (i := 56) rfl)
set_option maxRecDepth 20000 in
theorem tw_391 : Cond.methodLink RX10 154 yX0_exchange ∈ lw_tbl := tin_3 (List.mem_of_getElem? (i := 103) rfl)
set_option maxRecDepth 20000 in
theorem tw_392 : Cond.instanceMethod yX0_exchange ∈ lw_tbl := tin_3 (List.mem_of_getElem? (i := 104) rfl)
set_option maxRecDepth 20000 in
theorem tw_393 : Cond.selects RX0 yX0_exchange yX0_exchange ∈ lw_tbl := tin_3 (List.mem_of_getElem? (i := 105) rfl)
set_option maxRecDepth 20000 in
theorem tw_394 : Cond.code yX0_exchange cX0_exchange 5 (some .int) ∈ lw_tbl := tin_3 (List.mem_of_getElem? (i := 106) rfl)
set_option maxRecDepth 20000 in
theorem tw_395 : Cond.fieldLink RX0 52 "RowPivots$Grid" "columns" "I" ∈ lw_tbl := tin_1 (List.mem_of_getElem? (i := 78) rfl)
set_option maxRecDepth 20000 in
theorem tw_396 : Cond.methodLink RX0 25 yX1_hasRow ∈ lw_tbl := tin_3 (List.mem_of_getElem? (i := 107) rfl)
set_option maxRecDepth 20000 in
theorem tw_397 : Cond.instanceMethod yX1_hasRow ∈ lw_tbl := tin_3 (List.mem_of_getElem? (i := 108) rfl)
set_option maxRecDepth 20000 in
theorem tw_398 : Cond.selects RX1 yX1_hasRow yX1_hasRow ∈ lw_tbl := tin_3 (List.mem_of_getElem? (i := 109) rfl)
set_option maxRecDepth 20000 in
theorem tw_399 : Cond.code yX1_hasRow cX1_hasRow 2 (some .boolean) ∈ lw_tbl := tin_3 (List.mem_of_getElem? (i := 110) rfl)
set_option maxRecDepth 20000 in
theorem tw_400 : Cond.methodLink RX0 44 yX1_copy ∈ lw_tbl := tin_3 (List.mem_of_getElem? (i := 111) rfl)
set_option maxRecDepth 20000 in
theorem tw_401 : Cond.instanceMethod yX1_copy ∈ lw_tbl := tin_3 (List.mem_of_getElem? (i := 112) rfl)
set_option maxRecDepth 20000 in
theorem tw_402 : Cond.selects RX1 yX1_copy yX1_copy ∈ lw_tbl := tin_3 (List.mem_of_getElem? (i := 113) rfl)
set_option maxRecDepth 20000 in
theorem tw_403 : Cond.code yX1_copy cX1_copy 2 none ∈ lw_tbl := tin_3 (List.mem_of_getElem? (i := 114) rfl)
set_option maxRecDepth 20000 in
theorem tw_404 : Cond.methodLink RX1 38 arraycopyName ∈ lw_tbl := tin_3 (List.mem_of_getElem? (i := 115) rfl)
set_option maxRecDepth 20000 in
theorem tw_405 : Cond.methodLink RX0 56 yX3_load ∈ lw_tbl := tin_3 (List.mem_of_getElem? (i := 116) rfl)
set_option maxRecDepth 20000 in
theorem tw_406 : Cond.instanceMethod yX3_load ∈ lw_tbl := tin_3 (List.mem_of_getElem? (i := 117) rfl)
set_option maxRecDepth 20000 in
theorem tw_407 : Cond.selects RX3 yX3_load yX3_load ∈ lw_tbl := tin_3 (List.mem_of_getElem? (i := 118) rfl)
set_option maxRecDepth 20000 in
theorem tw_408 : Cond.code yX3_load cX3_load 4 none ∈ lw_tbl := tin_3 (List.mem_of_getElem? (i := 119) rfl)
set_option maxRecDepth 20000 in
theorem tw_409 : Cond.methodLink RX3 23 yX1_upperAt ∈ lw_tbl := tin_3 (List.mem_of_getElem? (i := 120) rfl)
set_option maxRecDepth 20000 in
theorem tw_410 : Cond.instanceMethod yX1_upperAt ∈ lw_tbl := tin_3 (List.mem_of_getElem? (i := 121) rfl)
set_option maxRecDepth 20000 in
theorem tw_411 : Cond.selects RX1 yX1_upperAt yX1_upperAt ∈ lw_tbl := tin_3 (List.mem_of_getElem? (i := 122) rfl)
set_option maxRecDepth 20000 in
theorem tw_412 : Cond.code yX1_upperAt cX1_upperAt 4 (some .int) ∈ lw_tbl := tin_3 (List.mem_of_getElem? (i := 123) rfl)
set_option maxRecDepth 20000 in
theorem tw_413 : Cond.methodLink RX3 32 yX1_lowerAt ∈ lw_tbl := tin_3 (List.mem_of_getElem? (i := 124) rfl)
set_option maxRecDepth 20000 in
theorem tw_414 : Cond.instanceMethod yX1_lowerAt ∈ lw_tbl := tin_3 (List.mem_of_getElem? (i := 125) rfl)
set_option maxRecDepth 20000 in
theorem tw_415 : Cond.selects RX1 yX1_lowerAt yX1_lowerAt ∈ lw_tbl := tin_3 (List.mem_of_getElem? (i := 126) rfl)
set_option maxRecDepth 20000 in
theorem tw_416 : Cond.code yX1_lowerAt cX1_lowerAt 4 (some .int) ∈ lw_tbl := tin_3 (List.mem_of_getElem? (i := 127) rfl)
set_option maxRecDepth 20000 in
theorem tw_417 : Cond.methodLink RX0 48 yX1_put ∈ lw_tbl := tin_3 (List.mem_of_getElem? (i := 128) rfl)
set_option maxRecDepth 20000 in
theorem tw_418 : Cond.methodLink RX0 60 yX1_isSame ∈ lw_tbl := tin_3 (List.mem_of_getElem? (i := 129) rfl)
set_option maxRecDepth 20000 in
theorem tw_419 : Cond.instanceMethod yX1_isSame ∈ lw_tbl := tin_3 (List.mem_of_getElem? (i := 130) rfl)
set_option maxRecDepth 20000 in
theorem tw_420 : Cond.selects RX1 yX1_isSame yX1_isSame ∈ lw_tbl := tin_3 (List.mem_of_getElem? (i := 131) rfl)
set_option maxRecDepth 20000 in
theorem tw_421 : Cond.code yX1_isSame cX1_isSame 4 (some .boolean) ∈ lw_tbl := tin_3 (List.mem_of_getElem? (i := 132) rfl)
set_option maxRecDepth 20000 in
theorem tw_422 : Cond.methodLink RX1 48 yX3_load ∈ lw_tbl := tin_3 (List.mem_of_getElem? (i := 133) rfl)
set_option maxRecDepth 20000 in
theorem tw_423 : Cond.methodLink RX1 85 yX1_isAt ∈ lw_tbl := tin_3 (List.mem_of_getElem? (i := 134) rfl)
set_option maxRecDepth 20000 in
theorem tw_424 : Cond.instanceMethod yX1_isAt ∈ lw_tbl := tin_3 (List.mem_of_getElem? (i := 135) rfl)
set_option maxRecDepth 20000 in
theorem tw_425 : Cond.selects RX1 yX1_isAt yX1_isAt ∈ lw_tbl := tin_3 (List.mem_of_getElem? (i := 136) rfl)
set_option maxRecDepth 20000 in
theorem tw_426 : Cond.code yX1_isAt cX1_isAt 4 (some .boolean) ∈ lw_tbl := tin_3 (List.mem_of_getElem? (i := 137) rfl)
set_option maxRecDepth 20000 in
theorem tw_427 : Cond.methodLink RX1 65 yX1_upperAt ∈ lw_tbl := tin_3 (List.mem_of_getElem? (i := 138) rfl)
set_option maxRecDepth 20000 in
theorem tw_428 : Cond.methodLink RX1 69 yX1_lowerAt ∈ lw_tbl := tin_3 (List.mem_of_getElem? (i := 139) rfl)
set_option maxRecDepth 20000 in
theorem tw_429 : Cond.methodLink RX10 158 yX0_stretch ∈ lw_tbl := tin_3 (List.mem_of_getElem? (i := 140) rfl)
set_option maxRecDepth 20000 in
theorem tw_430 : Cond.instanceMethod yX0_stretch ∈ lw_tbl := tin_3 (List.mem_of_getElem? (i := 141) rfl)
set_option maxRecDepth 20000 in
theorem tw_431 : Cond.selects RX0 yX0_stretch yX0_stretch ∈ lw_tbl := tin_3 (List.mem_of_getElem? (i := 142) rfl)
set_option maxRecDepth 20000 in
theorem tw_432 : Cond.code yX0_stretch cX0_stretch 6 (some .int) ∈ lw_tbl := tin_3 (List.mem_of_getElem? (i := 143) rfl)
set_option maxRecDepth 20000 in
theorem tw_433 : Cond.fieldLink RX0 71 "RowPivots$Ratio" "isLong" "Z" ∈ lw_tbl := tin_1 (List.mem_of_getElem? (i := 58) rfl)
set_option maxRecDepth 20000 in
theorem tw_434 : Cond.static yX10_isTold ∈ lw_tbl := tin_3 (List.mem_of_getElem? (i := 145) rfl)
set_option maxRecDepth 20000 in
theorem tw_435 : Cond.code yX10_isTold cX10_isTold 2 (some .boolean) ∈ lw_tbl := tin_3 (List.mem_of_getElem? (i := 146) rfl)
set_option maxRecDepth 20000 in
theorem tw_436 : Cond.methodLink RX0 64 yX1_rowBits ∈ lw_tbl := tin_3 (List.mem_of_getElem? (i := 147) rfl)
set_option maxRecDepth 20000 in
theorem tw_437 : Cond.instanceMethod yX1_rowBits ∈ lw_tbl := tin_3 (List.mem_of_getElem? (i := 148) rfl)
set_option maxRecDepth 20000 in
theorem tw_438 : Cond.selects RX1 yX1_rowBits yX1_rowBits ∈ lw_tbl := tin_3 (List.mem_of_getElem? (i := 149) rfl)
set_option maxRecDepth 20000 in
theorem tw_439 : Cond.code yX1_rowBits cX1_rowBits 4 (some .int) ∈ lw_tbl := tin_3 (List.mem_of_getElem? (i := 150) rfl)
set_option maxRecDepth 20000 in
theorem tw_440 : Cond.methodLink RX0 68 yX3_times ∈ lw_tbl := tin_3 (List.mem_of_getElem? (i := 151) rfl)
set_option maxRecDepth 20000 in
theorem tw_441 : Cond.instanceMethod yX3_times ∈ lw_tbl := tin_3 (List.mem_of_getElem? (i := 152) rfl)
set_option maxRecDepth 20000 in
theorem tw_442 : Cond.selects RX3 yX3_times yX3_times ∈ lw_tbl := tin_3 (List.mem_of_getElem? (i := 153) rfl)
set_option maxRecDepth 20000 in
theorem tw_443 : Cond.code yX3_times cX3_times 5 none ∈ lw_tbl := tin_3 (List.mem_of_getElem? (i := 154) rfl)
set_option maxRecDepth 20000 in
theorem tw_444 : Cond.methodLink RX0 75 yX0_refuseLong ∈ lw_tbl := tin_3 (List.mem_of_getElem? (i := 155) rfl)
set_option maxRecDepth 20000 in
theorem tw_445 : Cond.instanceMethod yX0_refuseLong ∈ lw_tbl := tin_3 (List.mem_of_getElem? (i := 157) rfl)
set_option maxRecDepth 20000 in
theorem tw_446 : Cond.selects RX0 yX0_refuseLong yX0_refuseLong ∈ lw_tbl := List.mem_append_left _ (List.mem_of_getElem? (i := 13) rfl)
set_option maxRecDepth 20000 in
theorem tw_447 : Cond.code yX0_refuseLong cX0_refuseLong 3 (some .int) ∈ lw_tbl := tin_3 (List.mem_of_getElem? (i := 158) rfl)
set_option maxRecDepth 20000 in
theorem tw_448 : Cond.fieldLink RX0 104 "RowPivots$Acts" "longRow" "I" ∈ lw_tbl := tin_1 (List.mem_of_getElem? (i := 173) rfl)
set_option maxRecDepth 20000 in
theorem tw_449 : Cond.fieldLink RX0 107 "RowPivots$Acts" "longColumn" "I" ∈ lw_tbl := tin_1 (List.mem_of_getElem? (i := 175) rfl)
set_option maxRecDepth 20000 in
theorem tw_450 : Cond.methodLink RX10 162 yX0_addRow ∈ lw_tbl := tin_3 (List.mem_of_getElem? (i := 159) rfl)
set_option maxRecDepth 20000 in
theorem tw_451 : Cond.instanceMethod yX0_addRow ∈ lw_tbl := tin_3 (List.mem_of_getElem? (i := 160) rfl)
set_option maxRecDepth 20000 in
theorem tw_452 : Cond.selects RX0 yX0_addRow yX0_addRow ∈ lw_tbl := tin_3 (List.mem_of_getElem? (i := 161) rfl)
set_option maxRecDepth 20000 in
theorem tw_453 : Cond.code yX0_addRow cX0_addRow 7 (some .int) ∈ lw_tbl := tin_3 (List.mem_of_getElem? (i := 162) rfl)
set_option maxRecDepth 20000 in
theorem tw_454 : Cond.fieldLink RX0 79 "RowPivots$Ratio" "upper" "J" ∈ lw_tbl := tin_1 (List.mem_of_getElem? (i := 49) rfl)
set_option maxRecDepth 20000 in
theorem tw_455 : Cond.fieldLink RX0 83 "RowPivots$Ratio" "lower" "J" ∈ lw_tbl := tin_1 (List.mem_of_getElem? (i := 54) rfl)
set_option maxRecDepth 20000 in
theorem tw_456 : Cond.methodLink RX0 36 yX3_start ∈ lw_tbl := tin_3 (List.mem_of_getElem? (i := 163) rfl)
set_option maxRecDepth 20000 in
theorem tw_457 : Cond.methodLink RX0 86 yX1_addTimes ∈ lw_tbl := tin_3 (List.mem_of_getElem? (i := 164) rfl)
set_option maxRecDepth 20000 in
theorem tw_458 : Cond.instanceMethod yX1_addTimes ∈ lw_tbl := tin_3 (List.mem_of_getElem? (i := 165) rfl)
set_option maxRecDepth 20000 in
theorem tw_459 : Cond.selects RX1 yX1_addTimes yX1_addTimes ∈ lw_tbl := tin_3 (List.mem_of_getElem? (i := 166) rfl)
set_option maxRecDepth 20000 in
theorem tw_460 : Cond.code yX1_addTimes cX1_addTimes 8 (some .int) ∈ lw_tbl := tin_3 (List.mem_of_getElem? (i := 167) rfl)
set_option maxRecDepth 20000 in
theorem tw_461 : Cond.fieldLink RX1 95 "RowPivots$Ratio" "isLong" "Z" ∈ lw_tbl := tin_1 (List.mem_of_getElem? (i := 61) rfl)
set_option maxRecDepth 20000 in
theorem tw_462 : Cond.methodLink RX1 89 yX3_times ∈ lw_tbl := tin_3 (List.mem_of_getElem? (i := 168) rfl)
set_option maxRecDepth 20000 in
theorem tw_463 : Cond.methodLink RX1 92 yX3_plus ∈ lw_tbl := tin_3 (List.mem_of_getElem? (i := 169) rfl)
set_option maxRecDepth 20000 in
theorem tw_464 : Cond.instanceMethod yX3_plus ∈ lw_tbl := tin_3 (List.mem_of_getElem? (i := 170) rfl)
set_option maxRecDepth 20000 in
theorem tw_465 : Cond.selects RX3 yX3_plus yX3_plus ∈ lw_tbl := tin_3 (List.mem_of_getElem? (i := 171) rfl)
set_option maxRecDepth 20000 in
theorem tw_466 : Cond.code yX3_plus cX3_plus 5 none ∈ lw_tbl := tin_3 (List.mem_of_getElem? (i := 172) rfl)
set_option maxRecDepth 20000 in
theorem tw_467 : Cond.methodLink RX1 52 yX1_put ∈ lw_tbl := tin_3 (List.mem_of_getElem? (i := 173) rfl)
set_option maxRecDepth 20000 in
theorem tw_468 : Cond.methodLink RX10 166 yX7_run ∈ lw_tbl := tin_3 (List.mem_of_getElem? (i := 174) rfl)
set_option maxRecDepth 20000 in
theorem tw_469 : Cond.instanceMethod yX7_run ∈ lw_tbl := tin_3 (List.mem_of_getElem? (i := 175) rfl)
set_option maxRecDepth 20000 in
theorem tw_470 : Cond.selects RX7 yX7_run yX7_run ∈ lw_tbl := tin_3 (List.mem_of_getElem? (i := 176) rfl)
set_option maxRecDepth 20000 in
theorem tw_471 : Cond.code yX7_run cX7_run 5 none ∈ lw_tbl := tin_3 (List.mem_of_getElem? (i := 177) rfl)
set_option maxRecDepth 20000 in
theorem tw_472 : Cond.fieldLink RX7 42 "RowPivots$Sweep" "rank" "I" ∈ lw_tbl := tin_1 (List.mem_of_getElem? (i := 200) rfl)
set_option maxRecDepth 20000 in
theorem tw_473 : Cond.fieldLink RX7 46 "RowPivots$Sweep" "broken" "Z" ∈ lw_tbl := tin_1 (List.mem_of_getElem? (i := 203) rfl)
set_option maxRecDepth 20000 in
theorem tw_474 : Cond.fieldLink RX7 50 "RowPivots$Grid" "rows" "I" ∈ lw_tbl := tin_1 (List.mem_of_getElem? (i := 75) rfl)
set_option maxRecDepth 20000 in
theorem tw_475 : Cond.fieldLink RX7 53 "RowPivots$Sweep" "liveRows" "I" ∈ lw_tbl := tin_1 (List.mem_of_getElem? (i := 215) rfl)
set_option maxRecDepth 20000 in
theorem tw_476 : Cond.fieldLink RX7 60 "RowPivots$Sweep" "liveColumns" "I" ∈ lw_tbl := tin_1 (List.mem_of_getElem? (i := 216) rfl)
set_option maxRecDepth 20000 in
theorem tw_477 : Cond.fieldLink RX7 67 "RowPivots$Sweep" "bestRow" "I" ∈ lw_tbl := tin_1 (List.mem_of_getElem? (i := 217) rfl)
set_option maxRecDepth 20000 in
theorem tw_478 : Cond.fieldLink RX7 70 "RowPivots$Sweep" "bestColumn" "I" ∈ lw_tbl := tin_1 (List.mem_of_getElem? (i := 218) rfl)
set_option maxRecDepth 20000 in
theorem tw_479 : Cond.methodLink RX7 38 yX1_copy ∈ lw_tbl := tin_3 (List.mem_of_getElem? (i := 178) rfl)
set_option maxRecDepth 20000 in
theorem tw_480 : Cond.methodLink RX7 56 yX1_allColumns ∈ lw_tbl := tin_3 (List.mem_of_getElem? (i := 179) rfl)
set_option maxRecDepth 20000 in
theorem tw_481 : Cond.instanceMethod yX1_allColumns ∈ lw_tbl := tin_3 (List.mem_of_getElem? (i := 180) rfl)
set_option maxRecDepth 20000 in
theorem tw_482 : Cond.selects RX1 yX1_allColumns yX1_allColumns ∈ lw_tbl := tin_3 (List.mem_of_getElem? (i := 181) rfl)
set_option maxRecDepth 20000 in
theorem tw_483 : Cond.code yX1_allColumns cX1_allColumns 1 (some .int) ∈ lw_tbl := tin_3 (List.mem_of_getElem? (i := 182) rfl)
set_option maxRecDepth 20000 in
theorem tw_484 : Cond.methodLink RX7 63 yX7_choose ∈ lw_tbl := tin_3 (List.mem_of_getElem? (i := 183) rfl)
set_option maxRecDepth 20000 in
theorem tw_485 : Cond.instanceMethod yX7_choose ∈ lw_tbl := tin_3 (List.mem_of_getElem? (i := 185) rfl)
set_option maxRecDepth 20000 in
theorem tw_486 : Cond.selects RX7 yX7_choose yX7_choose ∈ lw_tbl := List.mem_append_left _ (List.mem_of_getElem? (i := 14) rfl)
set_option maxRecDepth 20000 in
theorem tw_487 : Cond.code yX7_choose cX7_choose 4 none ∈ lw_tbl := tin_3 (List.mem_of_getElem? (i := 186) rfl)
set_option maxRecDepth 20000 in
theorem tw_488 : Cond.fieldLink RX7 88 "RowPivots$Grid" "columns" "I" ∈ lw_tbl := tin_1 (List.mem_of_getElem? (i := 79) rfl)
set_option maxRecDepth 20000 in
theorem tw_489 : Cond.methodLink RX7 77 yX7_isLive ∈ lw_tbl := tin_3 (List.mem_of_getElem? (i := 187) rfl)
set_option maxRecDepth 20000 in
theorem tw_490 : Cond.instanceMethod yX7_isLive ∈ lw_tbl := tin_3 (List.mem_of_getElem? (i := 189) rfl)
set_option maxRecDepth 20000 in
theorem tw_491 : Cond.selects RX7 yX7_isLive yX7_isLive ∈ lw_tbl := List.mem_append_left _ (List.mem_of_getElem? (i := 15) rfl)
set_option maxRecDepth 20000 in
theorem tw_492 : Cond.code yX7_isLive cX7_isLive 3 (some .boolean) ∈ lw_tbl := tin_3 (List.mem_of_getElem? (i := 190) rfl)
set_option maxRecDepth 20000 in
theorem tw_493 : Cond.methodLink RX7 85 yX1_upperAt ∈ lw_tbl := tin_3 (List.mem_of_getElem? (i := 191) rfl)
set_option maxRecDepth 20000 in
theorem tw_494 : Cond.methodLink RX7 91 yX7_isBetter ∈ lw_tbl := tin_3 (List.mem_of_getElem? (i := 192) rfl)
set_option maxRecDepth 20000 in
theorem tw_495 : Cond.instanceMethod yX7_isBetter ∈ lw_tbl := tin_3 (List.mem_of_getElem? (i := 194) rfl)
set_option maxRecDepth 20000 in
theorem tw_496 : Cond.selects RX7 yX7_isBetter yX7_isBetter ∈ lw_tbl := List.mem_append_left _ (List.mem_of_getElem? (i := 16) rfl)
set_option maxRecDepth 20000 in
theorem tw_497 : Cond.code yX7_isBetter cX7_isBetter 8 (some .boolean) ∈ lw_tbl := tin_3 (List.mem_of_getElem? (i := 195) rfl)
set_option maxRecDepth 20000 in
theorem tw_498 : Cond.methodLink RX7 95 Lib.MathLoose.abs_long.x ∈ lw_tbl := tin_3 (List.mem_of_getElem? (i := 211) rfl)
set_option maxRecDepth 20000 in
theorem tw_499 : Cond.static Lib.MathLoose.abs_long.x ∈ lw_tbl := tin_3 (List.mem_of_getElem? (i := 212) rfl)
set_option maxRecDepth 20000 in
theorem tw_500 : Cond.initialized "java/lang/Math" ∈ lw_tbl := tin_1 (List.mem_of_getElem? (i := 20) rfl)
set_option maxRecDepth 20000 in
theorem tw_501 : Cond.code Lib.MathLoose.abs_long.x Lib.MathLoose.abs_long.code 2 (some .long) ∈ lw_tbl := tin_3 (List.mem_of_getElem? (i := 213) rfl)
set_option maxRecDepth 20000 in
theorem tw_502 : Cond.methodLink RX7 73 yX7_weightOf ∈ lw_tbl := tin_3 (List.mem_of_getElem? (i := 196) rfl)
set_option maxRecDepth 20000 in
theorem tw_503 : Cond.instanceMethod yX7_weightOf ∈ lw_tbl := tin_3 (List.mem_of_getElem? (i := 198) rfl)
set_option maxRecDepth 20000 in
theorem tw_504 : Cond.selects RX7 yX7_weightOf yX7_weightOf ∈ lw_tbl := List.mem_append_left _ (List.mem_of_getElem? (i := 17) rfl)
set_option maxRecDepth 20000 in
theorem tw_505 : Cond.code yX7_weightOf cX7_weightOf 5 (some .int) ∈ lw_tbl := tin_3 (List.mem_of_getElem? (i := 199) rfl)
set_option maxRecDepth 20000 in
theorem tw_506 : Cond.methodLink RX7 104 yX1_rowBits ∈ lw_tbl := tin_3 (List.mem_of_getElem? (i := 200) rfl)
set_option maxRecDepth 20000 in
theorem tw_507 : Cond.methodLink RX7 107 yJ6_bitCount_0f7a4 ∈ lw_tbl := tin_3 (List.mem_of_getElem? (i := 201) rfl)
set_option maxRecDepth 20000 in
theorem tw_508 : Cond.static yJ6_bitCount_0f7a4 ∈ lw_tbl := tin_3 (List.mem_of_getElem? (i := 202) rfl)
set_option maxRecDepth 20000 in
theorem tw_509 : Cond.initialized RJ6 ∈ lw_tbl := tin_1 (List.mem_of_getElem? (i := 19) rfl)
set_option maxRecDepth 20000 in
theorem tw_510 : Cond.code yJ6_bitCount_0f7a4 cJ6_bitCount_0f7a4 1 (some .int) ∈ lw_tbl := tin_3 (List.mem_of_getElem? (i := 203) rfl)
set_option maxRecDepth 20000 in
theorem tw_511 : Cond.constant RJ6 265 (1431655765) ∈ lw_tbl := tin_3 (List.mem_of_getElem? (i := 204) rfl)
set_option maxRecDepth 20000 in
theorem tw_512 : Cond.constant RJ6 266 (858993459) ∈ lw_tbl := tin_3 (List.mem_of_getElem? (i := 205) rfl)
set_option maxRecDepth 20000 in
theorem tw_513 : Cond.constant RJ6 267 (252645135) ∈ lw_tbl := tin_3 (List.mem_of_getElem? (i := 206) rfl)
set_option maxRecDepth 20000 in
theorem tw_514 : Cond.methodLink RX7 112 yX1_columnBits ∈ lw_tbl := tin_3 (List.mem_of_getElem? (i := 207) rfl)
set_option maxRecDepth 20000 in
theorem tw_515 : Cond.instanceMethod yX1_columnBits ∈ lw_tbl := tin_3 (List.mem_of_getElem? (i := 208) rfl)
set_option maxRecDepth 20000 in
theorem tw_516 : Cond.selects RX1 yX1_columnBits yX1_columnBits ∈ lw_tbl := tin_3 (List.mem_of_getElem? (i := 209) rfl)
set_option maxRecDepth 20000 in
theorem tw_517 : Cond.code yX1_columnBits cX1_columnBits 4 (some .int) ∈ lw_tbl := tin_3 (List.mem_of_getElem? (i := 210) rfl)
set_option maxRecDepth 20000 in
theorem tw_518 : Cond.methodLink RX7 101 yX1_lowerAt ∈ lw_tbl := tin_3 (List.mem_of_getElem? (i := 214) rfl)
set_option maxRecDepth 20000 in
theorem tw_519 : Cond.methodLink RX7 81 yX7_clearRow ∈ lw_tbl := tin_3 (List.mem_of_getElem? (i := 215) rfl)
set_option maxRecDepth 20000 in
theorem tw_520 : Cond.instanceMethod yX7_clearRow ∈ lw_tbl := tin_3 (List.mem_of_getElem? (i := 217) rfl)
set_option maxRecDepth 20000 in
theorem tw_521 : Cond.selects RX7 yX7_clearRow yX7_clearRow ∈ lw_tbl := List.mem_append_left _ (List.mem_of_getElem? (i := 18) rfl)
set_option maxRecDepth 20000 in
theorem tw_522 : Cond.code yX7_clearRow cX7_clearRow 4 (some .int) ∈ lw_tbl := tin_3 (List.mem_of_getElem? (i := 218) rfl)
set_option maxRecDepth 20000 in
theorem tw_523 : Cond.fieldLink RX7 126 "RowPivots$Ratio" "isLong" "Z" ∈ lw_tbl := tin_1 (List.mem_of_getElem? (i := 60) rfl)
set_option maxRecDepth 20000 in
theorem tw_524 : Cond.fieldLink RX7 129 "RowPivots$Ratio" "upper" "J" ∈ lw_tbl := tin_1 (List.mem_of_getElem? (i := 50) rfl)
set_option maxRecDepth 20000 in
theorem tw_525 : Cond.fieldLink RX7 133 "RowPivots$Ratio" "lower" "J" ∈ lw_tbl := tin_1 (List.mem_of_getElem? (i := 55) rfl)
set_option maxRecDepth 20000 in
theorem tw_526 : Cond.fieldLink RX7 140 "RowPivots$Sweep" "brokenRow" "I" ∈ lw_tbl := tin_1 (List.mem_of_getElem? (i := 207) rfl)
set_option maxRecDepth 20000 in
theorem tw_527 : Cond.fieldLink RX7 143 "RowPivots$Sweep" "brokenColumn" "I" ∈ lw_tbl := tin_1 (List.mem_of_getElem? (i := 209) rfl)
set_option maxRecDepth 20000 in
theorem tw_528 : Cond.methodLink RX7 115 yX3_load ∈ lw_tbl := tin_3 (List.mem_of_getElem? (i := 219) rfl)
set_option maxRecDepth 20000 in
theorem tw_529 : Cond.methodLink RX7 119 yX3_over ∈ lw_tbl := tin_3 (List.mem_of_getElem? (i := 220) rfl)
set_option maxRecDepth 20000 in
theorem tw_530 : Cond.instanceMethod yX3_over ∈ lw_tbl := tin_3 (List.mem_of_getElem? (i := 221) rfl)
set_option maxRecDepth 20000 in
theorem tw_531 : Cond.selects RX3 yX3_over yX3_over ∈ lw_tbl := tin_3 (List.mem_of_getElem? (i := 222) rfl)
set_option maxRecDepth 20000 in
theorem tw_532 : Cond.code yX3_over cX3_over 5 none ∈ lw_tbl := tin_3 (List.mem_of_getElem? (i := 223) rfl)
set_option maxRecDepth 20000 in
theorem tw_533 : Cond.methodLink RX7 123 yX3_negate ∈ lw_tbl := tin_3 (List.mem_of_getElem? (i := 224) rfl)
set_option maxRecDepth 20000 in
theorem tw_534 : Cond.instanceMethod yX3_negate ∈ lw_tbl := tin_3 (List.mem_of_getElem? (i := 225) rfl)
set_option maxRecDepth 20000 in
theorem tw_535 : Cond.selects RX3 yX3_negate yX3_negate ∈ lw_tbl := tin_3 (List.mem_of_getElem? (i := 226) rfl)
set_option maxRecDepth 20000 in
theorem tw_536 : Cond.code yX3_negate cX3_negate 1 none ∈ lw_tbl := tin_3 (List.mem_of_getElem? (i := 227) rfl)
set_option maxRecDepth 20000 in
theorem tw_537 : Cond.methodLink RX7 136 yX1_addTimes ∈ lw_tbl := tin_3 (List.mem_of_getElem? (i := 228) rfl)
set_option maxRecDepth 20000 in
theorem tw_538 : Cond.methodLink RX10 170 yX0_takeSwept ∈ lw_tbl := tin_3 (List.mem_of_getElem? (i := 229) rfl)
set_option maxRecDepth 20000 in
theorem tw_539 : Cond.instanceMethod yX0_takeSwept ∈ lw_tbl := tin_3 (List.mem_of_getElem? (i := 230) rfl)
set_option maxRecDepth 20000 in
theorem tw_540 : Cond.selects RX0 yX0_takeSwept yX0_takeSwept ∈ lw_tbl := tin_3 (List.mem_of_getElem? (i := 231) rfl)
set_option maxRecDepth 20000 in
theorem tw_541 : Cond.code yX0_takeSwept cX0_takeSwept 3 (some .int) ∈ lw_tbl := tin_3 (List.mem_of_getElem? (i := 232) rfl)
set_option maxRecDepth 20000 in
theorem tw_542 : Cond.fieldLink RX0 90 "RowPivots$Sweep" "broken" "Z" ∈ lw_tbl := tin_1 (List.mem_of_getElem? (i := 204) rfl)
set_option maxRecDepth 20000 in
theorem tw_543 : Cond.fieldLink RX0 95 "RowPivots$Sweep" "brokenRow" "I" ∈ lw_tbl := tin_1 (List.mem_of_getElem? (i := 206) rfl)
set_option maxRecDepth 20000 in
theorem tw_544 : Cond.fieldLink RX0 98 "RowPivots$Sweep" "brokenColumn" "I" ∈ lw_tbl := tin_1 (List.mem_of_getElem? (i := 208) rfl)
set_option maxRecDepth 20000 in
theorem tw_545 : Cond.fieldLink RX0 101 "RowPivots$Sweep" "grid" "LRowPivots$Grid;" ∈ lw_tbl := tin_1 (List.mem_of_getElem? (i := 198) rfl)
set_option maxRecDepth 20000 in
theorem tw_546 : Cond.methodLink RX10 174 yX4_refuse ∈ lw_tbl := tin_3 (List.mem_of_getElem? (i := 233) rfl)
set_option maxRecDepth 20000 in
theorem tw_547 : Cond.instanceMethod yX4_refuse ∈ lw_tbl := tin_3 (List.mem_of_getElem? (i := 234) rfl)
set_option maxRecDepth 20000 in
theorem tw_548 : Cond.selects RX4 yX4_refuse yX4_refuse ∈ lw_tbl := tin_3 (List.mem_of_getElem? (i := 235) rfl)
set_option maxRecDepth 20000 in
theorem tw_549 : Cond.code yX4_refuse cX4_refuse 1 (some .boolean) ∈ lw_tbl := tin_3 (List.mem_of_getElem? (i := 236) rfl)
set_option maxRecDepth 20000 in
theorem tw_550 : Cond.methodLink RX10 134 yX1_copy ∈ lw_tbl := tin_3 (List.mem_of_getElem? (i := 237) rfl)
set_option maxRecDepth 20000 in
theorem tw_551 : Cond.methodLink RX10 138 yX2_forget ∈ lw_tbl := tin_3 (List.mem_of_getElem? (i := 238) rfl)
set_option maxRecDepth 20000 in
theorem tw_552 : Cond.instanceMethod yX2_forget ∈ lw_tbl := tin_3 (List.mem_of_getElem? (i := 239) rfl)
set_option maxRecDepth 20000 in
theorem tw_553 : Cond.selects RX2 yX2_forget yX2_forget ∈ lw_tbl := tin_4 (List.mem_of_getElem? (i := 0) rfl)
set_option maxRecDepth 20000 in
theorem tw_554 : Cond.code yX2_forget cX2_forget 1 none ∈ lw_tbl := tin_4 (List.mem_of_getElem? (i := 1) rfl)
set_option maxRecDepth 20000 in
theorem tw_555 : Cond.fieldLink RX2 26 "RowPivots$Past" "size" "I" ∈ lw_tbl := tin_1 (List.mem_of_getElem? (i := 150) rfl)
set_option maxRecDepth 20000 in
theorem tw_556 : Cond.fieldLink RX2 17 "RowPivots$Past" "top" "I" ∈ lw_tbl := tin_1 (List.mem_of_getElem? (i := 153) rfl)
set_option maxRecDepth 20000 in
theorem tw_557 : Cond.methodLink RL 23 yX10_text ∈ lw_tbl := tin_2 (List.mem_of_getElem? (i := 148) rfl)
set_option maxRecDepth 20000 in
theorem tw_558 : Cond.instanceMethod yX10_text ∈ lw_tbl := tin_2 (List.mem_of_getElem? (i := 149) rfl)
set_option maxRecDepth 20000 in
theorem tw_559 : Cond.selects RX10 yX10_text yX10_text ∈ lw_tbl := tin_2 (List.mem_of_getElem? (i := 150) rfl)
set_option maxRecDepth 20000 in
theorem tw_560 : Cond.code yX11_text cX11_text 4 (some .int) ∈ lw_tbl := tin_6 (List.mem_of_getElem? (i := 193) rfl)
set_option maxRecDepth 20000 in
theorem tw_561 : Cond.fieldLink RX11 262 "RowPivotsModel" "size0" "I" ∈ lw_tbl := tin_5 (List.mem_of_getElem? (i := 73) rfl)
set_option maxRecDepth 20000 in
theorem tw_562 : Cond.fieldLink RX11 259 "RowPivotsModel" "faultKind" "I" ∈ lw_tbl := tin_5 (List.mem_of_getElem? (i := 48) rfl)
set_option maxRecDepth 20000 in
theorem tw_563 : Cond.fieldLink RX11 265 "RowPivotsModel" "next" "I" ∈ lw_tbl := tin_5 (List.mem_of_getElem? (i := 74) rfl)
set_option maxRecDepth 20000 in
theorem tw_564 : Cond.constantLong RX11 349 (381245) ∈ lw_tbl := tin_6 (List.mem_of_getElem? (i := 213) rfl)
set_option maxRecDepth 20000 in
theorem tw_565 : Cond.fieldLink RX11 271 "RowPivotsModel" "place" "I" ∈ lw_tbl := tin_5 (List.mem_of_getElem? (i := 76) rfl)
set_option maxRecDepth 20000 in
theorem tw_566 : Cond.fieldLink RX11 277 "RowPivotsModel" "token" "I" ∈ lw_tbl := tin_5 (List.mem_of_getElem? (i := 75) rfl)
set_option maxRecDepth 20000 in
theorem tw_567 : Cond.fieldLink RX11 172 "RowPivotsModel" "undos" "I" ∈ lw_tbl := tin_5 (List.mem_of_getElem? (i := 50) rfl)
set_option maxRecDepth 20000 in
theorem tw_568 : Cond.methodLink RX11 299 yX11_takes ∈ lw_tbl := tin_6 (List.mem_of_getElem? (i := 194) rfl)
set_option maxRecDepth 20000 in
theorem tw_569 : Cond.instanceMethod yX11_takes ∈ lw_tbl := tin_6 (List.mem_of_getElem? (i := 196) rfl)
set_option maxRecDepth 20000 in
theorem tw_570 : Cond.selects RX11 yX11_takes yX11_takes ∈ lw_tbl := List.mem_append_left _ (List.mem_of_getElem? (i := 68) rfl)
set_option maxRecDepth 20000 in
theorem tw_571 : Cond.code yX11_takes cX11_takes 2 none ∈ lw_tbl := tin_6 (List.mem_of_getElem? (i := 197) rfl)
set_option maxRecDepth 20000 in
theorem tw_572 : Cond.fieldLink RX11 274 "RowPivotsModel" "value" "J" ∈ lw_tbl := tin_5 (List.mem_of_getElem? (i := 77) rfl)
set_option maxRecDepth 20000 in
theorem tw_573 : Cond.constantLong RX11 283 (27) ∈ lw_tbl := tin_6 (List.mem_of_getElem? (i := 205) rfl)
set_option maxRecDepth 20000 in
theorem tw_574 : Cond.constantLong RX11 285 (97) ∈ lw_tbl := tin_6 (List.mem_of_getElem? (i := 206) rfl)
set_option maxRecDepth 20000 in
theorem tw_575 : Cond.constantLong RX11 287 (-1) ∈ lw_tbl := tin_6 (List.mem_of_getElem? (i := 207) rfl)
set_option maxRecDepth 20000 in
theorem tw_576 : Cond.constantLong RX11 292 (10) ∈ lw_tbl := tin_6 (List.mem_of_getElem? (i := 211) rfl)
set_option maxRecDepth 20000 in
theorem tw_577 : Cond.constantLong RX11 294 (48) ∈ lw_tbl := tin_6 (List.mem_of_getElem? (i := 212) rfl)
set_option maxRecDepth 20000 in
theorem tw_578 : Cond.methodLink RX11 268 yX11_byteAt ∈ lw_tbl := tin_6 (List.mem_of_getElem? (i := 198) rfl)
set_option maxRecDepth 20000 in
theorem tw_579 : Cond.instanceMethod yX11_byteAt ∈ lw_tbl := tin_6 (List.mem_of_getElem? (i := 200) rfl)
set_option maxRecDepth 20000 in
theorem tw_580 : Cond.selects RX11 yX11_byteAt yX11_byteAt ∈ lw_tbl := List.mem_append_left _ (List.mem_of_getElem? (i := 69) rfl)
set_option maxRecDepth 20000 in
theorem tw_581 : Cond.code yX11_byteAt cX11_byteAt 2 (some .int) ∈ lw_tbl := tin_6 (List.mem_of_getElem? (i := 201) rfl)
set_option maxRecDepth 20000 in
theorem tw_582 : Cond.methodLink RX11 280 yX11_isLetter ∈ lw_tbl := tin_6 (List.mem_of_getElem? (i := 202) rfl)
set_option maxRecDepth 20000 in
theorem tw_583 : Cond.static yX11_isLetter ∈ lw_tbl := tin_6 (List.mem_of_getElem? (i := 203) rfl)
set_option maxRecDepth 20000 in
theorem tw_584 : Cond.code yX11_isLetter cX11_isLetter 1 (some .boolean) ∈ lw_tbl := tin_6 (List.mem_of_getElem? (i := 204) rfl)
set_option maxRecDepth 20000 in
theorem tw_585 : Cond.methodLink RX11 289 yX11_isDigit ∈ lw_tbl := tin_6 (List.mem_of_getElem? (i := 208) rfl)
set_option maxRecDepth 20000 in
theorem tw_586 : Cond.static yX11_isDigit ∈ lw_tbl := tin_6 (List.mem_of_getElem? (i := 209) rfl)
set_option maxRecDepth 20000 in
theorem tw_587 : Cond.code yX11_isDigit cX11_isDigit 1 (some .boolean) ∈ lw_tbl := tin_6 (List.mem_of_getElem? (i := 210) rfl)
set_option maxRecDepth 20000 in
theorem tw_588 : Cond.methodLink RX11 333 yX11_hasWord ∈ lw_tbl := tin_6 (List.mem_of_getElem? (i := 214) rfl)
set_option maxRecDepth 20000 in
theorem tw_589 : Cond.instanceMethod yX11_hasWord ∈ lw_tbl := tin_6 (List.mem_of_getElem? (i := 216) rfl)
set_option maxRecDepth 20000 in
theorem tw_590 : Cond.selects RX11 yX11_hasWord yX11_hasWord ∈ lw_tbl := List.mem_append_left _ (List.mem_of_getElem? (i := 70) rfl)
set_option maxRecDepth 20000 in
theorem tw_591 : Cond.code yX11_hasWord cX11_hasWord 4 (some .boolean) ∈ lw_tbl := tin_6 (List.mem_of_getElem? (i := 217) rfl)
set_option maxRecDepth 20000 in
theorem tw_592 : Cond.methodLink RX11 296 yX11_isGood ∈ lw_tbl := tin_6 (List.mem_of_getElem? (i := 218) rfl)
set_option maxRecDepth 20000 in
theorem tw_593 : Cond.instanceMethod yX11_isGood ∈ lw_tbl := tin_6 (List.mem_of_getElem? (i := 220) rfl)
set_option maxRecDepth 20000 in
theorem tw_594 : Cond.selects RX11 yX11_isGood yX11_isGood ∈ lw_tbl := List.mem_append_left _ (List.mem_of_getElem? (i := 71) rfl)
set_option maxRecDepth 20000 in
theorem tw_595 : Cond.code yX11_isGood cX11_isGood 1 (some .boolean) ∈ lw_tbl := tin_6 (List.mem_of_getElem? (i := 221) rfl)
set_option maxRecDepth 20000 in
theorem tw_596 : Cond.methodLink RX11 302 yX11_fails ∈ lw_tbl := tin_6 (List.mem_of_getElem? (i := 222) rfl)
set_option maxRecDepth 20000 in
theorem tw_597 : Cond.instanceMethod yX11_fails ∈ lw_tbl := tin_6 (List.mem_of_getElem? (i := 224) rfl)
set_option maxRecDepth 20000 in
theorem tw_598 : Cond.selects RX11 yX11_fails yX11_fails ∈ lw_tbl := List.mem_append_left _ (List.mem_of_getElem? (i := 72) rfl)
set_option maxRecDepth 20000 in
theorem tw_599 : Cond.code yX11_fails cX11_fails 3 none ∈ lw_tbl := tin_6 (List.mem_of_getElem? (i := 225) rfl)
set_option maxRecDepth 20000 in
theorem tw_600 : Cond.methodLink RX11 308 yX11_numeral ∈ lw_tbl := tin_6 (List.mem_of_getElem? (i := 226) rfl)
set_option maxRecDepth 20000 in
theorem tw_601 : Cond.instanceMethod yX11_numeral ∈ lw_tbl := tin_6 (List.mem_of_getElem? (i := 228) rfl)
set_option maxRecDepth 20000 in
theorem tw_602 : Cond.selects RX11 yX11_numeral yX11_numeral ∈ lw_tbl := List.mem_append_left _ (List.mem_of_getElem? (i := 73) rfl)
set_option maxRecDepth 20000 in
theorem tw_603 : Cond.code yX11_numeral cX11_numeral 4 (some .int) ∈ lw_tbl := tin_6 (List.mem_of_getElem? (i := 229) rfl)
set_option maxRecDepth 20000 in
theorem tw_604 : Cond.methodLink RX11 320 yX11_mustEnd ∈ lw_tbl := tin_6 (List.mem_of_getElem? (i := 230) rfl)
set_option maxRecDepth 20000 in
theorem tw_605 : Cond.instanceMethod yX11_mustEnd ∈ lw_tbl := tin_6 (List.mem_of_getElem? (i := 232) rfl)
set_option maxRecDepth 20000 in
theorem tw_606 : Cond.selects RX11 yX11_mustEnd yX11_mustEnd ∈ lw_tbl := List.mem_append_left _ (List.mem_of_getElem? (i := 74) rfl)
set_option maxRecDepth 20000 in
theorem tw_607 : Cond.code yX11_mustEnd cX11_mustEnd 1 none ∈ lw_tbl := tin_6 (List.mem_of_getElem? (i := 233) rfl)
set_option maxRecDepth 20000 in
theorem tw_608 : Cond.methodLink RX11 305 yX11_hasSign ∈ lw_tbl := tin_6 (List.mem_of_getElem? (i := 234) rfl)
set_option maxRecDepth 20000 in
theorem tw_609 : Cond.instanceMethod yX11_hasSign ∈ lw_tbl := tin_6 (List.mem_of_getElem? (i := 236) rfl)
set_option maxRecDepth 20000 in
theorem tw_610 : Cond.selects RX11 yX11_hasSign yX11_hasSign ∈ lw_tbl := List.mem_append_left _ (List.mem_of_getElem? (i := 75) rfl)
set_option maxRecDepth 20000 in
theorem tw_611 : Cond.code yX11_hasSign cX11_hasSign 3 (some .boolean) ∈ lw_tbl := tin_6 (List.mem_of_getElem? (i := 237) rfl)
set_option maxRecDepth 20000 in
theorem tw_612 : Cond.methodLink RX11 351 yX11_readsLine ∈ lw_tbl := tin_6 (List.mem_of_getElem? (i := 238) rfl)
set_option maxRecDepth 20000 in
theorem tw_613 : Cond.instanceMethod yX11_readsLine ∈ lw_tbl := tin_7 (List.mem_of_getElem? (i := 0) rfl)
set_option maxRecDepth 20000 in
theorem tw_614 : Cond.selects RX11 yX11_readsLine yX11_readsLine ∈ lw_tbl := List.mem_append_left _ (List.mem_of_getElem? (i := 76) rfl)
set_option maxRecDepth 20000 in
theorem tw_615 : Cond.code yX11_readsLine cX11_readsLine 4 none ∈ lw_tbl := tin_7 (List.mem_of_getElem? (i := 1) rfl)
set_option maxRecDepth 20000 in
theorem tw_616 : Cond.constantLong RX11 331 (13550) ∈ lw_tbl := tin_7 (List.mem_of_getElem? (i := 2) rfl)
set_option maxRecDepth 20000 in
theorem tw_617 : Cond.constantLong RX11 340 (14006) ∈ lw_tbl := tin_7 (List.mem_of_getElem? (i := 11) rfl)
set_option maxRecDepth 20000 in
theorem tw_618 : Cond.constantLong RX11 325 (390787) ∈ lw_tbl := tin_7 (List.mem_of_getElem? (i := 16) rfl)
set_option maxRecDepth 20000 in
theorem tw_619 : Cond.constantLong RX11 329 (10157486) ∈ lw_tbl := tin_7 (List.mem_of_getElem? (i := 17) rfl)
set_option maxRecDepth 20000 in
theorem tw_620 : Cond.constantLong RX11 327 (841) ∈ lw_tbl := tin_7 (List.mem_of_getElem? (i := 18) rfl)
set_option maxRecDepth 20000 in
theorem tw_621 : Cond.constantLong RX11 323 (261031658) ∈ lw_tbl := tin_7 (List.mem_of_getElem? (i := 19) rfl)
set_option maxRecDepth 20000 in
theorem tw_622 : Cond.methodLink RX11 202 yX11_begins ∈ lw_tbl := tin_5 (List.mem_of_getElem? (i := 159) rfl)
set_option maxRecDepth 20000 in
theorem tw_623 : Cond.instanceMethod yX11_begins ∈ lw_tbl := tin_5 (List.mem_of_getElem? (i := 161) rfl)
set_option maxRecDepth 20000 in
theorem tw_624 : Cond.selects RX11 yX11_begins yX11_begins ∈ lw_tbl := List.mem_append_left _ (List.mem_of_getElem? (i := 28) rfl)
set_option maxRecDepth 20000 in
theorem tw_625 : Cond.code yX11_begins cX11_begins 2 none ∈ lw_tbl := tin_5 (List.mem_of_getElem? (i := 162) rfl)
set_option maxRecDepth 20000 in
theorem tw_626 : Cond.fieldLink RX11 190 "RowPivotsModel" "from" "I" ∈ lw_tbl := tin_5 (List.mem_of_getElem? (i := 72) rfl)
set_option maxRecDepth 20000 in
theorem tw_627 : Cond.fieldLink RX11 120 "RowPivotsModel" "isBroken" "Z" ∈ lw_tbl := tin_5 (List.mem_of_getElem? (i := 67) rfl)
set_option maxRecDepth 20000 in
theorem tw_628 : Cond.methodLink RX11 193 yX11_laysFrom ∈ lw_tbl := tin_5 (List.mem_of_getElem? (i := 163) rfl)
set_option maxRecDepth 20000 in
theorem tw_629 : Cond.instanceMethod yX11_laysFrom ∈ lw_tbl := tin_5 (List.mem_of_getElem? (i := 165) rfl)
set_option maxRecDepth 20000 in
theorem tw_630 : Cond.selects RX11 yX11_laysFrom yX11_laysFrom ∈ lw_tbl := List.mem_append_left _ (List.mem_of_getElem? (i := 29) rfl)
set_option maxRecDepth 20000 in
theorem tw_631 : Cond.code yX11_laysFrom cX11_laysFrom 3 none ∈ lw_tbl := tin_5 (List.mem_of_getElem? (i := 166) rfl)
set_option maxRecDepth 20000 in
theorem tw_632 : Cond.fieldLink RX11 96 "RowPivotsModel" "rows" "I" ∈ lw_tbl := tin_5 (List.mem_of_getElem? (i := 62) rfl)
set_option maxRecDepth 20000 in
theorem tw_633 : Cond.fieldLink RX11 93 "RowPivotsModel" "columns" "I" ∈ lw_tbl := tin_5 (List.mem_of_getElem? (i := 63) rfl)
set_option maxRecDepth 20000 in
theorem tw_634 : Cond.methodLink RX11 337 yX11_readsRow ∈ lw_tbl := tin_7 (List.mem_of_getElem? (i := 3) rfl)
set_option maxRecDepth 20000 in
theorem tw_635 : Cond.instanceMethod yX11_readsRow ∈ lw_tbl := tin_7 (List.mem_of_getElem? (i := 5) rfl)
set_option maxRecDepth 20000 in
theorem tw_636 : Cond.selects RX11 yX11_readsRow yX11_readsRow ∈ lw_tbl := List.mem_append_left _ (List.mem_of_getElem? (i := 77) rfl)
set_option maxRecDepth 20000 in
theorem tw_637 : Cond.code yX11_readsRow cX11_readsRow 3 none ∈ lw_tbl := tin_7 (List.mem_of_getElem? (i := 6) rfl)
set_option maxRecDepth 20000 in
theorem tw_638 : Cond.fieldLink RX11 311 "RowPivotsModel" "toldUp" "I" ∈ lw_tbl := tin_5 (List.mem_of_getElem? (i := 78) rfl)
set_option maxRecDepth 20000 in
theorem tw_639 : Cond.fieldLink RX11 314 "RowPivotsModel" "toldLow" "I" ∈ lw_tbl := tin_5 (List.mem_of_getElem? (i := 79) rfl)
set_option maxRecDepth 20000 in
theorem tw_640 : Cond.fieldLink RX11 66 "RowPivotsModel" "up" "J" ∈ lw_tbl := tin_5 (List.mem_of_getElem? (i := 51) rfl)
set_option maxRecDepth 20000 in
theorem tw_641 : Cond.fieldLink RX11 70 "RowPivotsModel" "low" "J" ∈ lw_tbl := tin_5 (List.mem_of_getElem? (i := 52) rfl)
set_option maxRecDepth 20000 in
theorem tw_642 : Cond.methodLink RX11 317 yX11_readsFraction ∈ lw_tbl := tin_7 (List.mem_of_getElem? (i := 7) rfl)
set_option maxRecDepth 20000 in
theorem tw_643 : Cond.instanceMethod yX11_readsFraction ∈ lw_tbl := tin_7 (List.mem_of_getElem? (i := 9) rfl)
set_option maxRecDepth 20000 in
theorem tw_644 : Cond.selects RX11 yX11_readsFraction yX11_readsFraction ∈ lw_tbl := List.mem_append_left _ (List.mem_of_getElem? (i := 78) rfl)
set_option maxRecDepth 20000 in
theorem tw_645 : Cond.code yX11_readsFraction cX11_readsFraction 3 none ∈ lw_tbl := tin_7 (List.mem_of_getElem? (i := 10) rfl)
set_option maxRecDepth 20000 in
theorem tw_646 : Cond.methodLink RX11 81 yX11_comes ∈ lw_tbl := tin_5 (List.mem_of_getElem? (i := 185) rfl)
set_option maxRecDepth 20000 in
theorem tw_647 : Cond.instanceMethod yX11_comes ∈ lw_tbl := tin_5 (List.mem_of_getElem? (i := 187) rfl)
set_option maxRecDepth 20000 in
theorem tw_648 : Cond.selects RX11 yX11_comes yX11_comes ∈ lw_tbl := List.mem_append_left _ (List.mem_of_getElem? (i := 33) rfl)
set_option maxRecDepth 20000 in
theorem tw_649 : Cond.code yX11_comes cX11_comes 7 none ∈ lw_tbl := tin_5 (List.mem_of_getElem? (i := 188) rfl)
set_option maxRecDepth 20000 in
theorem tw_650 : Cond.constantLong RX11 73 (1000000000) ∈ lw_tbl := tin_5 (List.mem_of_getElem? (i := 192) rfl)
set_option maxRecDepth 20000 in
theorem tw_651 : Cond.constantLong RX11 75 (-1000000000) ∈ lw_tbl := tin_5 (List.mem_of_getElem? (i := 193) rfl)
set_option maxRecDepth 20000 in
theorem tw_652 : Cond.fieldLink RX11 77 "RowPivotsModel" "isLong" "Z" ∈ lw_tbl := tin_5 (List.mem_of_getElem? (i := 53) rfl)
set_option maxRecDepth 20000 in
theorem tw_653 : Cond.methodLink RX11 62 yX11_common ∈ lw_tbl := tin_5 (List.mem_of_getElem? (i := 189) rfl)
set_option maxRecDepth 20000 in
theorem tw_654 : Cond.static yX11_common ∈ lw_tbl := tin_5 (List.mem_of_getElem? (i := 190) rfl)
set_option maxRecDepth 20000 in
theorem tw_655 : Cond.code yX11_common cX11_common 10 (some .long) ∈ lw_tbl := tin_5 (List.mem_of_getElem? (i := 191) rfl)
set_option maxRecDepth 20000 in
theorem tw_656 : Cond.methodLink RX11 143 yX11_laysCell ∈ lw_tbl := tin_5 (List.mem_of_getElem? (i := 197) rfl)
set_option maxRecDepth 20000 in
theorem tw_657 : Cond.instanceMethod yX11_laysCell ∈ lw_tbl := tin_5 (List.mem_of_getElem? (i := 199) rfl)
set_option maxRecDepth 20000 in
theorem tw_658 : Cond.selects RX11 yX11_laysCell yX11_laysCell ∈ lw_tbl := List.mem_append_left _ (List.mem_of_getElem? (i := 34) rfl)
set_option maxRecDepth 20000 in
theorem tw_659 : Cond.code yX11_laysCell cX11_laysCell 7 none ∈ lw_tbl := tin_5 (List.mem_of_getElem? (i := 200) rfl)
set_option maxRecDepth 20000 in
theorem tw_660 : Cond.methodLink RX11 89 yX11_cell ∈ lw_tbl := tin_5 (List.mem_of_getElem? (i := 194) rfl)
set_option maxRecDepth 20000 in
theorem tw_661 : Cond.static yX11_cell ∈ lw_tbl := tin_5 (List.mem_of_getElem? (i := 195) rfl)
set_option maxRecDepth 20000 in
theorem tw_662 : Cond.code yX11_cell cX11_cell 2 (some .int) ∈ lw_tbl := tin_5 (List.mem_of_getElem? (i := 196) rfl)
set_option maxRecDepth 20000 in
theorem tw_663 : Cond.methodLink RX11 342 yX11_readsSet ∈ lw_tbl := tin_7 (List.mem_of_getElem? (i := 12) rfl)
set_option maxRecDepth 20000 in
theorem tw_664 : Cond.instanceMethod yX11_readsSet ∈ lw_tbl := tin_7 (List.mem_of_getElem? (i := 14) rfl)
set_option maxRecDepth 20000 in
theorem tw_665 : Cond.selects RX11 yX11_readsSet yX11_readsSet ∈ lw_tbl := List.mem_append_left _ (List.mem_of_getElem? (i := 79) rfl)
set_option maxRecDepth 20000 in
theorem tw_666 : Cond.code yX11_readsSet cX11_readsSet 3 none ∈ lw_tbl := tin_7 (List.mem_of_getElem? (i := 15) rfl)
set_option maxRecDepth 20000 in
theorem tw_667 : Cond.methodLink RX11 345 yX11_readsAct ∈ lw_tbl := tin_7 (List.mem_of_getElem? (i := 20) rfl)
set_option maxRecDepth 20000 in
theorem tw_668 : Cond.instanceMethod yX11_readsAct ∈ lw_tbl := tin_7 (List.mem_of_getElem? (i := 22) rfl)
set_option maxRecDepth 20000 in
theorem tw_669 : Cond.selects RX11 yX11_readsAct yX11_readsAct ∈ lw_tbl := List.mem_append_left _ (List.mem_of_getElem? (i := 80) rfl)
set_option maxRecDepth 20000 in
theorem tw_670 : Cond.code yX11_readsAct cX11_readsAct 5 (some .int) ∈ lw_tbl := tin_7 (List.mem_of_getElem? (i := 23) rfl)
set_option maxRecDepth 20000 in
theorem tw_671 : Cond.methodLink RX11 212 yX11_swaps ∈ lw_tbl := tin_5 (List.mem_of_getElem? (i := 221) rfl)
set_option maxRecDepth 20000 in
theorem tw_672 : Cond.instanceMethod yX11_swaps ∈ lw_tbl := tin_5 (List.mem_of_getElem? (i := 223) rfl)
set_option maxRecDepth 20000 in
theorem tw_673 : Cond.selects RX11 yX11_swaps yX11_swaps ∈ lw_tbl := List.mem_append_left _ (List.mem_of_getElem? (i := 39) rfl)
set_option maxRecDepth 20000 in
theorem tw_674 : Cond.code yX11_swaps cX11_swaps 11 (some .int) ∈ lw_tbl := tin_5 (List.mem_of_getElem? (i := 224) rfl)
set_option maxRecDepth 20000 in
theorem tw_675 : Cond.methodLink RX11 178 yX11_isRow ∈ lw_tbl := tin_5 (List.mem_of_getElem? (i := 175) rfl)
set_option maxRecDepth 20000 in
theorem tw_676 : Cond.instanceMethod yX11_isRow ∈ lw_tbl := tin_5 (List.mem_of_getElem? (i := 177) rfl)
set_option maxRecDepth 20000 in
theorem tw_677 : Cond.selects RX11 yX11_isRow yX11_isRow ∈ lw_tbl := List.mem_append_left _ (List.mem_of_getElem? (i := 32) rfl)
set_option maxRecDepth 20000 in
theorem tw_678 : Cond.code yX11_isRow cX11_isRow 2 (some .boolean) ∈ lw_tbl := tin_5 (List.mem_of_getElem? (i := 178) rfl)
set_option maxRecDepth 20000 in
theorem tw_679 : Cond.methodLink RX11 215 yX11_scales ∈ lw_tbl := tin_5 (List.mem_of_getElem? (i := 229) rfl)
set_option maxRecDepth 20000 in
theorem tw_680 : Cond.instanceMethod yX11_scales ∈ lw_tbl := tin_5 (List.mem_of_getElem? (i := 231) rfl)
set_option maxRecDepth 20000 in
theorem tw_681 : Cond.selects RX11 yX11_scales yX11_scales ∈ lw_tbl := List.mem_append_left _ (List.mem_of_getElem? (i := 40) rfl)
set_option maxRecDepth 20000 in
theorem tw_682 : Cond.code yX11_scales cX11_scales 5 (some .int) ∈ lw_tbl := tin_5 (List.mem_of_getElem? (i := 232) rfl)
set_option maxRecDepth 20000 in
theorem tw_683 : Cond.methodLink RX11 184 yX11_isTold ∈ lw_tbl := tin_5 (List.mem_of_getElem? (i := 182) rfl)
set_option maxRecDepth 20000 in
theorem tw_684 : Cond.static yX11_isTold ∈ lw_tbl := tin_5 (List.mem_of_getElem? (i := 183) rfl)
set_option maxRecDepth 20000 in
theorem tw_685 : Cond.code yX11_isTold cX11_isTold 2 (some .boolean) ∈ lw_tbl := tin_5 (List.mem_of_getElem? (i := 184) rfl)
set_option maxRecDepth 20000 in
theorem tw_686 : Cond.methodLink RX11 187 yX11_isNull ∈ lw_tbl := tin_5 (List.mem_of_getElem? (i := 233) rfl)
set_option maxRecDepth 20000 in
theorem tw_687 : Cond.instanceMethod yX11_isNull ∈ lw_tbl := tin_5 (List.mem_of_getElem? (i := 235) rfl)
set_option maxRecDepth 20000 in
theorem tw_688 : Cond.selects RX11 yX11_isNull yX11_isNull ∈ lw_tbl := List.mem_append_left _ (List.mem_of_getElem? (i := 41) rfl)
set_option maxRecDepth 20000 in
theorem tw_689 : Cond.code yX11_isNull cX11_isNull 3 (some .boolean) ∈ lw_tbl := tin_5 (List.mem_of_getElem? (i := 236) rfl)
set_option maxRecDepth 20000 in
theorem tw_690 : Cond.methodLink RX11 129 yX11_times ∈ lw_tbl := tin_5 (List.mem_of_getElem? (i := 237) rfl)
set_option maxRecDepth 20000 in
theorem tw_691 : Cond.instanceMethod yX11_times ∈ lw_tbl := tin_5 (List.mem_of_getElem? (i := 239) rfl)
set_option maxRecDepth 20000 in
theorem tw_692 : Cond.selects RX11 yX11_times yX11_times ∈ lw_tbl := List.mem_append_left _ (List.mem_of_getElem? (i := 42) rfl)
set_option maxRecDepth 20000 in
theorem tw_693 : Cond.code yX11_times cX11_times 9 none ∈ lw_tbl := tin_6 (List.mem_of_getElem? (i := 0) rfl)
set_option maxRecDepth 20000 in
theorem tw_694 : Cond.methodLink RX11 133 yX11_breaks ∈ lw_tbl := tin_6 (List.mem_of_getElem? (i := 1) rfl)
set_option maxRecDepth 20000 in
theorem tw_695 : Cond.instanceMethod yX11_breaks ∈ lw_tbl := tin_6 (List.mem_of_getElem? (i := 3) rfl)
set_option maxRecDepth 20000 in
theorem tw_696 : Cond.selects RX11 yX11_breaks yX11_breaks ∈ lw_tbl := List.mem_append_left _ (List.mem_of_getElem? (i := 43) rfl)
set_option maxRecDepth 20000 in
theorem tw_697 : Cond.code yX11_breaks cX11_breaks 3 none ∈ lw_tbl := tin_6 (List.mem_of_getElem? (i := 4) rfl)
set_option maxRecDepth 20000 in
theorem tw_698 : Cond.fieldLink RX11 123 "RowPivotsModel" "brokenRow" "I" ∈ lw_tbl := tin_5 (List.mem_of_getElem? (i := 65) rfl)
set_option maxRecDepth 20000 in
theorem tw_699 : Cond.fieldLink RX11 126 "RowPivotsModel" "brokenColumn" "I" ∈ lw_tbl := tin_5 (List.mem_of_getElem? (i := 66) rfl)
set_option maxRecDepth 20000 in
theorem tw_700 : Cond.methodLink RX11 219 yX11_addsTo ∈ lw_tbl := tin_6 (List.mem_of_getElem? (i := 9) rfl)
set_option maxRecDepth 20000 in
theorem tw_701 : Cond.instanceMethod yX11_addsTo ∈ lw_tbl := tin_6 (List.mem_of_getElem? (i := 11) rfl)
set_option maxRecDepth 20000 in
theorem tw_702 : Cond.selects RX11 yX11_addsTo yX11_addsTo ∈ lw_tbl := List.mem_append_left _ (List.mem_of_getElem? (i := 44) rfl)
set_option maxRecDepth 20000 in
theorem tw_703 : Cond.code yX11_addsTo cX11_addsTo 5 (some .int) ∈ lw_tbl := tin_6 (List.mem_of_getElem? (i := 12) rfl)
set_option maxRecDepth 20000 in
theorem tw_704 : Cond.methodLink RX11 150 yX11_adds ∈ lw_tbl := tin_6 (List.mem_of_getElem? (i := 13) rfl)
set_option maxRecDepth 20000 in
theorem tw_705 : Cond.instanceMethod yX11_adds ∈ lw_tbl := tin_6 (List.mem_of_getElem? (i := 15) rfl)
set_option maxRecDepth 20000 in
theorem tw_706 : Cond.selects RX11 yX11_adds yX11_adds ∈ lw_tbl := List.mem_append_left _ (List.mem_of_getElem? (i := 45) rfl)
set_option maxRecDepth 20000 in
theorem tw_707 : Cond.code yX11_adds cX11_adds 9 none ∈ lw_tbl := tin_6 (List.mem_of_getElem? (i := 16) rfl)
set_option maxRecDepth 20000 in
theorem tw_708 : Cond.fieldLink RX11 140 "RowPivotsModel" "filled" "I" ∈ lw_tbl := tin_5 (List.mem_of_getElem? (i := 68) rfl)
set_option maxRecDepth 20000 in
theorem tw_709 : Cond.methodLink RX11 137 yX11_plus ∈ lw_tbl := tin_6 (List.mem_of_getElem? (i := 17) rfl)
set_option maxRecDepth 20000 in
theorem tw_710 : Cond.instanceMethod yX11_plus ∈ lw_tbl := tin_6 (List.mem_of_getElem? (i := 19) rfl)
set_option maxRecDepth 20000 in
theorem tw_711 : Cond.selects RX11 yX11_plus yX11_plus ∈ lw_tbl := List.mem_append_left _ (List.mem_of_getElem? (i := 46) rfl)
set_option maxRecDepth 20000 in
theorem tw_712 : Cond.code yX11_plus cX11_plus 9 none ∈ lw_tbl := tin_6 (List.mem_of_getElem? (i := 20) rfl)
set_option maxRecDepth 20000 in
theorem tw_713 : Cond.methodLink RX11 222 yX11_reduces ∈ lw_tbl := tin_6 (List.mem_of_getElem? (i := 25) rfl)
set_option maxRecDepth 20000 in
theorem tw_714 : Cond.instanceMethod yX11_reduces ∈ lw_tbl := tin_6 (List.mem_of_getElem? (i := 27) rfl)
set_option maxRecDepth 20000 in
theorem tw_715 : Cond.selects RX11 yX11_reduces yX11_reduces ∈ lw_tbl := List.mem_append_left _ (List.mem_of_getElem? (i := 47) rfl)
set_option maxRecDepth 20000 in
theorem tw_716 : Cond.code yX11_reduces cX11_reduces 4 (some .int) ∈ lw_tbl := tin_6 (List.mem_of_getElem? (i := 28) rfl)
set_option maxRecDepth 20000 in
theorem tw_717 : Cond.methodLink RX11 166 yX11_goes ∈ lw_tbl := tin_6 (List.mem_of_getElem? (i := 29) rfl)
set_option maxRecDepth 20000 in
theorem tw_718 : Cond.instanceMethod yX11_goes ∈ lw_tbl := tin_6 (List.mem_of_getElem? (i := 31) rfl)
set_option maxRecDepth 20000 in
theorem tw_719 : Cond.selects RX11 yX11_goes yX11_goes ∈ lw_tbl := List.mem_append_left _ (List.mem_of_getElem? (i := 48) rfl)
set_option maxRecDepth 20000 in
theorem tw_720 : Cond.code yX11_goes cX11_goes 3 none ∈ lw_tbl := tin_6 (List.mem_of_getElem? (i := 32) rfl)
set_option maxRecDepth 20000 in
theorem tw_721 : Cond.fieldLink RX11 117 "RowPivotsModel" "rank" "I" ∈ lw_tbl := tin_5 (List.mem_of_getElem? (i := 64) rfl)
set_option maxRecDepth 20000 in
theorem tw_722 : Cond.methodLink RX11 153 yX11_pivots ∈ lw_tbl := tin_6 (List.mem_of_getElem? (i := 33) rfl)
set_option maxRecDepth 20000 in
theorem tw_723 : Cond.instanceMethod yX11_pivots ∈ lw_tbl := tin_6 (List.mem_of_getElem? (i := 35) rfl)
set_option maxRecDepth 20000 in
theorem tw_724 : Cond.selects RX11 yX11_pivots yX11_pivots ∈ lw_tbl := List.mem_append_left _ (List.mem_of_getElem? (i := 49) rfl)
set_option maxRecDepth 20000 in
theorem tw_725 : Cond.code yX11_pivots cX11_pivots 6 (some .boolean) ∈ lw_tbl := tin_6 (List.mem_of_getElem? (i := 36) rfl)
set_option maxRecDepth 20000 in
theorem tw_726 : Cond.methodLink RX11 113 yX11_isBetter ∈ lw_tbl := tin_6 (List.mem_of_getElem? (i := 37) rfl)
set_option maxRecDepth 20000 in
theorem tw_727 : Cond.instanceMethod yX11_isBetter ∈ lw_tbl := tin_6 (List.mem_of_getElem? (i := 39) rfl)
set_option maxRecDepth 20000 in
theorem tw_728 : Cond.selects RX11 yX11_isBetter yX11_isBetter ∈ lw_tbl := List.mem_append_left _ (List.mem_of_getElem? (i := 50) rfl)
set_option maxRecDepth 20000 in
theorem tw_729 : Cond.code yX11_isBetter cX11_isBetter 6 (some .boolean) ∈ lw_tbl := tin_6 (List.mem_of_getElem? (i := 40) rfl)
set_option maxRecDepth 20000 in
theorem tw_730 : Cond.methodLink RX11 106 yX11_weight ∈ lw_tbl := tin_6 (List.mem_of_getElem? (i := 41) rfl)
set_option maxRecDepth 20000 in
theorem tw_731 : Cond.instanceMethod yX11_weight ∈ lw_tbl := tin_6 (List.mem_of_getElem? (i := 43) rfl)
set_option maxRecDepth 20000 in
theorem tw_732 : Cond.selects RX11 yX11_weight yX11_weight ∈ lw_tbl := List.mem_append_left _ (List.mem_of_getElem? (i := 51) rfl)
set_option maxRecDepth 20000 in
theorem tw_733 : Cond.code yX11_weight cX11_weight 3 (some .int) ∈ lw_tbl := tin_6 (List.mem_of_getElem? (i := 44) rfl)
set_option maxRecDepth 20000 in
theorem tw_734 : Cond.methodLink RX11 99 yX11_inRow ∈ lw_tbl := tin_6 (List.mem_of_getElem? (i := 45) rfl)
set_option maxRecDepth 20000 in
theorem tw_735 : Cond.instanceMethod yX11_inRow ∈ lw_tbl := tin_6 (List.mem_of_getElem? (i := 47) rfl)
set_option maxRecDepth 20000 in
theorem tw_736 : Cond.selects RX11 yX11_inRow yX11_inRow ∈ lw_tbl := List.mem_append_left _ (List.mem_of_getElem? (i := 52) rfl)
set_option maxRecDepth 20000 in
theorem tw_737 : Cond.code yX11_inRow cX11_inRow 4 (some .int) ∈ lw_tbl := tin_6 (List.mem_of_getElem? (i := 48) rfl)
set_option maxRecDepth 20000 in
theorem tw_738 : Cond.methodLink RX11 103 yX11_inColumn ∈ lw_tbl := tin_6 (List.mem_of_getElem? (i := 49) rfl)
set_option maxRecDepth 20000 in
theorem tw_739 : Cond.instanceMethod yX11_inColumn ∈ lw_tbl := tin_6 (List.mem_of_getElem? (i := 51) rfl)
set_option maxRecDepth 20000 in
theorem tw_740 : Cond.selects RX11 yX11_inColumn yX11_inColumn ∈ lw_tbl := List.mem_append_left _ (List.mem_of_getElem? (i := 53) rfl)
set_option maxRecDepth 20000 in
theorem tw_741 : Cond.code yX11_inColumn cX11_inColumn 4 (some .int) ∈ lw_tbl := tin_6 (List.mem_of_getElem? (i := 52) rfl)
set_option maxRecDepth 20000 in
theorem tw_742 : Cond.methodLink RX11 109 yX11_isGreater ∈ lw_tbl := tin_6 (List.mem_of_getElem? (i := 53) rfl)
set_option maxRecDepth 20000 in
theorem tw_743 : Cond.instanceMethod yX11_isGreater ∈ lw_tbl := tin_6 (List.mem_of_getElem? (i := 55) rfl)
set_option maxRecDepth 20000 in
theorem tw_744 : Cond.selects RX11 yX11_isGreater yX11_isGreater ∈ lw_tbl := List.mem_append_left _ (List.mem_of_getElem? (i := 54) rfl)
set_option maxRecDepth 20000 in
theorem tw_745 : Cond.code yX11_isGreater cX11_isGreater 7 (some .boolean) ∈ lw_tbl := tin_6 (List.mem_of_getElem? (i := 56) rfl)
set_option maxRecDepth 20000 in
theorem tw_746 : Cond.methodLink RX11 157 yX11_clears ∈ lw_tbl := tin_6 (List.mem_of_getElem? (i := 57) rfl)
set_option maxRecDepth 20000 in
theorem tw_747 : Cond.instanceMethod yX11_clears ∈ lw_tbl := tin_6 (List.mem_of_getElem? (i := 59) rfl)
set_option maxRecDepth 20000 in
theorem tw_748 : Cond.selects RX11 yX11_clears yX11_clears ∈ lw_tbl := List.mem_append_left _ (List.mem_of_getElem? (i := 55) rfl)
set_option maxRecDepth 20000 in
theorem tw_749 : Cond.code yX11_clears cX11_clears 6 none ∈ lw_tbl := tin_6 (List.mem_of_getElem? (i := 60) rfl)
set_option maxRecDepth 20000 in
theorem tw_750 : Cond.methodLink RX11 147 yX11_by ∈ lw_tbl := tin_6 (List.mem_of_getElem? (i := 61) rfl)
set_option maxRecDepth 20000 in
theorem tw_751 : Cond.instanceMethod yX11_by ∈ lw_tbl := tin_6 (List.mem_of_getElem? (i := 63) rfl)
set_option maxRecDepth 20000 in
theorem tw_752 : Cond.selects RX11 yX11_by yX11_by ∈ lw_tbl := List.mem_append_left _ (List.mem_of_getElem? (i := 56) rfl)
set_option maxRecDepth 20000 in
theorem tw_753 : Cond.code yX11_by cX11_by 9 none ∈ lw_tbl := tin_6 (List.mem_of_getElem? (i := 64) rfl)
set_option maxRecDepth 20000 in
theorem tw_754 : Cond.methodLink RX11 199 yX11_becomes ∈ lw_tbl := tin_5 (List.mem_of_getElem? (i := 213) rfl)
set_option maxRecDepth 20000 in
theorem tw_755 : Cond.instanceMethod yX11_becomes ∈ lw_tbl := tin_5 (List.mem_of_getElem? (i := 215) rfl)
set_option maxRecDepth 20000 in
theorem tw_756 : Cond.selects RX11 yX11_becomes yX11_becomes ∈ lw_tbl := List.mem_append_left _ (List.mem_of_getElem? (i := 38) rfl)
set_option maxRecDepth 20000 in
theorem tw_757 : Cond.code yX11_becomes cX11_becomes 3 none ∈ lw_tbl := tin_5 (List.mem_of_getElem? (i := 216) rfl)
set_option maxRecDepth 20000 in
theorem tw_758 : Cond.methodLink RX11 175 yX11_copies ∈ lw_tbl := tin_5 (List.mem_of_getElem? (i := 209) rfl)
set_option maxRecDepth 20000 in
theorem tw_759 : Cond.instanceMethod yX11_copies ∈ lw_tbl := tin_5 (List.mem_of_getElem? (i := 211) rfl)
set_option maxRecDepth 20000 in
theorem tw_760 : Cond.selects RX11 yX11_copies yX11_copies ∈ lw_tbl := List.mem_append_left _ (List.mem_of_getElem? (i := 37) rfl)
set_option maxRecDepth 20000 in
theorem tw_761 : Cond.code yX11_copies cX11_copies 5 none ∈ lw_tbl := tin_5 (List.mem_of_getElem? (i := 212) rfl)
set_option maxRecDepth 20000 in
theorem tw_762 : Cond.methodLink RL 27 yX11_text ∈ lw_tbl := tin_6 (List.mem_of_getElem? (i := 190) rfl)
set_option maxRecDepth 20000 in
theorem tw_763 : Cond.instanceMethod yX11_text ∈ lw_tbl := tin_6 (List.mem_of_getElem? (i := 191) rfl)
set_option maxRecDepth 20000 in
theorem tw_764 : Cond.selects RX11 yX11_text yX11_text ∈ lw_tbl := tin_6 (List.mem_of_getElem? (i := 192) rfl)
set_option maxRecDepth 20000 in
theorem tw_765 : Cond.code yX10_fault cX10_fault 2 (some .int) ∈ lw_tbl := tin_4 (List.mem_of_getElem? (i := 5) rfl)
set_option maxRecDepth 20000 in
theorem tw_766 : Cond.methodLink RL 28 yX10_fault ∈ lw_tbl := tin_4 (List.mem_of_getElem? (i := 2) rfl)
set_option maxRecDepth 20000 in
theorem tw_767 : Cond.instanceMethod yX10_fault ∈ lw_tbl := tin_4 (List.mem_of_getElem? (i := 3) rfl)
set_option maxRecDepth 20000 in
theorem tw_768 : Cond.selects RX10 yX10_fault yX10_fault ∈ lw_tbl := tin_4 (List.mem_of_getElem? (i := 4) rfl)
set_option maxRecDepth 20000 in
theorem tw_769 : Cond.code yX11_fault cX11_fault 2 (some .int) ∈ lw_tbl := tin_6 (List.mem_of_getElem? (i := 189) rfl)
set_option maxRecDepth 20000 in
theorem tw_770 : Cond.methodLink RL 31 yX11_fault ∈ lw_tbl := tin_6 (List.mem_of_getElem? (i := 186) rfl)
set_option maxRecDepth 20000 in
theorem tw_771 : Cond.instanceMethod yX11_fault ∈ lw_tbl := tin_6 (List.mem_of_getElem? (i := 187) rfl)
set_option maxRecDepth 20000 in
theorem tw_772 : Cond.selects RX11 yX11_fault yX11_fault ∈ lw_tbl := tin_6 (List.mem_of_getElem? (i := 188) rfl)
set_option maxRecDepth 20000 in
theorem tw_773 : Cond.code yX10_set cX10_set 5 (some .int) ∈ lw_tbl := tin_4 (List.mem_of_getElem? (i := 9) rfl)
set_option maxRecDepth 20000 in
theorem tw_774 : Cond.methodLink RX10 188 yX0_tell ∈ lw_tbl := tin_4 (List.mem_of_getElem? (i := 10) rfl)
set_option maxRecDepth 20000 in
theorem tw_775 : Cond.instanceMethod yX0_tell ∈ lw_tbl := tin_4 (List.mem_of_getElem? (i := 11) rfl)
set_option maxRecDepth 20000 in
theorem tw_776 : Cond.selects RX0 yX0_tell yX0_tell ∈ lw_tbl := tin_4 (List.mem_of_getElem? (i := 12) rfl)
set_option maxRecDepth 20000 in
theorem tw_777 : Cond.code yX0_tell cX0_tell 6 (some .int) ∈ lw_tbl := tin_4 (List.mem_of_getElem? (i := 13) rfl)
set_option maxRecDepth 20000 in
theorem tw_778 : Cond.methodLink RX0 29 yX1_hasColumnOrSide ∈ lw_tbl := tin_4 (List.mem_of_getElem? (i := 14) rfl)
set_option maxRecDepth 20000 in
theorem tw_779 : Cond.instanceMethod yX1_hasColumnOrSide ∈ lw_tbl := tin_4 (List.mem_of_getElem? (i := 15) rfl)
set_option maxRecDepth 20000 in
theorem tw_780 : Cond.selects RX1 yX1_hasColumnOrSide yX1_hasColumnOrSide ∈ lw_tbl := tin_4 (List.mem_of_getElem? (i := 16) rfl)
set_option maxRecDepth 20000 in
theorem tw_781 : Cond.code yX1_hasColumnOrSide cX1_hasColumnOrSide 2 (some .boolean) ∈ lw_tbl := tin_4 (List.mem_of_getElem? (i := 17) rfl)
set_option maxRecDepth 20000 in
theorem tw_782 : Cond.methodLink RX0 40 yX1_isAt ∈ lw_tbl := tin_4 (List.mem_of_getElem? (i := 18) rfl)
set_option maxRecDepth 20000 in
theorem tw_783 : Cond.methodLink RX10 191 yX10_conclude ∈ lw_tbl := tin_4 (List.mem_of_getElem? (i := 19) rfl)
set_option maxRecDepth 20000 in
theorem tw_784 : Cond.instanceMethod yX10_conclude ∈ lw_tbl := tin_4 (List.mem_of_getElem? (i := 21) rfl)
set_option maxRecDepth 20000 in
theorem tw_785 : Cond.selects RX10 yX10_conclude yX10_conclude ∈ lw_tbl := List.mem_append_left _ (List.mem_of_getElem? (i := 19) rfl)
set_option maxRecDepth 20000 in
theorem tw_786 : Cond.code yX10_conclude cX10_conclude 2 (some .int) ∈ lw_tbl := tin_4 (List.mem_of_getElem? (i := 22) rfl)
set_option maxRecDepth 20000 in
theorem tw_787 : Cond.fieldLink RX10 198 "RowPivots$State" "refusal" "I" ∈ lw_tbl := tin_1 (List.mem_of_getElem? (i := 121) rfl)
set_option maxRecDepth 20000 in
theorem tw_788 : Cond.fieldLink RX10 213 "RowPivots$Acts" "longRow" "I" ∈ lw_tbl := tin_1 (List.mem_of_getElem? (i := 174) rfl)
set_option maxRecDepth 20000 in
theorem tw_789 : Cond.fieldLink RX10 201 "RowPivots$State" "longRow" "I" ∈ lw_tbl := tin_1 (List.mem_of_getElem? (i := 123) rfl)
set_option maxRecDepth 20000 in
theorem tw_790 : Cond.fieldLink RX10 214 "RowPivots$Acts" "longColumn" "I" ∈ lw_tbl := tin_1 (List.mem_of_getElem? (i := 176) rfl)
set_option maxRecDepth 20000 in
theorem tw_791 : Cond.fieldLink RX10 204 "RowPivots$State" "longColumn" "I" ∈ lw_tbl := tin_1 (List.mem_of_getElem? (i := 125) rfl)
set_option maxRecDepth 20000 in
theorem tw_792 : Cond.methodLink RX10 215 yX2_keep ∈ lw_tbl := tin_4 (List.mem_of_getElem? (i := 23) rfl)
set_option maxRecDepth 20000 in
theorem tw_793 : Cond.instanceMethod yX2_keep ∈ lw_tbl := tin_4 (List.mem_of_getElem? (i := 24) rfl)
set_option maxRecDepth 20000 in
theorem tw_794 : Cond.selects RX2 yX2_keep yX2_keep ∈ lw_tbl := tin_4 (List.mem_of_getElem? (i := 25) rfl)
set_option maxRecDepth 20000 in
theorem tw_795 : Cond.code yX2_keep cX2_keep 3 none ∈ lw_tbl := tin_4 (List.mem_of_getElem? (i := 26) rfl)
set_option maxRecDepth 20000 in
theorem tw_796 : Cond.methodLink RX2 29 Lib.Math.min.name ∈ lw_tbl := tin_4 (List.mem_of_getElem? (i := 29) rfl)
set_option maxRecDepth 20000 in
theorem tw_797 : Cond.static Lib.Math.min.name ∈ lw_tbl := tin_4 (List.mem_of_getElem? (i := 30) rfl)
set_option maxRecDepth 20000 in
theorem tw_798 : Cond.code Lib.Math.min.name Lib.Math.min.code 2 (some .int) ∈ lw_tbl := tin_4 (List.mem_of_getElem? (i := 31) rfl)
set_option maxRecDepth 20000 in
theorem tw_799 : Cond.methodLink RX2 21 yX1_init ∈ lw_tbl := tin_4 (List.mem_of_getElem? (i := 27) rfl)
set_option maxRecDepth 20000 in
theorem tw_800 : Cond.methodLink RX2 22 yX1_copy ∈ lw_tbl := tin_4 (List.mem_of_getElem? (i := 28) rfl)
set_option maxRecDepth 20000 in
theorem tw_801 : Cond.methodLink RL 32 yX10_set ∈ lw_tbl := tin_4 (List.mem_of_getElem? (i := 6) rfl)
set_option maxRecDepth 20000 in
theorem tw_802 : Cond.instanceMethod yX10_set ∈ lw_tbl := tin_4 (List.mem_of_getElem? (i := 7) rfl)
set_option maxRecDepth 20000 in
theorem tw_803 : Cond.selects RX10 yX10_set yX10_set ∈ lw_tbl := tin_4 (List.mem_of_getElem? (i := 8) rfl)
set_option maxRecDepth 20000 in
theorem tw_804 : Cond.code yX11_set cX11_set 5 (some .int) ∈ lw_tbl := tin_5 (List.mem_of_getElem? (i := 158) rfl)
set_option maxRecDepth 20000 in
theorem tw_805 : Cond.methodLink RX11 205 yX11_sets ∈ lw_tbl := tin_5 (List.mem_of_getElem? (i := 167) rfl)
set_option maxRecDepth 20000 in
theorem tw_806 : Cond.instanceMethod yX11_sets ∈ lw_tbl := tin_5 (List.mem_of_getElem? (i := 169) rfl)
set_option maxRecDepth 20000 in
theorem tw_807 : Cond.selects RX11 yX11_sets yX11_sets ∈ lw_tbl := List.mem_append_left _ (List.mem_of_getElem? (i := 30) rfl)
set_option maxRecDepth 20000 in
theorem tw_808 : Cond.code yX11_sets cX11_sets 5 (some .int) ∈ lw_tbl := tin_5 (List.mem_of_getElem? (i := 170) rfl)
set_option maxRecDepth 20000 in
theorem tw_809 : Cond.methodLink RX11 181 yX11_isPlace ∈ lw_tbl := tin_5 (List.mem_of_getElem? (i := 171) rfl)
set_option maxRecDepth 20000 in
theorem tw_810 : Cond.instanceMethod yX11_isPlace ∈ lw_tbl := tin_5 (List.mem_of_getElem? (i := 173) rfl)
set_option maxRecDepth 20000 in
theorem tw_811 : Cond.selects RX11 yX11_isPlace yX11_isPlace ∈ lw_tbl := List.mem_append_left _ (List.mem_of_getElem? (i := 31) rfl)
set_option maxRecDepth 20000 in
theorem tw_812 : Cond.code yX11_isPlace cX11_isPlace 3 (some .boolean) ∈ lw_tbl := tin_5 (List.mem_of_getElem? (i := 174) rfl)
set_option maxRecDepth 20000 in
theorem tw_813 : Cond.methodLink RX11 209 yX11_acted ∈ lw_tbl := tin_5 (List.mem_of_getElem? (i := 201) rfl)
set_option maxRecDepth 20000 in
theorem tw_814 : Cond.instanceMethod yX11_acted ∈ lw_tbl := tin_5 (List.mem_of_getElem? (i := 203) rfl)
set_option maxRecDepth 20000 in
theorem tw_815 : Cond.selects RX11 yX11_acted yX11_acted ∈ lw_tbl := List.mem_append_left _ (List.mem_of_getElem? (i := 35) rfl)
set_option maxRecDepth 20000 in
theorem tw_816 : Cond.code yX11_acted cX11_acted 2 (some .int) ∈ lw_tbl := tin_5 (List.mem_of_getElem? (i := 204) rfl)
set_option maxRecDepth 20000 in
theorem tw_817 : Cond.methodLink RX11 196 yX11_keeps ∈ lw_tbl := tin_5 (List.mem_of_getElem? (i := 205) rfl)
set_option maxRecDepth 20000 in
theorem tw_818 : Cond.instanceMethod yX11_keeps ∈ lw_tbl := tin_5 (List.mem_of_getElem? (i := 207) rfl)
set_option maxRecDepth 20000 in
theorem tw_819 : Cond.selects RX11 yX11_keeps yX11_keeps ∈ lw_tbl := List.mem_append_left _ (List.mem_of_getElem? (i := 36) rfl)
set_option maxRecDepth 20000 in
theorem tw_820 : Cond.code yX11_keeps cX11_keeps 1 none ∈ lw_tbl := tin_5 (List.mem_of_getElem? (i := 208) rfl)
set_option maxRecDepth 20000 in
theorem tw_821 : Cond.methodLink RL 36 yX11_set ∈ lw_tbl := tin_5 (List.mem_of_getElem? (i := 155) rfl)
set_option maxRecDepth 20000 in
theorem tw_822 : Cond.instanceMethod yX11_set ∈ lw_tbl := tin_5 (List.mem_of_getElem? (i := 156) rfl)
set_option maxRecDepth 20000 in
theorem tw_823 : Cond.selects RX11 yX11_set yX11_set ∈ lw_tbl := tin_5 (List.mem_of_getElem? (i := 157) rfl)
set_option maxRecDepth 20000 in
theorem tw_824 : Cond.code yX10_swap cX10_swap 3 (some .int) ∈ lw_tbl := tin_4 (List.mem_of_getElem? (i := 35) rfl)
set_option maxRecDepth 20000 in
theorem tw_825 : Cond.methodLink RL 37 yX10_swap ∈ lw_tbl := tin_4 (List.mem_of_getElem? (i := 32) rfl)
set_option maxRecDepth 20000 in
theorem tw_826 : Cond.instanceMethod yX10_swap ∈ lw_tbl := tin_4 (List.mem_of_getElem? (i := 33) rfl)
set_option maxRecDepth 20000 in
theorem tw_827 : Cond.selects RX10 yX10_swap yX10_swap ∈ lw_tbl := tin_4 (List.mem_of_getElem? (i := 34) rfl)
set_option maxRecDepth 20000 in
theorem tw_828 : Cond.code yX11_swap cX11_swap 3 (some .int) ∈ lw_tbl := tin_5 (List.mem_of_getElem? (i := 220) rfl)
set_option maxRecDepth 20000 in
theorem tw_829 : Cond.methodLink RL 41 yX11_swap ∈ lw_tbl := tin_5 (List.mem_of_getElem? (i := 217) rfl)
set_option maxRecDepth 20000 in
theorem tw_830 : Cond.instanceMethod yX11_swap ∈ lw_tbl := tin_5 (List.mem_of_getElem? (i := 218) rfl)
set_option maxRecDepth 20000 in
theorem tw_831 : Cond.selects RX11 yX11_swap yX11_swap ∈ lw_tbl := tin_5 (List.mem_of_getElem? (i := 219) rfl)
set_option maxRecDepth 20000 in
theorem tw_832 : Cond.code yX10_scale cX10_scale 4 (some .int) ∈ lw_tbl := tin_4 (List.mem_of_getElem? (i := 39) rfl)
set_option maxRecDepth 20000 in
theorem tw_833 : Cond.methodLink RL 42 yX10_scale ∈ lw_tbl := tin_4 (List.mem_of_getElem? (i := 36) rfl)
set_option maxRecDepth 20000 in
theorem tw_834 : Cond.instanceMethod yX10_scale ∈ lw_tbl := tin_4 (List.mem_of_getElem? (i := 37) rfl)
set_option maxRecDepth 20000 in
theorem tw_835 : Cond.selects RX10 yX10_scale yX10_scale ∈ lw_tbl := tin_4 (List.mem_of_getElem? (i := 38) rfl)
set_option maxRecDepth 20000 in
theorem tw_836 : Cond.code yX11_scale cX11_scale 4 (some .int) ∈ lw_tbl := tin_5 (List.mem_of_getElem? (i := 228) rfl)
set_option maxRecDepth 20000 in
theorem tw_837 : Cond.methodLink RL 46 yX11_scale ∈ lw_tbl := tin_5 (List.mem_of_getElem? (i := 225) rfl)
set_option maxRecDepth 20000 in
theorem tw_838 : Cond.instanceMethod yX11_scale ∈ lw_tbl := tin_5 (List.mem_of_getElem? (i := 226) rfl)
set_option maxRecDepth 20000 in
theorem tw_839 : Cond.selects RX11 yX11_scale yX11_scale ∈ lw_tbl := tin_5 (List.mem_of_getElem? (i := 227) rfl)
set_option maxRecDepth 20000 in
theorem tw_840 : Cond.code yX10_add cX10_add 5 (some .int) ∈ lw_tbl := tin_4 (List.mem_of_getElem? (i := 43) rfl)
set_option maxRecDepth 20000 in
theorem tw_841 : Cond.methodLink RL 47 yX10_add ∈ lw_tbl := tin_4 (List.mem_of_getElem? (i := 40) rfl)
set_option maxRecDepth 20000 in
theorem tw_842 : Cond.instanceMethod yX10_add ∈ lw_tbl := tin_4 (List.mem_of_getElem? (i := 41) rfl)
set_option maxRecDepth 20000 in
theorem tw_843 : Cond.selects RX10 yX10_add yX10_add ∈ lw_tbl := tin_4 (List.mem_of_getElem? (i := 42) rfl)
set_option maxRecDepth 20000 in
theorem tw_844 : Cond.code yX11_add cX11_add 5 (some .int) ∈ lw_tbl := tin_6 (List.mem_of_getElem? (i := 8) rfl)
set_option maxRecDepth 20000 in
theorem tw_845 : Cond.methodLink RL 50 yX11_add ∈ lw_tbl := tin_6 (List.mem_of_getElem? (i := 5) rfl)
set_option maxRecDepth 20000 in
theorem tw_846 : Cond.instanceMethod yX11_add ∈ lw_tbl := tin_6 (List.mem_of_getElem? (i := 6) rfl)
set_option maxRecDepth 20000 in
theorem tw_847 : Cond.selects RX11 yX11_add yX11_add ∈ lw_tbl := tin_6 (List.mem_of_getElem? (i := 7) rfl)
set_option maxRecDepth 20000 in
theorem tw_848 : Cond.code yX10_reduce cX10_reduce 2 (some .int) ∈ lw_tbl := tin_4 (List.mem_of_getElem? (i := 47) rfl)
set_option maxRecDepth 20000 in
theorem tw_849 : Cond.methodLink RX10 194 yX10_isRule ∈ lw_tbl := tin_4 (List.mem_of_getElem? (i := 48) rfl)
set_option maxRecDepth 20000 in
theorem tw_850 : Cond.static yX10_isRule ∈ lw_tbl := tin_4 (List.mem_of_getElem? (i := 49) rfl)
set_option maxRecDepth 20000 in
theorem tw_851 : Cond.code yX10_isRule cX10_isRule 1 (some .boolean) ∈ lw_tbl := tin_4 (List.mem_of_getElem? (i := 50) rfl)
set_option maxRecDepth 20000 in
theorem tw_852 : Cond.methodLink RL 51 yX10_reduce ∈ lw_tbl := tin_4 (List.mem_of_getElem? (i := 44) rfl)
set_option maxRecDepth 20000 in
theorem tw_853 : Cond.instanceMethod yX10_reduce ∈ lw_tbl := tin_4 (List.mem_of_getElem? (i := 45) rfl)
set_option maxRecDepth 20000 in
theorem tw_854 : Cond.selects RX10 yX10_reduce yX10_reduce ∈ lw_tbl := tin_4 (List.mem_of_getElem? (i := 46) rfl)
set_option maxRecDepth 20000 in
theorem tw_855 : Cond.code yX11_reduce cX11_reduce 2 (some .int) ∈ lw_tbl := tin_6 (List.mem_of_getElem? (i := 24) rfl)
set_option maxRecDepth 20000 in
theorem tw_856 : Cond.methodLink RL 54 yX11_reduce ∈ lw_tbl := tin_6 (List.mem_of_getElem? (i := 21) rfl)
set_option maxRecDepth 20000 in
theorem tw_857 : Cond.instanceMethod yX11_reduce ∈ lw_tbl := tin_6 (List.mem_of_getElem? (i := 22) rfl)
set_option maxRecDepth 20000 in
theorem tw_858 : Cond.selects RX11 yX11_reduce yX11_reduce ∈ lw_tbl := tin_6 (List.mem_of_getElem? (i := 23) rfl)
set_option maxRecDepth 20000 in
theorem tw_859 : Cond.code yX10_why cX10_why 4 (some .int) ∈ lw_tbl := tin_4 (List.mem_of_getElem? (i := 54) rfl)
set_option maxRecDepth 20000 in
theorem tw_860 : Cond.methodLink RL 55 yX10_why ∈ lw_tbl := tin_4 (List.mem_of_getElem? (i := 51) rfl)
set_option maxRecDepth 20000 in
theorem tw_861 : Cond.instanceMethod yX10_why ∈ lw_tbl := tin_4 (List.mem_of_getElem? (i := 52) rfl)
set_option maxRecDepth 20000 in
theorem tw_862 : Cond.selects RX10 yX10_why yX10_why ∈ lw_tbl := tin_4 (List.mem_of_getElem? (i := 53) rfl)
set_option maxRecDepth 20000 in
theorem tw_863 : Cond.code yX11_why cX11_why 3 (some .int) ∈ lw_tbl := tin_6 (List.mem_of_getElem? (i := 68) rfl)
set_option maxRecDepth 20000 in
theorem tw_864 : Cond.methodLink RL 58 yX11_why ∈ lw_tbl := tin_6 (List.mem_of_getElem? (i := 65) rfl)
set_option maxRecDepth 20000 in
theorem tw_865 : Cond.instanceMethod yX11_why ∈ lw_tbl := tin_6 (List.mem_of_getElem? (i := 66) rfl)
set_option maxRecDepth 20000 in
theorem tw_866 : Cond.selects RX11 yX11_why yX11_why ∈ lw_tbl := tin_6 (List.mem_of_getElem? (i := 67) rfl)
set_option maxRecDepth 20000 in
theorem tw_867 : Cond.code yX10_undo cX10_undo 1 (some .int) ∈ lw_tbl := tin_4 (List.mem_of_getElem? (i := 58) rfl)
set_option maxRecDepth 20000 in
theorem tw_868 : Cond.fieldLink RX10 207 "RowPivots$Past" "size" "I" ∈ lw_tbl := tin_1 (List.mem_of_getElem? (i := 151) rfl)
set_option maxRecDepth 20000 in
theorem tw_869 : Cond.methodLink RX10 210 yX2_takeBack ∈ lw_tbl := tin_4 (List.mem_of_getElem? (i := 59) rfl)
set_option maxRecDepth 20000 in
theorem tw_870 : Cond.instanceMethod yX2_takeBack ∈ lw_tbl := tin_4 (List.mem_of_getElem? (i := 60) rfl)
set_option maxRecDepth 20000 in
theorem tw_871 : Cond.selects RX2 yX2_takeBack yX2_takeBack ∈ lw_tbl := tin_4 (List.mem_of_getElem? (i := 61) rfl)
set_option maxRecDepth 20000 in
theorem tw_872 : Cond.code yX2_takeBack cX2_takeBack 4 none ∈ lw_tbl := tin_4 (List.mem_of_getElem? (i := 62) rfl)
set_option maxRecDepth 20000 in
theorem tw_873 : Cond.methodLink RL 59 yX10_undo ∈ lw_tbl := tin_4 (List.mem_of_getElem? (i := 55) rfl)
set_option maxRecDepth 20000 in
theorem tw_874 : Cond.instanceMethod yX10_undo ∈ lw_tbl := tin_4 (List.mem_of_getElem? (i := 56) rfl)
set_option maxRecDepth 20000 in
theorem tw_875 : Cond.selects RX10 yX10_undo yX10_undo ∈ lw_tbl := tin_4 (List.mem_of_getElem? (i := 57) rfl)
set_option maxRecDepth 20000 in
theorem tw_876 : Cond.code yX11_undo cX11_undo 1 (some .int) ∈ lw_tbl := tin_6 (List.mem_of_getElem? (i := 72) rfl)
set_option maxRecDepth 20000 in
theorem tw_877 : Cond.methodLink RL 62 yX11_undo ∈ lw_tbl := tin_6 (List.mem_of_getElem? (i := 69) rfl)
set_option maxRecDepth 20000 in
theorem tw_878 : Cond.instanceMethod yX11_undo ∈ lw_tbl := tin_6 (List.mem_of_getElem? (i := 70) rfl)
set_option maxRecDepth 20000 in
theorem tw_879 : Cond.selects RX11 yX11_undo yX11_undo ∈ lw_tbl := tin_6 (List.mem_of_getElem? (i := 71) rfl)
set_option maxRecDepth 20000 in
theorem tw_880 : Cond.code yX10_entry cX10_entry 5 (some .int) ∈ lw_tbl := tin_4 (List.mem_of_getElem? (i := 66) rfl)
set_option maxRecDepth 20000 in
theorem tw_881 : Cond.constant RX10 224 (-2000000000) ∈ lw_tbl := tin_4 (List.mem_of_getElem? (i := 69) rfl)
set_option maxRecDepth 20000 in
theorem tw_882 : Cond.methodLink RX10 218 yX1_hasRow ∈ lw_tbl := tin_4 (List.mem_of_getElem? (i := 67) rfl)
set_option maxRecDepth 20000 in
theorem tw_883 : Cond.methodLink RX10 221 yX1_hasColumnOrSide ∈ lw_tbl := tin_4 (List.mem_of_getElem? (i := 68) rfl)
set_option maxRecDepth 20000 in
theorem tw_884 : Cond.methodLink RX10 225 yX1_lowerAt ∈ lw_tbl := tin_4 (List.mem_of_getElem? (i := 70) rfl)
set_option maxRecDepth 20000 in
theorem tw_885 : Cond.methodLink RX10 229 yX1_upperAt ∈ lw_tbl := tin_4 (List.mem_of_getElem? (i := 71) rfl)
set_option maxRecDepth 20000 in
theorem tw_886 : Cond.methodLink RL 63 yX10_entry ∈ lw_tbl := tin_4 (List.mem_of_getElem? (i := 63) rfl)
set_option maxRecDepth 20000 in
theorem tw_887 : Cond.instanceMethod yX10_entry ∈ lw_tbl := tin_4 (List.mem_of_getElem? (i := 64) rfl)
set_option maxRecDepth 20000 in
theorem tw_888 : Cond.selects RX10 yX10_entry yX10_entry ∈ lw_tbl := tin_4 (List.mem_of_getElem? (i := 65) rfl)
set_option maxRecDepth 20000 in
theorem tw_889 : Cond.code yX11_entry cX11_entry 4 (some .int) ∈ lw_tbl := tin_6 (List.mem_of_getElem? (i := 76) rfl)
set_option maxRecDepth 20000 in
theorem tw_890 : Cond.constant RX11 165 (-2000000000) ∈ lw_tbl := tin_6 (List.mem_of_getElem? (i := 77) rfl)
set_option maxRecDepth 20000 in
theorem tw_891 : Cond.methodLink RL 67 yX11_entry ∈ lw_tbl := tin_6 (List.mem_of_getElem? (i := 73) rfl)
set_option maxRecDepth 20000 in
theorem tw_892 : Cond.instanceMethod yX11_entry ∈ lw_tbl := tin_6 (List.mem_of_getElem? (i := 74) rfl)
set_option maxRecDepth 20000 in
theorem tw_893 : Cond.selects RX11 yX11_entry yX11_entry ∈ lw_tbl := tin_6 (List.mem_of_getElem? (i := 75) rfl)
set_option maxRecDepth 20000 in
theorem tw_894 : Cond.code yX10_count cX10_count 2 (some .int) ∈ lw_tbl := tin_4 (List.mem_of_getElem? (i := 75) rfl)
set_option maxRecDepth 20000 in
theorem tw_895 : Cond.methodLink RX10 232 yX1_filled ∈ lw_tbl := tin_4 (List.mem_of_getElem? (i := 76) rfl)
set_option maxRecDepth 20000 in
theorem tw_896 : Cond.instanceMethod yX1_filled ∈ lw_tbl := tin_4 (List.mem_of_getElem? (i := 77) rfl)
set_option maxRecDepth 20000 in
theorem tw_897 : Cond.selects RX1 yX1_filled yX1_filled ∈ lw_tbl := tin_4 (List.mem_of_getElem? (i := 78) rfl)
set_option maxRecDepth 20000 in
theorem tw_898 : Cond.code yX1_filled cX1_filled 3 (some .int) ∈ lw_tbl := tin_4 (List.mem_of_getElem? (i := 79) rfl)
set_option maxRecDepth 20000 in
theorem tw_899 : Cond.methodLink RX1 72 yX1_rowBits ∈ lw_tbl := tin_4 (List.mem_of_getElem? (i := 80) rfl)
set_option maxRecDepth 20000 in
theorem tw_900 : Cond.methodLink RX1 76 yX1_allColumns ∈ lw_tbl := tin_4 (List.mem_of_getElem? (i := 81) rfl)
set_option maxRecDepth 20000 in
theorem tw_901 : Cond.methodLink RX1 80 yJ6_bitCount_0f7a4 ∈ lw_tbl := tin_4 (List.mem_of_getElem? (i := 82) rfl)
set_option maxRecDepth 20000 in
theorem tw_902 : Cond.methodLink RX10 236 yX10_leastFillingRule ∈ lw_tbl := tin_4 (List.mem_of_getElem? (i := 83) rfl)
set_option maxRecDepth 20000 in
theorem tw_903 : Cond.instanceMethod yX10_leastFillingRule ∈ lw_tbl := tin_4 (List.mem_of_getElem? (i := 85) rfl)
set_option maxRecDepth 20000 in
theorem tw_904 : Cond.selects RX10 yX10_leastFillingRule yX10_leastFillingRule ∈ lw_tbl := List.mem_append_left _ (List.mem_of_getElem? (i := 20) rfl)
set_option maxRecDepth 20000 in
theorem tw_905 : Cond.code yX10_leastFillingRule cX10_leastFillingRule 5 (some .int) ∈ lw_tbl := tin_4 (List.mem_of_getElem? (i := 86) rfl)
set_option maxRecDepth 20000 in
theorem tw_906 : Cond.fieldLink RX10 248 "RowPivots$Sweep" "broken" "Z" ∈ lw_tbl := tin_1 (List.mem_of_getElem? (i := 205) rfl)
set_option maxRecDepth 20000 in
theorem tw_907 : Cond.methodLink RX10 245 yX7_fillOfAll ∈ lw_tbl := tin_4 (List.mem_of_getElem? (i := 87) rfl)
set_option maxRecDepth 20000 in
theorem tw_908 : Cond.instanceMethod yX7_fillOfAll ∈ lw_tbl := tin_4 (List.mem_of_getElem? (i := 88) rfl)
set_option maxRecDepth 20000 in
theorem tw_909 : Cond.selects RX7 yX7_fillOfAll yX7_fillOfAll ∈ lw_tbl := tin_4 (List.mem_of_getElem? (i := 89) rfl)
set_option maxRecDepth 20000 in
theorem tw_910 : Cond.code yX7_fillOfAll cX7_fillOfAll 3 (some .int) ∈ lw_tbl := tin_4 (List.mem_of_getElem? (i := 90) rfl)
set_option maxRecDepth 20000 in
theorem tw_911 : Cond.methodLink RL 68 yX10_count ∈ lw_tbl := tin_4 (List.mem_of_getElem? (i := 72) rfl)
set_option maxRecDepth 20000 in
theorem tw_912 : Cond.instanceMethod yX10_count ∈ lw_tbl := tin_4 (List.mem_of_getElem? (i := 73) rfl)
set_option maxRecDepth 20000 in
theorem tw_913 : Cond.selects RX10 yX10_count yX10_count ∈ lw_tbl := tin_4 (List.mem_of_getElem? (i := 74) rfl)
set_option maxRecDepth 20000 in
theorem tw_914 : Cond.code yX11_count cX11_count 5 (some .int) ∈ lw_tbl := tin_6 (List.mem_of_getElem? (i := 81) rfl)
set_option maxRecDepth 20000 in
theorem tw_915 : Cond.methodLink RX11 232 yX11_leastFill ∈ lw_tbl := tin_6 (List.mem_of_getElem? (i := 82) rfl)
set_option maxRecDepth 20000 in
theorem tw_916 : Cond.instanceMethod yX11_leastFill ∈ lw_tbl := tin_6 (List.mem_of_getElem? (i := 84) rfl)
set_option maxRecDepth 20000 in
theorem tw_917 : Cond.selects RX11 yX11_leastFill yX11_leastFill ∈ lw_tbl := List.mem_append_left _ (List.mem_of_getElem? (i := 57) rfl)
set_option maxRecDepth 20000 in
theorem tw_918 : Cond.code yX11_leastFill cX11_leastFill 4 (some .int) ∈ lw_tbl := tin_6 (List.mem_of_getElem? (i := 85) rfl)
set_option maxRecDepth 20000 in
theorem tw_919 : Cond.methodLink RX11 225 yX11_fills ∈ lw_tbl := tin_6 (List.mem_of_getElem? (i := 86) rfl)
set_option maxRecDepth 20000 in
theorem tw_920 : Cond.instanceMethod yX11_fills ∈ lw_tbl := tin_6 (List.mem_of_getElem? (i := 88) rfl)
set_option maxRecDepth 20000 in
theorem tw_921 : Cond.selects RX11 yX11_fills yX11_fills ∈ lw_tbl := List.mem_append_left _ (List.mem_of_getElem? (i := 58) rfl)
set_option maxRecDepth 20000 in
theorem tw_922 : Cond.code yX11_fills cX11_fills 3 (some .int) ∈ lw_tbl := tin_6 (List.mem_of_getElem? (i := 89) rfl)
set_option maxRecDepth 20000 in
theorem tw_923 : Cond.methodLink RL 71 yX11_count ∈ lw_tbl := tin_6 (List.mem_of_getElem? (i := 78) rfl)
set_option maxRecDepth 20000 in
theorem tw_924 : Cond.instanceMethod yX11_count ∈ lw_tbl := tin_6 (List.mem_of_getElem? (i := 79) rfl)
set_option maxRecDepth 20000 in
theorem tw_925 : Cond.selects RX11 yX11_count yX11_count ∈ lw_tbl := tin_6 (List.mem_of_getElem? (i := 80) rfl)
set_option maxRecDepth 20000 in
theorem tw_926 : Cond.code yX10_pattern cX10_pattern 4 (some .int) ∈ lw_tbl := tin_4 (List.mem_of_getElem? (i := 94) rfl)
set_option maxRecDepth 20000 in
theorem tw_927 : Cond.methodLink RX10 239 yX1_columnBits ∈ lw_tbl := tin_4 (List.mem_of_getElem? (i := 95) rfl)
set_option maxRecDepth 20000 in
theorem tw_928 : Cond.methodLink RX10 242 yX1_rowBits ∈ lw_tbl := tin_4 (List.mem_of_getElem? (i := 96) rfl)
set_option maxRecDepth 20000 in
theorem tw_929 : Cond.methodLink RL 72 yX10_pattern ∈ lw_tbl := tin_4 (List.mem_of_getElem? (i := 91) rfl)
set_option maxRecDepth 20000 in
theorem tw_930 : Cond.instanceMethod yX10_pattern ∈ lw_tbl := tin_4 (List.mem_of_getElem? (i := 92) rfl)
set_option maxRecDepth 20000 in
theorem tw_931 : Cond.selects RX10 yX10_pattern yX10_pattern ∈ lw_tbl := tin_4 (List.mem_of_getElem? (i := 93) rfl)
set_option maxRecDepth 20000 in
theorem tw_932 : Cond.code yX11_pattern cX11_pattern 5 (some .int) ∈ lw_tbl := tin_6 (List.mem_of_getElem? (i := 93) rfl)
set_option maxRecDepth 20000 in
theorem tw_933 : Cond.methodLink RL 76 yX11_pattern ∈ lw_tbl := tin_6 (List.mem_of_getElem? (i := 90) rfl)
set_option maxRecDepth 20000 in
theorem tw_934 : Cond.instanceMethod yX11_pattern ∈ lw_tbl := tin_6 (List.mem_of_getElem? (i := 91) rfl)
set_option maxRecDepth 20000 in
theorem tw_935 : Cond.selects RX11 yX11_pattern yX11_pattern ∈ lw_tbl := tin_6 (List.mem_of_getElem? (i := 92) rfl)
set_option maxRecDepth 20000 in
theorem tw_936 : Cond.code yX10_pivot cX10_pivot 4 (some .int) ∈ lw_tbl := tin_4 (List.mem_of_getElem? (i := 100) rfl)
set_option maxRecDepth 20000 in
theorem tw_937 : Cond.fieldLink RX10 252 "RowPivots$Sweep" "rank" "I" ∈ lw_tbl := tin_1 (List.mem_of_getElem? (i := 202) rfl)
set_option maxRecDepth 20000 in
theorem tw_938 : Cond.methodLink RX10 255 yX7_pivotNumber ∈ lw_tbl := tin_4 (List.mem_of_getElem? (i := 101) rfl)
set_option maxRecDepth 20000 in
theorem tw_939 : Cond.instanceMethod yX7_pivotNumber ∈ lw_tbl := tin_4 (List.mem_of_getElem? (i := 102) rfl)
set_option maxRecDepth 20000 in
theorem tw_940 : Cond.selects RX7 yX7_pivotNumber yX7_pivotNumber ∈ lw_tbl := tin_4 (List.mem_of_getElem? (i := 103) rfl)
set_option maxRecDepth 20000 in
theorem tw_941 : Cond.code yX7_pivotNumber cX7_pivotNumber 3 (some .int) ∈ lw_tbl := tin_4 (List.mem_of_getElem? (i := 104) rfl)
set_option maxRecDepth 20000 in
theorem tw_942 : Cond.constant RX7 146 (-2000000000) ∈ lw_tbl := tin_4 (List.mem_of_getElem? (i := 105) rfl)
set_option maxRecDepth 20000 in
theorem tw_943 : Cond.methodLink RL 77 yX10_pivot ∈ lw_tbl := tin_4 (List.mem_of_getElem? (i := 97) rfl)
set_option maxRecDepth 20000 in
theorem tw_944 : Cond.instanceMethod yX10_pivot ∈ lw_tbl := tin_4 (List.mem_of_getElem? (i := 98) rfl)
set_option maxRecDepth 20000 in
theorem tw_945 : Cond.selects RX10 yX10_pivot yX10_pivot ∈ lw_tbl := tin_4 (List.mem_of_getElem? (i := 99) rfl)
set_option maxRecDepth 20000 in
theorem tw_946 : Cond.code yX11_pivot cX11_pivot 5 (some .int) ∈ lw_tbl := tin_6 (List.mem_of_getElem? (i := 97) rfl)
set_option maxRecDepth 20000 in
theorem tw_947 : Cond.methodLink RL 80 yX11_pivot ∈ lw_tbl := tin_6 (List.mem_of_getElem? (i := 94) rfl)
set_option maxRecDepth 20000 in
theorem tw_948 : Cond.instanceMethod yX11_pivot ∈ lw_tbl := tin_6 (List.mem_of_getElem? (i := 95) rfl)
set_option maxRecDepth 20000 in
theorem tw_949 : Cond.selects RX11 yX11_pivot yX11_pivot ∈ lw_tbl := tin_6 (List.mem_of_getElem? (i := 96) rfl)
set_option maxRecDepth 20000 in
theorem tw_950 : Cond.code yX10_kind cX10_kind 1 (some .int) ∈ lw_tbl := tin_4 (List.mem_of_getElem? (i := 109) rfl)
set_option maxRecDepth 20000 in
theorem tw_951 : Cond.methodLink RX10 258 yX7_kindFound ∈ lw_tbl := tin_4 (List.mem_of_getElem? (i := 110) rfl)
set_option maxRecDepth 20000 in
theorem tw_952 : Cond.instanceMethod yX7_kindFound ∈ lw_tbl := tin_4 (List.mem_of_getElem? (i := 111) rfl)
set_option maxRecDepth 20000 in
theorem tw_953 : Cond.selects RX7 yX7_kindFound yX7_kindFound ∈ lw_tbl := tin_4 (List.mem_of_getElem? (i := 112) rfl)
set_option maxRecDepth 20000 in
theorem tw_954 : Cond.code yX7_kindFound cX7_kindFound 1 (some .int) ∈ lw_tbl := tin_4 (List.mem_of_getElem? (i := 113) rfl)
set_option maxRecDepth 20000 in
theorem tw_955 : Cond.methodLink RL 81 yX10_kind ∈ lw_tbl := tin_4 (List.mem_of_getElem? (i := 106) rfl)
set_option maxRecDepth 20000 in
theorem tw_956 : Cond.instanceMethod yX10_kind ∈ lw_tbl := tin_4 (List.mem_of_getElem? (i := 107) rfl)
set_option maxRecDepth 20000 in
theorem tw_957 : Cond.selects RX10 yX10_kind yX10_kind ∈ lw_tbl := tin_4 (List.mem_of_getElem? (i := 108) rfl)
set_option maxRecDepth 20000 in
theorem tw_958 : Cond.code yX11_kind cX11_kind 1 (some .int) ∈ lw_tbl := tin_6 (List.mem_of_getElem? (i := 101) rfl)
set_option maxRecDepth 20000 in
theorem tw_959 : Cond.methodLink RX11 235 yX11_kindNow ∈ lw_tbl := tin_6 (List.mem_of_getElem? (i := 102) rfl)
set_option maxRecDepth 20000 in
theorem tw_960 : Cond.instanceMethod yX11_kindNow ∈ lw_tbl := tin_6 (List.mem_of_getElem? (i := 104) rfl)
set_option maxRecDepth 20000 in
theorem tw_961 : Cond.selects RX11 yX11_kindNow yX11_kindNow ∈ lw_tbl := List.mem_append_left _ (List.mem_of_getElem? (i := 59) rfl)
set_option maxRecDepth 20000 in
theorem tw_962 : Cond.code yX11_kindNow cX11_kindNow 4 (some .int) ∈ lw_tbl := tin_6 (List.mem_of_getElem? (i := 105) rfl)
set_option maxRecDepth 20000 in
theorem tw_963 : Cond.methodLink RL 84 yX11_kind ∈ lw_tbl := tin_6 (List.mem_of_getElem? (i := 98) rfl)
set_option maxRecDepth 20000 in
theorem tw_964 : Cond.instanceMethod yX11_kind ∈ lw_tbl := tin_6 (List.mem_of_getElem? (i := 99) rfl)
set_option maxRecDepth 20000 in
theorem tw_965 : Cond.selects RX11 yX11_kind yX11_kind ∈ lw_tbl := tin_6 (List.mem_of_getElem? (i := 100) rfl)
set_option maxRecDepth 20000 in
theorem tw_966 : Cond.code yX10_solution cX10_solution 3 (some .int) ∈ lw_tbl := tin_4 (List.mem_of_getElem? (i := 117) rfl)
set_option maxRecDepth 20000 in
theorem tw_967 : Cond.methodLink RX10 261 yX10_solved ∈ lw_tbl := tin_4 (List.mem_of_getElem? (i := 118) rfl)
set_option maxRecDepth 20000 in
theorem tw_968 : Cond.instanceMethod yX10_solved ∈ lw_tbl := tin_4 (List.mem_of_getElem? (i := 120) rfl)
set_option maxRecDepth 20000 in
theorem tw_969 : Cond.selects RX10 yX10_solved yX10_solved ∈ lw_tbl := List.mem_append_left _ (List.mem_of_getElem? (i := 21) rfl)
set_option maxRecDepth 20000 in
theorem tw_970 : Cond.code yX10_solved cX10_solved 4 (some .int) ∈ lw_tbl := tin_4 (List.mem_of_getElem? (i := 121) rfl)
set_option maxRecDepth 20000 in
theorem tw_971 : Cond.methodLink RX10 268 yX1_hasColumn ∈ lw_tbl := tin_4 (List.mem_of_getElem? (i := 122) rfl)
set_option maxRecDepth 20000 in
theorem tw_972 : Cond.instanceMethod yX1_hasColumn ∈ lw_tbl := tin_4 (List.mem_of_getElem? (i := 123) rfl)
set_option maxRecDepth 20000 in
theorem tw_973 : Cond.selects RX1 yX1_hasColumn yX1_hasColumn ∈ lw_tbl := tin_4 (List.mem_of_getElem? (i := 124) rfl)
set_option maxRecDepth 20000 in
theorem tw_974 : Cond.code yX1_hasColumn cX1_hasColumn 2 (some .boolean) ∈ lw_tbl := tin_4 (List.mem_of_getElem? (i := 125) rfl)
set_option maxRecDepth 20000 in
theorem tw_975 : Cond.methodLink RX10 309 yX7_canBeSolved ∈ lw_tbl := tin_4 (List.mem_of_getElem? (i := 126) rfl)
set_option maxRecDepth 20000 in
theorem tw_976 : Cond.instanceMethod yX7_canBeSolved ∈ lw_tbl := tin_4 (List.mem_of_getElem? (i := 127) rfl)
set_option maxRecDepth 20000 in
theorem tw_977 : Cond.selects RX7 yX7_canBeSolved yX7_canBeSolved ∈ lw_tbl := tin_4 (List.mem_of_getElem? (i := 128) rfl)
set_option maxRecDepth 20000 in
theorem tw_978 : Cond.code yX7_canBeSolved cX7_canBeSolved 2 (some .boolean) ∈ lw_tbl := tin_4 (List.mem_of_getElem? (i := 129) rfl)
set_option maxRecDepth 20000 in
theorem tw_979 : Cond.methodLink RX7 147 yX7_kindFound ∈ lw_tbl := tin_4 (List.mem_of_getElem? (i := 130) rfl)
set_option maxRecDepth 20000 in
theorem tw_980 : Cond.methodLink RX10 289 yX9_solveSides ∈ lw_tbl := tin_4 (List.mem_of_getElem? (i := 131) rfl)
set_option maxRecDepth 20000 in
theorem tw_981 : Cond.instanceMethod yX9_solveSides ∈ lw_tbl := tin_4 (List.mem_of_getElem? (i := 132) rfl)
set_option maxRecDepth 20000 in
theorem tw_982 : Cond.selects RX9 yX9_solveSides yX9_solveSides ∈ lw_tbl := tin_4 (List.mem_of_getElem? (i := 133) rfl)
set_option maxRecDepth 20000 in
theorem tw_983 : Cond.code yX9_solveSides cX9_solveSides 2 none ∈ lw_tbl := tin_4 (List.mem_of_getElem? (i := 134) rfl)
set_option maxRecDepth 20000 in
theorem tw_984 : Cond.methodLink RX9 28 yX9_clear ∈ lw_tbl := tin_4 (List.mem_of_getElem? (i := 135) rfl)
set_option maxRecDepth 20000 in
theorem tw_985 : Cond.instanceMethod yX9_clear ∈ lw_tbl := tin_4 (List.mem_of_getElem? (i := 137) rfl)
set_option maxRecDepth 20000 in
theorem tw_986 : Cond.selects RX9 yX9_clear yX9_clear ∈ lw_tbl := List.mem_append_left _ (List.mem_of_getElem? (i := 22) rfl)
set_option maxRecDepth 20000 in
theorem tw_987 : Cond.code yX9_clear cX9_clear 1 none ∈ lw_tbl := tin_4 (List.mem_of_getElem? (i := 138) rfl)
set_option maxRecDepth 20000 in
theorem tw_988 : Cond.fieldLink RX9 43 "RowPivots$Values" "known" "I" ∈ lw_tbl := tin_2 (List.mem_of_getElem? (i := 18) rfl)
set_option maxRecDepth 20000 in
theorem tw_989 : Cond.methodLink RX9 82 yJ7_fill_53178 ∈ lw_tbl := tin_4 (List.mem_of_getElem? (i := 139) rfl)
set_option maxRecDepth 20000 in
theorem tw_990 : Cond.methodLink RX9 31 yX9_substitute ∈ lw_tbl := tin_4 (List.mem_of_getElem? (i := 140) rfl)
set_option maxRecDepth 20000 in
theorem tw_991 : Cond.instanceMethod yX9_substitute ∈ lw_tbl := tin_4 (List.mem_of_getElem? (i := 142) rfl)
set_option maxRecDepth 20000 in
theorem tw_992 : Cond.selects RX9 yX9_substitute yX9_substitute ∈ lw_tbl := List.mem_append_left _ (List.mem_of_getElem? (i := 23) rfl)
set_option maxRecDepth 20000 in
theorem tw_993 : Cond.code yX9_substitute cX9_substitute 8 none ∈ lw_tbl := tin_4 (List.mem_of_getElem? (i := 143) rfl)
set_option maxRecDepth 20000 in
theorem tw_994 : Cond.fieldLink RX9 88 "RowPivots$Sweep" "grid" "LRowPivots$Grid;" ∈ lw_tbl := tin_1 (List.mem_of_getElem? (i := 199) rfl)
set_option maxRecDepth 20000 in
theorem tw_995 : Cond.fieldLink RX9 94 "RowPivots$Sweep" "rank" "I" ∈ lw_tbl := tin_1 (List.mem_of_getElem? (i := 201) rfl)
set_option maxRecDepth 20000 in
theorem tw_996 : Cond.fieldLink RX9 48 "RowPivots$Grid" "columns" "I" ∈ lw_tbl := tin_1 (List.mem_of_getElem? (i := 81) rfl)
set_option maxRecDepth 20000 in
theorem tw_997 : Cond.fieldLink RX9 57 "RowPivots$Ratio" "isLong" "Z" ∈ lw_tbl := tin_1 (List.mem_of_getElem? (i := 59) rfl)
set_option maxRecDepth 20000 in
theorem tw_998 : Cond.fieldLink RX9 64 "RowPivots$Ratio" "upper" "J" ∈ lw_tbl := tin_1 (List.mem_of_getElem? (i := 48) rfl)
set_option maxRecDepth 20000 in
theorem tw_999 : Cond.fieldLink RX9 67 "RowPivots$Ratio" "lower" "J" ∈ lw_tbl := tin_1 (List.mem_of_getElem? (i := 53) rfl)
set_option maxRecDepth 20000 in
theorem tw_1000 : Cond.methodLink RX9 97 yX7_rowOf ∈ lw_tbl := tin_4 (List.mem_of_getElem? (i := 144) rfl)
set_option maxRecDepth 20000 in
theorem tw_1001 : Cond.instanceMethod yX7_rowOf ∈ lw_tbl := tin_4 (List.mem_of_getElem? (i := 145) rfl)
set_option maxRecDepth 20000 in
theorem tw_1002 : Cond.selects RX7 yX7_rowOf yX7_rowOf ∈ lw_tbl := tin_4 (List.mem_of_getElem? (i := 146) rfl)
set_option maxRecDepth 20000 in
theorem tw_1003 : Cond.code yX7_rowOf cX7_rowOf 2 (some .int) ∈ lw_tbl := tin_4 (List.mem_of_getElem? (i := 147) rfl)
set_option maxRecDepth 20000 in
theorem tw_1004 : Cond.methodLink RX9 101 yX7_columnOf ∈ lw_tbl := tin_4 (List.mem_of_getElem? (i := 148) rfl)
set_option maxRecDepth 20000 in
theorem tw_1005 : Cond.instanceMethod yX7_columnOf ∈ lw_tbl := tin_4 (List.mem_of_getElem? (i := 149) rfl)
set_option maxRecDepth 20000 in
theorem tw_1006 : Cond.selects RX7 yX7_columnOf yX7_columnOf ∈ lw_tbl := tin_4 (List.mem_of_getElem? (i := 150) rfl)
set_option maxRecDepth 20000 in
theorem tw_1007 : Cond.code yX7_columnOf cX7_columnOf 2 (some .int) ∈ lw_tbl := tin_4 (List.mem_of_getElem? (i := 151) rfl)
set_option maxRecDepth 20000 in
theorem tw_1008 : Cond.methodLink RX9 35 yX3_start ∈ lw_tbl := tin_4 (List.mem_of_getElem? (i := 152) rfl)
set_option maxRecDepth 20000 in
theorem tw_1009 : Cond.methodLink RX9 104 yX3_load ∈ lw_tbl := tin_4 (List.mem_of_getElem? (i := 153) rfl)
set_option maxRecDepth 20000 in
theorem tw_1010 : Cond.methodLink RX9 53 yX9_multiply ∈ lw_tbl := tin_4 (List.mem_of_getElem? (i := 154) rfl)
set_option maxRecDepth 20000 in
theorem tw_1011 : Cond.instanceMethod yX9_multiply ∈ lw_tbl := tin_4 (List.mem_of_getElem? (i := 156) rfl)
set_option maxRecDepth 20000 in
theorem tw_1012 : Cond.selects RX9 yX9_multiply yX9_multiply ∈ lw_tbl := List.mem_append_left _ (List.mem_of_getElem? (i := 24) rfl)
set_option maxRecDepth 20000 in
theorem tw_1013 : Cond.code yX9_multiply cX9_multiply 4 none ∈ lw_tbl := tin_4 (List.mem_of_getElem? (i := 157) rfl)
set_option maxRecDepth 20000 in
theorem tw_1014 : Cond.methodLink RX9 61 yX3_spoil ∈ lw_tbl := tin_4 (List.mem_of_getElem? (i := 158) rfl)
set_option maxRecDepth 20000 in
theorem tw_1015 : Cond.methodLink RX9 110 yX3_times ∈ lw_tbl := tin_4 (List.mem_of_getElem? (i := 159) rfl)
set_option maxRecDepth 20000 in
theorem tw_1016 : Cond.methodLink RX9 79 yX3_minus ∈ lw_tbl := tin_4 (List.mem_of_getElem? (i := 160) rfl)
set_option maxRecDepth 20000 in
theorem tw_1017 : Cond.instanceMethod yX3_minus ∈ lw_tbl := tin_4 (List.mem_of_getElem? (i := 161) rfl)
set_option maxRecDepth 20000 in
theorem tw_1018 : Cond.selects RX3 yX3_minus yX3_minus ∈ lw_tbl := tin_4 (List.mem_of_getElem? (i := 162) rfl)
set_option maxRecDepth 20000 in
theorem tw_1019 : Cond.code yX3_minus cX3_minus 5 none ∈ lw_tbl := tin_4 (List.mem_of_getElem? (i := 163) rfl)
set_option maxRecDepth 20000 in
theorem tw_1020 : Cond.methodLink RX9 72 yX1_upperAt ∈ lw_tbl := tin_4 (List.mem_of_getElem? (i := 164) rfl)
set_option maxRecDepth 20000 in
theorem tw_1021 : Cond.methodLink RX9 76 yX1_lowerAt ∈ lw_tbl := tin_4 (List.mem_of_getElem? (i := 165) rfl)
set_option maxRecDepth 20000 in
theorem tw_1022 : Cond.methodLink RX9 107 yX3_over ∈ lw_tbl := tin_4 (List.mem_of_getElem? (i := 166) rfl)
set_option maxRecDepth 20000 in
theorem tw_1023 : Cond.methodLink RX9 39 yX9_keep ∈ lw_tbl := tin_4 (List.mem_of_getElem? (i := 167) rfl)
set_option maxRecDepth 20000 in
theorem tw_1024 : Cond.instanceMethod yX9_keep ∈ lw_tbl := tin_4 (List.mem_of_getElem? (i := 169) rfl)
set_option maxRecDepth 20000 in
theorem tw_1025 : Cond.selects RX9 yX9_keep yX9_keep ∈ lw_tbl := List.mem_append_left _ (List.mem_of_getElem? (i := 25) rfl)
set_option maxRecDepth 20000 in
theorem tw_1026 : Cond.code yX9_keep cX9_keep 2 none ∈ lw_tbl := tin_4 (List.mem_of_getElem? (i := 170) rfl)
set_option maxRecDepth 20000 in
theorem tw_1027 : Cond.methodLink RX10 275 yX9_answer ∈ lw_tbl := tin_4 (List.mem_of_getElem? (i := 171) rfl)
set_option maxRecDepth 20000 in
theorem tw_1028 : Cond.instanceMethod yX9_answer ∈ lw_tbl := tin_4 (List.mem_of_getElem? (i := 172) rfl)
set_option maxRecDepth 20000 in
theorem tw_1029 : Cond.selects RX9 yX9_answer yX9_answer ∈ lw_tbl := tin_4 (List.mem_of_getElem? (i := 173) rfl)
set_option maxRecDepth 20000 in
theorem tw_1030 : Cond.code yX9_answer cX9_answer 3 (some .int) ∈ lw_tbl := tin_4 (List.mem_of_getElem? (i := 174) rfl)
set_option maxRecDepth 20000 in
theorem tw_1031 : Cond.constant RX9 47 (-2000000000) ∈ lw_tbl := tin_4 (List.mem_of_getElem? (i := 175) rfl)
set_option maxRecDepth 20000 in
theorem tw_1032 : Cond.methodLink RL 85 yX10_solution ∈ lw_tbl := tin_4 (List.mem_of_getElem? (i := 114) rfl)
set_option maxRecDepth 20000 in
theorem tw_1033 : Cond.instanceMethod yX10_solution ∈ lw_tbl := tin_4 (List.mem_of_getElem? (i := 115) rfl)
set_option maxRecDepth 20000 in
theorem tw_1034 : Cond.selects RX10 yX10_solution yX10_solution ∈ lw_tbl := tin_4 (List.mem_of_getElem? (i := 116) rfl)
set_option maxRecDepth 20000 in
theorem tw_1035 : Cond.code yX11_solution cX11_solution 3 (some .int) ∈ lw_tbl := tin_6 (List.mem_of_getElem? (i := 109) rfl)
set_option maxRecDepth 20000 in
theorem tw_1036 : Cond.methodLink RX11 241 yX11_isSolved ∈ lw_tbl := tin_6 (List.mem_of_getElem? (i := 110) rfl)
set_option maxRecDepth 20000 in
theorem tw_1037 : Cond.instanceMethod yX11_isSolved ∈ lw_tbl := tin_6 (List.mem_of_getElem? (i := 112) rfl)
set_option maxRecDepth 20000 in
theorem tw_1038 : Cond.selects RX11 yX11_isSolved yX11_isSolved ∈ lw_tbl := List.mem_append_left _ (List.mem_of_getElem? (i := 60) rfl)
set_option maxRecDepth 20000 in
theorem tw_1039 : Cond.code yX11_isSolved cX11_isSolved 1 (some .boolean) ∈ lw_tbl := tin_6 (List.mem_of_getElem? (i := 113) rfl)
set_option maxRecDepth 20000 in
theorem tw_1040 : Cond.methodLink RX11 238 yX11_solves ∈ lw_tbl := tin_6 (List.mem_of_getElem? (i := 114) rfl)
set_option maxRecDepth 20000 in
theorem tw_1041 : Cond.instanceMethod yX11_solves ∈ lw_tbl := tin_6 (List.mem_of_getElem? (i := 116) rfl)
set_option maxRecDepth 20000 in
theorem tw_1042 : Cond.selects RX11 yX11_solves yX11_solves ∈ lw_tbl := List.mem_append_left _ (List.mem_of_getElem? (i := 61) rfl)
set_option maxRecDepth 20000 in
theorem tw_1043 : Cond.code yX11_solves cX11_solves 3 none ∈ lw_tbl := tin_6 (List.mem_of_getElem? (i := 117) rfl)
set_option maxRecDepth 20000 in
theorem tw_1044 : Cond.methodLink RX11 161 yX11_solvesOne ∈ lw_tbl := tin_6 (List.mem_of_getElem? (i := 118) rfl)
set_option maxRecDepth 20000 in
theorem tw_1045 : Cond.instanceMethod yX11_solvesOne ∈ lw_tbl := tin_6 (List.mem_of_getElem? (i := 120) rfl)
set_option maxRecDepth 20000 in
theorem tw_1046 : Cond.selects RX11 yX11_solvesOne yX11_solvesOne ∈ lw_tbl := List.mem_append_left _ (List.mem_of_getElem? (i := 62) rfl)
set_option maxRecDepth 20000 in
theorem tw_1047 : Cond.code yX11_solvesOne cX11_solvesOne 11 none ∈ lw_tbl := tin_6 (List.mem_of_getElem? (i := 121) rfl)
set_option maxRecDepth 20000 in
theorem tw_1048 : Cond.methodLink RX11 245 yX11_has ∈ lw_tbl := tin_6 (List.mem_of_getElem? (i := 122) rfl)
set_option maxRecDepth 20000 in
theorem tw_1049 : Cond.instanceMethod yX11_has ∈ lw_tbl := tin_6 (List.mem_of_getElem? (i := 124) rfl)
set_option maxRecDepth 20000 in
theorem tw_1050 : Cond.selects RX11 yX11_has yX11_has ∈ lw_tbl := List.mem_append_left _ (List.mem_of_getElem? (i := 63) rfl)
set_option maxRecDepth 20000 in
theorem tw_1051 : Cond.code yX11_has cX11_has 3 (some .int) ∈ lw_tbl := tin_6 (List.mem_of_getElem? (i := 125) rfl)
set_option maxRecDepth 20000 in
theorem tw_1052 : Cond.methodLink RL 88 yX11_solution ∈ lw_tbl := tin_6 (List.mem_of_getElem? (i := 106) rfl)
set_option maxRecDepth 20000 in
theorem tw_1053 : Cond.instanceMethod yX11_solution ∈ lw_tbl := tin_6 (List.mem_of_getElem? (i := 107) rfl)
set_option maxRecDepth 20000 in
theorem tw_1054 : Cond.selects RX11 yX11_solution yX11_solution ∈ lw_tbl := tin_6 (List.mem_of_getElem? (i := 108) rfl)
set_option maxRecDepth 20000 in
theorem tw_1055 : Cond.code yX10_free cX10_free 1 (some .int) ∈ lw_tbl := tin_4 (List.mem_of_getElem? (i := 179) rfl)
set_option maxRecDepth 20000 in
theorem tw_1056 : Cond.methodLink RX10 265 yX7_freeBits ∈ lw_tbl := tin_4 (List.mem_of_getElem? (i := 180) rfl)
set_option maxRecDepth 20000 in
theorem tw_1057 : Cond.instanceMethod yX7_freeBits ∈ lw_tbl := tin_4 (List.mem_of_getElem? (i := 181) rfl)
set_option maxRecDepth 20000 in
theorem tw_1058 : Cond.selects RX7 yX7_freeBits yX7_freeBits ∈ lw_tbl := tin_4 (List.mem_of_getElem? (i := 182) rfl)
set_option maxRecDepth 20000 in
theorem tw_1059 : Cond.code yX7_freeBits cX7_freeBits 1 (some .int) ∈ lw_tbl := tin_4 (List.mem_of_getElem? (i := 183) rfl)
set_option maxRecDepth 20000 in
theorem tw_1060 : Cond.methodLink RL 89 yX10_free ∈ lw_tbl := tin_4 (List.mem_of_getElem? (i := 176) rfl)
set_option maxRecDepth 20000 in
theorem tw_1061 : Cond.instanceMethod yX10_free ∈ lw_tbl := tin_4 (List.mem_of_getElem? (i := 177) rfl)
set_option maxRecDepth 20000 in
theorem tw_1062 : Cond.selects RX10 yX10_free yX10_free ∈ lw_tbl := tin_4 (List.mem_of_getElem? (i := 178) rfl)
set_option maxRecDepth 20000 in
theorem tw_1063 : Cond.code yX11_free cX11_free 3 (some .int) ∈ lw_tbl := tin_6 (List.mem_of_getElem? (i := 129) rfl)
set_option maxRecDepth 20000 in
theorem tw_1064 : Cond.methodLink RX11 169 yX11_pivotOf ∈ lw_tbl := tin_6 (List.mem_of_getElem? (i := 130) rfl)
set_option maxRecDepth 20000 in
theorem tw_1065 : Cond.instanceMethod yX11_pivotOf ∈ lw_tbl := tin_6 (List.mem_of_getElem? (i := 132) rfl)
set_option maxRecDepth 20000 in
theorem tw_1066 : Cond.selects RX11 yX11_pivotOf yX11_pivotOf ∈ lw_tbl := List.mem_append_left _ (List.mem_of_getElem? (i := 64) rfl)
set_option maxRecDepth 20000 in
theorem tw_1067 : Cond.code yX11_pivotOf cX11_pivotOf 3 (some .int) ∈ lw_tbl := tin_6 (List.mem_of_getElem? (i := 133) rfl)
set_option maxRecDepth 20000 in
theorem tw_1068 : Cond.methodLink RL 92 yX11_free ∈ lw_tbl := tin_6 (List.mem_of_getElem? (i := 126) rfl)
set_option maxRecDepth 20000 in
theorem tw_1069 : Cond.instanceMethod yX11_free ∈ lw_tbl := tin_6 (List.mem_of_getElem? (i := 127) rfl)
set_option maxRecDepth 20000 in
theorem tw_1070 : Cond.selects RX11 yX11_free yX11_free ∈ lw_tbl := tin_6 (List.mem_of_getElem? (i := 128) rfl)
set_option maxRecDepth 20000 in
theorem tw_1071 : Cond.code yX10_zero cX10_zero 4 (some .int) ∈ lw_tbl := tin_4 (List.mem_of_getElem? (i := 187) rfl)
set_option maxRecDepth 20000 in
theorem tw_1072 : Cond.methodLink RX10 271 yX9_solveNull ∈ lw_tbl := tin_4 (List.mem_of_getElem? (i := 188) rfl)
set_option maxRecDepth 20000 in
theorem tw_1073 : Cond.instanceMethod yX9_solveNull ∈ lw_tbl := tin_4 (List.mem_of_getElem? (i := 189) rfl)
set_option maxRecDepth 20000 in
theorem tw_1074 : Cond.selects RX9 yX9_solveNull yX9_solveNull ∈ lw_tbl := tin_4 (List.mem_of_getElem? (i := 190) rfl)
set_option maxRecDepth 20000 in
theorem tw_1075 : Cond.code yX9_solveNull cX9_solveNull 3 none ∈ lw_tbl := tin_4 (List.mem_of_getElem? (i := 191) rfl)
set_option maxRecDepth 20000 in
theorem tw_1076 : Cond.methodLink RL 93 yX10_zero ∈ lw_tbl := tin_4 (List.mem_of_getElem? (i := 184) rfl)
set_option maxRecDepth 20000 in
theorem tw_1077 : Cond.instanceMethod yX10_zero ∈ lw_tbl := tin_4 (List.mem_of_getElem? (i := 185) rfl)
set_option maxRecDepth 20000 in
theorem tw_1078 : Cond.selects RX10 yX10_zero yX10_zero ∈ lw_tbl := tin_4 (List.mem_of_getElem? (i := 186) rfl)
set_option maxRecDepth 20000 in
theorem tw_1079 : Cond.code yX11_zero cX11_zero 4 (some .int) ∈ lw_tbl := tin_6 (List.mem_of_getElem? (i := 137) rfl)
set_option maxRecDepth 20000 in
theorem tw_1080 : Cond.methodLink RL 96 yX11_zero ∈ lw_tbl := tin_6 (List.mem_of_getElem? (i := 134) rfl)
set_option maxRecDepth 20000 in
theorem tw_1081 : Cond.instanceMethod yX11_zero ∈ lw_tbl := tin_6 (List.mem_of_getElem? (i := 135) rfl)
set_option maxRecDepth 20000 in
theorem tw_1082 : Cond.selects RX11 yX11_zero yX11_zero ∈ lw_tbl := tin_6 (List.mem_of_getElem? (i := 136) rfl)
set_option maxRecDepth 20000 in
theorem tw_1083 : Cond.code yX10_determinant cX10_determinant 2 (some .int) ∈ lw_tbl := tin_4 (List.mem_of_getElem? (i := 195) rfl)
set_option maxRecDepth 20000 in
theorem tw_1084 : Cond.methodLink RX10 279 yX10_determinantOf ∈ lw_tbl := tin_4 (List.mem_of_getElem? (i := 196) rfl)
set_option maxRecDepth 20000 in
theorem tw_1085 : Cond.instanceMethod yX10_determinantOf ∈ lw_tbl := tin_4 (List.mem_of_getElem? (i := 198) rfl)
set_option maxRecDepth 20000 in
theorem tw_1086 : Cond.selects RX10 yX10_determinantOf yX10_determinantOf ∈ lw_tbl := List.mem_append_left _ (List.mem_of_getElem? (i := 26) rfl)
set_option maxRecDepth 20000 in
theorem tw_1087 : Cond.code yX10_determinantOf cX10_determinantOf 4 (some .int) ∈ lw_tbl := tin_4 (List.mem_of_getElem? (i := 199) rfl)
set_option maxRecDepth 20000 in
theorem tw_1088 : Cond.methodLink RX10 283 yX1_isSquare ∈ lw_tbl := tin_4 (List.mem_of_getElem? (i := 200) rfl)
set_option maxRecDepth 20000 in
theorem tw_1089 : Cond.instanceMethod yX1_isSquare ∈ lw_tbl := tin_4 (List.mem_of_getElem? (i := 201) rfl)
set_option maxRecDepth 20000 in
theorem tw_1090 : Cond.selects RX1 yX1_isSquare yX1_isSquare ∈ lw_tbl := tin_4 (List.mem_of_getElem? (i := 202) rfl)
set_option maxRecDepth 20000 in
theorem tw_1091 : Cond.code yX1_isSquare cX1_isSquare 1 (some .boolean) ∈ lw_tbl := tin_4 (List.mem_of_getElem? (i := 203) rfl)
set_option maxRecDepth 20000 in
theorem tw_1092 : Cond.methodLink RX10 322 yX7_multiplyPivots ∈ lw_tbl := tin_4 (List.mem_of_getElem? (i := 204) rfl)
set_option maxRecDepth 20000 in
theorem tw_1093 : Cond.instanceMethod yX7_multiplyPivots ∈ lw_tbl := tin_4 (List.mem_of_getElem? (i := 205) rfl)
set_option maxRecDepth 20000 in
theorem tw_1094 : Cond.selects RX7 yX7_multiplyPivots yX7_multiplyPivots ∈ lw_tbl := tin_4 (List.mem_of_getElem? (i := 206) rfl)
set_option maxRecDepth 20000 in
theorem tw_1095 : Cond.code yX7_multiplyPivots cX7_multiplyPivots 7 none ∈ lw_tbl := tin_4 (List.mem_of_getElem? (i := 207) rfl)
set_option maxRecDepth 20000 in
theorem tw_1096 : Cond.methodLink RX7 150 yX3_start ∈ lw_tbl := tin_4 (List.mem_of_getElem? (i := 208) rfl)
set_option maxRecDepth 20000 in
theorem tw_1097 : Cond.methodLink RX7 153 yX7_rowOf ∈ lw_tbl := tin_4 (List.mem_of_getElem? (i := 209) rfl)
set_option maxRecDepth 20000 in
theorem tw_1098 : Cond.methodLink RX7 156 yX7_columnOf ∈ lw_tbl := tin_4 (List.mem_of_getElem? (i := 210) rfl)
set_option maxRecDepth 20000 in
theorem tw_1099 : Cond.methodLink RX7 159 yX3_times ∈ lw_tbl := tin_4 (List.mem_of_getElem? (i := 211) rfl)
set_option maxRecDepth 20000 in
theorem tw_1100 : Cond.methodLink RX10 326 yX3_negate ∈ lw_tbl := tin_4 (List.mem_of_getElem? (i := 212) rfl)
set_option maxRecDepth 20000 in
theorem tw_1101 : Cond.methodLink RX10 316 yX3_answer ∈ lw_tbl := tin_4 (List.mem_of_getElem? (i := 213) rfl)
set_option maxRecDepth 20000 in
theorem tw_1102 : Cond.instanceMethod yX3_answer ∈ lw_tbl := tin_4 (List.mem_of_getElem? (i := 214) rfl)
set_option maxRecDepth 20000 in
theorem tw_1103 : Cond.selects RX3 yX3_answer yX3_answer ∈ lw_tbl := tin_4 (List.mem_of_getElem? (i := 215) rfl)
set_option maxRecDepth 20000 in
theorem tw_1104 : Cond.code yX3_answer cX3_answer 2 (some .int) ∈ lw_tbl := tin_4 (List.mem_of_getElem? (i := 216) rfl)
set_option maxRecDepth 20000 in
theorem tw_1105 : Cond.constant RX3 35 (-2000000000) ∈ lw_tbl := tin_4 (List.mem_of_getElem? (i := 217) rfl)
set_option maxRecDepth 20000 in
theorem tw_1106 : Cond.methodLink RL 97 yX10_determinant ∈ lw_tbl := tin_4 (List.mem_of_getElem? (i := 192) rfl)
set_option maxRecDepth 20000 in
theorem tw_1107 : Cond.instanceMethod yX10_determinant ∈ lw_tbl := tin_4 (List.mem_of_getElem? (i := 193) rfl)
set_option maxRecDepth 20000 in
theorem tw_1108 : Cond.selects RX10 yX10_determinant yX10_determinant ∈ lw_tbl := tin_4 (List.mem_of_getElem? (i := 194) rfl)
set_option maxRecDepth 20000 in
theorem tw_1109 : Cond.code yX11_determinant cX11_determinant 2 (some .int) ∈ lw_tbl := tin_6 (List.mem_of_getElem? (i := 141) rfl)
set_option maxRecDepth 20000 in
theorem tw_1110 : Cond.methodLink RX11 249 yX11_hasDeterminant ∈ lw_tbl := tin_6 (List.mem_of_getElem? (i := 142) rfl)
set_option maxRecDepth 20000 in
theorem tw_1111 : Cond.instanceMethod yX11_hasDeterminant ∈ lw_tbl := tin_6 (List.mem_of_getElem? (i := 144) rfl)
set_option maxRecDepth 20000 in
theorem tw_1112 : Cond.selects RX11 yX11_hasDeterminant yX11_hasDeterminant ∈ lw_tbl := List.mem_append_left _ (List.mem_of_getElem? (i := 65) rfl)
set_option maxRecDepth 20000 in
theorem tw_1113 : Cond.code yX11_hasDeterminant cX11_hasDeterminant 4 (some .boolean) ∈ lw_tbl := tin_6 (List.mem_of_getElem? (i := 145) rfl)
set_option maxRecDepth 20000 in
theorem tw_1114 : Cond.methodLink RX11 252 yX11_tells ∈ lw_tbl := tin_6 (List.mem_of_getElem? (i := 146) rfl)
set_option maxRecDepth 20000 in
theorem tw_1115 : Cond.instanceMethod yX11_tells ∈ lw_tbl := tin_6 (List.mem_of_getElem? (i := 148) rfl)
set_option maxRecDepth 20000 in
theorem tw_1116 : Cond.selects RX11 yX11_tells yX11_tells ∈ lw_tbl := List.mem_append_left _ (List.mem_of_getElem? (i := 66) rfl)
set_option maxRecDepth 20000 in
theorem tw_1117 : Cond.code yX11_tells cX11_tells 2 (some .int) ∈ lw_tbl := tin_6 (List.mem_of_getElem? (i := 149) rfl)
set_option maxRecDepth 20000 in
theorem tw_1118 : Cond.methodLink RL 101 yX11_determinant ∈ lw_tbl := tin_6 (List.mem_of_getElem? (i := 138) rfl)
set_option maxRecDepth 20000 in
theorem tw_1119 : Cond.instanceMethod yX11_determinant ∈ lw_tbl := tin_6 (List.mem_of_getElem? (i := 139) rfl)
set_option maxRecDepth 20000 in
theorem tw_1120 : Cond.selects RX11 yX11_determinant yX11_determinant ∈ lw_tbl := tin_6 (List.mem_of_getElem? (i := 140) rfl)
set_option maxRecDepth 20000 in
theorem tw_1121 : Cond.code yX10_inverse cX10_inverse 5 (some .int) ∈ lw_tbl := tin_4 (List.mem_of_getElem? (i := 221) rfl)
set_option maxRecDepth 20000 in
theorem tw_1122 : Cond.methodLink RX10 286 yX1_clearSides ∈ lw_tbl := tin_4 (List.mem_of_getElem? (i := 222) rfl)
set_option maxRecDepth 20000 in
theorem tw_1123 : Cond.instanceMethod yX1_clearSides ∈ lw_tbl := tin_4 (List.mem_of_getElem? (i := 223) rfl)
set_option maxRecDepth 20000 in
theorem tw_1124 : Cond.selects RX1 yX1_clearSides yX1_clearSides ∈ lw_tbl := tin_4 (List.mem_of_getElem? (i := 224) rfl)
set_option maxRecDepth 20000 in
theorem tw_1125 : Cond.code yX1_clearSides cX1_clearSides 2 none ∈ lw_tbl := tin_4 (List.mem_of_getElem? (i := 225) rfl)
set_option maxRecDepth 20000 in
theorem tw_1126 : Cond.methodLink RX1 56 yX3_start ∈ lw_tbl := tin_4 (List.mem_of_getElem? (i := 226) rfl)
set_option maxRecDepth 20000 in
theorem tw_1127 : Cond.methodLink RL 102 yX10_inverse ∈ lw_tbl := tin_4 (List.mem_of_getElem? (i := 218) rfl)
set_option maxRecDepth 20000 in
theorem tw_1128 : Cond.instanceMethod yX10_inverse ∈ lw_tbl := tin_4 (List.mem_of_getElem? (i := 219) rfl)
set_option maxRecDepth 20000 in
theorem tw_1129 : Cond.selects RX10 yX10_inverse yX10_inverse ∈ lw_tbl := tin_4 (List.mem_of_getElem? (i := 220) rfl)
set_option maxRecDepth 20000 in
theorem tw_1130 : Cond.code yX11_inverse cX11_inverse 5 (some .int) ∈ lw_tbl := tin_6 (List.mem_of_getElem? (i := 153) rfl)
set_option maxRecDepth 20000 in
theorem tw_1131 : Cond.methodLink RL 105 yX11_inverse ∈ lw_tbl := tin_6 (List.mem_of_getElem? (i := 150) rfl)
set_option maxRecDepth 20000 in
theorem tw_1132 : Cond.instanceMethod yX11_inverse ∈ lw_tbl := tin_6 (List.mem_of_getElem? (i := 151) rfl)
set_option maxRecDepth 20000 in
theorem tw_1133 : Cond.selects RX11 yX11_inverse yX11_inverse ∈ lw_tbl := tin_6 (List.mem_of_getElem? (i := 152) rfl)
set_option maxRecDepth 20000 in
theorem tw_1134 : Cond.code yX10_minor cX10_minor 5 (some .int) ∈ lw_tbl := tin_4 (List.mem_of_getElem? (i := 230) rfl)
set_option maxRecDepth 20000 in
theorem tw_1135 : Cond.methodLink RX10 293 yX1_copyWithout ∈ lw_tbl := tin_4 (List.mem_of_getElem? (i := 231) rfl)
set_option maxRecDepth 20000 in
theorem tw_1136 : Cond.instanceMethod yX1_copyWithout ∈ lw_tbl := tin_4 (List.mem_of_getElem? (i := 232) rfl)
set_option maxRecDepth 20000 in
theorem tw_1137 : Cond.selects RX1 yX1_copyWithout yX1_copyWithout ∈ lw_tbl := tin_4 (List.mem_of_getElem? (i := 233) rfl)
set_option maxRecDepth 20000 in
theorem tw_1138 : Cond.code yX1_copyWithout cX1_copyWithout 6 none ∈ lw_tbl := tin_4 (List.mem_of_getElem? (i := 234) rfl)
set_option maxRecDepth 20000 in
theorem tw_1139 : Cond.methodLink RX1 44 yX1_clear ∈ lw_tbl := tin_4 (List.mem_of_getElem? (i := 235) rfl)
set_option maxRecDepth 20000 in
theorem tw_1140 : Cond.methodLink RL 106 yX10_minor ∈ lw_tbl := tin_4 (List.mem_of_getElem? (i := 227) rfl)
set_option maxRecDepth 20000 in
theorem tw_1141 : Cond.instanceMethod yX10_minor ∈ lw_tbl := tin_4 (List.mem_of_getElem? (i := 228) rfl)
set_option maxRecDepth 20000 in
theorem tw_1142 : Cond.selects RX10 yX10_minor yX10_minor ∈ lw_tbl := tin_4 (List.mem_of_getElem? (i := 229) rfl)
set_option maxRecDepth 20000 in
theorem tw_1143 : Cond.code yX11_minor cX11_minor 8 (some .int) ∈ lw_tbl := tin_6 (List.mem_of_getElem? (i := 157) rfl)
set_option maxRecDepth 20000 in
theorem tw_1144 : Cond.methodLink RX11 256 yX11_noSides ∈ lw_tbl := tin_6 (List.mem_of_getElem? (i := 158) rfl)
set_option maxRecDepth 20000 in
theorem tw_1145 : Cond.instanceMethod yX11_noSides ∈ lw_tbl := tin_6 (List.mem_of_getElem? (i := 160) rfl)
set_option maxRecDepth 20000 in
theorem tw_1146 : Cond.selects RX11 yX11_noSides yX11_noSides ∈ lw_tbl := List.mem_append_left _ (List.mem_of_getElem? (i := 67) rfl)
set_option maxRecDepth 20000 in
theorem tw_1147 : Cond.code yX11_noSides cX11_noSides 2 none ∈ lw_tbl := tin_6 (List.mem_of_getElem? (i := 161) rfl)
set_option maxRecDepth 20000 in
theorem tw_1148 : Cond.methodLink RL 109 yX11_minor ∈ lw_tbl := tin_6 (List.mem_of_getElem? (i := 154) rfl)
set_option maxRecDepth 20000 in
theorem tw_1149 : Cond.instanceMethod yX11_minor ∈ lw_tbl := tin_6 (List.mem_of_getElem? (i := 155) rfl)
set_option maxRecDepth 20000 in
theorem tw_1150 : Cond.selects RX11 yX11_minor yX11_minor ∈ lw_tbl := tin_6 (List.mem_of_getElem? (i := 156) rfl)
set_option maxRecDepth 20000 in
theorem tw_1151 : Cond.code yX10_cramer cX10_cramer 5 (some .int) ∈ lw_tbl := tin_4 (List.mem_of_getElem? (i := 239) rfl)
set_option maxRecDepth 20000 in
theorem tw_1152 : Cond.methodLink RX10 297 yX3_load ∈ lw_tbl := tin_5 (List.mem_of_getElem? (i := 0) rfl)
set_option maxRecDepth 20000 in
theorem tw_1153 : Cond.methodLink RL 110 yX10_cramer ∈ lw_tbl := tin_4 (List.mem_of_getElem? (i := 236) rfl)
set_option maxRecDepth 20000 in
theorem tw_1154 : Cond.instanceMethod yX10_cramer ∈ lw_tbl := tin_4 (List.mem_of_getElem? (i := 237) rfl)
set_option maxRecDepth 20000 in
theorem tw_1155 : Cond.selects RX10 yX10_cramer yX10_cramer ∈ lw_tbl := tin_4 (List.mem_of_getElem? (i := 238) rfl)
set_option maxRecDepth 20000 in
theorem tw_1156 : Cond.code yX11_cramer cX11_cramer 4 (some .int) ∈ lw_tbl := tin_6 (List.mem_of_getElem? (i := 165) rfl)
set_option maxRecDepth 20000 in
theorem tw_1157 : Cond.methodLink RL 113 yX11_cramer ∈ lw_tbl := tin_6 (List.mem_of_getElem? (i := 162) rfl)
set_option maxRecDepth 20000 in
theorem tw_1158 : Cond.instanceMethod yX11_cramer ∈ lw_tbl := tin_6 (List.mem_of_getElem? (i := 163) rfl)
set_option maxRecDepth 20000 in
theorem tw_1159 : Cond.selects RX11 yX11_cramer yX11_cramer ∈ lw_tbl := tin_6 (List.mem_of_getElem? (i := 164) rfl)
set_option maxRecDepth 20000 in
theorem tw_1160 : Cond.code yX10_would cX10_would 8 (some .int) ∈ lw_tbl := tin_5 (List.mem_of_getElem? (i := 4) rfl)
set_option maxRecDepth 20000 in
theorem tw_1161 : Cond.fieldLink RX10 306 "RowPivots$Ratio" "isLong" "Z" ∈ lw_tbl := tin_1 (List.mem_of_getElem? (i := 62) rfl)
set_option maxRecDepth 20000 in
theorem tw_1162 : Cond.methodLink RX10 300 yX10_isTold ∈ lw_tbl := tin_5 (List.mem_of_getElem? (i := 5) rfl)
set_option maxRecDepth 20000 in
theorem tw_1163 : Cond.methodLink RX10 303 yX3_times ∈ lw_tbl := tin_5 (List.mem_of_getElem? (i := 6) rfl)
set_option maxRecDepth 20000 in
theorem tw_1164 : Cond.methodLink RL 114 yX10_would ∈ lw_tbl := tin_5 (List.mem_of_getElem? (i := 1) rfl)
set_option maxRecDepth 20000 in
theorem tw_1165 : Cond.instanceMethod yX10_would ∈ lw_tbl := tin_5 (List.mem_of_getElem? (i := 2) rfl)
set_option maxRecDepth 20000 in
theorem tw_1166 : Cond.selects RX10 yX10_would yX10_would ∈ lw_tbl := tin_5 (List.mem_of_getElem? (i := 3) rfl)
set_option maxRecDepth 20000 in
theorem tw_1167 : Cond.code yX11_would cX11_would 7 (some .int) ∈ lw_tbl := tin_6 (List.mem_of_getElem? (i := 169) rfl)
set_option maxRecDepth 20000 in
theorem tw_1168 : Cond.methodLink RL 118 yX11_would ∈ lw_tbl := tin_6 (List.mem_of_getElem? (i := 166) rfl)
set_option maxRecDepth 20000 in
theorem tw_1169 : Cond.instanceMethod yX11_would ∈ lw_tbl := tin_6 (List.mem_of_getElem? (i := 167) rfl)
set_option maxRecDepth 20000 in
theorem tw_1170 : Cond.selects RX11 yX11_would yX11_would ∈ lw_tbl := tin_6 (List.mem_of_getElem? (i := 168) rfl)
set_option maxRecDepth 20000 in
theorem tw_1171 : Cond.code yX10_ranked cX10_ranked 6 (some .int) ∈ lw_tbl := tin_5 (List.mem_of_getElem? (i := 10) rfl)
set_option maxRecDepth 20000 in
theorem tw_1172 : Cond.methodLink RL 119 yX10_ranked ∈ lw_tbl := tin_5 (List.mem_of_getElem? (i := 7) rfl)
set_option maxRecDepth 20000 in
theorem tw_1173 : Cond.instanceMethod yX10_ranked ∈ lw_tbl := tin_5 (List.mem_of_getElem? (i := 8) rfl)
set_option maxRecDepth 20000 in
theorem tw_1174 : Cond.selects RX10 yX10_ranked yX10_ranked ∈ lw_tbl := tin_5 (List.mem_of_getElem? (i := 9) rfl)
set_option maxRecDepth 20000 in
theorem tw_1175 : Cond.code yX11_ranked cX11_ranked 5 (some .int) ∈ lw_tbl := tin_6 (List.mem_of_getElem? (i := 173) rfl)
set_option maxRecDepth 20000 in
theorem tw_1176 : Cond.methodLink RL 122 yX11_ranked ∈ lw_tbl := tin_6 (List.mem_of_getElem? (i := 170) rfl)
set_option maxRecDepth 20000 in
theorem tw_1177 : Cond.instanceMethod yX11_ranked ∈ lw_tbl := tin_6 (List.mem_of_getElem? (i := 171) rfl)
set_option maxRecDepth 20000 in
theorem tw_1178 : Cond.selects RX11 yX11_ranked yX11_ranked ∈ lw_tbl := tin_6 (List.mem_of_getElem? (i := 172) rfl)
set_option maxRecDepth 20000 in
theorem tw_1179 : Cond.code yX10_residue cX10_residue 4 (some .int) ∈ lw_tbl := tin_5 (List.mem_of_getElem? (i := 14) rfl)
set_option maxRecDepth 20000 in
theorem tw_1180 : Cond.methodLink RX10 312 yX9_residueOf ∈ lw_tbl := tin_5 (List.mem_of_getElem? (i := 15) rfl)
set_option maxRecDepth 20000 in
theorem tw_1181 : Cond.instanceMethod yX9_residueOf ∈ lw_tbl := tin_5 (List.mem_of_getElem? (i := 16) rfl)
set_option maxRecDepth 20000 in
theorem tw_1182 : Cond.selects RX9 yX9_residueOf yX9_residueOf ∈ lw_tbl := tin_5 (List.mem_of_getElem? (i := 17) rfl)
set_option maxRecDepth 20000 in
theorem tw_1183 : Cond.code yX9_residueOf cX9_residueOf 5 none ∈ lw_tbl := tin_5 (List.mem_of_getElem? (i := 18) rfl)
set_option maxRecDepth 20000 in
theorem tw_1184 : Cond.methodLink RX9 69 yX3_plus ∈ lw_tbl := tin_5 (List.mem_of_getElem? (i := 19) rfl)
set_option maxRecDepth 20000 in
theorem tw_1185 : Cond.methodLink RL 123 yX10_residue ∈ lw_tbl := tin_5 (List.mem_of_getElem? (i := 11) rfl)
set_option maxRecDepth 20000 in
theorem tw_1186 : Cond.instanceMethod yX10_residue ∈ lw_tbl := tin_5 (List.mem_of_getElem? (i := 12) rfl)
set_option maxRecDepth 20000 in
theorem tw_1187 : Cond.selects RX10 yX10_residue yX10_residue ∈ lw_tbl := tin_5 (List.mem_of_getElem? (i := 13) rfl)
set_option maxRecDepth 20000 in
theorem tw_1188 : Cond.code yX11_residue cX11_residue 9 (some .int) ∈ lw_tbl := tin_6 (List.mem_of_getElem? (i := 177) rfl)
set_option maxRecDepth 20000 in
theorem tw_1189 : Cond.methodLink RL 126 yX11_residue ∈ lw_tbl := tin_6 (List.mem_of_getElem? (i := 174) rfl)
set_option maxRecDepth 20000 in
theorem tw_1190 : Cond.instanceMethod yX11_residue ∈ lw_tbl := tin_6 (List.mem_of_getElem? (i := 175) rfl)
set_option maxRecDepth 20000 in
theorem tw_1191 : Cond.selects RX11 yX11_residue yX11_residue ∈ lw_tbl := tin_6 (List.mem_of_getElem? (i := 176) rfl)
set_option maxRecDepth 20000 in
theorem tw_1192 : Cond.code yX10_image cX10_image 3 (some .boolean) ∈ lw_tbl := tin_5 (List.mem_of_getElem? (i := 23) rfl)
set_option maxRecDepth 20000 in
theorem tw_1193 : Cond.methodLink RX10 319 yX6_copy ∈ lw_tbl := tin_5 (List.mem_of_getElem? (i := 24) rfl)
set_option maxRecDepth 20000 in
theorem tw_1194 : Cond.instanceMethod yX6_copy ∈ lw_tbl := tin_5 (List.mem_of_getElem? (i := 25) rfl)
set_option maxRecDepth 20000 in
theorem tw_1195 : Cond.selects RX6 yX6_copy yX6_copy ∈ lw_tbl := tin_5 (List.mem_of_getElem? (i := 26) rfl)
set_option maxRecDepth 20000 in
theorem tw_1196 : Cond.code yX6_copy cX6_copy 2 none ∈ lw_tbl := tin_5 (List.mem_of_getElem? (i := 27) rfl)
set_option maxRecDepth 20000 in
theorem tw_1197 : Cond.fieldLink RX6 42 "RowPivots$State" "fault" "I" ∈ lw_tbl := tin_1 (List.mem_of_getElem? (i := 116) rfl)
set_option maxRecDepth 20000 in
theorem tw_1198 : Cond.fieldLink RX6 45 "RowPivots$State" "refusal" "I" ∈ lw_tbl := tin_1 (List.mem_of_getElem? (i := 120) rfl)
set_option maxRecDepth 20000 in
theorem tw_1199 : Cond.methodLink RX6 35 yX1_copy ∈ lw_tbl := tin_5 (List.mem_of_getElem? (i := 28) rfl)
set_option maxRecDepth 20000 in
theorem tw_1200 : Cond.methodLink RX6 39 yX8_copy ∈ lw_tbl := tin_5 (List.mem_of_getElem? (i := 29) rfl)
set_option maxRecDepth 20000 in
theorem tw_1201 : Cond.methodLink RL 127 yX10_image ∈ lw_tbl := tin_5 (List.mem_of_getElem? (i := 20) rfl)
set_option maxRecDepth 20000 in
theorem tw_1202 : Cond.instanceMethod yX10_image ∈ lw_tbl := tin_5 (List.mem_of_getElem? (i := 21) rfl)
set_option maxRecDepth 20000 in
theorem tw_1203 : Cond.selects RX10 yX10_image yX10_image ∈ lw_tbl := tin_5 (List.mem_of_getElem? (i := 22) rfl)
set_option maxRecDepth 20000 in
theorem tw_1204 : Cond.code yX11_image cX11_image 4 (some .boolean) ∈ lw_tbl := tin_7 (List.mem_of_getElem? (i := 27) rfl)
set_option maxRecDepth 20000 in
theorem tw_1205 : Cond.methodLink RL 131 yX11_image ∈ lw_tbl := tin_7 (List.mem_of_getElem? (i := 24) rfl)
set_option maxRecDepth 20000 in
theorem tw_1206 : Cond.instanceMethod yX11_image ∈ lw_tbl := tin_7 (List.mem_of_getElem? (i := 25) rfl)
set_option maxRecDepth 20000 in
theorem tw_1207 : Cond.selects RX11 yX11_image yX11_image ∈ lw_tbl := tin_7 (List.mem_of_getElem? (i := 26) rfl)
set_option maxRecDepth 20000 in
theorem tw_1208 : Cond.code yX10_again cX10_again 3 (some .boolean) ∈ lw_tbl := tin_5 (List.mem_of_getElem? (i := 33) rfl)
set_option maxRecDepth 20000 in
theorem tw_1209 : Cond.methodLink RL 132 yX10_again ∈ lw_tbl := tin_5 (List.mem_of_getElem? (i := 30) rfl)
set_option maxRecDepth 20000 in
theorem tw_1210 : Cond.instanceMethod yX10_again ∈ lw_tbl := tin_5 (List.mem_of_getElem? (i := 31) rfl)
set_option maxRecDepth 20000 in
theorem tw_1211 : Cond.selects RX10 yX10_again yX10_again ∈ lw_tbl := tin_5 (List.mem_of_getElem? (i := 32) rfl)
set_option maxRecDepth 20000 in
theorem tw_1212 : Cond.code yX11_again cX11_again 4 (some .boolean) ∈ lw_tbl := tin_7 (List.mem_of_getElem? (i := 31) rfl)
set_option maxRecDepth 20000 in
theorem tw_1213 : Cond.methodLink RL 135 yX11_again ∈ lw_tbl := tin_7 (List.mem_of_getElem? (i := 28) rfl)
set_option maxRecDepth 20000 in
theorem tw_1214 : Cond.instanceMethod yX11_again ∈ lw_tbl := tin_7 (List.mem_of_getElem? (i := 29) rfl)
set_option maxRecDepth 20000 in
theorem tw_1215 : Cond.selects RX11 yX11_again yX11_again ∈ lw_tbl := tin_7 (List.mem_of_getElem? (i := 30) rfl)
set_option maxRecDepth 20000 in
theorem tw_1216 : Cond.laysFinal "RowPivots$Acts" "RowPivots$Acts" "next" "LRowPivots$Grid;" ∈ lw_tbl := tin_1 (List.mem_of_getElem? (i := 178) rfl)
set_option maxRecDepth 20000 in
theorem tw_1217 : Cond.lays "RowPivots$Acts" "RowPivots$Acts" "longRow" "I" ∈ lw_tbl := tin_1 (List.mem_of_getElem? (i := 180) rfl)
set_option maxRecDepth 20000 in
theorem tw_1218 : Cond.lays "RowPivots$Acts" "RowPivots$Acts" "longColumn" "I" ∈ lw_tbl := tin_1 (List.mem_of_getElem? (i := 182) rfl)
set_option maxRecDepth 20000 in
theorem tw_1219 : Cond.laysFinal "RowPivots$Acts" "RowPivots$Acts" "value" "LRowPivots$Ratio;" ∈ lw_tbl := tin_1 (List.mem_of_getElem? (i := 184) rfl)
set_option maxRecDepth 20000 in
theorem tw_1220 : Cond.lays "RowPivots$Grid" "RowPivots$Grid" "rows" "I" ∈ lw_tbl := tin_1 (List.mem_of_getElem? (i := 85) rfl)
set_option maxRecDepth 20000 in
theorem tw_1221 : Cond.lays "RowPivots$Grid" "RowPivots$Grid" "columns" "I" ∈ lw_tbl := tin_1 (List.mem_of_getElem? (i := 87) rfl)
set_option maxRecDepth 20000 in
theorem tw_1222 : Cond.laysFinal "RowPivots$Grid" "RowPivots$Grid" "upper" "[I" ∈ lw_tbl := tin_1 (List.mem_of_getElem? (i := 89) rfl)
set_option maxRecDepth 20000 in
theorem tw_1223 : Cond.laysFinal "RowPivots$Grid" "RowPivots$Grid" "lower" "[I" ∈ lw_tbl := tin_1 (List.mem_of_getElem? (i := 91) rfl)
set_option maxRecDepth 20000 in
theorem tw_1224 : Cond.laysFinal "RowPivots$Grid" "RowPivots$Grid" "sum" "LRowPivots$Ratio;" ∈ lw_tbl := tin_1 (List.mem_of_getElem? (i := 93) rfl)
set_option maxRecDepth 20000 in
theorem tw_1225 : Cond.laysFinal "RowPivots" "RowPivots" "now" "LRowPivots$State;" ∈ lw_tbl := tin_2 (List.mem_of_getElem? (i := 115) rfl)
set_option maxRecDepth 20000 in
theorem tw_1226 : Cond.laysFinal "RowPivots" "RowPivots" "images" "[LRowPivots$State;" ∈ lw_tbl := tin_2 (List.mem_of_getElem? (i := 117) rfl)
set_option maxRecDepth 20000 in
theorem tw_1227 : Cond.laysFinal "RowPivots" "RowPivots" "past" "LRowPivots$Past;" ∈ lw_tbl := tin_2 (List.mem_of_getElem? (i := 119) rfl)
set_option maxRecDepth 20000 in
theorem tw_1228 : Cond.laysFinal "RowPivots" "RowPivots" "acts" "LRowPivots$Acts;" ∈ lw_tbl := tin_2 (List.mem_of_getElem? (i := 121) rfl)
set_option maxRecDepth 20000 in
theorem tw_1229 : Cond.laysFinal "RowPivots" "RowPivots" "sweep" "LRowPivots$Sweep;" ∈ lw_tbl := tin_2 (List.mem_of_getElem? (i := 123) rfl)
set_option maxRecDepth 20000 in
theorem tw_1230 : Cond.laysFinal "RowPivots" "RowPivots" "values" "LRowPivots$Values;" ∈ lw_tbl := tin_2 (List.mem_of_getElem? (i := 125) rfl)
set_option maxRecDepth 20000 in
theorem tw_1231 : Cond.laysFinal "RowPivots" "RowPivots" "reader" "LRowPivots$Reader;" ∈ lw_tbl := tin_2 (List.mem_of_getElem? (i := 127) rfl)
set_option maxRecDepth 20000 in
theorem tw_1232 : Cond.laysFinal "RowPivots" "RowPivots" "told" "LRowPivots$Grid;" ∈ lw_tbl := tin_2 (List.mem_of_getElem? (i := 129) rfl)
set_option maxRecDepth 20000 in
theorem tw_1233 : Cond.laysFinal "RowPivots" "RowPivots" "trial" "LRowPivots$Grid;" ∈ lw_tbl := tin_2 (List.mem_of_getElem? (i := 131) rfl)
set_option maxRecDepth 20000 in
theorem tw_1234 : Cond.laysFinal "RowPivots" "RowPivots" "ratio" "LRowPivots$Ratio;" ∈ lw_tbl := tin_2 (List.mem_of_getElem? (i := 133) rfl)
set_option maxRecDepth 20000 in
theorem tw_1235 : Cond.laysFinal "RowPivotsModel" "RowPivotsModel" "all" "[I" ∈ lw_tbl := tin_5 (List.mem_of_getElem? (i := 80) rfl)
set_option maxRecDepth 20000 in
theorem tw_1236 : Cond.laysFinal "RowPivotsModel" "RowPivotsModel" "tape" "[I" ∈ lw_tbl := tin_5 (List.mem_of_getElem? (i := 82) rfl)
set_option maxRecDepth 20000 in
theorem tw_1237 : Cond.laysFinal "RowPivotsModel" "RowPivotsModel" "isImage" "[Z" ∈ lw_tbl := tin_5 (List.mem_of_getElem? (i := 84) rfl)
set_option maxRecDepth 20000 in
theorem tw_1238 : Cond.lays "RowPivotsModel" "RowPivotsModel" "taped" "I" ∈ lw_tbl := tin_5 (List.mem_of_getElem? (i := 86) rfl)
set_option maxRecDepth 20000 in
theorem tw_1239 : Cond.lays "RowPivotsModel" "RowPivotsModel" "faultKind" "I" ∈ lw_tbl := tin_5 (List.mem_of_getElem? (i := 88) rfl)
set_option maxRecDepth 20000 in
theorem tw_1240 : Cond.lays "RowPivotsModel" "RowPivotsModel" "faultPlace" "I" ∈ lw_tbl := tin_5 (List.mem_of_getElem? (i := 90) rfl)
set_option maxRecDepth 20000 in
theorem tw_1241 : Cond.lays "RowPivotsModel" "RowPivotsModel" "undos" "I" ∈ lw_tbl := tin_5 (List.mem_of_getElem? (i := 92) rfl)
set_option maxRecDepth 20000 in
theorem tw_1242 : Cond.lays "RowPivotsModel" "RowPivotsModel" "up" "J" ∈ lw_tbl := tin_5 (List.mem_of_getElem? (i := 94) rfl)
set_option maxRecDepth 20000 in
theorem tw_1243 : Cond.lays "RowPivotsModel" "RowPivotsModel" "low" "J" ∈ lw_tbl := tin_5 (List.mem_of_getElem? (i := 96) rfl)
set_option maxRecDepth 20000 in
theorem tw_1244 : Cond.lays "RowPivotsModel" "RowPivotsModel" "isLong" "Z" ∈ lw_tbl := tin_5 (List.mem_of_getElem? (i := 98) rfl)
set_option maxRecDepth 20000 in
theorem tw_1245 : Cond.laysFinal "RowPivotsModel" "RowPivotsModel" "cu" "[I" ∈ lw_tbl := tin_5 (List.mem_of_getElem? (i := 100) rfl)
set_option maxRecDepth 20000 in
theorem tw_1246 : Cond.laysFinal "RowPivotsModel" "RowPivotsModel" "cl" "[I" ∈ lw_tbl := tin_5 (List.mem_of_getElem? (i := 102) rfl)
set_option maxRecDepth 20000 in
theorem tw_1247 : Cond.laysFinal "RowPivotsModel" "RowPivotsModel" "pivotRow" "[I" ∈ lw_tbl := tin_5 (List.mem_of_getElem? (i := 104) rfl)
set_option maxRecDepth 20000 in
theorem tw_1248 : Cond.laysFinal "RowPivotsModel" "RowPivotsModel" "pivotColumn" "[I" ∈ lw_tbl := tin_5 (List.mem_of_getElem? (i := 106) rfl)
set_option maxRecDepth 20000 in
theorem tw_1249 : Cond.laysFinal "RowPivotsModel" "RowPivotsModel" "pivotFill" "[I" ∈ lw_tbl := tin_5 (List.mem_of_getElem? (i := 108) rfl)
set_option maxRecDepth 20000 in
theorem tw_1250 : Cond.laysFinal "RowPivotsModel" "RowPivotsModel" "pivotWeight" "[I" ∈ lw_tbl := tin_5 (List.mem_of_getElem? (i := 110) rfl)
set_option maxRecDepth 20000 in
theorem tw_1251 : Cond.laysFinal "RowPivotsModel" "RowPivotsModel" "liveRow" "[Z" ∈ lw_tbl := tin_5 (List.mem_of_getElem? (i := 112) rfl)
set_option maxRecDepth 20000 in
theorem tw_1252 : Cond.laysFinal "RowPivotsModel" "RowPivotsModel" "liveColumn" "[Z" ∈ lw_tbl := tin_5 (List.mem_of_getElem? (i := 114) rfl)
set_option maxRecDepth 20000 in
theorem tw_1253 : Cond.lays "RowPivotsModel" "RowPivotsModel" "rows" "I" ∈ lw_tbl := tin_5 (List.mem_of_getElem? (i := 116) rfl)
set_option maxRecDepth 20000 in
theorem tw_1254 : Cond.lays "RowPivotsModel" "RowPivotsModel" "columns" "I" ∈ lw_tbl := tin_5 (List.mem_of_getElem? (i := 118) rfl)
set_option maxRecDepth 20000 in
theorem tw_1255 : Cond.lays "RowPivotsModel" "RowPivotsModel" "rank" "I" ∈ lw_tbl := tin_5 (List.mem_of_getElem? (i := 120) rfl)
set_option maxRecDepth 20000 in
theorem tw_1256 : Cond.lays "RowPivotsModel" "RowPivotsModel" "brokenRow" "I" ∈ lw_tbl := tin_5 (List.mem_of_getElem? (i := 122) rfl)
set_option maxRecDepth 20000 in
theorem tw_1257 : Cond.lays "RowPivotsModel" "RowPivotsModel" "brokenColumn" "I" ∈ lw_tbl := tin_5 (List.mem_of_getElem? (i := 124) rfl)
set_option maxRecDepth 20000 in
theorem tw_1258 : Cond.lays "RowPivotsModel" "RowPivotsModel" "isBroken" "Z" ∈ lw_tbl := tin_5 (List.mem_of_getElem? (i := 126) rfl)
set_option maxRecDepth 20000 in
theorem tw_1259 : Cond.lays "RowPivotsModel" "RowPivotsModel" "filled" "I" ∈ lw_tbl := tin_5 (List.mem_of_getElem? (i := 128) rfl)
set_option maxRecDepth 20000 in
theorem tw_1260 : Cond.laysFinal "RowPivotsModel" "RowPivotsModel" "xu" "[J" ∈ lw_tbl := tin_5 (List.mem_of_getElem? (i := 130) rfl)
set_option maxRecDepth 20000 in
theorem tw_1261 : Cond.laysFinal "RowPivotsModel" "RowPivotsModel" "xl" "[J" ∈ lw_tbl := tin_5 (List.mem_of_getElem? (i := 132) rfl)
set_option maxRecDepth 20000 in
theorem tw_1262 : Cond.laysFinal "RowPivotsModel" "RowPivotsModel" "isUnknown" "[Z" ∈ lw_tbl := tin_5 (List.mem_of_getElem? (i := 134) rfl)
set_option maxRecDepth 20000 in
theorem tw_1263 : Cond.lays "RowPivotsModel" "RowPivotsModel" "from" "I" ∈ lw_tbl := tin_5 (List.mem_of_getElem? (i := 136) rfl)
set_option maxRecDepth 20000 in
theorem tw_1264 : Cond.lays "RowPivotsModel" "RowPivotsModel" "size0" "I" ∈ lw_tbl := tin_5 (List.mem_of_getElem? (i := 138) rfl)
set_option maxRecDepth 20000 in
theorem tw_1265 : Cond.lays "RowPivotsModel" "RowPivotsModel" "next" "I" ∈ lw_tbl := tin_5 (List.mem_of_getElem? (i := 140) rfl)
set_option maxRecDepth 20000 in
theorem tw_1266 : Cond.lays "RowPivotsModel" "RowPivotsModel" "token" "I" ∈ lw_tbl := tin_5 (List.mem_of_getElem? (i := 142) rfl)
set_option maxRecDepth 20000 in
theorem tw_1267 : Cond.lays "RowPivotsModel" "RowPivotsModel" "place" "I" ∈ lw_tbl := tin_5 (List.mem_of_getElem? (i := 144) rfl)
set_option maxRecDepth 20000 in
theorem tw_1268 : Cond.lays "RowPivotsModel" "RowPivotsModel" "value" "J" ∈ lw_tbl := tin_5 (List.mem_of_getElem? (i := 146) rfl)
set_option maxRecDepth 20000 in
theorem tw_1269 : Cond.lays "RowPivotsModel" "RowPivotsModel" "toldUp" "I" ∈ lw_tbl := tin_5 (List.mem_of_getElem? (i := 148) rfl)
set_option maxRecDepth 20000 in
theorem tw_1270 : Cond.lays "RowPivotsModel" "RowPivotsModel" "toldLow" "I" ∈ lw_tbl := tin_5 (List.mem_of_getElem? (i := 150) rfl)
set_option maxRecDepth 20000 in
theorem tw_1271 : Cond.lays "RowPivots$Past" "RowPivots$Past" "size" "I" ∈ lw_tbl := tin_1 (List.mem_of_getElem? (i := 154) rfl)
set_option maxRecDepth 20000 in
theorem tw_1272 : Cond.laysFinal "RowPivots$Past" "RowPivots$Past" "kept" "[LRowPivots$Grid;" ∈ lw_tbl := tin_1 (List.mem_of_getElem? (i := 156) rfl)
set_option maxRecDepth 20000 in
theorem tw_1273 : Cond.lays "RowPivots$Past" "RowPivots$Past" "top" "I" ∈ lw_tbl := tin_1 (List.mem_of_getElem? (i := 158) rfl)
set_option maxRecDepth 20000 in
theorem tw_1274 : Cond.lays "RowPivots$Ratio" "RowPivots$Ratio" "upper" "J" ∈ lw_tbl := tin_1 (List.mem_of_getElem? (i := 63) rfl)
set_option maxRecDepth 20000 in
theorem tw_1275 : Cond.lays "RowPivots$Ratio" "RowPivots$Ratio" "lower" "J" ∈ lw_tbl := tin_1 (List.mem_of_getElem? (i := 65) rfl)
set_option maxRecDepth 20000 in
theorem tw_1276 : Cond.lays "RowPivots$Ratio" "RowPivots$Ratio" "isLong" "Z" ∈ lw_tbl := tin_1 (List.mem_of_getElem? (i := 67) rfl)
set_option maxRecDepth 20000 in
theorem tw_1277 : Cond.lays "RowPivots$Reader" "RowPivots$Reader" "fault" "I" ∈ lw_tbl := tin_2 (List.mem_of_getElem? (i := 80) rfl)
set_option maxRecDepth 20000 in
theorem tw_1278 : Cond.lays "RowPivots$Reader" "RowPivots$Reader" "faultPlace" "I" ∈ lw_tbl := tin_2 (List.mem_of_getElem? (i := 82) rfl)
set_option maxRecDepth 20000 in
theorem tw_1279 : Cond.lays "RowPivots$Reader" "RowPivots$Reader" "word" "I" ∈ lw_tbl := tin_2 (List.mem_of_getElem? (i := 84) rfl)
set_option maxRecDepth 20000 in
theorem tw_1280 : Cond.lays "RowPivots$Reader" "RowPivots$Reader" "first" "I" ∈ lw_tbl := tin_2 (List.mem_of_getElem? (i := 86) rfl)
set_option maxRecDepth 20000 in
theorem tw_1281 : Cond.lays "RowPivots$Reader" "RowPivots$Reader" "second" "I" ∈ lw_tbl := tin_2 (List.mem_of_getElem? (i := 88) rfl)
set_option maxRecDepth 20000 in
theorem tw_1282 : Cond.laysFinal "RowPivots$Reader" "RowPivots$Reader" "scanner" "LRowPivots$Scanner;" ∈ lw_tbl := tin_2 (List.mem_of_getElem? (i := 90) rfl)
set_option maxRecDepth 20000 in
theorem tw_1283 : Cond.laysFinal "RowPivots$Reader" "RowPivots$Reader" "uppers" "[I" ∈ lw_tbl := tin_2 (List.mem_of_getElem? (i := 92) rfl)
set_option maxRecDepth 20000 in
theorem tw_1284 : Cond.laysFinal "RowPivots$Reader" "RowPivots$Reader" "lowers" "[I" ∈ lw_tbl := tin_2 (List.mem_of_getElem? (i := 94) rfl)
set_option maxRecDepth 20000 in
theorem tw_1285 : Cond.lays "RowPivots$Reader" "RowPivots$Reader" "wordPlace" "I" ∈ lw_tbl := tin_2 (List.mem_of_getElem? (i := 96) rfl)
set_option maxRecDepth 20000 in
theorem tw_1286 : Cond.lays "RowPivots$Reader" "RowPivots$Reader" "number" "I" ∈ lw_tbl := tin_2 (List.mem_of_getElem? (i := 98) rfl)
set_option maxRecDepth 20000 in
theorem tw_1287 : Cond.lays "RowPivots$Scanner" "RowPivots$Scanner" "type" "I" ∈ lw_tbl := tin_2 (List.mem_of_getElem? (i := 54) rfl)
set_option maxRecDepth 20000 in
theorem tw_1288 : Cond.lays "RowPivots$Scanner" "RowPivots$Scanner" "place" "I" ∈ lw_tbl := tin_2 (List.mem_of_getElem? (i := 56) rfl)
set_option maxRecDepth 20000 in
theorem tw_1289 : Cond.lays "RowPivots$Scanner" "RowPivots$Scanner" "value" "I" ∈ lw_tbl := tin_2 (List.mem_of_getElem? (i := 58) rfl)
set_option maxRecDepth 20000 in
theorem tw_1290 : Cond.laysFinal "RowPivots$Scanner" "RowPivots$Scanner" "tape" "LRowPivots$Tape;" ∈ lw_tbl := tin_2 (List.mem_of_getElem? (i := 60) rfl)
set_option maxRecDepth 20000 in
theorem tw_1291 : Cond.lays "RowPivots$Scanner" "RowPivots$Scanner" "next" "I" ∈ lw_tbl := tin_2 (List.mem_of_getElem? (i := 62) rfl)
set_option maxRecDepth 20000 in
theorem tw_1292 : Cond.laysFinal "RowPivots$State" "RowPivots$State" "matrix" "LRowPivots$Grid;" ∈ lw_tbl := tin_1 (List.mem_of_getElem? (i := 126) rfl)
set_option maxRecDepth 20000 in
theorem tw_1293 : Cond.laysFinal "RowPivots$State" "RowPivots$State" "tape" "LRowPivots$Tape;" ∈ lw_tbl := tin_1 (List.mem_of_getElem? (i := 128) rfl)
set_option maxRecDepth 20000 in
theorem tw_1294 : Cond.lays "RowPivots$State" "RowPivots$State" "fault" "I" ∈ lw_tbl := tin_1 (List.mem_of_getElem? (i := 130) rfl)
set_option maxRecDepth 20000 in
theorem tw_1295 : Cond.lays "RowPivots$State" "RowPivots$State" "faultPlace" "I" ∈ lw_tbl := tin_1 (List.mem_of_getElem? (i := 132) rfl)
set_option maxRecDepth 20000 in
theorem tw_1296 : Cond.lays "RowPivots$State" "RowPivots$State" "refusal" "I" ∈ lw_tbl := tin_1 (List.mem_of_getElem? (i := 134) rfl)
set_option maxRecDepth 20000 in
theorem tw_1297 : Cond.lays "RowPivots$State" "RowPivots$State" "longRow" "I" ∈ lw_tbl := tin_1 (List.mem_of_getElem? (i := 136) rfl)
set_option maxRecDepth 20000 in
theorem tw_1298 : Cond.lays "RowPivots$State" "RowPivots$State" "longColumn" "I" ∈ lw_tbl := tin_1 (List.mem_of_getElem? (i := 138) rfl)
set_option maxRecDepth 20000 in
theorem tw_1299 : Cond.laysFinal "RowPivots$Sweep" "RowPivots$Sweep" "grid" "LRowPivots$Grid;" ∈ lw_tbl := tin_1 (List.mem_of_getElem? (i := 219) rfl)
set_option maxRecDepth 20000 in
theorem tw_1300 : Cond.lays "RowPivots$Sweep" "RowPivots$Sweep" "rank" "I" ∈ lw_tbl := tin_1 (List.mem_of_getElem? (i := 221) rfl)
set_option maxRecDepth 20000 in
theorem tw_1301 : Cond.lays "RowPivots$Sweep" "RowPivots$Sweep" "broken" "Z" ∈ lw_tbl := tin_1 (List.mem_of_getElem? (i := 223) rfl)
set_option maxRecDepth 20000 in
theorem tw_1302 : Cond.lays "RowPivots$Sweep" "RowPivots$Sweep" "brokenRow" "I" ∈ lw_tbl := tin_1 (List.mem_of_getElem? (i := 225) rfl)
set_option maxRecDepth 20000 in
theorem tw_1303 : Cond.lays "RowPivots$Sweep" "RowPivots$Sweep" "brokenColumn" "I" ∈ lw_tbl := tin_1 (List.mem_of_getElem? (i := 227) rfl)
set_option maxRecDepth 20000 in
theorem tw_1304 : Cond.laysFinal "RowPivots$Sweep" "RowPivots$Sweep" "pivotRows" "[I" ∈ lw_tbl := tin_1 (List.mem_of_getElem? (i := 229) rfl)
set_option maxRecDepth 20000 in
theorem tw_1305 : Cond.laysFinal "RowPivots$Sweep" "RowPivots$Sweep" "pivotColumns" "[I" ∈ lw_tbl := tin_1 (List.mem_of_getElem? (i := 231) rfl)
set_option maxRecDepth 20000 in
theorem tw_1306 : Cond.laysFinal "RowPivots$Sweep" "RowPivots$Sweep" "fills" "[I" ∈ lw_tbl := tin_1 (List.mem_of_getElem? (i := 233) rfl)
set_option maxRecDepth 20000 in
theorem tw_1307 : Cond.laysFinal "RowPivots$Sweep" "RowPivots$Sweep" "weights" "[I" ∈ lw_tbl := tin_1 (List.mem_of_getElem? (i := 235) rfl)
set_option maxRecDepth 20000 in
theorem tw_1308 : Cond.laysFinal "RowPivots$Sweep" "RowPivots$Sweep" "factor" "LRowPivots$Ratio;" ∈ lw_tbl := tin_1 (List.mem_of_getElem? (i := 237) rfl)
set_option maxRecDepth 20000 in
theorem tw_1309 : Cond.lays "RowPivots$Sweep" "RowPivots$Sweep" "liveRows" "I" ∈ lw_tbl := tin_1 (List.mem_of_getElem? (i := 239) rfl)
set_option maxRecDepth 20000 in
theorem tw_1310 : Cond.lays "RowPivots$Sweep" "RowPivots$Sweep" "liveColumns" "I" ∈ lw_tbl := tin_2 (List.mem_of_getElem? (i := 1) rfl)
set_option maxRecDepth 20000 in
theorem tw_1311 : Cond.lays "RowPivots$Sweep" "RowPivots$Sweep" "bestRow" "I" ∈ lw_tbl := tin_2 (List.mem_of_getElem? (i := 3) rfl)
set_option maxRecDepth 20000 in
theorem tw_1312 : Cond.lays "RowPivots$Sweep" "RowPivots$Sweep" "bestColumn" "I" ∈ lw_tbl := tin_2 (List.mem_of_getElem? (i := 5) rfl)
set_option maxRecDepth 20000 in
theorem tw_1313 : Cond.lays "RowPivots$Tape" "RowPivots$Tape" "length" "I" ∈ lw_tbl := tin_1 (List.mem_of_getElem? (i := 106) rfl)
set_option maxRecDepth 20000 in
theorem tw_1314 : Cond.laysFinal "RowPivots$Tape" "RowPivots$Tape" "bytes" "[B" ∈ lw_tbl := tin_1 (List.mem_of_getElem? (i := 108) rfl)
set_option maxRecDepth 20000 in
theorem tw_1315 : Cond.laysFinal "RowPivots$Values" "RowPivots$Values" "upper" "[I" ∈ lw_tbl := tin_2 (List.mem_of_getElem? (i := 21) rfl)
set_option maxRecDepth 20000 in
theorem tw_1316 : Cond.laysFinal "RowPivots$Values" "RowPivots$Values" "lower" "[I" ∈ lw_tbl := tin_2 (List.mem_of_getElem? (i := 23) rfl)
set_option maxRecDepth 20000 in
theorem tw_1317 : Cond.lays "RowPivots$Values" "RowPivots$Values" "known" "I" ∈ lw_tbl := tin_2 (List.mem_of_getElem? (i := 25) rfl)
set_option maxRecDepth 20000 in
theorem tw_1318 : Cond.laysFinal "RowPivots$Values" "RowPivots$Values" "rest" "LRowPivots$Ratio;" ∈ lw_tbl := tin_2 (List.mem_of_getElem? (i := 27) rfl)
set_option maxRecDepth 20000 in
theorem tw_1319 : Cond.laysFinal "RowPivots$Values" "RowPivots$Values" "part" "LRowPivots$Ratio;" ∈ lw_tbl := tin_2 (List.mem_of_getElem? (i := 29) rfl)
set_option maxRecDepth 20000 in
theorem tc_X0 : ∀ w ∈ wsX00, w ∈ lw_tbl := by
  show ∀ w ∈ (List.range 4).map (u_lay RX0 TX0), w ∈ lw_tbl
  exact (List.forall_mem_cons.mpr ⟨tw_1216, (List.forall_mem_cons.mpr ⟨tw_1217, (List.forall_mem_cons.mpr ⟨tw_1218, (List.forall_mem_cons.mpr ⟨tw_1219, (fun _ h => absurd h List.not_mem_nil)⟩)⟩)⟩)⟩)
set_option maxRecDepth 20000 in
theorem tc_X1 : ∀ w ∈ wsX10, w ∈ lw_tbl := by
  show ∀ w ∈ (List.range 5).map (u_lay RX1 TX1), w ∈ lw_tbl
  exact (List.forall_mem_cons.mpr ⟨tw_1220, (List.forall_mem_cons.mpr ⟨tw_1221, (List.forall_mem_cons.mpr ⟨tw_1222, (List.forall_mem_cons.mpr ⟨tw_1223, (List.forall_mem_cons.mpr ⟨tw_1224, (fun _ h => absurd h List.not_mem_nil)⟩)⟩)⟩)⟩)⟩)
set_option maxRecDepth 20000 in
theorem tc_X10 : ∀ w ∈ wsX100, w ∈ lw_tbl := by
  show ∀ w ∈ (List.range 10).map (u_lay RX10 TX10), w ∈ lw_tbl
  exact (List.forall_mem_cons.mpr ⟨tw_1225, (List.forall_mem_cons.mpr ⟨tw_1226, (List.forall_mem_cons.mpr ⟨tw_1227, (List.forall_mem_cons.mpr ⟨tw_1228, (List.forall_mem_cons.mpr ⟨tw_1229, (List.forall_mem_cons.mpr ⟨tw_1230, (List.forall_mem_cons.mpr ⟨tw_1231, (List.forall_mem_cons.mpr ⟨tw_1232, (List.forall_mem_cons.mpr ⟨tw_1233, (List.forall_mem_cons.mpr ⟨tw_1234, (fun _ h => absurd h List.not_mem_nil)⟩)⟩)⟩)⟩)⟩)⟩)⟩)⟩)⟩)⟩)
set_option maxRecDepth 20000 in
theorem tc_X11 : ∀ w ∈ wsX110, w ∈ lw_tbl := by
  show ∀ w ∈ (List.range 36).map (u_lay RX11 TX11), w ∈ lw_tbl
  exact (List.forall_mem_cons.mpr ⟨tw_1235, (List.forall_mem_cons.mpr ⟨tw_1236, (List.forall_mem_cons.mpr ⟨tw_1237, (List.forall_mem_cons.mpr ⟨tw_1238, (List.forall_mem_cons.mpr ⟨tw_1239, (List.forall_mem_cons.mpr ⟨tw_1240, (List.forall_mem_cons.mpr ⟨tw_1241, (List.forall_mem_cons.mpr ⟨tw_1242, (List.forall_mem_cons.mpr ⟨tw_1243, (List.forall_mem_cons.mpr ⟨tw_1244, (List.forall_mem_cons.mpr ⟨tw_1245, (List.forall_mem_cons.mpr ⟨tw_1246, (List.forall_mem_cons.mpr ⟨tw_1247, (List.forall_mem_cons.mpr ⟨tw_1248, (List.forall_mem_cons.mpr ⟨tw_1249, (List.forall_mem_cons.mpr ⟨tw_1250, (List.forall_mem_cons.mpr ⟨tw_1251, (List.forall_mem_cons.mpr ⟨tw_1252, (List.forall_mem_cons.mpr ⟨tw_1253, (List.forall_mem_cons.mpr ⟨tw_1254, (List.forall_mem_cons.mpr ⟨tw_1255, (List.forall_mem_cons.mpr ⟨tw_1256, (List.forall_mem_cons.mpr ⟨tw_1257, (List.forall_mem_cons.mpr ⟨tw_1258, (List.forall_mem_cons.mpr ⟨tw_1259, (List.forall_mem_cons.mpr ⟨tw_1260, (List.forall_mem_cons.mpr ⟨tw_1261, (List.forall_mem_cons.mpr ⟨tw_1262, (List.forall_mem_cons.mpr ⟨tw_1263, (List.forall_mem_cons.mpr ⟨tw_1264, (List.forall_mem_cons.mpr ⟨tw_1265, (List.forall_mem_cons.mpr ⟨tw_1266, (List.forall_mem_cons.mpr ⟨tw_1267, (List.forall_mem_cons.mpr ⟨tw_1268, (List.forall_mem_cons.mpr ⟨tw_1269, (List.forall_mem_cons.mpr ⟨tw_1270, (fun _ h => absurd h List.not_mem_nil)⟩)⟩)⟩)⟩)⟩)⟩)⟩)⟩)⟩)⟩)⟩)⟩)⟩)⟩)⟩)⟩)⟩)⟩)⟩)⟩)⟩)⟩)⟩)⟩)⟩)⟩)⟩)⟩)⟩)⟩)⟩)⟩)⟩)⟩)⟩)⟩)
set_option maxRecDepth 20000 in
theorem tc_X2 : ∀ w ∈ wsX20, w ∈ lw_tbl := by
  show ∀ w ∈ (List.range 3).map (u_lay RX2 TX2), w ∈ lw_tbl
  exact (List.forall_mem_cons.mpr ⟨tw_1271, (List.forall_mem_cons.mpr ⟨tw_1272, (List.forall_mem_cons.mpr ⟨tw_1273, (fun _ h => absurd h List.not_mem_nil)⟩)⟩)⟩)
set_option maxRecDepth 20000 in
theorem tc_X3 : ∀ w ∈ wsX30, w ∈ lw_tbl := by
  show ∀ w ∈ (List.range 3).map (u_lay RX3 TX3), w ∈ lw_tbl
  exact (List.forall_mem_cons.mpr ⟨tw_1274, (List.forall_mem_cons.mpr ⟨tw_1275, (List.forall_mem_cons.mpr ⟨tw_1276, (fun _ h => absurd h List.not_mem_nil)⟩)⟩)⟩)
set_option maxRecDepth 20000 in
theorem tc_X4 : ∀ w ∈ wsX40, w ∈ lw_tbl := by
  show ∀ w ∈ (List.range 10).map (u_lay RX4 TX4), w ∈ lw_tbl
  exact (List.forall_mem_cons.mpr ⟨tw_1277, (List.forall_mem_cons.mpr ⟨tw_1278, (List.forall_mem_cons.mpr ⟨tw_1279, (List.forall_mem_cons.mpr ⟨tw_1280, (List.forall_mem_cons.mpr ⟨tw_1281, (List.forall_mem_cons.mpr ⟨tw_1282, (List.forall_mem_cons.mpr ⟨tw_1283, (List.forall_mem_cons.mpr ⟨tw_1284, (List.forall_mem_cons.mpr ⟨tw_1285, (List.forall_mem_cons.mpr ⟨tw_1286, (fun _ h => absurd h List.not_mem_nil)⟩)⟩)⟩)⟩)⟩)⟩)⟩)⟩)⟩)⟩)
set_option maxRecDepth 20000 in
theorem tc_X5 : ∀ w ∈ wsX50, w ∈ lw_tbl := by
  show ∀ w ∈ (List.range 5).map (u_lay RX5 TX5), w ∈ lw_tbl
  exact (List.forall_mem_cons.mpr ⟨tw_1287, (List.forall_mem_cons.mpr ⟨tw_1288, (List.forall_mem_cons.mpr ⟨tw_1289, (List.forall_mem_cons.mpr ⟨tw_1290, (List.forall_mem_cons.mpr ⟨tw_1291, (fun _ h => absurd h List.not_mem_nil)⟩)⟩)⟩)⟩)⟩)
set_option maxRecDepth 20000 in
theorem tc_X6 : ∀ w ∈ wsX60, w ∈ lw_tbl := by
  show ∀ w ∈ (List.range 7).map (u_lay RX6 TX6), w ∈ lw_tbl
  exact (List.forall_mem_cons.mpr ⟨tw_1292, (List.forall_mem_cons.mpr ⟨tw_1293, (List.forall_mem_cons.mpr ⟨tw_1294, (List.forall_mem_cons.mpr ⟨tw_1295, (List.forall_mem_cons.mpr ⟨tw_1296, (List.forall_mem_cons.mpr ⟨tw_1297, (List.forall_mem_cons.mpr ⟨tw_1298, (fun _ h => absurd h List.not_mem_nil)⟩)⟩)⟩)⟩)⟩)⟩)⟩)
set_option maxRecDepth 20000 in
theorem tc_X7 : ∀ w ∈ wsX70, w ∈ lw_tbl := by
  show ∀ w ∈ (List.range 14).map (u_lay RX7 TX7), w ∈ lw_tbl
  exact (List.forall_mem_cons.mpr ⟨tw_1299, (List.forall_mem_cons.mpr ⟨tw_1300, (List.forall_mem_cons.mpr ⟨tw_1301, (List.forall_mem_cons.mpr ⟨tw_1302, (List.forall_mem_cons.mpr ⟨tw_1303, (List.forall_mem_cons.mpr ⟨tw_1304, (List.forall_mem_cons.mpr ⟨tw_1305, (List.forall_mem_cons.mpr ⟨tw_1306, (List.forall_mem_cons.mpr ⟨tw_1307, (List.forall_mem_cons.mpr ⟨tw_1308, (List.forall_mem_cons.mpr ⟨tw_1309, (List.forall_mem_cons.mpr ⟨tw_1310, (List.forall_mem_cons.mpr ⟨tw_1311, (List.forall_mem_cons.mpr ⟨tw_1312, (fun _ h => absurd h List.not_mem_nil)⟩)⟩)⟩)⟩)⟩)⟩)⟩)⟩)⟩)⟩)⟩)⟩)⟩)⟩)
set_option maxRecDepth 20000 in
theorem tc_X8 : ∀ w ∈ wsX80, w ∈ lw_tbl := by
  show ∀ w ∈ (List.range 2).map (u_lay RX8 TX8), w ∈ lw_tbl
  exact (List.forall_mem_cons.mpr ⟨tw_1313, (List.forall_mem_cons.mpr ⟨tw_1314, (fun _ h => absurd h List.not_mem_nil)⟩)⟩)
set_option maxRecDepth 20000 in
theorem tc_X9 : ∀ w ∈ wsX90, w ∈ lw_tbl := by
  show ∀ w ∈ (List.range 5).map (u_lay RX9 TX9), w ∈ lw_tbl
  exact (List.forall_mem_cons.mpr ⟨tw_1315, (List.forall_mem_cons.mpr ⟨tw_1316, (List.forall_mem_cons.mpr ⟨tw_1317, (List.forall_mem_cons.mpr ⟨tw_1318, (List.forall_mem_cons.mpr ⟨tw_1319, (fun _ h => absurd h List.not_mem_nil)⟩)⟩)⟩)⟩)⟩)
set_option maxRecDepth 20000 in
theorem tl_X10_init_r1 : ∀ w ∈ wsX10_init_r1, w ∈ lw_tbl := (List.forall_mem_cons.mpr ⟨tw_1, (List.forall_mem_cons.mpr ⟨tw_2, (List.forall_mem_cons.mpr ⟨tw_3, (List.forall_mem_cons.mpr ⟨tw_4, (List.forall_mem_cons.mpr ⟨tw_5, (List.forall_mem_cons.mpr ⟨tw_6, (List.forall_mem_cons.mpr ⟨tw_7, (List.forall_mem_cons.mpr ⟨tw_8, (List.forall_mem_cons.mpr ⟨tw_9, (List.forall_mem_cons.mpr ⟨tw_10, (List.forall_mem_cons.mpr ⟨tw_11, (List.forall_mem_cons.mpr ⟨tw_12, (List.forall_mem_cons.mpr ⟨tw_13, (List.forall_mem_cons.mpr ⟨tw_14, (List.forall_mem_cons.mpr ⟨tw_15, (List.forall_mem_cons.mpr ⟨tw_16, (List.forall_mem_cons.mpr ⟨tw_17, (List.forall_mem_cons.mpr ⟨tw_18, (List.forall_mem_cons.mpr ⟨tw_19, (List.forall_mem_cons.mpr ⟨tw_20, (List.forall_mem_cons.mpr ⟨tw_21, (List.forall_mem_cons.mpr ⟨tw_22, (List.forall_mem_cons.mpr ⟨tw_23, (List.forall_mem_cons.mpr ⟨tw_24, (fun _ h => absurd h List.not_mem_nil)⟩)⟩)⟩)⟩)⟩)⟩)⟩)⟩)⟩)⟩)⟩)⟩)⟩)⟩)⟩)⟩)⟩)⟩)⟩)⟩)⟩)⟩)⟩)⟩)
set_option maxRecDepth 20000 in
theorem tl_X10_init_r2 : ∀ w ∈ wsX10_init_r2, w ∈ lw_tbl := (List.forall_mem_cons.mpr ⟨tw_25, (List.forall_mem_cons.mpr ⟨tw_26, (List.forall_mem_cons.mpr ⟨tw_27, (List.forall_mem_cons.mpr ⟨tw_28, (List.forall_mem_cons.mpr ⟨tw_29, (List.forall_mem_cons.mpr ⟨tw_30, (List.forall_mem_cons.mpr ⟨tw_31, (List.forall_mem_cons.mpr ⟨tw_32, (List.forall_mem_cons.mpr ⟨tw_33, (List.forall_mem_cons.mpr ⟨tw_34, (List.forall_mem_cons.mpr ⟨tw_35, (List.forall_mem_cons.mpr ⟨tw_36, (List.forall_mem_cons.mpr ⟨tw_37, (List.forall_mem_cons.mpr ⟨tw_38, (List.forall_mem_cons.mpr ⟨tw_39, (List.forall_mem_cons.mpr ⟨tw_40, (List.forall_mem_cons.mpr ⟨tw_41, (List.forall_mem_cons.mpr ⟨tw_42, (List.forall_mem_cons.mpr ⟨tw_43, (List.forall_mem_cons.mpr ⟨tw_44, (List.forall_mem_cons.mpr ⟨tw_45, (List.forall_mem_cons.mpr ⟨tw_46, (List.forall_mem_cons.mpr ⟨tw_47, (List.forall_mem_cons.mpr ⟨tw_48, (fun _ h => absurd h List.not_mem_nil)⟩)⟩)⟩)⟩)⟩)⟩)⟩)⟩)⟩)⟩)⟩)⟩)⟩)⟩)⟩)⟩)⟩)⟩)⟩)⟩)⟩)⟩)⟩)⟩)
set_option maxRecDepth 20000 in
theorem tl_X10_init_r3 : ∀ w ∈ wsX10_init_r3, w ∈ lw_tbl := (List.forall_mem_cons.mpr ⟨tw_49, (List.forall_mem_cons.mpr ⟨tw_50, (List.forall_mem_cons.mpr ⟨tw_51, (List.forall_mem_cons.mpr ⟨tw_52, (List.forall_mem_cons.mpr ⟨tw_53, (List.forall_mem_cons.mpr ⟨tw_54, (List.forall_mem_cons.mpr ⟨tw_55, (List.forall_mem_cons.mpr ⟨tw_56, (List.forall_mem_cons.mpr ⟨tw_57, (List.forall_mem_cons.mpr ⟨tw_58, (List.forall_mem_cons.mpr ⟨tw_59, (List.forall_mem_cons.mpr ⟨tw_60, (List.forall_mem_cons.mpr ⟨tw_61, (List.forall_mem_cons.mpr ⟨tw_62, (List.forall_mem_cons.mpr ⟨tw_63, (List.forall_mem_cons.mpr ⟨tw_64, (List.forall_mem_cons.mpr ⟨tw_65, (List.forall_mem_cons.mpr ⟨tw_66, (List.forall_mem_cons.mpr ⟨tw_67, (List.forall_mem_cons.mpr ⟨tw_68, (List.forall_mem_cons.mpr ⟨tw_69, (List.forall_mem_cons.mpr ⟨tw_70, (List.forall_mem_cons.mpr ⟨tw_71, (List.forall_mem_cons.mpr ⟨tw_72, (fun _ h => absurd h List.not_mem_nil)⟩)⟩)⟩)⟩)⟩)⟩)⟩)⟩)⟩)⟩)⟩)⟩)⟩)⟩)⟩)⟩)⟩)⟩)⟩)⟩)⟩)⟩)⟩)⟩)
set_option maxRecDepth 20000 in
theorem tl_X10_init_r4 : ∀ w ∈ wsX10_init_r4, w ∈ lw_tbl := (List.forall_mem_cons.mpr ⟨tw_73, (List.forall_mem_cons.mpr ⟨tw_74, (List.forall_mem_cons.mpr ⟨tw_75, (List.forall_mem_cons.mpr ⟨tw_76, (List.forall_mem_cons.mpr ⟨tw_77, (List.forall_mem_cons.mpr ⟨tw_78, (List.forall_mem_cons.mpr ⟨tw_79, (List.forall_mem_cons.mpr ⟨tw_80, (List.forall_mem_cons.mpr ⟨tw_81, (List.forall_mem_cons.mpr ⟨tw_82, (List.forall_mem_cons.mpr ⟨tw_83, (List.forall_mem_cons.mpr ⟨tw_84, (List.forall_mem_cons.mpr ⟨tw_85, (List.forall_mem_cons.mpr ⟨tw_86, (List.forall_mem_cons.mpr ⟨tw_87, (List.forall_mem_cons.mpr ⟨tw_88, (List.forall_mem_cons.mpr ⟨tw_89, (List.forall_mem_cons.mpr ⟨tw_90, (List.forall_mem_cons.mpr ⟨tw_91, (List.forall_mem_cons.mpr ⟨tw_92, (List.forall_mem_cons.mpr ⟨tw_93, (List.forall_mem_cons.mpr ⟨tw_94, (List.forall_mem_cons.mpr ⟨tw_95, (List.forall_mem_cons.mpr ⟨tw_96, (fun _ h => absurd h List.not_mem_nil)⟩)⟩)⟩)⟩)⟩)⟩)⟩)⟩)⟩)⟩)⟩)⟩)⟩)⟩)⟩)⟩)⟩)⟩)⟩)⟩)⟩)⟩)⟩)⟩)
set_option maxRecDepth 20000 in
theorem tl_X10_init_r5 : ∀ w ∈ wsX10_init_r5, w ∈ lw_tbl := (List.forall_mem_cons.mpr ⟨tw_97, (List.forall_mem_cons.mpr ⟨tw_98, (List.forall_mem_cons.mpr ⟨tw_99, (List.forall_mem_cons.mpr ⟨tw_100, (List.forall_mem_cons.mpr ⟨tw_101, (List.forall_mem_cons.mpr ⟨tw_102, (List.forall_mem_cons.mpr ⟨tw_103, (List.forall_mem_cons.mpr ⟨tw_104, (List.forall_mem_cons.mpr ⟨tw_105, (List.forall_mem_cons.mpr ⟨tw_106, (List.forall_mem_cons.mpr ⟨tw_107, (List.forall_mem_cons.mpr ⟨tw_108, (List.forall_mem_cons.mpr ⟨tw_109, (List.forall_mem_cons.mpr ⟨tw_110, (List.forall_mem_cons.mpr ⟨tw_111, (List.forall_mem_cons.mpr ⟨tw_112, (List.forall_mem_cons.mpr ⟨tw_113, (List.forall_mem_cons.mpr ⟨tw_114, (List.forall_mem_cons.mpr ⟨tw_115, (List.forall_mem_cons.mpr ⟨tw_116, (List.forall_mem_cons.mpr ⟨tw_117, (List.forall_mem_cons.mpr ⟨tw_118, (List.forall_mem_cons.mpr ⟨tw_119, (List.forall_mem_cons.mpr ⟨tw_120, (fun _ h => absurd h List.not_mem_nil)⟩)⟩)⟩)⟩)⟩)⟩)⟩)⟩)⟩)⟩)⟩)⟩)⟩)⟩)⟩)⟩)⟩)⟩)⟩)⟩)⟩)⟩)⟩)⟩)
set_option maxRecDepth 20000 in
theorem tl_X10_init_r6 : ∀ w ∈ wsX10_init_r6, w ∈ lw_tbl := (List.forall_mem_cons.mpr ⟨tw_121, (fun _ h => absurd h List.not_mem_nil)⟩)
set_option maxRecDepth 20000 in
theorem tl_X11_init_r1 : ∀ w ∈ wsX11_init_r1, w ∈ lw_tbl := (List.forall_mem_cons.mpr ⟨tw_123, (List.forall_mem_cons.mpr ⟨tw_2, (List.forall_mem_cons.mpr ⟨tw_3, (List.forall_mem_cons.mpr ⟨tw_56, (List.forall_mem_cons.mpr ⟨tw_124, (List.forall_mem_cons.mpr ⟨tw_125, (List.forall_mem_cons.mpr ⟨tw_126, (List.forall_mem_cons.mpr ⟨tw_127, (List.forall_mem_cons.mpr ⟨tw_128, (List.forall_mem_cons.mpr ⟨tw_129, (List.forall_mem_cons.mpr ⟨tw_130, (List.forall_mem_cons.mpr ⟨tw_131, (List.forall_mem_cons.mpr ⟨tw_132, (List.forall_mem_cons.mpr ⟨tw_133, (List.forall_mem_cons.mpr ⟨tw_134, (List.forall_mem_cons.mpr ⟨tw_135, (List.forall_mem_cons.mpr ⟨tw_136, (List.forall_mem_cons.mpr ⟨tw_137, (List.forall_mem_cons.mpr ⟨tw_138, (List.forall_mem_cons.mpr ⟨tw_139, (List.forall_mem_cons.mpr ⟨tw_140, (List.forall_mem_cons.mpr ⟨tw_141, (List.forall_mem_cons.mpr ⟨tw_142, (List.forall_mem_cons.mpr ⟨tw_143, (fun _ h => absurd h List.not_mem_nil)⟩)⟩)⟩)⟩)⟩)⟩)⟩)⟩)⟩)⟩)⟩)⟩)⟩)⟩)⟩)⟩)⟩)⟩)⟩)⟩)⟩)⟩)⟩)⟩)
set_option maxRecDepth 20000 in
theorem tl_X11_init_r2 : ∀ w ∈ wsX11_init_r2, w ∈ lw_tbl := (List.forall_mem_cons.mpr ⟨tw_144, (List.forall_mem_cons.mpr ⟨tw_145, (fun _ h => absurd h List.not_mem_nil)⟩)⟩)
set_option maxRecDepth 20000 in
theorem tl_X10_text_r1 : ∀ w ∈ wsX10_text_r1, w ∈ lw_tbl := (List.forall_mem_cons.mpr ⟨tw_28, (List.forall_mem_cons.mpr ⟨tw_7, (List.forall_mem_cons.mpr ⟨tw_147, (List.forall_mem_cons.mpr ⟨tw_32, (List.forall_mem_cons.mpr ⟨tw_175, (List.forall_mem_cons.mpr ⟨tw_176, (List.forall_mem_cons.mpr ⟨tw_177, (List.forall_mem_cons.mpr ⟨tw_178, (List.forall_mem_cons.mpr ⟨tw_148, (List.forall_mem_cons.mpr ⟨tw_179, (List.forall_mem_cons.mpr ⟨tw_180, (List.forall_mem_cons.mpr ⟨tw_181, (List.forall_mem_cons.mpr ⟨tw_182, (List.forall_mem_cons.mpr ⟨tw_183, (List.forall_mem_cons.mpr ⟨tw_12, (List.forall_mem_cons.mpr ⟨tw_184, (List.forall_mem_cons.mpr ⟨tw_185, (List.forall_mem_cons.mpr ⟨tw_186, (List.forall_mem_cons.mpr ⟨tw_27, (List.forall_mem_cons.mpr ⟨tw_187, (List.forall_mem_cons.mpr ⟨tw_188, (List.forall_mem_cons.mpr ⟨tw_189, (List.forall_mem_cons.mpr ⟨tw_113, (List.forall_mem_cons.mpr ⟨tw_190, (fun _ h => absurd h List.not_mem_nil)⟩)⟩)⟩)⟩)⟩)⟩)⟩)⟩)⟩)⟩)⟩)⟩)⟩)⟩)⟩)⟩)⟩)⟩)⟩)⟩)⟩)⟩)⟩)⟩)
set_option maxRecDepth 20000 in
theorem tl_X10_text_r2 : ∀ w ∈ wsX10_text_r2, w ∈ lw_tbl := (List.forall_mem_cons.mpr ⟨tw_191, (List.forall_mem_cons.mpr ⟨tw_192, (List.forall_mem_cons.mpr ⟨tw_112, (List.forall_mem_cons.mpr ⟨tw_193, (List.forall_mem_cons.mpr ⟨tw_120, (List.forall_mem_cons.mpr ⟨tw_194, (List.forall_mem_cons.mpr ⟨tw_195, (List.forall_mem_cons.mpr ⟨tw_196, (List.forall_mem_cons.mpr ⟨tw_197, (List.forall_mem_cons.mpr ⟨tw_45, (List.forall_mem_cons.mpr ⟨tw_198, (List.forall_mem_cons.mpr ⟨tw_153, (List.forall_mem_cons.mpr ⟨tw_73, (List.forall_mem_cons.mpr ⟨tw_199, (List.forall_mem_cons.mpr ⟨tw_200, (List.forall_mem_cons.mpr ⟨tw_201, (List.forall_mem_cons.mpr ⟨tw_202, (List.forall_mem_cons.mpr ⟨tw_203, (List.forall_mem_cons.mpr ⟨tw_204, (List.forall_mem_cons.mpr ⟨tw_205, (List.forall_mem_cons.mpr ⟨tw_206, (List.forall_mem_cons.mpr ⟨tw_207, (List.forall_mem_cons.mpr ⟨tw_208, (List.forall_mem_cons.mpr ⟨tw_209, (fun _ h => absurd h List.not_mem_nil)⟩)⟩)⟩)⟩)⟩)⟩)⟩)⟩)⟩)⟩)⟩)⟩)⟩)⟩)⟩)⟩)⟩)⟩)⟩)⟩)⟩)⟩)⟩)⟩)
set_option maxRecDepth 20000 in
theorem tl_X10_text_r3 : ∀ w ∈ wsX10_text_r3, w ∈ lw_tbl := (List.forall_mem_cons.mpr ⟨tw_210, (List.forall_mem_cons.mpr ⟨tw_211, (List.forall_mem_cons.mpr ⟨tw_212, (List.forall_mem_cons.mpr ⟨tw_213, (List.forall_mem_cons.mpr ⟨tw_214, (List.forall_mem_cons.mpr ⟨tw_215, (List.forall_mem_cons.mpr ⟨tw_216, (List.forall_mem_cons.mpr ⟨tw_217, (List.forall_mem_cons.mpr ⟨tw_218, (List.forall_mem_cons.mpr ⟨tw_219, (List.forall_mem_cons.mpr ⟨tw_220, (List.forall_mem_cons.mpr ⟨tw_221, (List.forall_mem_cons.mpr ⟨tw_222, (List.forall_mem_cons.mpr ⟨tw_223, (List.forall_mem_cons.mpr ⟨tw_224, (List.forall_mem_cons.mpr ⟨tw_225, (List.forall_mem_cons.mpr ⟨tw_226, (List.forall_mem_cons.mpr ⟨tw_227, (List.forall_mem_cons.mpr ⟨tw_228, (List.forall_mem_cons.mpr ⟨tw_229, (List.forall_mem_cons.mpr ⟨tw_230, (List.forall_mem_cons.mpr ⟨tw_231, (List.forall_mem_cons.mpr ⟨tw_232, (List.forall_mem_cons.mpr ⟨tw_233, (fun _ h => absurd h List.not_mem_nil)⟩)⟩)⟩)⟩)⟩)⟩)⟩)⟩)⟩)⟩)⟩)⟩)⟩)⟩)⟩)⟩)⟩)⟩)⟩)⟩)⟩)⟩)⟩)⟩)
set_option maxRecDepth 20000 in
theorem tl_X10_text_r4 : ∀ w ∈ wsX10_text_r4, w ∈ lw_tbl := (List.forall_mem_cons.mpr ⟨tw_234, (List.forall_mem_cons.mpr ⟨tw_235, (List.forall_mem_cons.mpr ⟨tw_236, (List.forall_mem_cons.mpr ⟨tw_237, (List.forall_mem_cons.mpr ⟨tw_238, (List.forall_mem_cons.mpr ⟨tw_239, (List.forall_mem_cons.mpr ⟨tw_240, (List.forall_mem_cons.mpr ⟨tw_241, (List.forall_mem_cons.mpr ⟨tw_242, (List.forall_mem_cons.mpr ⟨tw_243, (List.forall_mem_cons.mpr ⟨tw_244, (List.forall_mem_cons.mpr ⟨tw_245, (List.forall_mem_cons.mpr ⟨tw_246, (List.forall_mem_cons.mpr ⟨tw_247, (List.forall_mem_cons.mpr ⟨tw_248, (List.forall_mem_cons.mpr ⟨tw_249, (List.forall_mem_cons.mpr ⟨tw_250, (List.forall_mem_cons.mpr ⟨tw_251, (List.forall_mem_cons.mpr ⟨tw_252, (List.forall_mem_cons.mpr ⟨tw_253, (List.forall_mem_cons.mpr ⟨tw_254, (List.forall_mem_cons.mpr ⟨tw_255, (List.forall_mem_cons.mpr ⟨tw_256, (List.forall_mem_cons.mpr ⟨tw_257, (fun _ h => absurd h List.not_mem_nil)⟩)⟩)⟩)⟩)⟩)⟩)⟩)⟩)⟩)⟩)⟩)⟩)⟩)⟩)⟩)⟩)⟩)⟩)⟩)⟩)⟩)⟩)⟩)⟩)
set_option maxRecDepth 20000 in
theorem tl_X10_text_r5 : ∀ w ∈ wsX10_text_r5, w ∈ lw_tbl := (List.forall_mem_cons.mpr ⟨tw_258, (List.forall_mem_cons.mpr ⟨tw_259, (List.forall_mem_cons.mpr ⟨tw_260, (List.forall_mem_cons.mpr ⟨tw_261, (List.forall_mem_cons.mpr ⟨tw_262, (List.forall_mem_cons.mpr ⟨tw_263, (List.forall_mem_cons.mpr ⟨tw_264, (List.forall_mem_cons.mpr ⟨tw_265, (List.forall_mem_cons.mpr ⟨tw_266, (List.forall_mem_cons.mpr ⟨tw_267, (List.forall_mem_cons.mpr ⟨tw_268, (List.forall_mem_cons.mpr ⟨tw_269, (List.forall_mem_cons.mpr ⟨tw_270, (List.forall_mem_cons.mpr ⟨tw_271, (List.forall_mem_cons.mpr ⟨tw_272, (List.forall_mem_cons.mpr ⟨tw_273, (List.forall_mem_cons.mpr ⟨tw_274, (List.forall_mem_cons.mpr ⟨tw_275, (List.forall_mem_cons.mpr ⟨tw_276, (List.forall_mem_cons.mpr ⟨tw_277, (List.forall_mem_cons.mpr ⟨tw_278, (List.forall_mem_cons.mpr ⟨tw_279, (List.forall_mem_cons.mpr ⟨tw_280, (List.forall_mem_cons.mpr ⟨tw_281, (fun _ h => absurd h List.not_mem_nil)⟩)⟩)⟩)⟩)⟩)⟩)⟩)⟩)⟩)⟩)⟩)⟩)⟩)⟩)⟩)⟩)⟩)⟩)⟩)⟩)⟩)⟩)⟩)⟩)
set_option maxRecDepth 20000 in
theorem tl_X10_text_r6 : ∀ w ∈ wsX10_text_r6, w ∈ lw_tbl := (List.forall_mem_cons.mpr ⟨tw_282, (List.forall_mem_cons.mpr ⟨tw_283, (List.forall_mem_cons.mpr ⟨tw_284, (List.forall_mem_cons.mpr ⟨tw_285, (List.forall_mem_cons.mpr ⟨tw_286, (List.forall_mem_cons.mpr ⟨tw_287, (List.forall_mem_cons.mpr ⟨tw_288, (List.forall_mem_cons.mpr ⟨tw_289, (List.forall_mem_cons.mpr ⟨tw_290, (List.forall_mem_cons.mpr ⟨tw_291, (List.forall_mem_cons.mpr ⟨tw_292, (List.forall_mem_cons.mpr ⟨tw_293, (List.forall_mem_cons.mpr ⟨tw_294, (List.forall_mem_cons.mpr ⟨tw_295, (List.forall_mem_cons.mpr ⟨tw_296, (List.forall_mem_cons.mpr ⟨tw_297, (List.forall_mem_cons.mpr ⟨tw_298, (List.forall_mem_cons.mpr ⟨tw_299, (List.forall_mem_cons.mpr ⟨tw_300, (List.forall_mem_cons.mpr ⟨tw_301, (List.forall_mem_cons.mpr ⟨tw_302, (List.forall_mem_cons.mpr ⟨tw_303, (List.forall_mem_cons.mpr ⟨tw_304, (List.forall_mem_cons.mpr ⟨tw_305, (fun _ h => absurd h List.not_mem_nil)⟩)⟩)⟩)⟩)⟩)⟩)⟩)⟩)⟩)⟩)⟩)⟩)⟩)⟩)⟩)⟩)⟩)⟩)⟩)⟩)⟩)⟩)⟩)⟩)
set_option maxRecDepth 20000 in
theorem tl_X10_text_r7 : ∀ w ∈ wsX10_text_r7, w ∈ lw_tbl := (List.forall_mem_cons.mpr ⟨tw_306, (List.forall_mem_cons.mpr ⟨tw_307, (List.forall_mem_cons.mpr ⟨tw_308, (List.forall_mem_cons.mpr ⟨tw_309, (List.forall_mem_cons.mpr ⟨tw_310, (List.forall_mem_cons.mpr ⟨tw_311, (List.forall_mem_cons.mpr ⟨tw_312, (List.forall_mem_cons.mpr ⟨tw_313, (List.forall_mem_cons.mpr ⟨tw_314, (List.forall_mem_cons.mpr ⟨tw_315, (List.forall_mem_cons.mpr ⟨tw_316, (List.forall_mem_cons.mpr ⟨tw_317, (List.forall_mem_cons.mpr ⟨tw_318, (List.forall_mem_cons.mpr ⟨tw_319, (List.forall_mem_cons.mpr ⟨tw_320, (List.forall_mem_cons.mpr ⟨tw_321, (List.forall_mem_cons.mpr ⟨tw_322, (List.forall_mem_cons.mpr ⟨tw_323, (List.forall_mem_cons.mpr ⟨tw_324, (List.forall_mem_cons.mpr ⟨tw_325, (List.forall_mem_cons.mpr ⟨tw_326, (List.forall_mem_cons.mpr ⟨tw_327, (List.forall_mem_cons.mpr ⟨tw_328, (List.forall_mem_cons.mpr ⟨tw_329, (fun _ h => absurd h List.not_mem_nil)⟩)⟩)⟩)⟩)⟩)⟩)⟩)⟩)⟩)⟩)⟩)⟩)⟩)⟩)⟩)⟩)⟩)⟩)⟩)⟩)⟩)⟩)⟩)⟩)
set_option maxRecDepth 20000 in
theorem tl_X10_text_r8 : ∀ w ∈ wsX10_text_r8, w ∈ lw_tbl := (List.forall_mem_cons.mpr ⟨tw_330, (List.forall_mem_cons.mpr ⟨tw_331, (List.forall_mem_cons.mpr ⟨tw_332, (List.forall_mem_cons.mpr ⟨tw_31, (List.forall_mem_cons.mpr ⟨tw_333, (List.forall_mem_cons.mpr ⟨tw_54, (List.forall_mem_cons.mpr ⟨tw_55, (List.forall_mem_cons.mpr ⟨tw_57, (List.forall_mem_cons.mpr ⟨tw_58, (List.forall_mem_cons.mpr ⟨tw_65, (List.forall_mem_cons.mpr ⟨tw_66, (List.forall_mem_cons.mpr ⟨tw_67, (List.forall_mem_cons.mpr ⟨tw_68, (List.forall_mem_cons.mpr ⟨tw_334, (List.forall_mem_cons.mpr ⟨tw_335, (List.forall_mem_cons.mpr ⟨tw_336, (List.forall_mem_cons.mpr ⟨tw_337, (List.forall_mem_cons.mpr ⟨tw_338, (List.forall_mem_cons.mpr ⟨tw_339, (List.forall_mem_cons.mpr ⟨tw_340, (List.forall_mem_cons.mpr ⟨tw_341, (List.forall_mem_cons.mpr ⟨tw_342, (List.forall_mem_cons.mpr ⟨tw_343, (List.forall_mem_cons.mpr ⟨tw_344, (fun _ h => absurd h List.not_mem_nil)⟩)⟩)⟩)⟩)⟩)⟩)⟩)⟩)⟩)⟩)⟩)⟩)⟩)⟩)⟩)⟩)⟩)⟩)⟩)⟩)⟩)⟩)⟩)⟩)
set_option maxRecDepth 20000 in
theorem tl_X10_text_r9 : ∀ w ∈ wsX10_text_r9, w ∈ lw_tbl := (List.forall_mem_cons.mpr ⟨tw_345, (List.forall_mem_cons.mpr ⟨tw_346, (List.forall_mem_cons.mpr ⟨tw_347, (List.forall_mem_cons.mpr ⟨tw_348, (List.forall_mem_cons.mpr ⟨tw_349, (List.forall_mem_cons.mpr ⟨tw_114, (List.forall_mem_cons.mpr ⟨tw_115, (List.forall_mem_cons.mpr ⟨tw_350, (List.forall_mem_cons.mpr ⟨tw_351, (List.forall_mem_cons.mpr ⟨tw_352, (List.forall_mem_cons.mpr ⟨tw_353, (List.forall_mem_cons.mpr ⟨tw_157, (List.forall_mem_cons.mpr ⟨tw_354, (List.forall_mem_cons.mpr ⟨tw_355, (List.forall_mem_cons.mpr ⟨tw_16, (List.forall_mem_cons.mpr ⟨tw_20, (List.forall_mem_cons.mpr ⟨tw_356, (List.forall_mem_cons.mpr ⟨tw_357, (List.forall_mem_cons.mpr ⟨tw_358, (List.forall_mem_cons.mpr ⟨tw_359, (List.forall_mem_cons.mpr ⟨tw_360, (List.forall_mem_cons.mpr ⟨tw_361, (List.forall_mem_cons.mpr ⟨tw_362, (List.forall_mem_cons.mpr ⟨tw_363, (fun _ h => absurd h List.not_mem_nil)⟩)⟩)⟩)⟩)⟩)⟩)⟩)⟩)⟩)⟩)⟩)⟩)⟩)⟩)⟩)⟩)⟩)⟩)⟩)⟩)⟩)⟩)⟩)⟩)
set_option maxRecDepth 20000 in
theorem tl_X10_text_r10 : ∀ w ∈ wsX10_text_r10, w ∈ lw_tbl := (List.forall_mem_cons.mpr ⟨tw_364, (List.forall_mem_cons.mpr ⟨tw_365, (List.forall_mem_cons.mpr ⟨tw_366, (List.forall_mem_cons.mpr ⟨tw_367, (List.forall_mem_cons.mpr ⟨tw_368, (List.forall_mem_cons.mpr ⟨tw_37, (List.forall_mem_cons.mpr ⟨tw_369, (List.forall_mem_cons.mpr ⟨tw_370, (List.forall_mem_cons.mpr ⟨tw_371, (List.forall_mem_cons.mpr ⟨tw_36, (List.forall_mem_cons.mpr ⟨tw_372, (List.forall_mem_cons.mpr ⟨tw_373, (List.forall_mem_cons.mpr ⟨tw_374, (List.forall_mem_cons.mpr ⟨tw_375, (List.forall_mem_cons.mpr ⟨tw_376, (List.forall_mem_cons.mpr ⟨tw_377, (List.forall_mem_cons.mpr ⟨tw_378, (List.forall_mem_cons.mpr ⟨tw_64, (List.forall_mem_cons.mpr ⟨tw_379, (List.forall_mem_cons.mpr ⟨tw_380, (List.forall_mem_cons.mpr ⟨tw_381, (List.forall_mem_cons.mpr ⟨tw_382, (List.forall_mem_cons.mpr ⟨tw_383, (List.forall_mem_cons.mpr ⟨tw_384, (fun _ h => absurd h List.not_mem_nil)⟩)⟩)⟩)⟩)⟩)⟩)⟩)⟩)⟩)⟩)⟩)⟩)⟩)⟩)⟩)⟩)⟩)⟩)⟩)⟩)⟩)⟩)⟩)⟩)
set_option maxRecDepth 20000 in
theorem tl_X10_text_r11 : ∀ w ∈ wsX10_text_r11, w ∈ lw_tbl := (List.forall_mem_cons.mpr ⟨tw_385, (List.forall_mem_cons.mpr ⟨tw_386, (List.forall_mem_cons.mpr ⟨tw_387, (List.forall_mem_cons.mpr ⟨tw_388, (List.forall_mem_cons.mpr ⟨tw_389, (List.forall_mem_cons.mpr ⟨tw_390, (List.forall_mem_cons.mpr ⟨tw_391, (List.forall_mem_cons.mpr ⟨tw_392, (List.forall_mem_cons.mpr ⟨tw_393, (List.forall_mem_cons.mpr ⟨tw_15, (List.forall_mem_cons.mpr ⟨tw_394, (List.forall_mem_cons.mpr ⟨tw_83, (List.forall_mem_cons.mpr ⟨tw_395, (List.forall_mem_cons.mpr ⟨tw_85, (List.forall_mem_cons.mpr ⟨tw_396, (List.forall_mem_cons.mpr ⟨tw_397, (List.forall_mem_cons.mpr ⟨tw_398, (List.forall_mem_cons.mpr ⟨tw_399, (List.forall_mem_cons.mpr ⟨tw_400, (List.forall_mem_cons.mpr ⟨tw_401, (List.forall_mem_cons.mpr ⟨tw_402, (List.forall_mem_cons.mpr ⟨tw_403, (List.forall_mem_cons.mpr ⟨tw_404, (List.forall_mem_cons.mpr ⟨tw_405, (fun _ h => absurd h List.not_mem_nil)⟩)⟩)⟩)⟩)⟩)⟩)⟩)⟩)⟩)⟩)⟩)⟩)⟩)⟩)⟩)⟩)⟩)⟩)⟩)⟩)⟩)⟩)⟩)⟩)
set_option maxRecDepth 20000 in
theorem tl_X10_text_r12 : ∀ w ∈ wsX10_text_r12, w ∈ lw_tbl := (List.forall_mem_cons.mpr ⟨tw_406, (List.forall_mem_cons.mpr ⟨tw_407, (List.forall_mem_cons.mpr ⟨tw_408, (List.forall_mem_cons.mpr ⟨tw_409, (List.forall_mem_cons.mpr ⟨tw_410, (List.forall_mem_cons.mpr ⟨tw_411, (List.forall_mem_cons.mpr ⟨tw_412, (List.forall_mem_cons.mpr ⟨tw_413, (List.forall_mem_cons.mpr ⟨tw_414, (List.forall_mem_cons.mpr ⟨tw_415, (List.forall_mem_cons.mpr ⟨tw_416, (List.forall_mem_cons.mpr ⟨tw_417, (List.forall_mem_cons.mpr ⟨tw_418, (List.forall_mem_cons.mpr ⟨tw_419, (List.forall_mem_cons.mpr ⟨tw_420, (List.forall_mem_cons.mpr ⟨tw_421, (List.forall_mem_cons.mpr ⟨tw_60, (List.forall_mem_cons.mpr ⟨tw_422, (List.forall_mem_cons.mpr ⟨tw_423, (List.forall_mem_cons.mpr ⟨tw_424, (List.forall_mem_cons.mpr ⟨tw_425, (List.forall_mem_cons.mpr ⟨tw_426, (List.forall_mem_cons.mpr ⟨tw_427, (List.forall_mem_cons.mpr ⟨tw_428, (fun _ h => absurd h List.not_mem_nil)⟩)⟩)⟩)⟩)⟩)⟩)⟩)⟩)⟩)⟩)⟩)⟩)⟩)⟩)⟩)⟩)⟩)⟩)⟩)⟩)⟩)⟩)⟩)⟩)
set_option maxRecDepth 20000 in
theorem tl_X10_text_r13 : ∀ w ∈ wsX10_text_r13, w ∈ lw_tbl := (List.forall_mem_cons.mpr ⟨tw_429, (List.forall_mem_cons.mpr ⟨tw_430, (List.forall_mem_cons.mpr ⟨tw_431, (List.forall_mem_cons.mpr ⟨tw_432, (List.forall_mem_cons.mpr ⟨tw_433, (List.forall_mem_cons.mpr ⟨tw_434, (List.forall_mem_cons.mpr ⟨tw_435, (List.forall_mem_cons.mpr ⟨tw_436, (List.forall_mem_cons.mpr ⟨tw_437, (List.forall_mem_cons.mpr ⟨tw_438, (List.forall_mem_cons.mpr ⟨tw_439, (List.forall_mem_cons.mpr ⟨tw_440, (List.forall_mem_cons.mpr ⟨tw_441, (List.forall_mem_cons.mpr ⟨tw_442, (List.forall_mem_cons.mpr ⟨tw_443, (List.forall_mem_cons.mpr ⟨tw_444, (List.forall_mem_cons.mpr ⟨tw_445, (List.forall_mem_cons.mpr ⟨tw_446, (List.forall_mem_cons.mpr ⟨tw_447, (List.forall_mem_cons.mpr ⟨tw_448, (List.forall_mem_cons.mpr ⟨tw_449, (List.forall_mem_cons.mpr ⟨tw_450, (List.forall_mem_cons.mpr ⟨tw_451, (List.forall_mem_cons.mpr ⟨tw_452, (fun _ h => absurd h List.not_mem_nil)⟩)⟩)⟩)⟩)⟩)⟩)⟩)⟩)⟩)⟩)⟩)⟩)⟩)⟩)⟩)⟩)⟩)⟩)⟩)⟩)⟩)⟩)⟩)⟩)
set_option maxRecDepth 20000 in
theorem tl_X10_text_r14 : ∀ w ∈ wsX10_text_r14, w ∈ lw_tbl := (List.forall_mem_cons.mpr ⟨tw_453, (List.forall_mem_cons.mpr ⟨tw_454, (List.forall_mem_cons.mpr ⟨tw_455, (List.forall_mem_cons.mpr ⟨tw_456, (List.forall_mem_cons.mpr ⟨tw_457, (List.forall_mem_cons.mpr ⟨tw_458, (List.forall_mem_cons.mpr ⟨tw_459, (List.forall_mem_cons.mpr ⟨tw_460, (List.forall_mem_cons.mpr ⟨tw_461, (List.forall_mem_cons.mpr ⟨tw_462, (List.forall_mem_cons.mpr ⟨tw_463, (List.forall_mem_cons.mpr ⟨tw_464, (List.forall_mem_cons.mpr ⟨tw_465, (List.forall_mem_cons.mpr ⟨tw_466, (List.forall_mem_cons.mpr ⟨tw_467, (List.forall_mem_cons.mpr ⟨tw_468, (List.forall_mem_cons.mpr ⟨tw_469, (List.forall_mem_cons.mpr ⟨tw_470, (List.forall_mem_cons.mpr ⟨tw_19, (List.forall_mem_cons.mpr ⟨tw_471, (List.forall_mem_cons.mpr ⟨tw_91, (List.forall_mem_cons.mpr ⟨tw_472, (List.forall_mem_cons.mpr ⟨tw_473, (List.forall_mem_cons.mpr ⟨tw_474, (fun _ h => absurd h List.not_mem_nil)⟩)⟩)⟩)⟩)⟩)⟩)⟩)⟩)⟩)⟩)⟩)⟩)⟩)⟩)⟩)⟩)⟩)⟩)⟩)⟩)⟩)⟩)⟩)⟩)
set_option maxRecDepth 20000 in
theorem tl_X10_text_r15 : ∀ w ∈ wsX10_text_r15, w ∈ lw_tbl := (List.forall_mem_cons.mpr ⟨tw_475, (List.forall_mem_cons.mpr ⟨tw_476, (List.forall_mem_cons.mpr ⟨tw_477, (List.forall_mem_cons.mpr ⟨tw_92, (List.forall_mem_cons.mpr ⟨tw_93, (List.forall_mem_cons.mpr ⟨tw_478, (List.forall_mem_cons.mpr ⟨tw_95, (List.forall_mem_cons.mpr ⟨tw_94, (List.forall_mem_cons.mpr ⟨tw_479, (List.forall_mem_cons.mpr ⟨tw_480, (List.forall_mem_cons.mpr ⟨tw_481, (List.forall_mem_cons.mpr ⟨tw_482, (List.forall_mem_cons.mpr ⟨tw_483, (List.forall_mem_cons.mpr ⟨tw_484, (List.forall_mem_cons.mpr ⟨tw_485, (List.forall_mem_cons.mpr ⟨tw_486, (List.forall_mem_cons.mpr ⟨tw_487, (List.forall_mem_cons.mpr ⟨tw_488, (List.forall_mem_cons.mpr ⟨tw_489, (List.forall_mem_cons.mpr ⟨tw_490, (List.forall_mem_cons.mpr ⟨tw_491, (List.forall_mem_cons.mpr ⟨tw_492, (List.forall_mem_cons.mpr ⟨tw_493, (List.forall_mem_cons.mpr ⟨tw_494, (fun _ h => absurd h List.not_mem_nil)⟩)⟩)⟩)⟩)⟩)⟩)⟩)⟩)⟩)⟩)⟩)⟩)⟩)⟩)⟩)⟩)⟩)⟩)⟩)⟩)⟩)⟩)⟩)⟩)
set_option maxRecDepth 20000 in
theorem tl_X10_text_r16 : ∀ w ∈ wsX10_text_r16, w ∈ lw_tbl := (List.forall_mem_cons.mpr ⟨tw_495, (List.forall_mem_cons.mpr ⟨tw_496, (List.forall_mem_cons.mpr ⟨tw_497, (List.forall_mem_cons.mpr ⟨tw_498, (List.forall_mem_cons.mpr ⟨tw_499, (List.forall_mem_cons.mpr ⟨tw_500, (List.forall_mem_cons.mpr ⟨tw_501, (List.forall_mem_cons.mpr ⟨tw_502, (List.forall_mem_cons.mpr ⟨tw_503, (List.forall_mem_cons.mpr ⟨tw_504, (List.forall_mem_cons.mpr ⟨tw_505, (List.forall_mem_cons.mpr ⟨tw_506, (List.forall_mem_cons.mpr ⟨tw_507, (List.forall_mem_cons.mpr ⟨tw_508, (List.forall_mem_cons.mpr ⟨tw_509, (List.forall_mem_cons.mpr ⟨tw_510, (List.forall_mem_cons.mpr ⟨tw_511, (List.forall_mem_cons.mpr ⟨tw_512, (List.forall_mem_cons.mpr ⟨tw_513, (List.forall_mem_cons.mpr ⟨tw_514, (List.forall_mem_cons.mpr ⟨tw_515, (List.forall_mem_cons.mpr ⟨tw_516, (List.forall_mem_cons.mpr ⟨tw_517, (List.forall_mem_cons.mpr ⟨tw_518, (fun _ h => absurd h List.not_mem_nil)⟩)⟩)⟩)⟩)⟩)⟩)⟩)⟩)⟩)⟩)⟩)⟩)⟩)⟩)⟩)⟩)⟩)⟩)⟩)⟩)⟩)⟩)⟩)⟩)
set_option maxRecDepth 20000 in
theorem tl_X10_text_r17 : ∀ w ∈ wsX10_text_r17, w ∈ lw_tbl := (List.forall_mem_cons.mpr ⟨tw_519, (List.forall_mem_cons.mpr ⟨tw_520, (List.forall_mem_cons.mpr ⟨tw_521, (List.forall_mem_cons.mpr ⟨tw_522, (List.forall_mem_cons.mpr ⟨tw_97, (List.forall_mem_cons.mpr ⟨tw_523, (List.forall_mem_cons.mpr ⟨tw_524, (List.forall_mem_cons.mpr ⟨tw_525, (List.forall_mem_cons.mpr ⟨tw_526, (List.forall_mem_cons.mpr ⟨tw_527, (List.forall_mem_cons.mpr ⟨tw_528, (List.forall_mem_cons.mpr ⟨tw_529, (List.forall_mem_cons.mpr ⟨tw_530, (List.forall_mem_cons.mpr ⟨tw_531, (List.forall_mem_cons.mpr ⟨tw_532, (List.forall_mem_cons.mpr ⟨tw_533, (List.forall_mem_cons.mpr ⟨tw_534, (List.forall_mem_cons.mpr ⟨tw_535, (List.forall_mem_cons.mpr ⟨tw_536, (List.forall_mem_cons.mpr ⟨tw_537, (List.forall_mem_cons.mpr ⟨tw_538, (List.forall_mem_cons.mpr ⟨tw_539, (List.forall_mem_cons.mpr ⟨tw_540, (List.forall_mem_cons.mpr ⟨tw_541, (fun _ h => absurd h List.not_mem_nil)⟩)⟩)⟩)⟩)⟩)⟩)⟩)⟩)⟩)⟩)⟩)⟩)⟩)⟩)⟩)⟩)⟩)⟩)⟩)⟩)⟩)⟩)⟩)⟩)
set_option maxRecDepth 20000 in
theorem tl_X10_text_r18 : ∀ w ∈ wsX10_text_r18, w ∈ lw_tbl := (List.forall_mem_cons.mpr ⟨tw_542, (List.forall_mem_cons.mpr ⟨tw_543, (List.forall_mem_cons.mpr ⟨tw_544, (List.forall_mem_cons.mpr ⟨tw_545, (List.forall_mem_cons.mpr ⟨tw_546, (List.forall_mem_cons.mpr ⟨tw_547, (List.forall_mem_cons.mpr ⟨tw_548, (List.forall_mem_cons.mpr ⟨tw_549, (List.forall_mem_cons.mpr ⟨tw_550, (List.forall_mem_cons.mpr ⟨tw_551, (List.forall_mem_cons.mpr ⟨tw_552, (List.forall_mem_cons.mpr ⟨tw_553, (List.forall_mem_cons.mpr ⟨tw_11, (List.forall_mem_cons.mpr ⟨tw_554, (List.forall_mem_cons.mpr ⟨tw_555, (List.forall_mem_cons.mpr ⟨tw_556, (fun _ h => absurd h List.not_mem_nil)⟩)⟩)⟩)⟩)⟩)⟩)⟩)⟩)⟩)⟩)⟩)⟩)⟩)⟩)⟩)⟩)
set_option maxRecDepth 20000 in
theorem tl_X11_text_r1 : ∀ w ∈ wsX11_text_r1, w ∈ lw_tbl := (List.forall_mem_cons.mpr ⟨tw_159, (List.forall_mem_cons.mpr ⟨tw_561, (List.forall_mem_cons.mpr ⟨tw_562, (List.forall_mem_cons.mpr ⟨tw_128, (List.forall_mem_cons.mpr ⟨tw_563, (List.forall_mem_cons.mpr ⟨tw_564, (List.forall_mem_cons.mpr ⟨tw_565, (List.forall_mem_cons.mpr ⟨tw_566, (List.forall_mem_cons.mpr ⟨tw_567, (List.forall_mem_cons.mpr ⟨tw_568, (List.forall_mem_cons.mpr ⟨tw_569, (List.forall_mem_cons.mpr ⟨tw_570, (List.forall_mem_cons.mpr ⟨tw_144, (List.forall_mem_cons.mpr ⟨tw_571, (List.forall_mem_cons.mpr ⟨tw_572, (List.forall_mem_cons.mpr ⟨tw_573, (List.forall_mem_cons.mpr ⟨tw_574, (List.forall_mem_cons.mpr ⟨tw_575, (List.forall_mem_cons.mpr ⟨tw_576, (List.forall_mem_cons.mpr ⟨tw_577, (List.forall_mem_cons.mpr ⟨tw_578, (List.forall_mem_cons.mpr ⟨tw_579, (List.forall_mem_cons.mpr ⟨tw_580, (List.forall_mem_cons.mpr ⟨tw_581, (fun _ h => absurd h List.not_mem_nil)⟩)⟩)⟩)⟩)⟩)⟩)⟩)⟩)⟩)⟩)⟩)⟩)⟩)⟩)⟩)⟩)⟩)⟩)⟩)⟩)⟩)⟩)⟩)⟩)
set_option maxRecDepth 20000 in
theorem tl_X11_text_r2 : ∀ w ∈ wsX11_text_r2, w ∈ lw_tbl := (List.forall_mem_cons.mpr ⟨tw_125, (List.forall_mem_cons.mpr ⟨tw_582, (List.forall_mem_cons.mpr ⟨tw_583, (List.forall_mem_cons.mpr ⟨tw_584, (List.forall_mem_cons.mpr ⟨tw_585, (List.forall_mem_cons.mpr ⟨tw_586, (List.forall_mem_cons.mpr ⟨tw_587, (List.forall_mem_cons.mpr ⟨tw_588, (List.forall_mem_cons.mpr ⟨tw_589, (List.forall_mem_cons.mpr ⟨tw_590, (List.forall_mem_cons.mpr ⟨tw_591, (List.forall_mem_cons.mpr ⟨tw_592, (List.forall_mem_cons.mpr ⟨tw_593, (List.forall_mem_cons.mpr ⟨tw_594, (List.forall_mem_cons.mpr ⟨tw_595, (List.forall_mem_cons.mpr ⟨tw_596, (List.forall_mem_cons.mpr ⟨tw_597, (List.forall_mem_cons.mpr ⟨tw_598, (List.forall_mem_cons.mpr ⟨tw_599, (List.forall_mem_cons.mpr ⟨tw_600, (List.forall_mem_cons.mpr ⟨tw_601, (List.forall_mem_cons.mpr ⟨tw_602, (List.forall_mem_cons.mpr ⟨tw_603, (List.forall_mem_cons.mpr ⟨tw_604, (fun _ h => absurd h List.not_mem_nil)⟩)⟩)⟩)⟩)⟩)⟩)⟩)⟩)⟩)⟩)⟩)⟩)⟩)⟩)⟩)⟩)⟩)⟩)⟩)⟩)⟩)⟩)⟩)⟩)
set_option maxRecDepth 20000 in
theorem tl_X11_text_r3 : ∀ w ∈ wsX11_text_r3, w ∈ lw_tbl := (List.forall_mem_cons.mpr ⟨tw_605, (List.forall_mem_cons.mpr ⟨tw_606, (List.forall_mem_cons.mpr ⟨tw_607, (List.forall_mem_cons.mpr ⟨tw_608, (List.forall_mem_cons.mpr ⟨tw_609, (List.forall_mem_cons.mpr ⟨tw_610, (List.forall_mem_cons.mpr ⟨tw_611, (List.forall_mem_cons.mpr ⟨tw_141, (List.forall_mem_cons.mpr ⟨tw_142, (List.forall_mem_cons.mpr ⟨tw_143, (List.forall_mem_cons.mpr ⟨tw_145, (List.forall_mem_cons.mpr ⟨tw_124, (List.forall_mem_cons.mpr ⟨tw_612, (List.forall_mem_cons.mpr ⟨tw_613, (List.forall_mem_cons.mpr ⟨tw_614, (List.forall_mem_cons.mpr ⟨tw_615, (List.forall_mem_cons.mpr ⟨tw_616, (List.forall_mem_cons.mpr ⟨tw_617, (List.forall_mem_cons.mpr ⟨tw_618, (List.forall_mem_cons.mpr ⟨tw_619, (List.forall_mem_cons.mpr ⟨tw_620, (List.forall_mem_cons.mpr ⟨tw_621, (List.forall_mem_cons.mpr ⟨tw_622, (List.forall_mem_cons.mpr ⟨tw_623, (fun _ h => absurd h List.not_mem_nil)⟩)⟩)⟩)⟩)⟩)⟩)⟩)⟩)⟩)⟩)⟩)⟩)⟩)⟩)⟩)⟩)⟩)⟩)⟩)⟩)⟩)⟩)⟩)⟩)
set_option maxRecDepth 20000 in
theorem tl_X11_text_r4 : ∀ w ∈ wsX11_text_r4, w ∈ lw_tbl := (List.forall_mem_cons.mpr ⟨tw_624, (List.forall_mem_cons.mpr ⟨tw_625, (List.forall_mem_cons.mpr ⟨tw_626, (List.forall_mem_cons.mpr ⟨tw_627, (List.forall_mem_cons.mpr ⟨tw_628, (List.forall_mem_cons.mpr ⟨tw_629, (List.forall_mem_cons.mpr ⟨tw_630, (List.forall_mem_cons.mpr ⟨tw_631, (List.forall_mem_cons.mpr ⟨tw_632, (List.forall_mem_cons.mpr ⟨tw_633, (List.forall_mem_cons.mpr ⟨tw_129, (List.forall_mem_cons.mpr ⟨tw_130, (List.forall_mem_cons.mpr ⟨tw_634, (List.forall_mem_cons.mpr ⟨tw_635, (List.forall_mem_cons.mpr ⟨tw_636, (List.forall_mem_cons.mpr ⟨tw_637, (List.forall_mem_cons.mpr ⟨tw_638, (List.forall_mem_cons.mpr ⟨tw_639, (List.forall_mem_cons.mpr ⟨tw_640, (List.forall_mem_cons.mpr ⟨tw_641, (List.forall_mem_cons.mpr ⟨tw_642, (List.forall_mem_cons.mpr ⟨tw_643, (List.forall_mem_cons.mpr ⟨tw_644, (List.forall_mem_cons.mpr ⟨tw_645, (fun _ h => absurd h List.not_mem_nil)⟩)⟩)⟩)⟩)⟩)⟩)⟩)⟩)⟩)⟩)⟩)⟩)⟩)⟩)⟩)⟩)⟩)⟩)⟩)⟩)⟩)⟩)⟩)⟩)
set_option maxRecDepth 20000 in
theorem tl_X11_text_r5 : ∀ w ∈ wsX11_text_r5, w ∈ lw_tbl := (List.forall_mem_cons.mpr ⟨tw_646, (List.forall_mem_cons.mpr ⟨tw_647, (List.forall_mem_cons.mpr ⟨tw_648, (List.forall_mem_cons.mpr ⟨tw_649, (List.forall_mem_cons.mpr ⟨tw_650, (List.forall_mem_cons.mpr ⟨tw_651, (List.forall_mem_cons.mpr ⟨tw_652, (List.forall_mem_cons.mpr ⟨tw_653, (List.forall_mem_cons.mpr ⟨tw_654, (List.forall_mem_cons.mpr ⟨tw_655, (List.forall_mem_cons.mpr ⟨tw_656, (List.forall_mem_cons.mpr ⟨tw_657, (List.forall_mem_cons.mpr ⟨tw_658, (List.forall_mem_cons.mpr ⟨tw_659, (List.forall_mem_cons.mpr ⟨tw_660, (List.forall_mem_cons.mpr ⟨tw_661, (List.forall_mem_cons.mpr ⟨tw_662, (List.forall_mem_cons.mpr ⟨tw_663, (List.forall_mem_cons.mpr ⟨tw_664, (List.forall_mem_cons.mpr ⟨tw_665, (List.forall_mem_cons.mpr ⟨tw_666, (List.forall_mem_cons.mpr ⟨tw_667, (List.forall_mem_cons.mpr ⟨tw_668, (List.forall_mem_cons.mpr ⟨tw_669, (fun _ h => absurd h List.not_mem_nil)⟩)⟩)⟩)⟩)⟩)⟩)⟩)⟩)⟩)⟩)⟩)⟩)⟩)⟩)⟩)⟩)⟩)⟩)⟩)⟩)⟩)⟩)⟩)⟩)
set_option maxRecDepth 20000 in
theorem tl_X11_text_r6 : ∀ w ∈ wsX11_text_r6, w ∈ lw_tbl := (List.forall_mem_cons.mpr ⟨tw_670, (List.forall_mem_cons.mpr ⟨tw_671, (List.forall_mem_cons.mpr ⟨tw_672, (List.forall_mem_cons.mpr ⟨tw_673, (List.forall_mem_cons.mpr ⟨tw_674, (List.forall_mem_cons.mpr ⟨tw_675, (List.forall_mem_cons.mpr ⟨tw_676, (List.forall_mem_cons.mpr ⟨tw_677, (List.forall_mem_cons.mpr ⟨tw_678, (List.forall_mem_cons.mpr ⟨tw_168, (List.forall_mem_cons.mpr ⟨tw_169, (List.forall_mem_cons.mpr ⟨tw_170, (List.forall_mem_cons.mpr ⟨tw_679, (List.forall_mem_cons.mpr ⟨tw_680, (List.forall_mem_cons.mpr ⟨tw_681, (List.forall_mem_cons.mpr ⟨tw_682, (List.forall_mem_cons.mpr ⟨tw_683, (List.forall_mem_cons.mpr ⟨tw_684, (List.forall_mem_cons.mpr ⟨tw_685, (List.forall_mem_cons.mpr ⟨tw_686, (List.forall_mem_cons.mpr ⟨tw_687, (List.forall_mem_cons.mpr ⟨tw_688, (List.forall_mem_cons.mpr ⟨tw_689, (List.forall_mem_cons.mpr ⟨tw_690, (fun _ h => absurd h List.not_mem_nil)⟩)⟩)⟩)⟩)⟩)⟩)⟩)⟩)⟩)⟩)⟩)⟩)⟩)⟩)⟩)⟩)⟩)⟩)⟩)⟩)⟩)⟩)⟩)⟩)
set_option maxRecDepth 20000 in
theorem tl_X11_text_r7 : ∀ w ∈ wsX11_text_r7, w ∈ lw_tbl := (List.forall_mem_cons.mpr ⟨tw_691, (List.forall_mem_cons.mpr ⟨tw_692, (List.forall_mem_cons.mpr ⟨tw_693, (List.forall_mem_cons.mpr ⟨tw_694, (List.forall_mem_cons.mpr ⟨tw_695, (List.forall_mem_cons.mpr ⟨tw_696, (List.forall_mem_cons.mpr ⟨tw_697, (List.forall_mem_cons.mpr ⟨tw_698, (List.forall_mem_cons.mpr ⟨tw_699, (List.forall_mem_cons.mpr ⟨tw_700, (List.forall_mem_cons.mpr ⟨tw_701, (List.forall_mem_cons.mpr ⟨tw_702, (List.forall_mem_cons.mpr ⟨tw_703, (List.forall_mem_cons.mpr ⟨tw_704, (List.forall_mem_cons.mpr ⟨tw_705, (List.forall_mem_cons.mpr ⟨tw_706, (List.forall_mem_cons.mpr ⟨tw_707, (List.forall_mem_cons.mpr ⟨tw_708, (List.forall_mem_cons.mpr ⟨tw_709, (List.forall_mem_cons.mpr ⟨tw_710, (List.forall_mem_cons.mpr ⟨tw_711, (List.forall_mem_cons.mpr ⟨tw_712, (List.forall_mem_cons.mpr ⟨tw_713, (List.forall_mem_cons.mpr ⟨tw_714, (fun _ h => absurd h List.not_mem_nil)⟩)⟩)⟩)⟩)⟩)⟩)⟩)⟩)⟩)⟩)⟩)⟩)⟩)⟩)⟩)⟩)⟩)⟩)⟩)⟩)⟩)⟩)⟩)⟩)
set_option maxRecDepth 20000 in
theorem tl_X11_text_r8 : ∀ w ∈ wsX11_text_r8, w ∈ lw_tbl := (List.forall_mem_cons.mpr ⟨tw_715, (List.forall_mem_cons.mpr ⟨tw_716, (List.forall_mem_cons.mpr ⟨tw_717, (List.forall_mem_cons.mpr ⟨tw_718, (List.forall_mem_cons.mpr ⟨tw_719, (List.forall_mem_cons.mpr ⟨tw_720, (List.forall_mem_cons.mpr ⟨tw_721, (List.forall_mem_cons.mpr ⟨tw_135, (List.forall_mem_cons.mpr ⟨tw_136, (List.forall_mem_cons.mpr ⟨tw_131, (List.forall_mem_cons.mpr ⟨tw_132, (List.forall_mem_cons.mpr ⟨tw_722, (List.forall_mem_cons.mpr ⟨tw_723, (List.forall_mem_cons.mpr ⟨tw_724, (List.forall_mem_cons.mpr ⟨tw_725, (List.forall_mem_cons.mpr ⟨tw_133, (List.forall_mem_cons.mpr ⟨tw_134, (List.forall_mem_cons.mpr ⟨tw_726, (List.forall_mem_cons.mpr ⟨tw_727, (List.forall_mem_cons.mpr ⟨tw_728, (List.forall_mem_cons.mpr ⟨tw_729, (List.forall_mem_cons.mpr ⟨tw_730, (List.forall_mem_cons.mpr ⟨tw_731, (List.forall_mem_cons.mpr ⟨tw_732, (fun _ h => absurd h List.not_mem_nil)⟩)⟩)⟩)⟩)⟩)⟩)⟩)⟩)⟩)⟩)⟩)⟩)⟩)⟩)⟩)⟩)⟩)⟩)⟩)⟩)⟩)⟩)⟩)⟩)
set_option maxRecDepth 20000 in
theorem tl_X11_text_r9 : ∀ w ∈ wsX11_text_r9, w ∈ lw_tbl := (List.forall_mem_cons.mpr ⟨tw_733, (List.forall_mem_cons.mpr ⟨tw_734, (List.forall_mem_cons.mpr ⟨tw_735, (List.forall_mem_cons.mpr ⟨tw_736, (List.forall_mem_cons.mpr ⟨tw_737, (List.forall_mem_cons.mpr ⟨tw_738, (List.forall_mem_cons.mpr ⟨tw_739, (List.forall_mem_cons.mpr ⟨tw_740, (List.forall_mem_cons.mpr ⟨tw_741, (List.forall_mem_cons.mpr ⟨tw_742, (List.forall_mem_cons.mpr ⟨tw_743, (List.forall_mem_cons.mpr ⟨tw_744, (List.forall_mem_cons.mpr ⟨tw_745, (List.forall_mem_cons.mpr ⟨tw_746, (List.forall_mem_cons.mpr ⟨tw_747, (List.forall_mem_cons.mpr ⟨tw_748, (List.forall_mem_cons.mpr ⟨tw_749, (List.forall_mem_cons.mpr ⟨tw_750, (List.forall_mem_cons.mpr ⟨tw_751, (List.forall_mem_cons.mpr ⟨tw_752, (List.forall_mem_cons.mpr ⟨tw_753, (List.forall_mem_cons.mpr ⟨tw_754, (List.forall_mem_cons.mpr ⟨tw_755, (List.forall_mem_cons.mpr ⟨tw_756, (fun _ h => absurd h List.not_mem_nil)⟩)⟩)⟩)⟩)⟩)⟩)⟩)⟩)⟩)⟩)⟩)⟩)⟩)⟩)⟩)⟩)⟩)⟩)⟩)⟩)⟩)⟩)⟩)⟩)
set_option maxRecDepth 20000 in
theorem tl_X11_text_r10 : ∀ w ∈ wsX11_text_r10, w ∈ lw_tbl := (List.forall_mem_cons.mpr ⟨tw_757, (List.forall_mem_cons.mpr ⟨tw_758, (List.forall_mem_cons.mpr ⟨tw_759, (List.forall_mem_cons.mpr ⟨tw_760, (List.forall_mem_cons.mpr ⟨tw_761, (fun _ h => absurd h List.not_mem_nil)⟩)⟩)⟩)⟩)⟩)
set_option maxRecDepth 20000 in
theorem tl_X10_set_r1 : ∀ w ∈ wsX10_set_r1, w ∈ lw_tbl := (List.forall_mem_cons.mpr ⟨tw_16, (List.forall_mem_cons.mpr ⟨tw_7, (List.forall_mem_cons.mpr ⟨tw_183, (List.forall_mem_cons.mpr ⟨tw_774, (List.forall_mem_cons.mpr ⟨tw_775, (List.forall_mem_cons.mpr ⟨tw_776, (List.forall_mem_cons.mpr ⟨tw_15, (List.forall_mem_cons.mpr ⟨tw_777, (List.forall_mem_cons.mpr ⟨tw_85, (List.forall_mem_cons.mpr ⟨tw_83, (List.forall_mem_cons.mpr ⟨tw_396, (List.forall_mem_cons.mpr ⟨tw_397, (List.forall_mem_cons.mpr ⟨tw_398, (List.forall_mem_cons.mpr ⟨tw_31, (List.forall_mem_cons.mpr ⟨tw_399, (List.forall_mem_cons.mpr ⟨tw_54, (List.forall_mem_cons.mpr ⟨tw_778, (List.forall_mem_cons.mpr ⟨tw_779, (List.forall_mem_cons.mpr ⟨tw_780, (List.forall_mem_cons.mpr ⟨tw_781, (List.forall_mem_cons.mpr ⟨tw_55, (List.forall_mem_cons.mpr ⟨tw_434, (List.forall_mem_cons.mpr ⟨tw_157, (List.forall_mem_cons.mpr ⟨tw_435, (fun _ h => absurd h List.not_mem_nil)⟩)⟩)⟩)⟩)⟩)⟩)⟩)⟩)⟩)⟩)⟩)⟩)⟩)⟩)⟩)⟩)⟩)⟩)⟩)⟩)⟩)⟩)⟩)⟩)
set_option maxRecDepth 20000 in
theorem tl_X10_set_r2 : ∀ w ∈ wsX10_set_r2, w ∈ lw_tbl := (List.forall_mem_cons.mpr ⟨tw_456, (List.forall_mem_cons.mpr ⟨tw_370, (List.forall_mem_cons.mpr ⟨tw_371, (List.forall_mem_cons.mpr ⟨tw_36, (List.forall_mem_cons.mpr ⟨tw_372, (List.forall_mem_cons.mpr ⟨tw_373, (List.forall_mem_cons.mpr ⟨tw_374, (List.forall_mem_cons.mpr ⟨tw_375, (List.forall_mem_cons.mpr ⟨tw_376, (List.forall_mem_cons.mpr ⟨tw_377, (List.forall_mem_cons.mpr ⟨tw_378, (List.forall_mem_cons.mpr ⟨tw_64, (List.forall_mem_cons.mpr ⟨tw_379, (List.forall_mem_cons.mpr ⟨tw_380, (List.forall_mem_cons.mpr ⟨tw_381, (List.forall_mem_cons.mpr ⟨tw_382, (List.forall_mem_cons.mpr ⟨tw_383, (List.forall_mem_cons.mpr ⟨tw_384, (List.forall_mem_cons.mpr ⟨tw_782, (List.forall_mem_cons.mpr ⟨tw_424, (List.forall_mem_cons.mpr ⟨tw_425, (List.forall_mem_cons.mpr ⟨tw_426, (List.forall_mem_cons.mpr ⟨tw_389, (List.forall_mem_cons.mpr ⟨tw_390, (fun _ h => absurd h List.not_mem_nil)⟩)⟩)⟩)⟩)⟩)⟩)⟩)⟩)⟩)⟩)⟩)⟩)⟩)⟩)⟩)⟩)⟩)⟩)⟩)⟩)⟩)⟩)⟩)⟩)
set_option maxRecDepth 20000 in
theorem tl_X10_set_r3 : ∀ w ∈ wsX10_set_r3, w ∈ lw_tbl := (List.forall_mem_cons.mpr ⟨tw_427, (List.forall_mem_cons.mpr ⟨tw_410, (List.forall_mem_cons.mpr ⟨tw_411, (List.forall_mem_cons.mpr ⟨tw_412, (List.forall_mem_cons.mpr ⟨tw_57, (List.forall_mem_cons.mpr ⟨tw_428, (List.forall_mem_cons.mpr ⟨tw_414, (List.forall_mem_cons.mpr ⟨tw_415, (List.forall_mem_cons.mpr ⟨tw_416, (List.forall_mem_cons.mpr ⟨tw_58, (List.forall_mem_cons.mpr ⟨tw_400, (List.forall_mem_cons.mpr ⟨tw_401, (List.forall_mem_cons.mpr ⟨tw_402, (List.forall_mem_cons.mpr ⟨tw_403, (List.forall_mem_cons.mpr ⟨tw_404, (List.forall_mem_cons.mpr ⟨tw_200, (List.forall_mem_cons.mpr ⟨tw_201, (List.forall_mem_cons.mpr ⟨tw_202, (List.forall_mem_cons.mpr ⟨tw_417, (List.forall_mem_cons.mpr ⟨tw_386, (List.forall_mem_cons.mpr ⟨tw_387, (List.forall_mem_cons.mpr ⟨tw_388, (List.forall_mem_cons.mpr ⟨tw_783, (List.forall_mem_cons.mpr ⟨tw_784, (fun _ h => absurd h List.not_mem_nil)⟩)⟩)⟩)⟩)⟩)⟩)⟩)⟩)⟩)⟩)⟩)⟩)⟩)⟩)⟩)⟩)⟩)⟩)⟩)⟩)⟩)⟩)⟩)⟩)
set_option maxRecDepth 20000 in
theorem tl_X10_set_r4 : ∀ w ∈ wsX10_set_r4, w ∈ lw_tbl := (List.forall_mem_cons.mpr ⟨tw_785, (List.forall_mem_cons.mpr ⟨tw_786, (List.forall_mem_cons.mpr ⟨tw_787, (List.forall_mem_cons.mpr ⟨tw_788, (List.forall_mem_cons.mpr ⟨tw_789, (List.forall_mem_cons.mpr ⟨tw_790, (List.forall_mem_cons.mpr ⟨tw_791, (List.forall_mem_cons.mpr ⟨tw_12, (List.forall_mem_cons.mpr ⟨tw_356, (List.forall_mem_cons.mpr ⟨tw_792, (List.forall_mem_cons.mpr ⟨tw_793, (List.forall_mem_cons.mpr ⟨tw_794, (List.forall_mem_cons.mpr ⟨tw_11, (List.forall_mem_cons.mpr ⟨tw_795, (List.forall_mem_cons.mpr ⟨tw_556, (List.forall_mem_cons.mpr ⟨tw_78, (List.forall_mem_cons.mpr ⟨tw_77, (List.forall_mem_cons.mpr ⟨tw_30, (List.forall_mem_cons.mpr ⟨tw_555, (List.forall_mem_cons.mpr ⟨tw_796, (List.forall_mem_cons.mpr ⟨tw_797, (List.forall_mem_cons.mpr ⟨tw_500, (List.forall_mem_cons.mpr ⟨tw_798, (List.forall_mem_cons.mpr ⟨tw_799, (fun _ h => absurd h List.not_mem_nil)⟩)⟩)⟩)⟩)⟩)⟩)⟩)⟩)⟩)⟩)⟩)⟩)⟩)⟩)⟩)⟩)⟩)⟩)⟩)⟩)⟩)⟩)⟩)⟩)
set_option maxRecDepth 20000 in
theorem tl_X10_set_r5 : ∀ w ∈ wsX10_set_r5, w ∈ lw_tbl := (List.forall_mem_cons.mpr ⟨tw_51, (List.forall_mem_cons.mpr ⟨tw_52, (List.forall_mem_cons.mpr ⟨tw_53, (List.forall_mem_cons.mpr ⟨tw_2, (List.forall_mem_cons.mpr ⟨tw_3, (List.forall_mem_cons.mpr ⟨tw_56, (List.forall_mem_cons.mpr ⟨tw_59, (List.forall_mem_cons.mpr ⟨tw_35, (List.forall_mem_cons.mpr ⟨tw_60, (List.forall_mem_cons.mpr ⟨tw_61, (List.forall_mem_cons.mpr ⟨tw_62, (List.forall_mem_cons.mpr ⟨tw_63, (List.forall_mem_cons.mpr ⟨tw_65, (List.forall_mem_cons.mpr ⟨tw_66, (List.forall_mem_cons.mpr ⟨tw_67, (List.forall_mem_cons.mpr ⟨tw_68, (List.forall_mem_cons.mpr ⟨tw_800, (List.forall_mem_cons.mpr ⟨tw_550, (fun _ h => absurd h List.not_mem_nil)⟩)⟩)⟩)⟩)⟩)⟩)⟩)⟩)⟩)⟩)⟩)⟩)⟩)⟩)⟩)⟩)⟩)⟩)
set_option maxRecDepth 20000 in
theorem tl_X11_set_r1 : ∀ w ∈ wsX11_set_r1, w ∈ lw_tbl := (List.forall_mem_cons.mpr ⟨tw_622, (List.forall_mem_cons.mpr ⟨tw_623, (List.forall_mem_cons.mpr ⟨tw_624, (List.forall_mem_cons.mpr ⟨tw_144, (List.forall_mem_cons.mpr ⟨tw_625, (List.forall_mem_cons.mpr ⟨tw_626, (List.forall_mem_cons.mpr ⟨tw_627, (List.forall_mem_cons.mpr ⟨tw_628, (List.forall_mem_cons.mpr ⟨tw_629, (List.forall_mem_cons.mpr ⟨tw_630, (List.forall_mem_cons.mpr ⟨tw_631, (List.forall_mem_cons.mpr ⟨tw_124, (List.forall_mem_cons.mpr ⟨tw_632, (List.forall_mem_cons.mpr ⟨tw_633, (List.forall_mem_cons.mpr ⟨tw_129, (List.forall_mem_cons.mpr ⟨tw_130, (List.forall_mem_cons.mpr ⟨tw_805, (List.forall_mem_cons.mpr ⟨tw_806, (List.forall_mem_cons.mpr ⟨tw_807, (List.forall_mem_cons.mpr ⟨tw_808, (List.forall_mem_cons.mpr ⟨tw_640, (List.forall_mem_cons.mpr ⟨tw_641, (List.forall_mem_cons.mpr ⟨tw_809, (List.forall_mem_cons.mpr ⟨tw_810, (fun _ h => absurd h List.not_mem_nil)⟩)⟩)⟩)⟩)⟩)⟩)⟩)⟩)⟩)⟩)⟩)⟩)⟩)⟩)⟩)⟩)⟩)⟩)⟩)⟩)⟩)⟩)⟩)⟩)
set_option maxRecDepth 20000 in
theorem tl_X11_set_r2 : ∀ w ∈ wsX11_set_r2, w ∈ lw_tbl := (List.forall_mem_cons.mpr ⟨tw_811, (List.forall_mem_cons.mpr ⟨tw_812, (List.forall_mem_cons.mpr ⟨tw_675, (List.forall_mem_cons.mpr ⟨tw_676, (List.forall_mem_cons.mpr ⟨tw_677, (List.forall_mem_cons.mpr ⟨tw_678, (List.forall_mem_cons.mpr ⟨tw_168, (List.forall_mem_cons.mpr ⟨tw_169, (List.forall_mem_cons.mpr ⟨tw_170, (List.forall_mem_cons.mpr ⟨tw_683, (List.forall_mem_cons.mpr ⟨tw_684, (List.forall_mem_cons.mpr ⟨tw_685, (List.forall_mem_cons.mpr ⟨tw_646, (List.forall_mem_cons.mpr ⟨tw_647, (List.forall_mem_cons.mpr ⟨tw_648, (List.forall_mem_cons.mpr ⟨tw_649, (List.forall_mem_cons.mpr ⟨tw_650, (List.forall_mem_cons.mpr ⟨tw_651, (List.forall_mem_cons.mpr ⟨tw_652, (List.forall_mem_cons.mpr ⟨tw_653, (List.forall_mem_cons.mpr ⟨tw_654, (List.forall_mem_cons.mpr ⟨tw_655, (List.forall_mem_cons.mpr ⟨tw_660, (List.forall_mem_cons.mpr ⟨tw_661, (fun _ h => absurd h List.not_mem_nil)⟩)⟩)⟩)⟩)⟩)⟩)⟩)⟩)⟩)⟩)⟩)⟩)⟩)⟩)⟩)⟩)⟩)⟩)⟩)⟩)⟩)⟩)⟩)⟩)
set_option maxRecDepth 20000 in
theorem tl_X11_set_r3 : ∀ w ∈ wsX11_set_r3, w ∈ lw_tbl := (List.forall_mem_cons.mpr ⟨tw_662, (List.forall_mem_cons.mpr ⟨tw_656, (List.forall_mem_cons.mpr ⟨tw_657, (List.forall_mem_cons.mpr ⟨tw_658, (List.forall_mem_cons.mpr ⟨tw_659, (List.forall_mem_cons.mpr ⟨tw_813, (List.forall_mem_cons.mpr ⟨tw_814, (List.forall_mem_cons.mpr ⟨tw_815, (List.forall_mem_cons.mpr ⟨tw_816, (List.forall_mem_cons.mpr ⟨tw_698, (List.forall_mem_cons.mpr ⟨tw_699, (List.forall_mem_cons.mpr ⟨tw_817, (List.forall_mem_cons.mpr ⟨tw_818, (List.forall_mem_cons.mpr ⟨tw_819, (List.forall_mem_cons.mpr ⟨tw_820, (List.forall_mem_cons.mpr ⟨tw_567, (List.forall_mem_cons.mpr ⟨tw_758, (List.forall_mem_cons.mpr ⟨tw_759, (List.forall_mem_cons.mpr ⟨tw_760, (List.forall_mem_cons.mpr ⟨tw_761, (List.forall_mem_cons.mpr ⟨tw_754, (List.forall_mem_cons.mpr ⟨tw_755, (List.forall_mem_cons.mpr ⟨tw_756, (List.forall_mem_cons.mpr ⟨tw_757, (fun _ h => absurd h List.not_mem_nil)⟩)⟩)⟩)⟩)⟩)⟩)⟩)⟩)⟩)⟩)⟩)⟩)⟩)⟩)⟩)⟩)⟩)⟩)⟩)⟩)⟩)⟩)⟩)⟩)
set_option maxRecDepth 20000 in
theorem tl_X10_swap_r1 : ∀ w ∈ wsX10_swap_r1, w ∈ lw_tbl := (List.forall_mem_cons.mpr ⟨tw_16, (List.forall_mem_cons.mpr ⟨tw_7, (List.forall_mem_cons.mpr ⟨tw_183, (List.forall_mem_cons.mpr ⟨tw_391, (List.forall_mem_cons.mpr ⟨tw_392, (List.forall_mem_cons.mpr ⟨tw_393, (List.forall_mem_cons.mpr ⟨tw_15, (List.forall_mem_cons.mpr ⟨tw_394, (List.forall_mem_cons.mpr ⟨tw_83, (List.forall_mem_cons.mpr ⟨tw_395, (List.forall_mem_cons.mpr ⟨tw_85, (List.forall_mem_cons.mpr ⟨tw_396, (List.forall_mem_cons.mpr ⟨tw_397, (List.forall_mem_cons.mpr ⟨tw_398, (List.forall_mem_cons.mpr ⟨tw_31, (List.forall_mem_cons.mpr ⟨tw_399, (List.forall_mem_cons.mpr ⟨tw_54, (List.forall_mem_cons.mpr ⟨tw_400, (List.forall_mem_cons.mpr ⟨tw_401, (List.forall_mem_cons.mpr ⟨tw_402, (List.forall_mem_cons.mpr ⟨tw_403, (List.forall_mem_cons.mpr ⟨tw_55, (List.forall_mem_cons.mpr ⟨tw_57, (List.forall_mem_cons.mpr ⟨tw_404, (fun _ h => absurd h List.not_mem_nil)⟩)⟩)⟩)⟩)⟩)⟩)⟩)⟩)⟩)⟩)⟩)⟩)⟩)⟩)⟩)⟩)⟩)⟩)⟩)⟩)⟩)⟩)⟩)⟩)
set_option maxRecDepth 20000 in
theorem tl_X10_swap_r2 : ∀ w ∈ wsX10_swap_r2, w ∈ lw_tbl := (List.forall_mem_cons.mpr ⟨tw_200, (List.forall_mem_cons.mpr ⟨tw_201, (List.forall_mem_cons.mpr ⟨tw_202, (List.forall_mem_cons.mpr ⟨tw_58, (List.forall_mem_cons.mpr ⟨tw_405, (List.forall_mem_cons.mpr ⟨tw_406, (List.forall_mem_cons.mpr ⟨tw_407, (List.forall_mem_cons.mpr ⟨tw_36, (List.forall_mem_cons.mpr ⟨tw_408, (List.forall_mem_cons.mpr ⟨tw_373, (List.forall_mem_cons.mpr ⟨tw_378, (List.forall_mem_cons.mpr ⟨tw_64, (List.forall_mem_cons.mpr ⟨tw_409, (List.forall_mem_cons.mpr ⟨tw_410, (List.forall_mem_cons.mpr ⟨tw_411, (List.forall_mem_cons.mpr ⟨tw_412, (List.forall_mem_cons.mpr ⟨tw_413, (List.forall_mem_cons.mpr ⟨tw_414, (List.forall_mem_cons.mpr ⟨tw_415, (List.forall_mem_cons.mpr ⟨tw_416, (List.forall_mem_cons.mpr ⟨tw_417, (List.forall_mem_cons.mpr ⟨tw_386, (List.forall_mem_cons.mpr ⟨tw_387, (List.forall_mem_cons.mpr ⟨tw_388, (fun _ h => absurd h List.not_mem_nil)⟩)⟩)⟩)⟩)⟩)⟩)⟩)⟩)⟩)⟩)⟩)⟩)⟩)⟩)⟩)⟩)⟩)⟩)⟩)⟩)⟩)⟩)⟩)⟩)
set_option maxRecDepth 20000 in
theorem tl_X10_swap_r3 : ∀ w ∈ wsX10_swap_r3, w ∈ lw_tbl := (List.forall_mem_cons.mpr ⟨tw_389, (List.forall_mem_cons.mpr ⟨tw_390, (List.forall_mem_cons.mpr ⟨tw_418, (List.forall_mem_cons.mpr ⟨tw_419, (List.forall_mem_cons.mpr ⟨tw_420, (List.forall_mem_cons.mpr ⟨tw_421, (List.forall_mem_cons.mpr ⟨tw_60, (List.forall_mem_cons.mpr ⟨tw_422, (List.forall_mem_cons.mpr ⟨tw_423, (List.forall_mem_cons.mpr ⟨tw_424, (List.forall_mem_cons.mpr ⟨tw_425, (List.forall_mem_cons.mpr ⟨tw_426, (List.forall_mem_cons.mpr ⟨tw_427, (List.forall_mem_cons.mpr ⟨tw_428, (List.forall_mem_cons.mpr ⟨tw_783, (List.forall_mem_cons.mpr ⟨tw_784, (List.forall_mem_cons.mpr ⟨tw_785, (List.forall_mem_cons.mpr ⟨tw_157, (List.forall_mem_cons.mpr ⟨tw_786, (List.forall_mem_cons.mpr ⟨tw_787, (List.forall_mem_cons.mpr ⟨tw_788, (List.forall_mem_cons.mpr ⟨tw_789, (List.forall_mem_cons.mpr ⟨tw_790, (List.forall_mem_cons.mpr ⟨tw_791, (fun _ h => absurd h List.not_mem_nil)⟩)⟩)⟩)⟩)⟩)⟩)⟩)⟩)⟩)⟩)⟩)⟩)⟩)⟩)⟩)⟩)⟩)⟩)⟩)⟩)⟩)⟩)⟩)⟩)
set_option maxRecDepth 20000 in
theorem tl_X10_swap_r4 : ∀ w ∈ wsX10_swap_r4, w ∈ lw_tbl := (List.forall_mem_cons.mpr ⟨tw_12, (List.forall_mem_cons.mpr ⟨tw_356, (List.forall_mem_cons.mpr ⟨tw_792, (List.forall_mem_cons.mpr ⟨tw_793, (List.forall_mem_cons.mpr ⟨tw_794, (List.forall_mem_cons.mpr ⟨tw_11, (List.forall_mem_cons.mpr ⟨tw_795, (List.forall_mem_cons.mpr ⟨tw_556, (List.forall_mem_cons.mpr ⟨tw_78, (List.forall_mem_cons.mpr ⟨tw_77, (List.forall_mem_cons.mpr ⟨tw_30, (List.forall_mem_cons.mpr ⟨tw_555, (List.forall_mem_cons.mpr ⟨tw_796, (List.forall_mem_cons.mpr ⟨tw_797, (List.forall_mem_cons.mpr ⟨tw_500, (List.forall_mem_cons.mpr ⟨tw_798, (List.forall_mem_cons.mpr ⟨tw_799, (List.forall_mem_cons.mpr ⟨tw_51, (List.forall_mem_cons.mpr ⟨tw_52, (List.forall_mem_cons.mpr ⟨tw_53, (List.forall_mem_cons.mpr ⟨tw_2, (List.forall_mem_cons.mpr ⟨tw_3, (List.forall_mem_cons.mpr ⟨tw_56, (List.forall_mem_cons.mpr ⟨tw_59, (fun _ h => absurd h List.not_mem_nil)⟩)⟩)⟩)⟩)⟩)⟩)⟩)⟩)⟩)⟩)⟩)⟩)⟩)⟩)⟩)⟩)⟩)⟩)⟩)⟩)⟩)⟩)⟩)⟩)
set_option maxRecDepth 20000 in
theorem tl_X10_swap_r5 : ∀ w ∈ wsX10_swap_r5, w ∈ lw_tbl := (List.forall_mem_cons.mpr ⟨tw_35, (List.forall_mem_cons.mpr ⟨tw_61, (List.forall_mem_cons.mpr ⟨tw_62, (List.forall_mem_cons.mpr ⟨tw_63, (List.forall_mem_cons.mpr ⟨tw_65, (List.forall_mem_cons.mpr ⟨tw_66, (List.forall_mem_cons.mpr ⟨tw_67, (List.forall_mem_cons.mpr ⟨tw_68, (List.forall_mem_cons.mpr ⟨tw_800, (List.forall_mem_cons.mpr ⟨tw_550, (fun _ h => absurd h List.not_mem_nil)⟩)⟩)⟩)⟩)⟩)⟩)⟩)⟩)⟩)⟩)
set_option maxRecDepth 20000 in
theorem tl_X11_swap_r1 : ∀ w ∈ wsX11_swap_r1, w ∈ lw_tbl := (List.forall_mem_cons.mpr ⟨tw_622, (List.forall_mem_cons.mpr ⟨tw_623, (List.forall_mem_cons.mpr ⟨tw_624, (List.forall_mem_cons.mpr ⟨tw_144, (List.forall_mem_cons.mpr ⟨tw_625, (List.forall_mem_cons.mpr ⟨tw_626, (List.forall_mem_cons.mpr ⟨tw_627, (List.forall_mem_cons.mpr ⟨tw_628, (List.forall_mem_cons.mpr ⟨tw_629, (List.forall_mem_cons.mpr ⟨tw_630, (List.forall_mem_cons.mpr ⟨tw_631, (List.forall_mem_cons.mpr ⟨tw_124, (List.forall_mem_cons.mpr ⟨tw_632, (List.forall_mem_cons.mpr ⟨tw_633, (List.forall_mem_cons.mpr ⟨tw_129, (List.forall_mem_cons.mpr ⟨tw_130, (List.forall_mem_cons.mpr ⟨tw_671, (List.forall_mem_cons.mpr ⟨tw_672, (List.forall_mem_cons.mpr ⟨tw_673, (List.forall_mem_cons.mpr ⟨tw_674, (List.forall_mem_cons.mpr ⟨tw_675, (List.forall_mem_cons.mpr ⟨tw_676, (List.forall_mem_cons.mpr ⟨tw_677, (List.forall_mem_cons.mpr ⟨tw_678, (fun _ h => absurd h List.not_mem_nil)⟩)⟩)⟩)⟩)⟩)⟩)⟩)⟩)⟩)⟩)⟩)⟩)⟩)⟩)⟩)⟩)⟩)⟩)⟩)⟩)⟩)⟩)⟩)⟩)
set_option maxRecDepth 20000 in
theorem tl_X11_swap_r2 : ∀ w ∈ wsX11_swap_r2, w ∈ lw_tbl := (List.forall_mem_cons.mpr ⟨tw_168, (List.forall_mem_cons.mpr ⟨tw_169, (List.forall_mem_cons.mpr ⟨tw_170, (List.forall_mem_cons.mpr ⟨tw_660, (List.forall_mem_cons.mpr ⟨tw_661, (List.forall_mem_cons.mpr ⟨tw_662, (List.forall_mem_cons.mpr ⟨tw_656, (List.forall_mem_cons.mpr ⟨tw_657, (List.forall_mem_cons.mpr ⟨tw_658, (List.forall_mem_cons.mpr ⟨tw_659, (List.forall_mem_cons.mpr ⟨tw_813, (List.forall_mem_cons.mpr ⟨tw_814, (List.forall_mem_cons.mpr ⟨tw_815, (List.forall_mem_cons.mpr ⟨tw_816, (List.forall_mem_cons.mpr ⟨tw_698, (List.forall_mem_cons.mpr ⟨tw_699, (List.forall_mem_cons.mpr ⟨tw_817, (List.forall_mem_cons.mpr ⟨tw_818, (List.forall_mem_cons.mpr ⟨tw_819, (List.forall_mem_cons.mpr ⟨tw_820, (List.forall_mem_cons.mpr ⟨tw_567, (List.forall_mem_cons.mpr ⟨tw_758, (List.forall_mem_cons.mpr ⟨tw_759, (List.forall_mem_cons.mpr ⟨tw_760, (fun _ h => absurd h List.not_mem_nil)⟩)⟩)⟩)⟩)⟩)⟩)⟩)⟩)⟩)⟩)⟩)⟩)⟩)⟩)⟩)⟩)⟩)⟩)⟩)⟩)⟩)⟩)⟩)⟩)
set_option maxRecDepth 20000 in
theorem tl_X11_swap_r3 : ∀ w ∈ wsX11_swap_r3, w ∈ lw_tbl := (List.forall_mem_cons.mpr ⟨tw_761, (List.forall_mem_cons.mpr ⟨tw_754, (List.forall_mem_cons.mpr ⟨tw_755, (List.forall_mem_cons.mpr ⟨tw_756, (List.forall_mem_cons.mpr ⟨tw_757, (fun _ h => absurd h List.not_mem_nil)⟩)⟩)⟩)⟩)⟩)
set_option maxRecDepth 20000 in
theorem tl_X10_scale_r1 : ∀ w ∈ wsX10_scale_r1, w ∈ lw_tbl := (List.forall_mem_cons.mpr ⟨tw_16, (List.forall_mem_cons.mpr ⟨tw_7, (List.forall_mem_cons.mpr ⟨tw_183, (List.forall_mem_cons.mpr ⟨tw_429, (List.forall_mem_cons.mpr ⟨tw_430, (List.forall_mem_cons.mpr ⟨tw_431, (List.forall_mem_cons.mpr ⟨tw_15, (List.forall_mem_cons.mpr ⟨tw_432, (List.forall_mem_cons.mpr ⟨tw_83, (List.forall_mem_cons.mpr ⟨tw_395, (List.forall_mem_cons.mpr ⟨tw_85, (List.forall_mem_cons.mpr ⟨tw_433, (List.forall_mem_cons.mpr ⟨tw_396, (List.forall_mem_cons.mpr ⟨tw_397, (List.forall_mem_cons.mpr ⟨tw_398, (List.forall_mem_cons.mpr ⟨tw_31, (List.forall_mem_cons.mpr ⟨tw_399, (List.forall_mem_cons.mpr ⟨tw_54, (List.forall_mem_cons.mpr ⟨tw_434, (List.forall_mem_cons.mpr ⟨tw_157, (List.forall_mem_cons.mpr ⟨tw_435, (List.forall_mem_cons.mpr ⟨tw_436, (List.forall_mem_cons.mpr ⟨tw_437, (List.forall_mem_cons.mpr ⟨tw_438, (fun _ h => absurd h List.not_mem_nil)⟩)⟩)⟩)⟩)⟩)⟩)⟩)⟩)⟩)⟩)⟩)⟩)⟩)⟩)⟩)⟩)⟩)⟩)⟩)⟩)⟩)⟩)⟩)⟩)
set_option maxRecDepth 20000 in
theorem tl_X10_scale_r2 : ∀ w ∈ wsX10_scale_r2, w ∈ lw_tbl := (List.forall_mem_cons.mpr ⟨tw_439, (List.forall_mem_cons.mpr ⟨tw_55, (List.forall_mem_cons.mpr ⟨tw_427, (List.forall_mem_cons.mpr ⟨tw_410, (List.forall_mem_cons.mpr ⟨tw_411, (List.forall_mem_cons.mpr ⟨tw_412, (List.forall_mem_cons.mpr ⟨tw_57, (List.forall_mem_cons.mpr ⟨tw_400, (List.forall_mem_cons.mpr ⟨tw_401, (List.forall_mem_cons.mpr ⟨tw_402, (List.forall_mem_cons.mpr ⟨tw_403, (List.forall_mem_cons.mpr ⟨tw_404, (List.forall_mem_cons.mpr ⟨tw_200, (List.forall_mem_cons.mpr ⟨tw_201, (List.forall_mem_cons.mpr ⟨tw_202, (List.forall_mem_cons.mpr ⟨tw_58, (List.forall_mem_cons.mpr ⟨tw_405, (List.forall_mem_cons.mpr ⟨tw_406, (List.forall_mem_cons.mpr ⟨tw_407, (List.forall_mem_cons.mpr ⟨tw_36, (List.forall_mem_cons.mpr ⟨tw_408, (List.forall_mem_cons.mpr ⟨tw_373, (List.forall_mem_cons.mpr ⟨tw_378, (List.forall_mem_cons.mpr ⟨tw_64, (fun _ h => absurd h List.not_mem_nil)⟩)⟩)⟩)⟩)⟩)⟩)⟩)⟩)⟩)⟩)⟩)⟩)⟩)⟩)⟩)⟩)⟩)⟩)⟩)⟩)⟩)⟩)⟩)⟩)
set_option maxRecDepth 20000 in
theorem tl_X10_scale_r3 : ∀ w ∈ wsX10_scale_r3, w ∈ lw_tbl := (List.forall_mem_cons.mpr ⟨tw_409, (List.forall_mem_cons.mpr ⟨tw_413, (List.forall_mem_cons.mpr ⟨tw_414, (List.forall_mem_cons.mpr ⟨tw_415, (List.forall_mem_cons.mpr ⟨tw_416, (List.forall_mem_cons.mpr ⟨tw_440, (List.forall_mem_cons.mpr ⟨tw_441, (List.forall_mem_cons.mpr ⟨tw_442, (List.forall_mem_cons.mpr ⟨tw_443, (List.forall_mem_cons.mpr ⟨tw_374, (List.forall_mem_cons.mpr ⟨tw_375, (List.forall_mem_cons.mpr ⟨tw_376, (List.forall_mem_cons.mpr ⟨tw_377, (List.forall_mem_cons.mpr ⟨tw_379, (List.forall_mem_cons.mpr ⟨tw_380, (List.forall_mem_cons.mpr ⟨tw_381, (List.forall_mem_cons.mpr ⟨tw_382, (List.forall_mem_cons.mpr ⟨tw_383, (List.forall_mem_cons.mpr ⟨tw_384, (List.forall_mem_cons.mpr ⟨tw_444, (List.forall_mem_cons.mpr ⟨tw_445, (List.forall_mem_cons.mpr ⟨tw_446, (List.forall_mem_cons.mpr ⟨tw_447, (List.forall_mem_cons.mpr ⟨tw_448, (fun _ h => absurd h List.not_mem_nil)⟩)⟩)⟩)⟩)⟩)⟩)⟩)⟩)⟩)⟩)⟩)⟩)⟩)⟩)⟩)⟩)⟩)⟩)⟩)⟩)⟩)⟩)⟩)⟩)
set_option maxRecDepth 20000 in
theorem tl_X10_scale_r4 : ∀ w ∈ wsX10_scale_r4, w ∈ lw_tbl := (List.forall_mem_cons.mpr ⟨tw_449, (List.forall_mem_cons.mpr ⟨tw_417, (List.forall_mem_cons.mpr ⟨tw_386, (List.forall_mem_cons.mpr ⟨tw_387, (List.forall_mem_cons.mpr ⟨tw_388, (List.forall_mem_cons.mpr ⟨tw_389, (List.forall_mem_cons.mpr ⟨tw_390, (List.forall_mem_cons.mpr ⟨tw_783, (List.forall_mem_cons.mpr ⟨tw_784, (List.forall_mem_cons.mpr ⟨tw_785, (List.forall_mem_cons.mpr ⟨tw_786, (List.forall_mem_cons.mpr ⟨tw_787, (List.forall_mem_cons.mpr ⟨tw_788, (List.forall_mem_cons.mpr ⟨tw_789, (List.forall_mem_cons.mpr ⟨tw_790, (List.forall_mem_cons.mpr ⟨tw_791, (List.forall_mem_cons.mpr ⟨tw_12, (List.forall_mem_cons.mpr ⟨tw_356, (List.forall_mem_cons.mpr ⟨tw_792, (List.forall_mem_cons.mpr ⟨tw_793, (List.forall_mem_cons.mpr ⟨tw_794, (List.forall_mem_cons.mpr ⟨tw_11, (List.forall_mem_cons.mpr ⟨tw_795, (List.forall_mem_cons.mpr ⟨tw_556, (fun _ h => absurd h List.not_mem_nil)⟩)⟩)⟩)⟩)⟩)⟩)⟩)⟩)⟩)⟩)⟩)⟩)⟩)⟩)⟩)⟩)⟩)⟩)⟩)⟩)⟩)⟩)⟩)⟩)
set_option maxRecDepth 20000 in
theorem tl_X10_scale_r5 : ∀ w ∈ wsX10_scale_r5, w ∈ lw_tbl := (List.forall_mem_cons.mpr ⟨tw_78, (List.forall_mem_cons.mpr ⟨tw_77, (List.forall_mem_cons.mpr ⟨tw_30, (List.forall_mem_cons.mpr ⟨tw_555, (List.forall_mem_cons.mpr ⟨tw_796, (List.forall_mem_cons.mpr ⟨tw_797, (List.forall_mem_cons.mpr ⟨tw_500, (List.forall_mem_cons.mpr ⟨tw_798, (List.forall_mem_cons.mpr ⟨tw_799, (List.forall_mem_cons.mpr ⟨tw_51, (List.forall_mem_cons.mpr ⟨tw_52, (List.forall_mem_cons.mpr ⟨tw_53, (List.forall_mem_cons.mpr ⟨tw_2, (List.forall_mem_cons.mpr ⟨tw_3, (List.forall_mem_cons.mpr ⟨tw_56, (List.forall_mem_cons.mpr ⟨tw_59, (List.forall_mem_cons.mpr ⟨tw_35, (List.forall_mem_cons.mpr ⟨tw_60, (List.forall_mem_cons.mpr ⟨tw_61, (List.forall_mem_cons.mpr ⟨tw_62, (List.forall_mem_cons.mpr ⟨tw_63, (List.forall_mem_cons.mpr ⟨tw_65, (List.forall_mem_cons.mpr ⟨tw_66, (List.forall_mem_cons.mpr ⟨tw_67, (fun _ h => absurd h List.not_mem_nil)⟩)⟩)⟩)⟩)⟩)⟩)⟩)⟩)⟩)⟩)⟩)⟩)⟩)⟩)⟩)⟩)⟩)⟩)⟩)⟩)⟩)⟩)⟩)⟩)
set_option maxRecDepth 20000 in
theorem tl_X10_scale_r6 : ∀ w ∈ wsX10_scale_r6, w ∈ lw_tbl := (List.forall_mem_cons.mpr ⟨tw_68, (List.forall_mem_cons.mpr ⟨tw_800, (List.forall_mem_cons.mpr ⟨tw_550, (fun _ h => absurd h List.not_mem_nil)⟩)⟩)⟩)
set_option maxRecDepth 20000 in
theorem tl_X11_scale_r1 : ∀ w ∈ wsX11_scale_r1, w ∈ lw_tbl := (List.forall_mem_cons.mpr ⟨tw_622, (List.forall_mem_cons.mpr ⟨tw_623, (List.forall_mem_cons.mpr ⟨tw_624, (List.forall_mem_cons.mpr ⟨tw_144, (List.forall_mem_cons.mpr ⟨tw_625, (List.forall_mem_cons.mpr ⟨tw_626, (List.forall_mem_cons.mpr ⟨tw_627, (List.forall_mem_cons.mpr ⟨tw_628, (List.forall_mem_cons.mpr ⟨tw_629, (List.forall_mem_cons.mpr ⟨tw_630, (List.forall_mem_cons.mpr ⟨tw_631, (List.forall_mem_cons.mpr ⟨tw_124, (List.forall_mem_cons.mpr ⟨tw_632, (List.forall_mem_cons.mpr ⟨tw_633, (List.forall_mem_cons.mpr ⟨tw_129, (List.forall_mem_cons.mpr ⟨tw_130, (List.forall_mem_cons.mpr ⟨tw_679, (List.forall_mem_cons.mpr ⟨tw_680, (List.forall_mem_cons.mpr ⟨tw_681, (List.forall_mem_cons.mpr ⟨tw_682, (List.forall_mem_cons.mpr ⟨tw_652, (List.forall_mem_cons.mpr ⟨tw_640, (List.forall_mem_cons.mpr ⟨tw_641, (List.forall_mem_cons.mpr ⟨tw_675, (fun _ h => absurd h List.not_mem_nil)⟩)⟩)⟩)⟩)⟩)⟩)⟩)⟩)⟩)⟩)⟩)⟩)⟩)⟩)⟩)⟩)⟩)⟩)⟩)⟩)⟩)⟩)⟩)⟩)
set_option maxRecDepth 20000 in
theorem tl_X11_scale_r2 : ∀ w ∈ wsX11_scale_r2, w ∈ lw_tbl := (List.forall_mem_cons.mpr ⟨tw_676, (List.forall_mem_cons.mpr ⟨tw_677, (List.forall_mem_cons.mpr ⟨tw_678, (List.forall_mem_cons.mpr ⟨tw_168, (List.forall_mem_cons.mpr ⟨tw_169, (List.forall_mem_cons.mpr ⟨tw_170, (List.forall_mem_cons.mpr ⟨tw_683, (List.forall_mem_cons.mpr ⟨tw_684, (List.forall_mem_cons.mpr ⟨tw_685, (List.forall_mem_cons.mpr ⟨tw_686, (List.forall_mem_cons.mpr ⟨tw_687, (List.forall_mem_cons.mpr ⟨tw_688, (List.forall_mem_cons.mpr ⟨tw_689, (List.forall_mem_cons.mpr ⟨tw_660, (List.forall_mem_cons.mpr ⟨tw_661, (List.forall_mem_cons.mpr ⟨tw_662, (List.forall_mem_cons.mpr ⟨tw_690, (List.forall_mem_cons.mpr ⟨tw_691, (List.forall_mem_cons.mpr ⟨tw_692, (List.forall_mem_cons.mpr ⟨tw_693, (List.forall_mem_cons.mpr ⟨tw_646, (List.forall_mem_cons.mpr ⟨tw_647, (List.forall_mem_cons.mpr ⟨tw_648, (List.forall_mem_cons.mpr ⟨tw_649, (fun _ h => absurd h List.not_mem_nil)⟩)⟩)⟩)⟩)⟩)⟩)⟩)⟩)⟩)⟩)⟩)⟩)⟩)⟩)⟩)⟩)⟩)⟩)⟩)⟩)⟩)⟩)⟩)⟩)
set_option maxRecDepth 20000 in
theorem tl_X11_scale_r3 : ∀ w ∈ wsX11_scale_r3, w ∈ lw_tbl := (List.forall_mem_cons.mpr ⟨tw_650, (List.forall_mem_cons.mpr ⟨tw_651, (List.forall_mem_cons.mpr ⟨tw_653, (List.forall_mem_cons.mpr ⟨tw_654, (List.forall_mem_cons.mpr ⟨tw_655, (List.forall_mem_cons.mpr ⟨tw_694, (List.forall_mem_cons.mpr ⟨tw_695, (List.forall_mem_cons.mpr ⟨tw_696, (List.forall_mem_cons.mpr ⟨tw_697, (List.forall_mem_cons.mpr ⟨tw_698, (List.forall_mem_cons.mpr ⟨tw_699, (List.forall_mem_cons.mpr ⟨tw_656, (List.forall_mem_cons.mpr ⟨tw_657, (List.forall_mem_cons.mpr ⟨tw_658, (List.forall_mem_cons.mpr ⟨tw_659, (List.forall_mem_cons.mpr ⟨tw_813, (List.forall_mem_cons.mpr ⟨tw_814, (List.forall_mem_cons.mpr ⟨tw_815, (List.forall_mem_cons.mpr ⟨tw_816, (List.forall_mem_cons.mpr ⟨tw_817, (List.forall_mem_cons.mpr ⟨tw_818, (List.forall_mem_cons.mpr ⟨tw_819, (List.forall_mem_cons.mpr ⟨tw_820, (List.forall_mem_cons.mpr ⟨tw_567, (fun _ h => absurd h List.not_mem_nil)⟩)⟩)⟩)⟩)⟩)⟩)⟩)⟩)⟩)⟩)⟩)⟩)⟩)⟩)⟩)⟩)⟩)⟩)⟩)⟩)⟩)⟩)⟩)⟩)
set_option maxRecDepth 20000 in
theorem tl_X11_scale_r4 : ∀ w ∈ wsX11_scale_r4, w ∈ lw_tbl := (List.forall_mem_cons.mpr ⟨tw_758, (List.forall_mem_cons.mpr ⟨tw_759, (List.forall_mem_cons.mpr ⟨tw_760, (List.forall_mem_cons.mpr ⟨tw_761, (List.forall_mem_cons.mpr ⟨tw_754, (List.forall_mem_cons.mpr ⟨tw_755, (List.forall_mem_cons.mpr ⟨tw_756, (List.forall_mem_cons.mpr ⟨tw_757, (fun _ h => absurd h List.not_mem_nil)⟩)⟩)⟩)⟩)⟩)⟩)⟩)⟩)
set_option maxRecDepth 20000 in
theorem tl_X10_add_r1 : ∀ w ∈ wsX10_add_r1, w ∈ lw_tbl := (List.forall_mem_cons.mpr ⟨tw_16, (List.forall_mem_cons.mpr ⟨tw_7, (List.forall_mem_cons.mpr ⟨tw_183, (List.forall_mem_cons.mpr ⟨tw_450, (List.forall_mem_cons.mpr ⟨tw_451, (List.forall_mem_cons.mpr ⟨tw_452, (List.forall_mem_cons.mpr ⟨tw_15, (List.forall_mem_cons.mpr ⟨tw_453, (List.forall_mem_cons.mpr ⟨tw_83, (List.forall_mem_cons.mpr ⟨tw_85, (List.forall_mem_cons.mpr ⟨tw_454, (List.forall_mem_cons.mpr ⟨tw_455, (List.forall_mem_cons.mpr ⟨tw_396, (List.forall_mem_cons.mpr ⟨tw_397, (List.forall_mem_cons.mpr ⟨tw_398, (List.forall_mem_cons.mpr ⟨tw_31, (List.forall_mem_cons.mpr ⟨tw_399, (List.forall_mem_cons.mpr ⟨tw_54, (List.forall_mem_cons.mpr ⟨tw_434, (List.forall_mem_cons.mpr ⟨tw_157, (List.forall_mem_cons.mpr ⟨tw_435, (List.forall_mem_cons.mpr ⟨tw_436, (List.forall_mem_cons.mpr ⟨tw_437, (List.forall_mem_cons.mpr ⟨tw_438, (fun _ h => absurd h List.not_mem_nil)⟩)⟩)⟩)⟩)⟩)⟩)⟩)⟩)⟩)⟩)⟩)⟩)⟩)⟩)⟩)⟩)⟩)⟩)⟩)⟩)⟩)⟩)⟩)⟩)
set_option maxRecDepth 20000 in
theorem tl_X10_add_r2 : ∀ w ∈ wsX10_add_r2, w ∈ lw_tbl := (List.forall_mem_cons.mpr ⟨tw_439, (List.forall_mem_cons.mpr ⟨tw_55, (List.forall_mem_cons.mpr ⟨tw_427, (List.forall_mem_cons.mpr ⟨tw_410, (List.forall_mem_cons.mpr ⟨tw_411, (List.forall_mem_cons.mpr ⟨tw_412, (List.forall_mem_cons.mpr ⟨tw_57, (List.forall_mem_cons.mpr ⟨tw_400, (List.forall_mem_cons.mpr ⟨tw_401, (List.forall_mem_cons.mpr ⟨tw_402, (List.forall_mem_cons.mpr ⟨tw_403, (List.forall_mem_cons.mpr ⟨tw_404, (List.forall_mem_cons.mpr ⟨tw_200, (List.forall_mem_cons.mpr ⟨tw_201, (List.forall_mem_cons.mpr ⟨tw_202, (List.forall_mem_cons.mpr ⟨tw_58, (List.forall_mem_cons.mpr ⟨tw_456, (List.forall_mem_cons.mpr ⟨tw_370, (List.forall_mem_cons.mpr ⟨tw_371, (List.forall_mem_cons.mpr ⟨tw_36, (List.forall_mem_cons.mpr ⟨tw_372, (List.forall_mem_cons.mpr ⟨tw_373, (List.forall_mem_cons.mpr ⟨tw_374, (List.forall_mem_cons.mpr ⟨tw_375, (fun _ h => absurd h List.not_mem_nil)⟩)⟩)⟩)⟩)⟩)⟩)⟩)⟩)⟩)⟩)⟩)⟩)⟩)⟩)⟩)⟩)⟩)⟩)⟩)⟩)⟩)⟩)⟩)⟩)
set_option maxRecDepth 20000 in
theorem tl_X10_add_r3 : ∀ w ∈ wsX10_add_r3, w ∈ lw_tbl := (List.forall_mem_cons.mpr ⟨tw_376, (List.forall_mem_cons.mpr ⟨tw_377, (List.forall_mem_cons.mpr ⟨tw_378, (List.forall_mem_cons.mpr ⟨tw_64, (List.forall_mem_cons.mpr ⟨tw_379, (List.forall_mem_cons.mpr ⟨tw_380, (List.forall_mem_cons.mpr ⟨tw_381, (List.forall_mem_cons.mpr ⟨tw_382, (List.forall_mem_cons.mpr ⟨tw_383, (List.forall_mem_cons.mpr ⟨tw_384, (List.forall_mem_cons.mpr ⟨tw_457, (List.forall_mem_cons.mpr ⟨tw_458, (List.forall_mem_cons.mpr ⟨tw_459, (List.forall_mem_cons.mpr ⟨tw_460, (List.forall_mem_cons.mpr ⟨tw_60, (List.forall_mem_cons.mpr ⟨tw_461, (List.forall_mem_cons.mpr ⟨tw_422, (List.forall_mem_cons.mpr ⟨tw_406, (List.forall_mem_cons.mpr ⟨tw_407, (List.forall_mem_cons.mpr ⟨tw_408, (List.forall_mem_cons.mpr ⟨tw_409, (List.forall_mem_cons.mpr ⟨tw_413, (List.forall_mem_cons.mpr ⟨tw_414, (List.forall_mem_cons.mpr ⟨tw_415, (fun _ h => absurd h List.not_mem_nil)⟩)⟩)⟩)⟩)⟩)⟩)⟩)⟩)⟩)⟩)⟩)⟩)⟩)⟩)⟩)⟩)⟩)⟩)⟩)⟩)⟩)⟩)⟩)⟩)
set_option maxRecDepth 20000 in
theorem tl_X10_add_r4 : ∀ w ∈ wsX10_add_r4, w ∈ lw_tbl := (List.forall_mem_cons.mpr ⟨tw_416, (List.forall_mem_cons.mpr ⟨tw_462, (List.forall_mem_cons.mpr ⟨tw_441, (List.forall_mem_cons.mpr ⟨tw_442, (List.forall_mem_cons.mpr ⟨tw_443, (List.forall_mem_cons.mpr ⟨tw_428, (List.forall_mem_cons.mpr ⟨tw_463, (List.forall_mem_cons.mpr ⟨tw_464, (List.forall_mem_cons.mpr ⟨tw_465, (List.forall_mem_cons.mpr ⟨tw_466, (List.forall_mem_cons.mpr ⟨tw_467, (List.forall_mem_cons.mpr ⟨tw_386, (List.forall_mem_cons.mpr ⟨tw_387, (List.forall_mem_cons.mpr ⟨tw_388, (List.forall_mem_cons.mpr ⟨tw_389, (List.forall_mem_cons.mpr ⟨tw_390, (List.forall_mem_cons.mpr ⟨tw_444, (List.forall_mem_cons.mpr ⟨tw_445, (List.forall_mem_cons.mpr ⟨tw_446, (List.forall_mem_cons.mpr ⟨tw_447, (List.forall_mem_cons.mpr ⟨tw_448, (List.forall_mem_cons.mpr ⟨tw_449, (List.forall_mem_cons.mpr ⟨tw_783, (List.forall_mem_cons.mpr ⟨tw_784, (fun _ h => absurd h List.not_mem_nil)⟩)⟩)⟩)⟩)⟩)⟩)⟩)⟩)⟩)⟩)⟩)⟩)⟩)⟩)⟩)⟩)⟩)⟩)⟩)⟩)⟩)⟩)⟩)⟩)
set_option maxRecDepth 20000 in
theorem tl_X10_add_r5 : ∀ w ∈ wsX10_add_r5, w ∈ lw_tbl := (List.forall_mem_cons.mpr ⟨tw_785, (List.forall_mem_cons.mpr ⟨tw_786, (List.forall_mem_cons.mpr ⟨tw_787, (List.forall_mem_cons.mpr ⟨tw_788, (List.forall_mem_cons.mpr ⟨tw_789, (List.forall_mem_cons.mpr ⟨tw_790, (List.forall_mem_cons.mpr ⟨tw_791, (List.forall_mem_cons.mpr ⟨tw_12, (List.forall_mem_cons.mpr ⟨tw_356, (List.forall_mem_cons.mpr ⟨tw_792, (List.forall_mem_cons.mpr ⟨tw_793, (List.forall_mem_cons.mpr ⟨tw_794, (List.forall_mem_cons.mpr ⟨tw_11, (List.forall_mem_cons.mpr ⟨tw_795, (List.forall_mem_cons.mpr ⟨tw_556, (List.forall_mem_cons.mpr ⟨tw_78, (List.forall_mem_cons.mpr ⟨tw_77, (List.forall_mem_cons.mpr ⟨tw_30, (List.forall_mem_cons.mpr ⟨tw_555, (List.forall_mem_cons.mpr ⟨tw_796, (List.forall_mem_cons.mpr ⟨tw_797, (List.forall_mem_cons.mpr ⟨tw_500, (List.forall_mem_cons.mpr ⟨tw_798, (List.forall_mem_cons.mpr ⟨tw_799, (fun _ h => absurd h List.not_mem_nil)⟩)⟩)⟩)⟩)⟩)⟩)⟩)⟩)⟩)⟩)⟩)⟩)⟩)⟩)⟩)⟩)⟩)⟩)⟩)⟩)⟩)⟩)⟩)⟩)
set_option maxRecDepth 20000 in
theorem tl_X10_add_r6 : ∀ w ∈ wsX10_add_r6, w ∈ lw_tbl := (List.forall_mem_cons.mpr ⟨tw_51, (List.forall_mem_cons.mpr ⟨tw_52, (List.forall_mem_cons.mpr ⟨tw_53, (List.forall_mem_cons.mpr ⟨tw_2, (List.forall_mem_cons.mpr ⟨tw_3, (List.forall_mem_cons.mpr ⟨tw_56, (List.forall_mem_cons.mpr ⟨tw_59, (List.forall_mem_cons.mpr ⟨tw_35, (List.forall_mem_cons.mpr ⟨tw_61, (List.forall_mem_cons.mpr ⟨tw_62, (List.forall_mem_cons.mpr ⟨tw_63, (List.forall_mem_cons.mpr ⟨tw_65, (List.forall_mem_cons.mpr ⟨tw_66, (List.forall_mem_cons.mpr ⟨tw_67, (List.forall_mem_cons.mpr ⟨tw_68, (List.forall_mem_cons.mpr ⟨tw_800, (List.forall_mem_cons.mpr ⟨tw_550, (fun _ h => absurd h List.not_mem_nil)⟩)⟩)⟩)⟩)⟩)⟩)⟩)⟩)⟩)⟩)⟩)⟩)⟩)⟩)⟩)⟩)⟩)
set_option maxRecDepth 20000 in
theorem tl_X11_add_r1 : ∀ w ∈ wsX11_add_r1, w ∈ lw_tbl := (List.forall_mem_cons.mpr ⟨tw_622, (List.forall_mem_cons.mpr ⟨tw_623, (List.forall_mem_cons.mpr ⟨tw_624, (List.forall_mem_cons.mpr ⟨tw_144, (List.forall_mem_cons.mpr ⟨tw_625, (List.forall_mem_cons.mpr ⟨tw_626, (List.forall_mem_cons.mpr ⟨tw_627, (List.forall_mem_cons.mpr ⟨tw_628, (List.forall_mem_cons.mpr ⟨tw_629, (List.forall_mem_cons.mpr ⟨tw_630, (List.forall_mem_cons.mpr ⟨tw_631, (List.forall_mem_cons.mpr ⟨tw_124, (List.forall_mem_cons.mpr ⟨tw_632, (List.forall_mem_cons.mpr ⟨tw_633, (List.forall_mem_cons.mpr ⟨tw_129, (List.forall_mem_cons.mpr ⟨tw_130, (List.forall_mem_cons.mpr ⟨tw_700, (List.forall_mem_cons.mpr ⟨tw_701, (List.forall_mem_cons.mpr ⟨tw_702, (List.forall_mem_cons.mpr ⟨tw_703, (List.forall_mem_cons.mpr ⟨tw_640, (List.forall_mem_cons.mpr ⟨tw_641, (List.forall_mem_cons.mpr ⟨tw_675, (List.forall_mem_cons.mpr ⟨tw_676, (fun _ h => absurd h List.not_mem_nil)⟩)⟩)⟩)⟩)⟩)⟩)⟩)⟩)⟩)⟩)⟩)⟩)⟩)⟩)⟩)⟩)⟩)⟩)⟩)⟩)⟩)⟩)⟩)⟩)
set_option maxRecDepth 20000 in
theorem tl_X11_add_r2 : ∀ w ∈ wsX11_add_r2, w ∈ lw_tbl := (List.forall_mem_cons.mpr ⟨tw_677, (List.forall_mem_cons.mpr ⟨tw_678, (List.forall_mem_cons.mpr ⟨tw_168, (List.forall_mem_cons.mpr ⟨tw_169, (List.forall_mem_cons.mpr ⟨tw_170, (List.forall_mem_cons.mpr ⟨tw_683, (List.forall_mem_cons.mpr ⟨tw_684, (List.forall_mem_cons.mpr ⟨tw_685, (List.forall_mem_cons.mpr ⟨tw_686, (List.forall_mem_cons.mpr ⟨tw_687, (List.forall_mem_cons.mpr ⟨tw_688, (List.forall_mem_cons.mpr ⟨tw_689, (List.forall_mem_cons.mpr ⟨tw_660, (List.forall_mem_cons.mpr ⟨tw_661, (List.forall_mem_cons.mpr ⟨tw_662, (List.forall_mem_cons.mpr ⟨tw_646, (List.forall_mem_cons.mpr ⟨tw_647, (List.forall_mem_cons.mpr ⟨tw_648, (List.forall_mem_cons.mpr ⟨tw_649, (List.forall_mem_cons.mpr ⟨tw_650, (List.forall_mem_cons.mpr ⟨tw_651, (List.forall_mem_cons.mpr ⟨tw_652, (List.forall_mem_cons.mpr ⟨tw_653, (List.forall_mem_cons.mpr ⟨tw_654, (fun _ h => absurd h List.not_mem_nil)⟩)⟩)⟩)⟩)⟩)⟩)⟩)⟩)⟩)⟩)⟩)⟩)⟩)⟩)⟩)⟩)⟩)⟩)⟩)⟩)⟩)⟩)⟩)⟩)
set_option maxRecDepth 20000 in
theorem tl_X11_add_r3 : ∀ w ∈ wsX11_add_r3, w ∈ lw_tbl := (List.forall_mem_cons.mpr ⟨tw_655, (List.forall_mem_cons.mpr ⟨tw_704, (List.forall_mem_cons.mpr ⟨tw_705, (List.forall_mem_cons.mpr ⟨tw_706, (List.forall_mem_cons.mpr ⟨tw_707, (List.forall_mem_cons.mpr ⟨tw_708, (List.forall_mem_cons.mpr ⟨tw_690, (List.forall_mem_cons.mpr ⟨tw_691, (List.forall_mem_cons.mpr ⟨tw_692, (List.forall_mem_cons.mpr ⟨tw_693, (List.forall_mem_cons.mpr ⟨tw_694, (List.forall_mem_cons.mpr ⟨tw_695, (List.forall_mem_cons.mpr ⟨tw_696, (List.forall_mem_cons.mpr ⟨tw_697, (List.forall_mem_cons.mpr ⟨tw_698, (List.forall_mem_cons.mpr ⟨tw_699, (List.forall_mem_cons.mpr ⟨tw_709, (List.forall_mem_cons.mpr ⟨tw_710, (List.forall_mem_cons.mpr ⟨tw_711, (List.forall_mem_cons.mpr ⟨tw_712, (List.forall_mem_cons.mpr ⟨tw_656, (List.forall_mem_cons.mpr ⟨tw_657, (List.forall_mem_cons.mpr ⟨tw_658, (List.forall_mem_cons.mpr ⟨tw_659, (fun _ h => absurd h List.not_mem_nil)⟩)⟩)⟩)⟩)⟩)⟩)⟩)⟩)⟩)⟩)⟩)⟩)⟩)⟩)⟩)⟩)⟩)⟩)⟩)⟩)⟩)⟩)⟩)⟩)
set_option maxRecDepth 20000 in
theorem tl_X11_add_r4 : ∀ w ∈ wsX11_add_r4, w ∈ lw_tbl := (List.forall_mem_cons.mpr ⟨tw_813, (List.forall_mem_cons.mpr ⟨tw_814, (List.forall_mem_cons.mpr ⟨tw_815, (List.forall_mem_cons.mpr ⟨tw_816, (List.forall_mem_cons.mpr ⟨tw_817, (List.forall_mem_cons.mpr ⟨tw_818, (List.forall_mem_cons.mpr ⟨tw_819, (List.forall_mem_cons.mpr ⟨tw_820, (List.forall_mem_cons.mpr ⟨tw_567, (List.forall_mem_cons.mpr ⟨tw_758, (List.forall_mem_cons.mpr ⟨tw_759, (List.forall_mem_cons.mpr ⟨tw_760, (List.forall_mem_cons.mpr ⟨tw_761, (List.forall_mem_cons.mpr ⟨tw_754, (List.forall_mem_cons.mpr ⟨tw_755, (List.forall_mem_cons.mpr ⟨tw_756, (List.forall_mem_cons.mpr ⟨tw_757, (fun _ h => absurd h List.not_mem_nil)⟩)⟩)⟩)⟩)⟩)⟩)⟩)⟩)⟩)⟩)⟩)⟩)⟩)⟩)⟩)⟩)⟩)
set_option maxRecDepth 20000 in
theorem tl_X10_reduce_r1 : ∀ w ∈ wsX10_reduce_r1, w ∈ lw_tbl := (List.forall_mem_cons.mpr ⟨tw_20, (List.forall_mem_cons.mpr ⟨tw_7, (List.forall_mem_cons.mpr ⟨tw_183, (List.forall_mem_cons.mpr ⟨tw_16, (List.forall_mem_cons.mpr ⟨tw_849, (List.forall_mem_cons.mpr ⟨tw_850, (List.forall_mem_cons.mpr ⟨tw_157, (List.forall_mem_cons.mpr ⟨tw_851, (List.forall_mem_cons.mpr ⟨tw_783, (List.forall_mem_cons.mpr ⟨tw_784, (List.forall_mem_cons.mpr ⟨tw_785, (List.forall_mem_cons.mpr ⟨tw_786, (List.forall_mem_cons.mpr ⟨tw_787, (List.forall_mem_cons.mpr ⟨tw_788, (List.forall_mem_cons.mpr ⟨tw_789, (List.forall_mem_cons.mpr ⟨tw_790, (List.forall_mem_cons.mpr ⟨tw_791, (List.forall_mem_cons.mpr ⟨tw_12, (List.forall_mem_cons.mpr ⟨tw_356, (List.forall_mem_cons.mpr ⟨tw_792, (List.forall_mem_cons.mpr ⟨tw_793, (List.forall_mem_cons.mpr ⟨tw_794, (List.forall_mem_cons.mpr ⟨tw_11, (List.forall_mem_cons.mpr ⟨tw_795, (fun _ h => absurd h List.not_mem_nil)⟩)⟩)⟩)⟩)⟩)⟩)⟩)⟩)⟩)⟩)⟩)⟩)⟩)⟩)⟩)⟩)⟩)⟩)⟩)⟩)⟩)⟩)⟩)⟩)
set_option maxRecDepth 20000 in
theorem tl_X10_reduce_r2 : ∀ w ∈ wsX10_reduce_r2, w ∈ lw_tbl := (List.forall_mem_cons.mpr ⟨tw_556, (List.forall_mem_cons.mpr ⟨tw_78, (List.forall_mem_cons.mpr ⟨tw_77, (List.forall_mem_cons.mpr ⟨tw_30, (List.forall_mem_cons.mpr ⟨tw_31, (List.forall_mem_cons.mpr ⟨tw_555, (List.forall_mem_cons.mpr ⟨tw_796, (List.forall_mem_cons.mpr ⟨tw_797, (List.forall_mem_cons.mpr ⟨tw_500, (List.forall_mem_cons.mpr ⟨tw_798, (List.forall_mem_cons.mpr ⟨tw_799, (List.forall_mem_cons.mpr ⟨tw_51, (List.forall_mem_cons.mpr ⟨tw_52, (List.forall_mem_cons.mpr ⟨tw_53, (List.forall_mem_cons.mpr ⟨tw_2, (List.forall_mem_cons.mpr ⟨tw_3, (List.forall_mem_cons.mpr ⟨tw_54, (List.forall_mem_cons.mpr ⟨tw_55, (List.forall_mem_cons.mpr ⟨tw_56, (List.forall_mem_cons.mpr ⟨tw_57, (List.forall_mem_cons.mpr ⟨tw_58, (List.forall_mem_cons.mpr ⟨tw_59, (List.forall_mem_cons.mpr ⟨tw_35, (List.forall_mem_cons.mpr ⟨tw_36, (fun _ h => absurd h List.not_mem_nil)⟩)⟩)⟩)⟩)⟩)⟩)⟩)⟩)⟩)⟩)⟩)⟩)⟩)⟩)⟩)⟩)⟩)⟩)⟩)⟩)⟩)⟩)⟩)⟩)
set_option maxRecDepth 20000 in
theorem tl_X10_reduce_r3 : ∀ w ∈ wsX10_reduce_r3, w ∈ lw_tbl := (List.forall_mem_cons.mpr ⟨tw_60, (List.forall_mem_cons.mpr ⟨tw_61, (List.forall_mem_cons.mpr ⟨tw_62, (List.forall_mem_cons.mpr ⟨tw_63, (List.forall_mem_cons.mpr ⟨tw_64, (List.forall_mem_cons.mpr ⟨tw_65, (List.forall_mem_cons.mpr ⟨tw_66, (List.forall_mem_cons.mpr ⟨tw_67, (List.forall_mem_cons.mpr ⟨tw_68, (List.forall_mem_cons.mpr ⟨tw_800, (List.forall_mem_cons.mpr ⟨tw_401, (List.forall_mem_cons.mpr ⟨tw_402, (List.forall_mem_cons.mpr ⟨tw_403, (List.forall_mem_cons.mpr ⟨tw_404, (List.forall_mem_cons.mpr ⟨tw_200, (List.forall_mem_cons.mpr ⟨tw_201, (List.forall_mem_cons.mpr ⟨tw_202, (List.forall_mem_cons.mpr ⟨tw_550, (List.forall_mem_cons.mpr ⟨tw_468, (List.forall_mem_cons.mpr ⟨tw_469, (List.forall_mem_cons.mpr ⟨tw_470, (List.forall_mem_cons.mpr ⟨tw_19, (List.forall_mem_cons.mpr ⟨tw_471, (List.forall_mem_cons.mpr ⟨tw_91, (fun _ h => absurd h List.not_mem_nil)⟩)⟩)⟩)⟩)⟩)⟩)⟩)⟩)⟩)⟩)⟩)⟩)⟩)⟩)⟩)⟩)⟩)⟩)⟩)⟩)⟩)⟩)⟩)⟩)
set_option maxRecDepth 20000 in
theorem tl_X10_reduce_r4 : ∀ w ∈ wsX10_reduce_r4, w ∈ lw_tbl := (List.forall_mem_cons.mpr ⟨tw_472, (List.forall_mem_cons.mpr ⟨tw_473, (List.forall_mem_cons.mpr ⟨tw_474, (List.forall_mem_cons.mpr ⟨tw_475, (List.forall_mem_cons.mpr ⟨tw_476, (List.forall_mem_cons.mpr ⟨tw_477, (List.forall_mem_cons.mpr ⟨tw_92, (List.forall_mem_cons.mpr ⟨tw_93, (List.forall_mem_cons.mpr ⟨tw_478, (List.forall_mem_cons.mpr ⟨tw_95, (List.forall_mem_cons.mpr ⟨tw_94, (List.forall_mem_cons.mpr ⟨tw_479, (List.forall_mem_cons.mpr ⟨tw_480, (List.forall_mem_cons.mpr ⟨tw_481, (List.forall_mem_cons.mpr ⟨tw_482, (List.forall_mem_cons.mpr ⟨tw_483, (List.forall_mem_cons.mpr ⟨tw_484, (List.forall_mem_cons.mpr ⟨tw_485, (List.forall_mem_cons.mpr ⟨tw_486, (List.forall_mem_cons.mpr ⟨tw_487, (List.forall_mem_cons.mpr ⟨tw_488, (List.forall_mem_cons.mpr ⟨tw_489, (List.forall_mem_cons.mpr ⟨tw_490, (List.forall_mem_cons.mpr ⟨tw_491, (fun _ h => absurd h List.not_mem_nil)⟩)⟩)⟩)⟩)⟩)⟩)⟩)⟩)⟩)⟩)⟩)⟩)⟩)⟩)⟩)⟩)⟩)⟩)⟩)⟩)⟩)⟩)⟩)⟩)
set_option maxRecDepth 20000 in
theorem tl_X10_reduce_r5 : ∀ w ∈ wsX10_reduce_r5, w ∈ lw_tbl := (List.forall_mem_cons.mpr ⟨tw_492, (List.forall_mem_cons.mpr ⟨tw_493, (List.forall_mem_cons.mpr ⟨tw_410, (List.forall_mem_cons.mpr ⟨tw_411, (List.forall_mem_cons.mpr ⟨tw_412, (List.forall_mem_cons.mpr ⟨tw_494, (List.forall_mem_cons.mpr ⟨tw_495, (List.forall_mem_cons.mpr ⟨tw_496, (List.forall_mem_cons.mpr ⟨tw_497, (List.forall_mem_cons.mpr ⟨tw_498, (List.forall_mem_cons.mpr ⟨tw_499, (List.forall_mem_cons.mpr ⟨tw_501, (List.forall_mem_cons.mpr ⟨tw_502, (List.forall_mem_cons.mpr ⟨tw_503, (List.forall_mem_cons.mpr ⟨tw_504, (List.forall_mem_cons.mpr ⟨tw_505, (List.forall_mem_cons.mpr ⟨tw_506, (List.forall_mem_cons.mpr ⟨tw_437, (List.forall_mem_cons.mpr ⟨tw_438, (List.forall_mem_cons.mpr ⟨tw_439, (List.forall_mem_cons.mpr ⟨tw_427, (List.forall_mem_cons.mpr ⟨tw_507, (List.forall_mem_cons.mpr ⟨tw_508, (List.forall_mem_cons.mpr ⟨tw_509, (fun _ h => absurd h List.not_mem_nil)⟩)⟩)⟩)⟩)⟩)⟩)⟩)⟩)⟩)⟩)⟩)⟩)⟩)⟩)⟩)⟩)⟩)⟩)⟩)⟩)⟩)⟩)⟩)⟩)
set_option maxRecDepth 20000 in
theorem tl_X10_reduce_r6 : ∀ w ∈ wsX10_reduce_r6, w ∈ lw_tbl := (List.forall_mem_cons.mpr ⟨tw_510, (List.forall_mem_cons.mpr ⟨tw_511, (List.forall_mem_cons.mpr ⟨tw_512, (List.forall_mem_cons.mpr ⟨tw_513, (List.forall_mem_cons.mpr ⟨tw_514, (List.forall_mem_cons.mpr ⟨tw_515, (List.forall_mem_cons.mpr ⟨tw_516, (List.forall_mem_cons.mpr ⟨tw_517, (List.forall_mem_cons.mpr ⟨tw_518, (List.forall_mem_cons.mpr ⟨tw_414, (List.forall_mem_cons.mpr ⟨tw_415, (List.forall_mem_cons.mpr ⟨tw_416, (List.forall_mem_cons.mpr ⟨tw_519, (List.forall_mem_cons.mpr ⟨tw_520, (List.forall_mem_cons.mpr ⟨tw_521, (List.forall_mem_cons.mpr ⟨tw_522, (List.forall_mem_cons.mpr ⟨tw_97, (List.forall_mem_cons.mpr ⟨tw_523, (List.forall_mem_cons.mpr ⟨tw_524, (List.forall_mem_cons.mpr ⟨tw_525, (List.forall_mem_cons.mpr ⟨tw_526, (List.forall_mem_cons.mpr ⟨tw_527, (List.forall_mem_cons.mpr ⟨tw_528, (List.forall_mem_cons.mpr ⟨tw_406, (fun _ h => absurd h List.not_mem_nil)⟩)⟩)⟩)⟩)⟩)⟩)⟩)⟩)⟩)⟩)⟩)⟩)⟩)⟩)⟩)⟩)⟩)⟩)⟩)⟩)⟩)⟩)⟩)⟩)
set_option maxRecDepth 20000 in
theorem tl_X10_reduce_r7 : ∀ w ∈ wsX10_reduce_r7, w ∈ lw_tbl := (List.forall_mem_cons.mpr ⟨tw_407, (List.forall_mem_cons.mpr ⟨tw_408, (List.forall_mem_cons.mpr ⟨tw_373, (List.forall_mem_cons.mpr ⟨tw_378, (List.forall_mem_cons.mpr ⟨tw_409, (List.forall_mem_cons.mpr ⟨tw_413, (List.forall_mem_cons.mpr ⟨tw_529, (List.forall_mem_cons.mpr ⟨tw_530, (List.forall_mem_cons.mpr ⟨tw_531, (List.forall_mem_cons.mpr ⟨tw_532, (List.forall_mem_cons.mpr ⟨tw_374, (List.forall_mem_cons.mpr ⟨tw_375, (List.forall_mem_cons.mpr ⟨tw_376, (List.forall_mem_cons.mpr ⟨tw_377, (List.forall_mem_cons.mpr ⟨tw_379, (List.forall_mem_cons.mpr ⟨tw_380, (List.forall_mem_cons.mpr ⟨tw_381, (List.forall_mem_cons.mpr ⟨tw_382, (List.forall_mem_cons.mpr ⟨tw_383, (List.forall_mem_cons.mpr ⟨tw_384, (List.forall_mem_cons.mpr ⟨tw_533, (List.forall_mem_cons.mpr ⟨tw_534, (List.forall_mem_cons.mpr ⟨tw_535, (List.forall_mem_cons.mpr ⟨tw_536, (fun _ h => absurd h List.not_mem_nil)⟩)⟩)⟩)⟩)⟩)⟩)⟩)⟩)⟩)⟩)⟩)⟩)⟩)⟩)⟩)⟩)⟩)⟩)⟩)⟩)⟩)⟩)⟩)⟩)
set_option maxRecDepth 20000 in
theorem tl_X10_reduce_r8 : ∀ w ∈ wsX10_reduce_r8, w ∈ lw_tbl := (List.forall_mem_cons.mpr ⟨tw_537, (List.forall_mem_cons.mpr ⟨tw_458, (List.forall_mem_cons.mpr ⟨tw_459, (List.forall_mem_cons.mpr ⟨tw_460, (List.forall_mem_cons.mpr ⟨tw_461, (List.forall_mem_cons.mpr ⟨tw_422, (List.forall_mem_cons.mpr ⟨tw_462, (List.forall_mem_cons.mpr ⟨tw_441, (List.forall_mem_cons.mpr ⟨tw_442, (List.forall_mem_cons.mpr ⟨tw_443, (List.forall_mem_cons.mpr ⟨tw_428, (List.forall_mem_cons.mpr ⟨tw_463, (List.forall_mem_cons.mpr ⟨tw_464, (List.forall_mem_cons.mpr ⟨tw_465, (List.forall_mem_cons.mpr ⟨tw_466, (List.forall_mem_cons.mpr ⟨tw_467, (List.forall_mem_cons.mpr ⟨tw_386, (List.forall_mem_cons.mpr ⟨tw_387, (List.forall_mem_cons.mpr ⟨tw_388, (List.forall_mem_cons.mpr ⟨tw_389, (List.forall_mem_cons.mpr ⟨tw_390, (List.forall_mem_cons.mpr ⟨tw_538, (List.forall_mem_cons.mpr ⟨tw_539, (List.forall_mem_cons.mpr ⟨tw_540, (fun _ h => absurd h List.not_mem_nil)⟩)⟩)⟩)⟩)⟩)⟩)⟩)⟩)⟩)⟩)⟩)⟩)⟩)⟩)⟩)⟩)⟩)⟩)⟩)⟩)⟩)⟩)⟩)⟩)
set_option maxRecDepth 20000 in
theorem tl_X10_reduce_r9 : ∀ w ∈ wsX10_reduce_r9, w ∈ lw_tbl := (List.forall_mem_cons.mpr ⟨tw_15, (List.forall_mem_cons.mpr ⟨tw_541, (List.forall_mem_cons.mpr ⟨tw_542, (List.forall_mem_cons.mpr ⟨tw_543, (List.forall_mem_cons.mpr ⟨tw_544, (List.forall_mem_cons.mpr ⟨tw_83, (List.forall_mem_cons.mpr ⟨tw_545, (List.forall_mem_cons.mpr ⟨tw_444, (List.forall_mem_cons.mpr ⟨tw_445, (List.forall_mem_cons.mpr ⟨tw_446, (List.forall_mem_cons.mpr ⟨tw_447, (List.forall_mem_cons.mpr ⟨tw_448, (List.forall_mem_cons.mpr ⟨tw_449, (List.forall_mem_cons.mpr ⟨tw_400, (List.forall_mem_cons.mpr ⟨tw_418, (List.forall_mem_cons.mpr ⟨tw_419, (List.forall_mem_cons.mpr ⟨tw_420, (List.forall_mem_cons.mpr ⟨tw_421, (List.forall_mem_cons.mpr ⟨tw_423, (List.forall_mem_cons.mpr ⟨tw_424, (List.forall_mem_cons.mpr ⟨tw_425, (List.forall_mem_cons.mpr ⟨tw_426, (fun _ h => absurd h List.not_mem_nil)⟩)⟩)⟩)⟩)⟩)⟩)⟩)⟩)⟩)⟩)⟩)⟩)⟩)⟩)⟩)⟩)⟩)⟩)⟩)⟩)⟩)⟩)
set_option maxRecDepth 20000 in
theorem tl_X11_reduce_r1 : ∀ w ∈ wsX11_reduce_r1, w ∈ lw_tbl := (List.forall_mem_cons.mpr ⟨tw_622, (List.forall_mem_cons.mpr ⟨tw_623, (List.forall_mem_cons.mpr ⟨tw_624, (List.forall_mem_cons.mpr ⟨tw_144, (List.forall_mem_cons.mpr ⟨tw_625, (List.forall_mem_cons.mpr ⟨tw_626, (List.forall_mem_cons.mpr ⟨tw_627, (List.forall_mem_cons.mpr ⟨tw_628, (List.forall_mem_cons.mpr ⟨tw_629, (List.forall_mem_cons.mpr ⟨tw_630, (List.forall_mem_cons.mpr ⟨tw_631, (List.forall_mem_cons.mpr ⟨tw_124, (List.forall_mem_cons.mpr ⟨tw_632, (List.forall_mem_cons.mpr ⟨tw_633, (List.forall_mem_cons.mpr ⟨tw_129, (List.forall_mem_cons.mpr ⟨tw_130, (List.forall_mem_cons.mpr ⟨tw_713, (List.forall_mem_cons.mpr ⟨tw_714, (List.forall_mem_cons.mpr ⟨tw_715, (List.forall_mem_cons.mpr ⟨tw_716, (List.forall_mem_cons.mpr ⟨tw_168, (List.forall_mem_cons.mpr ⟨tw_169, (List.forall_mem_cons.mpr ⟨tw_170, (List.forall_mem_cons.mpr ⟨tw_717, (fun _ h => absurd h List.not_mem_nil)⟩)⟩)⟩)⟩)⟩)⟩)⟩)⟩)⟩)⟩)⟩)⟩)⟩)⟩)⟩)⟩)⟩)⟩)⟩)⟩)⟩)⟩)⟩)⟩)
set_option maxRecDepth 20000 in
theorem tl_X11_reduce_r2 : ∀ w ∈ wsX11_reduce_r2, w ∈ lw_tbl := (List.forall_mem_cons.mpr ⟨tw_718, (List.forall_mem_cons.mpr ⟨tw_719, (List.forall_mem_cons.mpr ⟨tw_720, (List.forall_mem_cons.mpr ⟨tw_721, (List.forall_mem_cons.mpr ⟨tw_135, (List.forall_mem_cons.mpr ⟨tw_136, (List.forall_mem_cons.mpr ⟨tw_131, (List.forall_mem_cons.mpr ⟨tw_132, (List.forall_mem_cons.mpr ⟨tw_722, (List.forall_mem_cons.mpr ⟨tw_723, (List.forall_mem_cons.mpr ⟨tw_724, (List.forall_mem_cons.mpr ⟨tw_725, (List.forall_mem_cons.mpr ⟨tw_133, (List.forall_mem_cons.mpr ⟨tw_134, (List.forall_mem_cons.mpr ⟨tw_660, (List.forall_mem_cons.mpr ⟨tw_661, (List.forall_mem_cons.mpr ⟨tw_662, (List.forall_mem_cons.mpr ⟨tw_726, (List.forall_mem_cons.mpr ⟨tw_727, (List.forall_mem_cons.mpr ⟨tw_728, (List.forall_mem_cons.mpr ⟨tw_729, (List.forall_mem_cons.mpr ⟨tw_730, (List.forall_mem_cons.mpr ⟨tw_731, (List.forall_mem_cons.mpr ⟨tw_732, (fun _ h => absurd h List.not_mem_nil)⟩)⟩)⟩)⟩)⟩)⟩)⟩)⟩)⟩)⟩)⟩)⟩)⟩)⟩)⟩)⟩)⟩)⟩)⟩)⟩)⟩)⟩)⟩)⟩)
set_option maxRecDepth 20000 in
theorem tl_X11_reduce_r3 : ∀ w ∈ wsX11_reduce_r3, w ∈ lw_tbl := (List.forall_mem_cons.mpr ⟨tw_733, (List.forall_mem_cons.mpr ⟨tw_734, (List.forall_mem_cons.mpr ⟨tw_735, (List.forall_mem_cons.mpr ⟨tw_736, (List.forall_mem_cons.mpr ⟨tw_737, (List.forall_mem_cons.mpr ⟨tw_738, (List.forall_mem_cons.mpr ⟨tw_739, (List.forall_mem_cons.mpr ⟨tw_740, (List.forall_mem_cons.mpr ⟨tw_741, (List.forall_mem_cons.mpr ⟨tw_742, (List.forall_mem_cons.mpr ⟨tw_743, (List.forall_mem_cons.mpr ⟨tw_744, (List.forall_mem_cons.mpr ⟨tw_745, (List.forall_mem_cons.mpr ⟨tw_746, (List.forall_mem_cons.mpr ⟨tw_747, (List.forall_mem_cons.mpr ⟨tw_748, (List.forall_mem_cons.mpr ⟨tw_749, (List.forall_mem_cons.mpr ⟨tw_708, (List.forall_mem_cons.mpr ⟨tw_652, (List.forall_mem_cons.mpr ⟨tw_640, (List.forall_mem_cons.mpr ⟨tw_641, (List.forall_mem_cons.mpr ⟨tw_750, (List.forall_mem_cons.mpr ⟨tw_751, (List.forall_mem_cons.mpr ⟨tw_752, (fun _ h => absurd h List.not_mem_nil)⟩)⟩)⟩)⟩)⟩)⟩)⟩)⟩)⟩)⟩)⟩)⟩)⟩)⟩)⟩)⟩)⟩)⟩)⟩)⟩)⟩)⟩)⟩)⟩)
set_option maxRecDepth 20000 in
theorem tl_X11_reduce_r4 : ∀ w ∈ wsX11_reduce_r4, w ∈ lw_tbl := (List.forall_mem_cons.mpr ⟨tw_753, (List.forall_mem_cons.mpr ⟨tw_646, (List.forall_mem_cons.mpr ⟨tw_647, (List.forall_mem_cons.mpr ⟨tw_648, (List.forall_mem_cons.mpr ⟨tw_649, (List.forall_mem_cons.mpr ⟨tw_650, (List.forall_mem_cons.mpr ⟨tw_651, (List.forall_mem_cons.mpr ⟨tw_653, (List.forall_mem_cons.mpr ⟨tw_654, (List.forall_mem_cons.mpr ⟨tw_655, (List.forall_mem_cons.mpr ⟨tw_694, (List.forall_mem_cons.mpr ⟨tw_695, (List.forall_mem_cons.mpr ⟨tw_696, (List.forall_mem_cons.mpr ⟨tw_697, (List.forall_mem_cons.mpr ⟨tw_698, (List.forall_mem_cons.mpr ⟨tw_699, (List.forall_mem_cons.mpr ⟨tw_704, (List.forall_mem_cons.mpr ⟨tw_705, (List.forall_mem_cons.mpr ⟨tw_706, (List.forall_mem_cons.mpr ⟨tw_707, (List.forall_mem_cons.mpr ⟨tw_690, (List.forall_mem_cons.mpr ⟨tw_691, (List.forall_mem_cons.mpr ⟨tw_692, (List.forall_mem_cons.mpr ⟨tw_693, (fun _ h => absurd h List.not_mem_nil)⟩)⟩)⟩)⟩)⟩)⟩)⟩)⟩)⟩)⟩)⟩)⟩)⟩)⟩)⟩)⟩)⟩)⟩)⟩)⟩)⟩)⟩)⟩)⟩)
set_option maxRecDepth 20000 in
theorem tl_X11_reduce_r5 : ∀ w ∈ wsX11_reduce_r5, w ∈ lw_tbl := (List.forall_mem_cons.mpr ⟨tw_709, (List.forall_mem_cons.mpr ⟨tw_710, (List.forall_mem_cons.mpr ⟨tw_711, (List.forall_mem_cons.mpr ⟨tw_712, (List.forall_mem_cons.mpr ⟨tw_656, (List.forall_mem_cons.mpr ⟨tw_657, (List.forall_mem_cons.mpr ⟨tw_658, (List.forall_mem_cons.mpr ⟨tw_659, (List.forall_mem_cons.mpr ⟨tw_813, (List.forall_mem_cons.mpr ⟨tw_814, (List.forall_mem_cons.mpr ⟨tw_815, (List.forall_mem_cons.mpr ⟨tw_816, (List.forall_mem_cons.mpr ⟨tw_817, (List.forall_mem_cons.mpr ⟨tw_818, (List.forall_mem_cons.mpr ⟨tw_819, (List.forall_mem_cons.mpr ⟨tw_820, (List.forall_mem_cons.mpr ⟨tw_567, (List.forall_mem_cons.mpr ⟨tw_758, (List.forall_mem_cons.mpr ⟨tw_759, (List.forall_mem_cons.mpr ⟨tw_760, (List.forall_mem_cons.mpr ⟨tw_761, (List.forall_mem_cons.mpr ⟨tw_754, (List.forall_mem_cons.mpr ⟨tw_755, (List.forall_mem_cons.mpr ⟨tw_756, (fun _ h => absurd h List.not_mem_nil)⟩)⟩)⟩)⟩)⟩)⟩)⟩)⟩)⟩)⟩)⟩)⟩)⟩)⟩)⟩)⟩)⟩)⟩)⟩)⟩)⟩)⟩)⟩)⟩)
set_option maxRecDepth 20000 in
theorem tl_X11_reduce_r6 : ∀ w ∈ wsX11_reduce_r6, w ∈ lw_tbl := (List.forall_mem_cons.mpr ⟨tw_757, (fun _ h => absurd h List.not_mem_nil)⟩)
set_option maxRecDepth 20000 in
theorem tl_X10_undo_r1 : ∀ w ∈ wsX10_undo_r1, w ∈ lw_tbl := (List.forall_mem_cons.mpr ⟨tw_12, (List.forall_mem_cons.mpr ⟨tw_868, (List.forall_mem_cons.mpr ⟨tw_7, (List.forall_mem_cons.mpr ⟨tw_183, (List.forall_mem_cons.mpr ⟨tw_869, (List.forall_mem_cons.mpr ⟨tw_870, (List.forall_mem_cons.mpr ⟨tw_871, (List.forall_mem_cons.mpr ⟨tw_11, (List.forall_mem_cons.mpr ⟨tw_872, (List.forall_mem_cons.mpr ⟨tw_556, (List.forall_mem_cons.mpr ⟨tw_555, (List.forall_mem_cons.mpr ⟨tw_78, (List.forall_mem_cons.mpr ⟨tw_800, (List.forall_mem_cons.mpr ⟨tw_401, (List.forall_mem_cons.mpr ⟨tw_402, (List.forall_mem_cons.mpr ⟨tw_31, (List.forall_mem_cons.mpr ⟨tw_403, (List.forall_mem_cons.mpr ⟨tw_54, (List.forall_mem_cons.mpr ⟨tw_55, (List.forall_mem_cons.mpr ⟨tw_57, (List.forall_mem_cons.mpr ⟨tw_404, (List.forall_mem_cons.mpr ⟨tw_200, (List.forall_mem_cons.mpr ⟨tw_201, (List.forall_mem_cons.mpr ⟨tw_202, (fun _ h => absurd h List.not_mem_nil)⟩)⟩)⟩)⟩)⟩)⟩)⟩)⟩)⟩)⟩)⟩)⟩)⟩)⟩)⟩)⟩)⟩)⟩)⟩)⟩)⟩)⟩)⟩)⟩)
set_option maxRecDepth 20000 in
theorem tl_X10_undo_r2 : ∀ w ∈ wsX10_undo_r2, w ∈ lw_tbl := (List.forall_mem_cons.mpr ⟨tw_58, (fun _ h => absurd h List.not_mem_nil)⟩)
set_option maxRecDepth 20000 in
theorem tl_X11_entry_r1 : ∀ w ∈ wsX11_entry_r1, w ∈ lw_tbl := (List.forall_mem_cons.mpr ⟨tw_130, (List.forall_mem_cons.mpr ⟨tw_129, (List.forall_mem_cons.mpr ⟨tw_890, (List.forall_mem_cons.mpr ⟨tw_622, (List.forall_mem_cons.mpr ⟨tw_623, (List.forall_mem_cons.mpr ⟨tw_624, (List.forall_mem_cons.mpr ⟨tw_144, (List.forall_mem_cons.mpr ⟨tw_625, (List.forall_mem_cons.mpr ⟨tw_626, (List.forall_mem_cons.mpr ⟨tw_627, (List.forall_mem_cons.mpr ⟨tw_628, (List.forall_mem_cons.mpr ⟨tw_629, (List.forall_mem_cons.mpr ⟨tw_630, (List.forall_mem_cons.mpr ⟨tw_631, (List.forall_mem_cons.mpr ⟨tw_124, (List.forall_mem_cons.mpr ⟨tw_632, (List.forall_mem_cons.mpr ⟨tw_633, (List.forall_mem_cons.mpr ⟨tw_809, (List.forall_mem_cons.mpr ⟨tw_810, (List.forall_mem_cons.mpr ⟨tw_811, (List.forall_mem_cons.mpr ⟨tw_812, (List.forall_mem_cons.mpr ⟨tw_675, (List.forall_mem_cons.mpr ⟨tw_676, (List.forall_mem_cons.mpr ⟨tw_677, (fun _ h => absurd h List.not_mem_nil)⟩)⟩)⟩)⟩)⟩)⟩)⟩)⟩)⟩)⟩)⟩)⟩)⟩)⟩)⟩)⟩)⟩)⟩)⟩)⟩)⟩)⟩)⟩)⟩)
set_option maxRecDepth 20000 in
theorem tl_X11_entry_r2 : ∀ w ∈ wsX11_entry_r2, w ∈ lw_tbl := (List.forall_mem_cons.mpr ⟨tw_678, (List.forall_mem_cons.mpr ⟨tw_168, (List.forall_mem_cons.mpr ⟨tw_169, (List.forall_mem_cons.mpr ⟨tw_170, (List.forall_mem_cons.mpr ⟨tw_660, (List.forall_mem_cons.mpr ⟨tw_661, (List.forall_mem_cons.mpr ⟨tw_662, (fun _ h => absurd h List.not_mem_nil)⟩)⟩)⟩)⟩)⟩)⟩)⟩)
set_option maxRecDepth 20000 in
theorem tl_X10_count_r1 : ∀ w ∈ wsX10_count_r1, w ∈ lw_tbl := (List.forall_mem_cons.mpr ⟨tw_7, (List.forall_mem_cons.mpr ⟨tw_183, (List.forall_mem_cons.mpr ⟨tw_177, (List.forall_mem_cons.mpr ⟨tw_178, (List.forall_mem_cons.mpr ⟨tw_12, (List.forall_mem_cons.mpr ⟨tw_868, (List.forall_mem_cons.mpr ⟨tw_147, (List.forall_mem_cons.mpr ⟨tw_148, (List.forall_mem_cons.mpr ⟨tw_895, (List.forall_mem_cons.mpr ⟨tw_896, (List.forall_mem_cons.mpr ⟨tw_897, (List.forall_mem_cons.mpr ⟨tw_31, (List.forall_mem_cons.mpr ⟨tw_898, (List.forall_mem_cons.mpr ⟨tw_54, (List.forall_mem_cons.mpr ⟨tw_899, (List.forall_mem_cons.mpr ⟨tw_437, (List.forall_mem_cons.mpr ⟨tw_438, (List.forall_mem_cons.mpr ⟨tw_439, (List.forall_mem_cons.mpr ⟨tw_55, (List.forall_mem_cons.mpr ⟨tw_427, (List.forall_mem_cons.mpr ⟨tw_410, (List.forall_mem_cons.mpr ⟨tw_411, (List.forall_mem_cons.mpr ⟨tw_412, (List.forall_mem_cons.mpr ⟨tw_57, (fun _ h => absurd h List.not_mem_nil)⟩)⟩)⟩)⟩)⟩)⟩)⟩)⟩)⟩)⟩)⟩)⟩)⟩)⟩)⟩)⟩)⟩)⟩)⟩)⟩)⟩)⟩)⟩)⟩)
set_option maxRecDepth 20000 in
theorem tl_X10_count_r2 : ∀ w ∈ wsX10_count_r2, w ∈ lw_tbl := (List.forall_mem_cons.mpr ⟨tw_900, (List.forall_mem_cons.mpr ⟨tw_481, (List.forall_mem_cons.mpr ⟨tw_482, (List.forall_mem_cons.mpr ⟨tw_483, (List.forall_mem_cons.mpr ⟨tw_901, (List.forall_mem_cons.mpr ⟨tw_508, (List.forall_mem_cons.mpr ⟨tw_509, (List.forall_mem_cons.mpr ⟨tw_510, (List.forall_mem_cons.mpr ⟨tw_511, (List.forall_mem_cons.mpr ⟨tw_512, (List.forall_mem_cons.mpr ⟨tw_513, (List.forall_mem_cons.mpr ⟨tw_902, (List.forall_mem_cons.mpr ⟨tw_903, (List.forall_mem_cons.mpr ⟨tw_904, (List.forall_mem_cons.mpr ⟨tw_157, (List.forall_mem_cons.mpr ⟨tw_905, (List.forall_mem_cons.mpr ⟨tw_20, (List.forall_mem_cons.mpr ⟨tw_906, (List.forall_mem_cons.mpr ⟨tw_468, (List.forall_mem_cons.mpr ⟨tw_469, (List.forall_mem_cons.mpr ⟨tw_470, (List.forall_mem_cons.mpr ⟨tw_19, (List.forall_mem_cons.mpr ⟨tw_471, (List.forall_mem_cons.mpr ⟨tw_91, (fun _ h => absurd h List.not_mem_nil)⟩)⟩)⟩)⟩)⟩)⟩)⟩)⟩)⟩)⟩)⟩)⟩)⟩)⟩)⟩)⟩)⟩)⟩)⟩)⟩)⟩)⟩)⟩)⟩)
set_option maxRecDepth 20000 in
theorem tl_X10_count_r3 : ∀ w ∈ wsX10_count_r3, w ∈ lw_tbl := (List.forall_mem_cons.mpr ⟨tw_472, (List.forall_mem_cons.mpr ⟨tw_473, (List.forall_mem_cons.mpr ⟨tw_474, (List.forall_mem_cons.mpr ⟨tw_475, (List.forall_mem_cons.mpr ⟨tw_476, (List.forall_mem_cons.mpr ⟨tw_477, (List.forall_mem_cons.mpr ⟨tw_92, (List.forall_mem_cons.mpr ⟨tw_93, (List.forall_mem_cons.mpr ⟨tw_478, (List.forall_mem_cons.mpr ⟨tw_95, (List.forall_mem_cons.mpr ⟨tw_94, (List.forall_mem_cons.mpr ⟨tw_479, (List.forall_mem_cons.mpr ⟨tw_401, (List.forall_mem_cons.mpr ⟨tw_402, (List.forall_mem_cons.mpr ⟨tw_403, (List.forall_mem_cons.mpr ⟨tw_404, (List.forall_mem_cons.mpr ⟨tw_200, (List.forall_mem_cons.mpr ⟨tw_201, (List.forall_mem_cons.mpr ⟨tw_202, (List.forall_mem_cons.mpr ⟨tw_58, (List.forall_mem_cons.mpr ⟨tw_480, (List.forall_mem_cons.mpr ⟨tw_484, (List.forall_mem_cons.mpr ⟨tw_485, (List.forall_mem_cons.mpr ⟨tw_486, (fun _ h => absurd h List.not_mem_nil)⟩)⟩)⟩)⟩)⟩)⟩)⟩)⟩)⟩)⟩)⟩)⟩)⟩)⟩)⟩)⟩)⟩)⟩)⟩)⟩)⟩)⟩)⟩)⟩)
set_option maxRecDepth 20000 in
theorem tl_X10_count_r4 : ∀ w ∈ wsX10_count_r4, w ∈ lw_tbl := (List.forall_mem_cons.mpr ⟨tw_487, (List.forall_mem_cons.mpr ⟨tw_488, (List.forall_mem_cons.mpr ⟨tw_489, (List.forall_mem_cons.mpr ⟨tw_490, (List.forall_mem_cons.mpr ⟨tw_491, (List.forall_mem_cons.mpr ⟨tw_492, (List.forall_mem_cons.mpr ⟨tw_493, (List.forall_mem_cons.mpr ⟨tw_494, (List.forall_mem_cons.mpr ⟨tw_495, (List.forall_mem_cons.mpr ⟨tw_496, (List.forall_mem_cons.mpr ⟨tw_497, (List.forall_mem_cons.mpr ⟨tw_498, (List.forall_mem_cons.mpr ⟨tw_499, (List.forall_mem_cons.mpr ⟨tw_500, (List.forall_mem_cons.mpr ⟨tw_501, (List.forall_mem_cons.mpr ⟨tw_502, (List.forall_mem_cons.mpr ⟨tw_503, (List.forall_mem_cons.mpr ⟨tw_504, (List.forall_mem_cons.mpr ⟨tw_505, (List.forall_mem_cons.mpr ⟨tw_506, (List.forall_mem_cons.mpr ⟨tw_507, (List.forall_mem_cons.mpr ⟨tw_514, (List.forall_mem_cons.mpr ⟨tw_515, (List.forall_mem_cons.mpr ⟨tw_516, (fun _ h => absurd h List.not_mem_nil)⟩)⟩)⟩)⟩)⟩)⟩)⟩)⟩)⟩)⟩)⟩)⟩)⟩)⟩)⟩)⟩)⟩)⟩)⟩)⟩)⟩)⟩)⟩)⟩)
set_option maxRecDepth 20000 in
theorem tl_X10_count_r5 : ∀ w ∈ wsX10_count_r5, w ∈ lw_tbl := (List.forall_mem_cons.mpr ⟨tw_517, (List.forall_mem_cons.mpr ⟨tw_518, (List.forall_mem_cons.mpr ⟨tw_414, (List.forall_mem_cons.mpr ⟨tw_415, (List.forall_mem_cons.mpr ⟨tw_416, (List.forall_mem_cons.mpr ⟨tw_519, (List.forall_mem_cons.mpr ⟨tw_520, (List.forall_mem_cons.mpr ⟨tw_521, (List.forall_mem_cons.mpr ⟨tw_522, (List.forall_mem_cons.mpr ⟨tw_97, (List.forall_mem_cons.mpr ⟨tw_523, (List.forall_mem_cons.mpr ⟨tw_524, (List.forall_mem_cons.mpr ⟨tw_525, (List.forall_mem_cons.mpr ⟨tw_526, (List.forall_mem_cons.mpr ⟨tw_527, (List.forall_mem_cons.mpr ⟨tw_528, (List.forall_mem_cons.mpr ⟨tw_406, (List.forall_mem_cons.mpr ⟨tw_407, (List.forall_mem_cons.mpr ⟨tw_36, (List.forall_mem_cons.mpr ⟨tw_408, (List.forall_mem_cons.mpr ⟨tw_373, (List.forall_mem_cons.mpr ⟨tw_378, (List.forall_mem_cons.mpr ⟨tw_64, (List.forall_mem_cons.mpr ⟨tw_409, (fun _ h => absurd h List.not_mem_nil)⟩)⟩)⟩)⟩)⟩)⟩)⟩)⟩)⟩)⟩)⟩)⟩)⟩)⟩)⟩)⟩)⟩)⟩)⟩)⟩)⟩)⟩)⟩)⟩)
set_option maxRecDepth 20000 in
theorem tl_X10_count_r6 : ∀ w ∈ wsX10_count_r6, w ∈ lw_tbl := (List.forall_mem_cons.mpr ⟨tw_413, (List.forall_mem_cons.mpr ⟨tw_529, (List.forall_mem_cons.mpr ⟨tw_530, (List.forall_mem_cons.mpr ⟨tw_531, (List.forall_mem_cons.mpr ⟨tw_532, (List.forall_mem_cons.mpr ⟨tw_374, (List.forall_mem_cons.mpr ⟨tw_375, (List.forall_mem_cons.mpr ⟨tw_376, (List.forall_mem_cons.mpr ⟨tw_377, (List.forall_mem_cons.mpr ⟨tw_379, (List.forall_mem_cons.mpr ⟨tw_380, (List.forall_mem_cons.mpr ⟨tw_381, (List.forall_mem_cons.mpr ⟨tw_382, (List.forall_mem_cons.mpr ⟨tw_383, (List.forall_mem_cons.mpr ⟨tw_384, (List.forall_mem_cons.mpr ⟨tw_533, (List.forall_mem_cons.mpr ⟨tw_534, (List.forall_mem_cons.mpr ⟨tw_535, (List.forall_mem_cons.mpr ⟨tw_536, (List.forall_mem_cons.mpr ⟨tw_537, (List.forall_mem_cons.mpr ⟨tw_458, (List.forall_mem_cons.mpr ⟨tw_459, (List.forall_mem_cons.mpr ⟨tw_460, (List.forall_mem_cons.mpr ⟨tw_60, (fun _ h => absurd h List.not_mem_nil)⟩)⟩)⟩)⟩)⟩)⟩)⟩)⟩)⟩)⟩)⟩)⟩)⟩)⟩)⟩)⟩)⟩)⟩)⟩)⟩)⟩)⟩)⟩)⟩)
set_option maxRecDepth 20000 in
theorem tl_X10_count_r7 : ∀ w ∈ wsX10_count_r7, w ∈ lw_tbl := (List.forall_mem_cons.mpr ⟨tw_461, (List.forall_mem_cons.mpr ⟨tw_422, (List.forall_mem_cons.mpr ⟨tw_462, (List.forall_mem_cons.mpr ⟨tw_441, (List.forall_mem_cons.mpr ⟨tw_442, (List.forall_mem_cons.mpr ⟨tw_443, (List.forall_mem_cons.mpr ⟨tw_428, (List.forall_mem_cons.mpr ⟨tw_463, (List.forall_mem_cons.mpr ⟨tw_464, (List.forall_mem_cons.mpr ⟨tw_465, (List.forall_mem_cons.mpr ⟨tw_466, (List.forall_mem_cons.mpr ⟨tw_467, (List.forall_mem_cons.mpr ⟨tw_386, (List.forall_mem_cons.mpr ⟨tw_387, (List.forall_mem_cons.mpr ⟨tw_388, (List.forall_mem_cons.mpr ⟨tw_389, (List.forall_mem_cons.mpr ⟨tw_390, (List.forall_mem_cons.mpr ⟨tw_907, (List.forall_mem_cons.mpr ⟨tw_908, (List.forall_mem_cons.mpr ⟨tw_909, (List.forall_mem_cons.mpr ⟨tw_910, (fun _ h => absurd h List.not_mem_nil)⟩)⟩)⟩)⟩)⟩)⟩)⟩)⟩)⟩)⟩)⟩)⟩)⟩)⟩)⟩)⟩)⟩)⟩)⟩)⟩)⟩)
set_option maxRecDepth 20000 in
theorem tl_X11_count_r1 : ∀ w ∈ wsX11_count_r1, w ∈ lw_tbl := (List.forall_mem_cons.mpr ⟨tw_632, (List.forall_mem_cons.mpr ⟨tw_633, (List.forall_mem_cons.mpr ⟨tw_129, (List.forall_mem_cons.mpr ⟨tw_567, (List.forall_mem_cons.mpr ⟨tw_159, (List.forall_mem_cons.mpr ⟨tw_622, (List.forall_mem_cons.mpr ⟨tw_623, (List.forall_mem_cons.mpr ⟨tw_624, (List.forall_mem_cons.mpr ⟨tw_144, (List.forall_mem_cons.mpr ⟨tw_625, (List.forall_mem_cons.mpr ⟨tw_626, (List.forall_mem_cons.mpr ⟨tw_627, (List.forall_mem_cons.mpr ⟨tw_628, (List.forall_mem_cons.mpr ⟨tw_629, (List.forall_mem_cons.mpr ⟨tw_630, (List.forall_mem_cons.mpr ⟨tw_631, (List.forall_mem_cons.mpr ⟨tw_124, (List.forall_mem_cons.mpr ⟨tw_130, (List.forall_mem_cons.mpr ⟨tw_660, (List.forall_mem_cons.mpr ⟨tw_661, (List.forall_mem_cons.mpr ⟨tw_662, (List.forall_mem_cons.mpr ⟨tw_915, (List.forall_mem_cons.mpr ⟨tw_916, (List.forall_mem_cons.mpr ⟨tw_917, (fun _ h => absurd h List.not_mem_nil)⟩)⟩)⟩)⟩)⟩)⟩)⟩)⟩)⟩)⟩)⟩)⟩)⟩)⟩)⟩)⟩)⟩)⟩)⟩)⟩)⟩)⟩)⟩)⟩)
set_option maxRecDepth 20000 in
theorem tl_X11_count_r2 : ∀ w ∈ wsX11_count_r2, w ∈ lw_tbl := (List.forall_mem_cons.mpr ⟨tw_918, (List.forall_mem_cons.mpr ⟨tw_717, (List.forall_mem_cons.mpr ⟨tw_718, (List.forall_mem_cons.mpr ⟨tw_719, (List.forall_mem_cons.mpr ⟨tw_720, (List.forall_mem_cons.mpr ⟨tw_721, (List.forall_mem_cons.mpr ⟨tw_135, (List.forall_mem_cons.mpr ⟨tw_136, (List.forall_mem_cons.mpr ⟨tw_131, (List.forall_mem_cons.mpr ⟨tw_132, (List.forall_mem_cons.mpr ⟨tw_722, (List.forall_mem_cons.mpr ⟨tw_723, (List.forall_mem_cons.mpr ⟨tw_724, (List.forall_mem_cons.mpr ⟨tw_725, (List.forall_mem_cons.mpr ⟨tw_133, (List.forall_mem_cons.mpr ⟨tw_134, (List.forall_mem_cons.mpr ⟨tw_726, (List.forall_mem_cons.mpr ⟨tw_727, (List.forall_mem_cons.mpr ⟨tw_728, (List.forall_mem_cons.mpr ⟨tw_729, (List.forall_mem_cons.mpr ⟨tw_730, (List.forall_mem_cons.mpr ⟨tw_731, (List.forall_mem_cons.mpr ⟨tw_732, (List.forall_mem_cons.mpr ⟨tw_733, (fun _ h => absurd h List.not_mem_nil)⟩)⟩)⟩)⟩)⟩)⟩)⟩)⟩)⟩)⟩)⟩)⟩)⟩)⟩)⟩)⟩)⟩)⟩)⟩)⟩)⟩)⟩)⟩)⟩)
set_option maxRecDepth 20000 in
theorem tl_X11_count_r3 : ∀ w ∈ wsX11_count_r3, w ∈ lw_tbl := (List.forall_mem_cons.mpr ⟨tw_734, (List.forall_mem_cons.mpr ⟨tw_735, (List.forall_mem_cons.mpr ⟨tw_736, (List.forall_mem_cons.mpr ⟨tw_737, (List.forall_mem_cons.mpr ⟨tw_738, (List.forall_mem_cons.mpr ⟨tw_739, (List.forall_mem_cons.mpr ⟨tw_740, (List.forall_mem_cons.mpr ⟨tw_741, (List.forall_mem_cons.mpr ⟨tw_742, (List.forall_mem_cons.mpr ⟨tw_743, (List.forall_mem_cons.mpr ⟨tw_744, (List.forall_mem_cons.mpr ⟨tw_745, (List.forall_mem_cons.mpr ⟨tw_746, (List.forall_mem_cons.mpr ⟨tw_747, (List.forall_mem_cons.mpr ⟨tw_748, (List.forall_mem_cons.mpr ⟨tw_749, (List.forall_mem_cons.mpr ⟨tw_708, (List.forall_mem_cons.mpr ⟨tw_652, (List.forall_mem_cons.mpr ⟨tw_640, (List.forall_mem_cons.mpr ⟨tw_641, (List.forall_mem_cons.mpr ⟨tw_750, (List.forall_mem_cons.mpr ⟨tw_751, (List.forall_mem_cons.mpr ⟨tw_752, (List.forall_mem_cons.mpr ⟨tw_753, (fun _ h => absurd h List.not_mem_nil)⟩)⟩)⟩)⟩)⟩)⟩)⟩)⟩)⟩)⟩)⟩)⟩)⟩)⟩)⟩)⟩)⟩)⟩)⟩)⟩)⟩)⟩)⟩)⟩)
set_option maxRecDepth 20000 in
theorem tl_X11_count_r4 : ∀ w ∈ wsX11_count_r4, w ∈ lw_tbl := (List.forall_mem_cons.mpr ⟨tw_646, (List.forall_mem_cons.mpr ⟨tw_647, (List.forall_mem_cons.mpr ⟨tw_648, (List.forall_mem_cons.mpr ⟨tw_649, (List.forall_mem_cons.mpr ⟨tw_650, (List.forall_mem_cons.mpr ⟨tw_651, (List.forall_mem_cons.mpr ⟨tw_653, (List.forall_mem_cons.mpr ⟨tw_654, (List.forall_mem_cons.mpr ⟨tw_655, (List.forall_mem_cons.mpr ⟨tw_694, (List.forall_mem_cons.mpr ⟨tw_695, (List.forall_mem_cons.mpr ⟨tw_696, (List.forall_mem_cons.mpr ⟨tw_697, (List.forall_mem_cons.mpr ⟨tw_698, (List.forall_mem_cons.mpr ⟨tw_699, (List.forall_mem_cons.mpr ⟨tw_704, (List.forall_mem_cons.mpr ⟨tw_705, (List.forall_mem_cons.mpr ⟨tw_706, (List.forall_mem_cons.mpr ⟨tw_707, (List.forall_mem_cons.mpr ⟨tw_690, (List.forall_mem_cons.mpr ⟨tw_691, (List.forall_mem_cons.mpr ⟨tw_692, (List.forall_mem_cons.mpr ⟨tw_693, (List.forall_mem_cons.mpr ⟨tw_709, (fun _ h => absurd h List.not_mem_nil)⟩)⟩)⟩)⟩)⟩)⟩)⟩)⟩)⟩)⟩)⟩)⟩)⟩)⟩)⟩)⟩)⟩)⟩)⟩)⟩)⟩)⟩)⟩)⟩)
set_option maxRecDepth 20000 in
theorem tl_X11_count_r5 : ∀ w ∈ wsX11_count_r5, w ∈ lw_tbl := (List.forall_mem_cons.mpr ⟨tw_710, (List.forall_mem_cons.mpr ⟨tw_711, (List.forall_mem_cons.mpr ⟨tw_712, (List.forall_mem_cons.mpr ⟨tw_656, (List.forall_mem_cons.mpr ⟨tw_657, (List.forall_mem_cons.mpr ⟨tw_658, (List.forall_mem_cons.mpr ⟨tw_659, (List.forall_mem_cons.mpr ⟨tw_919, (List.forall_mem_cons.mpr ⟨tw_920, (List.forall_mem_cons.mpr ⟨tw_921, (List.forall_mem_cons.mpr ⟨tw_922, (fun _ h => absurd h List.not_mem_nil)⟩)⟩)⟩)⟩)⟩)⟩)⟩)⟩)⟩)⟩)⟩)
set_option maxRecDepth 20000 in
theorem tl_X10_pattern_r1 : ∀ w ∈ wsX10_pattern_r1, w ∈ lw_tbl := (List.forall_mem_cons.mpr ⟨tw_7, (List.forall_mem_cons.mpr ⟨tw_183, (List.forall_mem_cons.mpr ⟨tw_883, (List.forall_mem_cons.mpr ⟨tw_779, (List.forall_mem_cons.mpr ⟨tw_780, (List.forall_mem_cons.mpr ⟨tw_31, (List.forall_mem_cons.mpr ⟨tw_781, (List.forall_mem_cons.mpr ⟨tw_55, (List.forall_mem_cons.mpr ⟨tw_927, (List.forall_mem_cons.mpr ⟨tw_515, (List.forall_mem_cons.mpr ⟨tw_516, (List.forall_mem_cons.mpr ⟨tw_517, (List.forall_mem_cons.mpr ⟨tw_54, (List.forall_mem_cons.mpr ⟨tw_427, (List.forall_mem_cons.mpr ⟨tw_410, (List.forall_mem_cons.mpr ⟨tw_411, (List.forall_mem_cons.mpr ⟨tw_412, (List.forall_mem_cons.mpr ⟨tw_57, (List.forall_mem_cons.mpr ⟨tw_882, (List.forall_mem_cons.mpr ⟨tw_397, (List.forall_mem_cons.mpr ⟨tw_398, (List.forall_mem_cons.mpr ⟨tw_399, (List.forall_mem_cons.mpr ⟨tw_928, (List.forall_mem_cons.mpr ⟨tw_437, (fun _ h => absurd h List.not_mem_nil)⟩)⟩)⟩)⟩)⟩)⟩)⟩)⟩)⟩)⟩)⟩)⟩)⟩)⟩)⟩)⟩)⟩)⟩)⟩)⟩)⟩)⟩)⟩)⟩)
set_option maxRecDepth 20000 in
theorem tl_X10_pattern_r2 : ∀ w ∈ wsX10_pattern_r2, w ∈ lw_tbl := (List.forall_mem_cons.mpr ⟨tw_438, (List.forall_mem_cons.mpr ⟨tw_439, (fun _ h => absurd h List.not_mem_nil)⟩)⟩)
set_option maxRecDepth 20000 in
theorem tl_X10_pivot_r1 : ∀ w ∈ wsX10_pivot_r1, w ∈ lw_tbl := (List.forall_mem_cons.mpr ⟨tw_881, (List.forall_mem_cons.mpr ⟨tw_20, (List.forall_mem_cons.mpr ⟨tw_7, (List.forall_mem_cons.mpr ⟨tw_183, (List.forall_mem_cons.mpr ⟨tw_906, (List.forall_mem_cons.mpr ⟨tw_937, (List.forall_mem_cons.mpr ⟨tw_849, (List.forall_mem_cons.mpr ⟨tw_850, (List.forall_mem_cons.mpr ⟨tw_157, (List.forall_mem_cons.mpr ⟨tw_851, (List.forall_mem_cons.mpr ⟨tw_468, (List.forall_mem_cons.mpr ⟨tw_469, (List.forall_mem_cons.mpr ⟨tw_470, (List.forall_mem_cons.mpr ⟨tw_19, (List.forall_mem_cons.mpr ⟨tw_471, (List.forall_mem_cons.mpr ⟨tw_91, (List.forall_mem_cons.mpr ⟨tw_472, (List.forall_mem_cons.mpr ⟨tw_473, (List.forall_mem_cons.mpr ⟨tw_474, (List.forall_mem_cons.mpr ⟨tw_475, (List.forall_mem_cons.mpr ⟨tw_476, (List.forall_mem_cons.mpr ⟨tw_477, (List.forall_mem_cons.mpr ⟨tw_92, (List.forall_mem_cons.mpr ⟨tw_93, (fun _ h => absurd h List.not_mem_nil)⟩)⟩)⟩)⟩)⟩)⟩)⟩)⟩)⟩)⟩)⟩)⟩)⟩)⟩)⟩)⟩)⟩)⟩)⟩)⟩)⟩)⟩)⟩)⟩)
set_option maxRecDepth 20000 in
theorem tl_X10_pivot_r2 : ∀ w ∈ wsX10_pivot_r2, w ∈ lw_tbl := (List.forall_mem_cons.mpr ⟨tw_478, (List.forall_mem_cons.mpr ⟨tw_95, (List.forall_mem_cons.mpr ⟨tw_94, (List.forall_mem_cons.mpr ⟨tw_479, (List.forall_mem_cons.mpr ⟨tw_401, (List.forall_mem_cons.mpr ⟨tw_402, (List.forall_mem_cons.mpr ⟨tw_31, (List.forall_mem_cons.mpr ⟨tw_403, (List.forall_mem_cons.mpr ⟨tw_54, (List.forall_mem_cons.mpr ⟨tw_55, (List.forall_mem_cons.mpr ⟨tw_57, (List.forall_mem_cons.mpr ⟨tw_404, (List.forall_mem_cons.mpr ⟨tw_200, (List.forall_mem_cons.mpr ⟨tw_201, (List.forall_mem_cons.mpr ⟨tw_202, (List.forall_mem_cons.mpr ⟨tw_58, (List.forall_mem_cons.mpr ⟨tw_480, (List.forall_mem_cons.mpr ⟨tw_481, (List.forall_mem_cons.mpr ⟨tw_482, (List.forall_mem_cons.mpr ⟨tw_483, (List.forall_mem_cons.mpr ⟨tw_484, (List.forall_mem_cons.mpr ⟨tw_485, (List.forall_mem_cons.mpr ⟨tw_486, (List.forall_mem_cons.mpr ⟨tw_487, (fun _ h => absurd h List.not_mem_nil)⟩)⟩)⟩)⟩)⟩)⟩)⟩)⟩)⟩)⟩)⟩)⟩)⟩)⟩)⟩)⟩)⟩)⟩)⟩)⟩)⟩)⟩)⟩)⟩)
set_option maxRecDepth 20000 in
theorem tl_X10_pivot_r3 : ∀ w ∈ wsX10_pivot_r3, w ∈ lw_tbl := (List.forall_mem_cons.mpr ⟨tw_488, (List.forall_mem_cons.mpr ⟨tw_489, (List.forall_mem_cons.mpr ⟨tw_490, (List.forall_mem_cons.mpr ⟨tw_491, (List.forall_mem_cons.mpr ⟨tw_492, (List.forall_mem_cons.mpr ⟨tw_493, (List.forall_mem_cons.mpr ⟨tw_410, (List.forall_mem_cons.mpr ⟨tw_411, (List.forall_mem_cons.mpr ⟨tw_412, (List.forall_mem_cons.mpr ⟨tw_494, (List.forall_mem_cons.mpr ⟨tw_495, (List.forall_mem_cons.mpr ⟨tw_496, (List.forall_mem_cons.mpr ⟨tw_497, (List.forall_mem_cons.mpr ⟨tw_498, (List.forall_mem_cons.mpr ⟨tw_499, (List.forall_mem_cons.mpr ⟨tw_500, (List.forall_mem_cons.mpr ⟨tw_501, (List.forall_mem_cons.mpr ⟨tw_502, (List.forall_mem_cons.mpr ⟨tw_503, (List.forall_mem_cons.mpr ⟨tw_504, (List.forall_mem_cons.mpr ⟨tw_505, (List.forall_mem_cons.mpr ⟨tw_506, (List.forall_mem_cons.mpr ⟨tw_437, (List.forall_mem_cons.mpr ⟨tw_438, (fun _ h => absurd h List.not_mem_nil)⟩)⟩)⟩)⟩)⟩)⟩)⟩)⟩)⟩)⟩)⟩)⟩)⟩)⟩)⟩)⟩)⟩)⟩)⟩)⟩)⟩)⟩)⟩)⟩)
set_option maxRecDepth 20000 in
theorem tl_X10_pivot_r4 : ∀ w ∈ wsX10_pivot_r4, w ∈ lw_tbl := (List.forall_mem_cons.mpr ⟨tw_439, (List.forall_mem_cons.mpr ⟨tw_427, (List.forall_mem_cons.mpr ⟨tw_507, (List.forall_mem_cons.mpr ⟨tw_508, (List.forall_mem_cons.mpr ⟨tw_509, (List.forall_mem_cons.mpr ⟨tw_510, (List.forall_mem_cons.mpr ⟨tw_511, (List.forall_mem_cons.mpr ⟨tw_512, (List.forall_mem_cons.mpr ⟨tw_513, (List.forall_mem_cons.mpr ⟨tw_514, (List.forall_mem_cons.mpr ⟨tw_515, (List.forall_mem_cons.mpr ⟨tw_516, (List.forall_mem_cons.mpr ⟨tw_517, (List.forall_mem_cons.mpr ⟨tw_518, (List.forall_mem_cons.mpr ⟨tw_414, (List.forall_mem_cons.mpr ⟨tw_415, (List.forall_mem_cons.mpr ⟨tw_416, (List.forall_mem_cons.mpr ⟨tw_519, (List.forall_mem_cons.mpr ⟨tw_520, (List.forall_mem_cons.mpr ⟨tw_521, (List.forall_mem_cons.mpr ⟨tw_522, (List.forall_mem_cons.mpr ⟨tw_97, (List.forall_mem_cons.mpr ⟨tw_523, (List.forall_mem_cons.mpr ⟨tw_524, (fun _ h => absurd h List.not_mem_nil)⟩)⟩)⟩)⟩)⟩)⟩)⟩)⟩)⟩)⟩)⟩)⟩)⟩)⟩)⟩)⟩)⟩)⟩)⟩)⟩)⟩)⟩)⟩)⟩)
set_option maxRecDepth 20000 in
theorem tl_X10_pivot_r5 : ∀ w ∈ wsX10_pivot_r5, w ∈ lw_tbl := (List.forall_mem_cons.mpr ⟨tw_525, (List.forall_mem_cons.mpr ⟨tw_526, (List.forall_mem_cons.mpr ⟨tw_527, (List.forall_mem_cons.mpr ⟨tw_528, (List.forall_mem_cons.mpr ⟨tw_406, (List.forall_mem_cons.mpr ⟨tw_407, (List.forall_mem_cons.mpr ⟨tw_36, (List.forall_mem_cons.mpr ⟨tw_408, (List.forall_mem_cons.mpr ⟨tw_373, (List.forall_mem_cons.mpr ⟨tw_378, (List.forall_mem_cons.mpr ⟨tw_64, (List.forall_mem_cons.mpr ⟨tw_409, (List.forall_mem_cons.mpr ⟨tw_413, (List.forall_mem_cons.mpr ⟨tw_529, (List.forall_mem_cons.mpr ⟨tw_530, (List.forall_mem_cons.mpr ⟨tw_531, (List.forall_mem_cons.mpr ⟨tw_532, (List.forall_mem_cons.mpr ⟨tw_374, (List.forall_mem_cons.mpr ⟨tw_375, (List.forall_mem_cons.mpr ⟨tw_376, (List.forall_mem_cons.mpr ⟨tw_377, (List.forall_mem_cons.mpr ⟨tw_379, (List.forall_mem_cons.mpr ⟨tw_380, (List.forall_mem_cons.mpr ⟨tw_381, (fun _ h => absurd h List.not_mem_nil)⟩)⟩)⟩)⟩)⟩)⟩)⟩)⟩)⟩)⟩)⟩)⟩)⟩)⟩)⟩)⟩)⟩)⟩)⟩)⟩)⟩)⟩)⟩)⟩)
set_option maxRecDepth 20000 in
theorem tl_X10_pivot_r6 : ∀ w ∈ wsX10_pivot_r6, w ∈ lw_tbl := (List.forall_mem_cons.mpr ⟨tw_382, (List.forall_mem_cons.mpr ⟨tw_383, (List.forall_mem_cons.mpr ⟨tw_384, (List.forall_mem_cons.mpr ⟨tw_533, (List.forall_mem_cons.mpr ⟨tw_534, (List.forall_mem_cons.mpr ⟨tw_535, (List.forall_mem_cons.mpr ⟨tw_536, (List.forall_mem_cons.mpr ⟨tw_537, (List.forall_mem_cons.mpr ⟨tw_458, (List.forall_mem_cons.mpr ⟨tw_459, (List.forall_mem_cons.mpr ⟨tw_460, (List.forall_mem_cons.mpr ⟨tw_60, (List.forall_mem_cons.mpr ⟨tw_461, (List.forall_mem_cons.mpr ⟨tw_422, (List.forall_mem_cons.mpr ⟨tw_462, (List.forall_mem_cons.mpr ⟨tw_441, (List.forall_mem_cons.mpr ⟨tw_442, (List.forall_mem_cons.mpr ⟨tw_443, (List.forall_mem_cons.mpr ⟨tw_428, (List.forall_mem_cons.mpr ⟨tw_463, (List.forall_mem_cons.mpr ⟨tw_464, (List.forall_mem_cons.mpr ⟨tw_465, (List.forall_mem_cons.mpr ⟨tw_466, (List.forall_mem_cons.mpr ⟨tw_467, (fun _ h => absurd h List.not_mem_nil)⟩)⟩)⟩)⟩)⟩)⟩)⟩)⟩)⟩)⟩)⟩)⟩)⟩)⟩)⟩)⟩)⟩)⟩)⟩)⟩)⟩)⟩)⟩)⟩)
set_option maxRecDepth 20000 in
theorem tl_X10_pivot_r7 : ∀ w ∈ wsX10_pivot_r7, w ∈ lw_tbl := (List.forall_mem_cons.mpr ⟨tw_386, (List.forall_mem_cons.mpr ⟨tw_387, (List.forall_mem_cons.mpr ⟨tw_388, (List.forall_mem_cons.mpr ⟨tw_389, (List.forall_mem_cons.mpr ⟨tw_390, (List.forall_mem_cons.mpr ⟨tw_907, (List.forall_mem_cons.mpr ⟨tw_908, (List.forall_mem_cons.mpr ⟨tw_909, (List.forall_mem_cons.mpr ⟨tw_910, (List.forall_mem_cons.mpr ⟨tw_938, (List.forall_mem_cons.mpr ⟨tw_939, (List.forall_mem_cons.mpr ⟨tw_940, (List.forall_mem_cons.mpr ⟨tw_941, (List.forall_mem_cons.mpr ⟨tw_942, (fun _ h => absurd h List.not_mem_nil)⟩)⟩)⟩)⟩)⟩)⟩)⟩)⟩)⟩)⟩)⟩)⟩)⟩)⟩)
set_option maxRecDepth 20000 in
theorem tl_X11_pivot_r1 : ∀ w ∈ wsX11_pivot_r1, w ∈ lw_tbl := (List.forall_mem_cons.mpr ⟨tw_890, (List.forall_mem_cons.mpr ⟨tw_627, (List.forall_mem_cons.mpr ⟨tw_721, (List.forall_mem_cons.mpr ⟨tw_131, (List.forall_mem_cons.mpr ⟨tw_132, (List.forall_mem_cons.mpr ⟨tw_133, (List.forall_mem_cons.mpr ⟨tw_134, (List.forall_mem_cons.mpr ⟨tw_129, (List.forall_mem_cons.mpr ⟨tw_130, (List.forall_mem_cons.mpr ⟨tw_622, (List.forall_mem_cons.mpr ⟨tw_623, (List.forall_mem_cons.mpr ⟨tw_624, (List.forall_mem_cons.mpr ⟨tw_144, (List.forall_mem_cons.mpr ⟨tw_625, (List.forall_mem_cons.mpr ⟨tw_626, (List.forall_mem_cons.mpr ⟨tw_628, (List.forall_mem_cons.mpr ⟨tw_629, (List.forall_mem_cons.mpr ⟨tw_630, (List.forall_mem_cons.mpr ⟨tw_631, (List.forall_mem_cons.mpr ⟨tw_124, (List.forall_mem_cons.mpr ⟨tw_632, (List.forall_mem_cons.mpr ⟨tw_633, (List.forall_mem_cons.mpr ⟨tw_168, (List.forall_mem_cons.mpr ⟨tw_169, (fun _ h => absurd h List.not_mem_nil)⟩)⟩)⟩)⟩)⟩)⟩)⟩)⟩)⟩)⟩)⟩)⟩)⟩)⟩)⟩)⟩)⟩)⟩)⟩)⟩)⟩)⟩)⟩)⟩)
set_option maxRecDepth 20000 in
theorem tl_X11_pivot_r2 : ∀ w ∈ wsX11_pivot_r2, w ∈ lw_tbl := (List.forall_mem_cons.mpr ⟨tw_170, (List.forall_mem_cons.mpr ⟨tw_717, (List.forall_mem_cons.mpr ⟨tw_718, (List.forall_mem_cons.mpr ⟨tw_719, (List.forall_mem_cons.mpr ⟨tw_720, (List.forall_mem_cons.mpr ⟨tw_135, (List.forall_mem_cons.mpr ⟨tw_136, (List.forall_mem_cons.mpr ⟨tw_722, (List.forall_mem_cons.mpr ⟨tw_723, (List.forall_mem_cons.mpr ⟨tw_724, (List.forall_mem_cons.mpr ⟨tw_725, (List.forall_mem_cons.mpr ⟨tw_660, (List.forall_mem_cons.mpr ⟨tw_661, (List.forall_mem_cons.mpr ⟨tw_662, (List.forall_mem_cons.mpr ⟨tw_726, (List.forall_mem_cons.mpr ⟨tw_727, (List.forall_mem_cons.mpr ⟨tw_728, (List.forall_mem_cons.mpr ⟨tw_729, (List.forall_mem_cons.mpr ⟨tw_730, (List.forall_mem_cons.mpr ⟨tw_731, (List.forall_mem_cons.mpr ⟨tw_732, (List.forall_mem_cons.mpr ⟨tw_733, (List.forall_mem_cons.mpr ⟨tw_734, (List.forall_mem_cons.mpr ⟨tw_735, (fun _ h => absurd h List.not_mem_nil)⟩)⟩)⟩)⟩)⟩)⟩)⟩)⟩)⟩)⟩)⟩)⟩)⟩)⟩)⟩)⟩)⟩)⟩)⟩)⟩)⟩)⟩)⟩)⟩)
set_option maxRecDepth 20000 in
theorem tl_X11_pivot_r3 : ∀ w ∈ wsX11_pivot_r3, w ∈ lw_tbl := (List.forall_mem_cons.mpr ⟨tw_736, (List.forall_mem_cons.mpr ⟨tw_737, (List.forall_mem_cons.mpr ⟨tw_738, (List.forall_mem_cons.mpr ⟨tw_739, (List.forall_mem_cons.mpr ⟨tw_740, (List.forall_mem_cons.mpr ⟨tw_741, (List.forall_mem_cons.mpr ⟨tw_742, (List.forall_mem_cons.mpr ⟨tw_743, (List.forall_mem_cons.mpr ⟨tw_744, (List.forall_mem_cons.mpr ⟨tw_745, (List.forall_mem_cons.mpr ⟨tw_746, (List.forall_mem_cons.mpr ⟨tw_747, (List.forall_mem_cons.mpr ⟨tw_748, (List.forall_mem_cons.mpr ⟨tw_749, (List.forall_mem_cons.mpr ⟨tw_708, (List.forall_mem_cons.mpr ⟨tw_652, (List.forall_mem_cons.mpr ⟨tw_640, (List.forall_mem_cons.mpr ⟨tw_641, (List.forall_mem_cons.mpr ⟨tw_750, (List.forall_mem_cons.mpr ⟨tw_751, (List.forall_mem_cons.mpr ⟨tw_752, (List.forall_mem_cons.mpr ⟨tw_753, (List.forall_mem_cons.mpr ⟨tw_646, (List.forall_mem_cons.mpr ⟨tw_647, (fun _ h => absurd h List.not_mem_nil)⟩)⟩)⟩)⟩)⟩)⟩)⟩)⟩)⟩)⟩)⟩)⟩)⟩)⟩)⟩)⟩)⟩)⟩)⟩)⟩)⟩)⟩)⟩)⟩)
set_option maxRecDepth 20000 in
theorem tl_X11_pivot_r4 : ∀ w ∈ wsX11_pivot_r4, w ∈ lw_tbl := (List.forall_mem_cons.mpr ⟨tw_648, (List.forall_mem_cons.mpr ⟨tw_649, (List.forall_mem_cons.mpr ⟨tw_650, (List.forall_mem_cons.mpr ⟨tw_651, (List.forall_mem_cons.mpr ⟨tw_653, (List.forall_mem_cons.mpr ⟨tw_654, (List.forall_mem_cons.mpr ⟨tw_655, (List.forall_mem_cons.mpr ⟨tw_694, (List.forall_mem_cons.mpr ⟨tw_695, (List.forall_mem_cons.mpr ⟨tw_696, (List.forall_mem_cons.mpr ⟨tw_697, (List.forall_mem_cons.mpr ⟨tw_698, (List.forall_mem_cons.mpr ⟨tw_699, (List.forall_mem_cons.mpr ⟨tw_704, (List.forall_mem_cons.mpr ⟨tw_705, (List.forall_mem_cons.mpr ⟨tw_706, (List.forall_mem_cons.mpr ⟨tw_707, (List.forall_mem_cons.mpr ⟨tw_690, (List.forall_mem_cons.mpr ⟨tw_691, (List.forall_mem_cons.mpr ⟨tw_692, (List.forall_mem_cons.mpr ⟨tw_693, (List.forall_mem_cons.mpr ⟨tw_709, (List.forall_mem_cons.mpr ⟨tw_710, (List.forall_mem_cons.mpr ⟨tw_711, (fun _ h => absurd h List.not_mem_nil)⟩)⟩)⟩)⟩)⟩)⟩)⟩)⟩)⟩)⟩)⟩)⟩)⟩)⟩)⟩)⟩)⟩)⟩)⟩)⟩)⟩)⟩)⟩)⟩)
set_option maxRecDepth 20000 in
theorem tl_X11_pivot_r5 : ∀ w ∈ wsX11_pivot_r5, w ∈ lw_tbl := (List.forall_mem_cons.mpr ⟨tw_712, (List.forall_mem_cons.mpr ⟨tw_656, (List.forall_mem_cons.mpr ⟨tw_657, (List.forall_mem_cons.mpr ⟨tw_658, (List.forall_mem_cons.mpr ⟨tw_659, (List.forall_mem_cons.mpr ⟨tw_919, (List.forall_mem_cons.mpr ⟨tw_920, (List.forall_mem_cons.mpr ⟨tw_921, (List.forall_mem_cons.mpr ⟨tw_922, (fun _ h => absurd h List.not_mem_nil)⟩)⟩)⟩)⟩)⟩)⟩)⟩)⟩)⟩)
set_option maxRecDepth 20000 in
theorem tl_X10_kind_r1 : ∀ w ∈ wsX10_kind_r1, w ∈ lw_tbl := (List.forall_mem_cons.mpr ⟨tw_20, (List.forall_mem_cons.mpr ⟨tw_7, (List.forall_mem_cons.mpr ⟨tw_183, (List.forall_mem_cons.mpr ⟨tw_468, (List.forall_mem_cons.mpr ⟨tw_469, (List.forall_mem_cons.mpr ⟨tw_470, (List.forall_mem_cons.mpr ⟨tw_19, (List.forall_mem_cons.mpr ⟨tw_471, (List.forall_mem_cons.mpr ⟨tw_91, (List.forall_mem_cons.mpr ⟨tw_472, (List.forall_mem_cons.mpr ⟨tw_473, (List.forall_mem_cons.mpr ⟨tw_474, (List.forall_mem_cons.mpr ⟨tw_475, (List.forall_mem_cons.mpr ⟨tw_476, (List.forall_mem_cons.mpr ⟨tw_477, (List.forall_mem_cons.mpr ⟨tw_92, (List.forall_mem_cons.mpr ⟨tw_93, (List.forall_mem_cons.mpr ⟨tw_478, (List.forall_mem_cons.mpr ⟨tw_95, (List.forall_mem_cons.mpr ⟨tw_94, (List.forall_mem_cons.mpr ⟨tw_479, (List.forall_mem_cons.mpr ⟨tw_401, (List.forall_mem_cons.mpr ⟨tw_402, (List.forall_mem_cons.mpr ⟨tw_31, (fun _ h => absurd h List.not_mem_nil)⟩)⟩)⟩)⟩)⟩)⟩)⟩)⟩)⟩)⟩)⟩)⟩)⟩)⟩)⟩)⟩)⟩)⟩)⟩)⟩)⟩)⟩)⟩)⟩)
set_option maxRecDepth 20000 in
theorem tl_X10_kind_r2 : ∀ w ∈ wsX10_kind_r2, w ∈ lw_tbl := (List.forall_mem_cons.mpr ⟨tw_403, (List.forall_mem_cons.mpr ⟨tw_54, (List.forall_mem_cons.mpr ⟨tw_55, (List.forall_mem_cons.mpr ⟨tw_57, (List.forall_mem_cons.mpr ⟨tw_404, (List.forall_mem_cons.mpr ⟨tw_200, (List.forall_mem_cons.mpr ⟨tw_201, (List.forall_mem_cons.mpr ⟨tw_202, (List.forall_mem_cons.mpr ⟨tw_58, (List.forall_mem_cons.mpr ⟨tw_480, (List.forall_mem_cons.mpr ⟨tw_481, (List.forall_mem_cons.mpr ⟨tw_482, (List.forall_mem_cons.mpr ⟨tw_483, (List.forall_mem_cons.mpr ⟨tw_484, (List.forall_mem_cons.mpr ⟨tw_485, (List.forall_mem_cons.mpr ⟨tw_486, (List.forall_mem_cons.mpr ⟨tw_487, (List.forall_mem_cons.mpr ⟨tw_488, (List.forall_mem_cons.mpr ⟨tw_489, (List.forall_mem_cons.mpr ⟨tw_490, (List.forall_mem_cons.mpr ⟨tw_491, (List.forall_mem_cons.mpr ⟨tw_492, (List.forall_mem_cons.mpr ⟨tw_493, (List.forall_mem_cons.mpr ⟨tw_410, (fun _ h => absurd h List.not_mem_nil)⟩)⟩)⟩)⟩)⟩)⟩)⟩)⟩)⟩)⟩)⟩)⟩)⟩)⟩)⟩)⟩)⟩)⟩)⟩)⟩)⟩)⟩)⟩)⟩)
set_option maxRecDepth 20000 in
theorem tl_X10_kind_r3 : ∀ w ∈ wsX10_kind_r3, w ∈ lw_tbl := (List.forall_mem_cons.mpr ⟨tw_411, (List.forall_mem_cons.mpr ⟨tw_412, (List.forall_mem_cons.mpr ⟨tw_494, (List.forall_mem_cons.mpr ⟨tw_495, (List.forall_mem_cons.mpr ⟨tw_496, (List.forall_mem_cons.mpr ⟨tw_497, (List.forall_mem_cons.mpr ⟨tw_498, (List.forall_mem_cons.mpr ⟨tw_499, (List.forall_mem_cons.mpr ⟨tw_500, (List.forall_mem_cons.mpr ⟨tw_501, (List.forall_mem_cons.mpr ⟨tw_502, (List.forall_mem_cons.mpr ⟨tw_503, (List.forall_mem_cons.mpr ⟨tw_504, (List.forall_mem_cons.mpr ⟨tw_505, (List.forall_mem_cons.mpr ⟨tw_506, (List.forall_mem_cons.mpr ⟨tw_437, (List.forall_mem_cons.mpr ⟨tw_438, (List.forall_mem_cons.mpr ⟨tw_439, (List.forall_mem_cons.mpr ⟨tw_427, (List.forall_mem_cons.mpr ⟨tw_507, (List.forall_mem_cons.mpr ⟨tw_508, (List.forall_mem_cons.mpr ⟨tw_509, (List.forall_mem_cons.mpr ⟨tw_510, (List.forall_mem_cons.mpr ⟨tw_511, (fun _ h => absurd h List.not_mem_nil)⟩)⟩)⟩)⟩)⟩)⟩)⟩)⟩)⟩)⟩)⟩)⟩)⟩)⟩)⟩)⟩)⟩)⟩)⟩)⟩)⟩)⟩)⟩)⟩)
set_option maxRecDepth 20000 in
theorem tl_X10_kind_r4 : ∀ w ∈ wsX10_kind_r4, w ∈ lw_tbl := (List.forall_mem_cons.mpr ⟨tw_512, (List.forall_mem_cons.mpr ⟨tw_513, (List.forall_mem_cons.mpr ⟨tw_514, (List.forall_mem_cons.mpr ⟨tw_515, (List.forall_mem_cons.mpr ⟨tw_516, (List.forall_mem_cons.mpr ⟨tw_517, (List.forall_mem_cons.mpr ⟨tw_518, (List.forall_mem_cons.mpr ⟨tw_414, (List.forall_mem_cons.mpr ⟨tw_415, (List.forall_mem_cons.mpr ⟨tw_416, (List.forall_mem_cons.mpr ⟨tw_519, (List.forall_mem_cons.mpr ⟨tw_520, (List.forall_mem_cons.mpr ⟨tw_521, (List.forall_mem_cons.mpr ⟨tw_522, (List.forall_mem_cons.mpr ⟨tw_97, (List.forall_mem_cons.mpr ⟨tw_523, (List.forall_mem_cons.mpr ⟨tw_524, (List.forall_mem_cons.mpr ⟨tw_525, (List.forall_mem_cons.mpr ⟨tw_526, (List.forall_mem_cons.mpr ⟨tw_527, (List.forall_mem_cons.mpr ⟨tw_528, (List.forall_mem_cons.mpr ⟨tw_406, (List.forall_mem_cons.mpr ⟨tw_407, (List.forall_mem_cons.mpr ⟨tw_36, (fun _ h => absurd h List.not_mem_nil)⟩)⟩)⟩)⟩)⟩)⟩)⟩)⟩)⟩)⟩)⟩)⟩)⟩)⟩)⟩)⟩)⟩)⟩)⟩)⟩)⟩)⟩)⟩)⟩)
set_option maxRecDepth 20000 in
theorem tl_X10_kind_r5 : ∀ w ∈ wsX10_kind_r5, w ∈ lw_tbl := (List.forall_mem_cons.mpr ⟨tw_408, (List.forall_mem_cons.mpr ⟨tw_373, (List.forall_mem_cons.mpr ⟨tw_378, (List.forall_mem_cons.mpr ⟨tw_64, (List.forall_mem_cons.mpr ⟨tw_409, (List.forall_mem_cons.mpr ⟨tw_413, (List.forall_mem_cons.mpr ⟨tw_529, (List.forall_mem_cons.mpr ⟨tw_530, (List.forall_mem_cons.mpr ⟨tw_531, (List.forall_mem_cons.mpr ⟨tw_532, (List.forall_mem_cons.mpr ⟨tw_374, (List.forall_mem_cons.mpr ⟨tw_375, (List.forall_mem_cons.mpr ⟨tw_376, (List.forall_mem_cons.mpr ⟨tw_377, (List.forall_mem_cons.mpr ⟨tw_379, (List.forall_mem_cons.mpr ⟨tw_380, (List.forall_mem_cons.mpr ⟨tw_381, (List.forall_mem_cons.mpr ⟨tw_382, (List.forall_mem_cons.mpr ⟨tw_383, (List.forall_mem_cons.mpr ⟨tw_384, (List.forall_mem_cons.mpr ⟨tw_533, (List.forall_mem_cons.mpr ⟨tw_534, (List.forall_mem_cons.mpr ⟨tw_535, (List.forall_mem_cons.mpr ⟨tw_536, (fun _ h => absurd h List.not_mem_nil)⟩)⟩)⟩)⟩)⟩)⟩)⟩)⟩)⟩)⟩)⟩)⟩)⟩)⟩)⟩)⟩)⟩)⟩)⟩)⟩)⟩)⟩)⟩)⟩)
set_option maxRecDepth 20000 in
theorem tl_X10_kind_r6 : ∀ w ∈ wsX10_kind_r6, w ∈ lw_tbl := (List.forall_mem_cons.mpr ⟨tw_537, (List.forall_mem_cons.mpr ⟨tw_458, (List.forall_mem_cons.mpr ⟨tw_459, (List.forall_mem_cons.mpr ⟨tw_460, (List.forall_mem_cons.mpr ⟨tw_60, (List.forall_mem_cons.mpr ⟨tw_461, (List.forall_mem_cons.mpr ⟨tw_422, (List.forall_mem_cons.mpr ⟨tw_462, (List.forall_mem_cons.mpr ⟨tw_441, (List.forall_mem_cons.mpr ⟨tw_442, (List.forall_mem_cons.mpr ⟨tw_443, (List.forall_mem_cons.mpr ⟨tw_428, (List.forall_mem_cons.mpr ⟨tw_463, (List.forall_mem_cons.mpr ⟨tw_464, (List.forall_mem_cons.mpr ⟨tw_465, (List.forall_mem_cons.mpr ⟨tw_466, (List.forall_mem_cons.mpr ⟨tw_467, (List.forall_mem_cons.mpr ⟨tw_386, (List.forall_mem_cons.mpr ⟨tw_387, (List.forall_mem_cons.mpr ⟨tw_388, (List.forall_mem_cons.mpr ⟨tw_389, (List.forall_mem_cons.mpr ⟨tw_390, (List.forall_mem_cons.mpr ⟨tw_951, (List.forall_mem_cons.mpr ⟨tw_952, (fun _ h => absurd h List.not_mem_nil)⟩)⟩)⟩)⟩)⟩)⟩)⟩)⟩)⟩)⟩)⟩)⟩)⟩)⟩)⟩)⟩)⟩)⟩)⟩)⟩)⟩)⟩)⟩)⟩)
set_option maxRecDepth 20000 in
theorem tl_X10_kind_r7 : ∀ w ∈ wsX10_kind_r7, w ∈ lw_tbl := (List.forall_mem_cons.mpr ⟨tw_953, (List.forall_mem_cons.mpr ⟨tw_954, (List.forall_mem_cons.mpr ⟨tw_942, (fun _ h => absurd h List.not_mem_nil)⟩)⟩)⟩)
set_option maxRecDepth 20000 in
theorem tl_X11_kind_r1 : ∀ w ∈ wsX11_kind_r1, w ∈ lw_tbl := (List.forall_mem_cons.mpr ⟨tw_627, (List.forall_mem_cons.mpr ⟨tw_890, (List.forall_mem_cons.mpr ⟨tw_622, (List.forall_mem_cons.mpr ⟨tw_623, (List.forall_mem_cons.mpr ⟨tw_624, (List.forall_mem_cons.mpr ⟨tw_144, (List.forall_mem_cons.mpr ⟨tw_625, (List.forall_mem_cons.mpr ⟨tw_626, (List.forall_mem_cons.mpr ⟨tw_628, (List.forall_mem_cons.mpr ⟨tw_629, (List.forall_mem_cons.mpr ⟨tw_630, (List.forall_mem_cons.mpr ⟨tw_631, (List.forall_mem_cons.mpr ⟨tw_124, (List.forall_mem_cons.mpr ⟨tw_632, (List.forall_mem_cons.mpr ⟨tw_633, (List.forall_mem_cons.mpr ⟨tw_129, (List.forall_mem_cons.mpr ⟨tw_130, (List.forall_mem_cons.mpr ⟨tw_717, (List.forall_mem_cons.mpr ⟨tw_718, (List.forall_mem_cons.mpr ⟨tw_719, (List.forall_mem_cons.mpr ⟨tw_720, (List.forall_mem_cons.mpr ⟨tw_721, (List.forall_mem_cons.mpr ⟨tw_135, (List.forall_mem_cons.mpr ⟨tw_136, (fun _ h => absurd h List.not_mem_nil)⟩)⟩)⟩)⟩)⟩)⟩)⟩)⟩)⟩)⟩)⟩)⟩)⟩)⟩)⟩)⟩)⟩)⟩)⟩)⟩)⟩)⟩)⟩)⟩)
set_option maxRecDepth 20000 in
theorem tl_X11_kind_r2 : ∀ w ∈ wsX11_kind_r2, w ∈ lw_tbl := (List.forall_mem_cons.mpr ⟨tw_131, (List.forall_mem_cons.mpr ⟨tw_132, (List.forall_mem_cons.mpr ⟨tw_722, (List.forall_mem_cons.mpr ⟨tw_723, (List.forall_mem_cons.mpr ⟨tw_724, (List.forall_mem_cons.mpr ⟨tw_725, (List.forall_mem_cons.mpr ⟨tw_133, (List.forall_mem_cons.mpr ⟨tw_134, (List.forall_mem_cons.mpr ⟨tw_660, (List.forall_mem_cons.mpr ⟨tw_661, (List.forall_mem_cons.mpr ⟨tw_662, (List.forall_mem_cons.mpr ⟨tw_726, (List.forall_mem_cons.mpr ⟨tw_727, (List.forall_mem_cons.mpr ⟨tw_728, (List.forall_mem_cons.mpr ⟨tw_729, (List.forall_mem_cons.mpr ⟨tw_730, (List.forall_mem_cons.mpr ⟨tw_731, (List.forall_mem_cons.mpr ⟨tw_732, (List.forall_mem_cons.mpr ⟨tw_733, (List.forall_mem_cons.mpr ⟨tw_734, (List.forall_mem_cons.mpr ⟨tw_735, (List.forall_mem_cons.mpr ⟨tw_736, (List.forall_mem_cons.mpr ⟨tw_737, (List.forall_mem_cons.mpr ⟨tw_738, (fun _ h => absurd h List.not_mem_nil)⟩)⟩)⟩)⟩)⟩)⟩)⟩)⟩)⟩)⟩)⟩)⟩)⟩)⟩)⟩)⟩)⟩)⟩)⟩)⟩)⟩)⟩)⟩)⟩)
set_option maxRecDepth 20000 in
theorem tl_X11_kind_r3 : ∀ w ∈ wsX11_kind_r3, w ∈ lw_tbl := (List.forall_mem_cons.mpr ⟨tw_739, (List.forall_mem_cons.mpr ⟨tw_740, (List.forall_mem_cons.mpr ⟨tw_741, (List.forall_mem_cons.mpr ⟨tw_742, (List.forall_mem_cons.mpr ⟨tw_743, (List.forall_mem_cons.mpr ⟨tw_744, (List.forall_mem_cons.mpr ⟨tw_745, (List.forall_mem_cons.mpr ⟨tw_746, (List.forall_mem_cons.mpr ⟨tw_747, (List.forall_mem_cons.mpr ⟨tw_748, (List.forall_mem_cons.mpr ⟨tw_749, (List.forall_mem_cons.mpr ⟨tw_708, (List.forall_mem_cons.mpr ⟨tw_652, (List.forall_mem_cons.mpr ⟨tw_640, (List.forall_mem_cons.mpr ⟨tw_641, (List.forall_mem_cons.mpr ⟨tw_750, (List.forall_mem_cons.mpr ⟨tw_751, (List.forall_mem_cons.mpr ⟨tw_752, (List.forall_mem_cons.mpr ⟨tw_753, (List.forall_mem_cons.mpr ⟨tw_646, (List.forall_mem_cons.mpr ⟨tw_647, (List.forall_mem_cons.mpr ⟨tw_648, (List.forall_mem_cons.mpr ⟨tw_649, (List.forall_mem_cons.mpr ⟨tw_650, (fun _ h => absurd h List.not_mem_nil)⟩)⟩)⟩)⟩)⟩)⟩)⟩)⟩)⟩)⟩)⟩)⟩)⟩)⟩)⟩)⟩)⟩)⟩)⟩)⟩)⟩)⟩)⟩)⟩)
set_option maxRecDepth 20000 in
theorem tl_X11_kind_r4 : ∀ w ∈ wsX11_kind_r4, w ∈ lw_tbl := (List.forall_mem_cons.mpr ⟨tw_651, (List.forall_mem_cons.mpr ⟨tw_653, (List.forall_mem_cons.mpr ⟨tw_654, (List.forall_mem_cons.mpr ⟨tw_655, (List.forall_mem_cons.mpr ⟨tw_694, (List.forall_mem_cons.mpr ⟨tw_695, (List.forall_mem_cons.mpr ⟨tw_696, (List.forall_mem_cons.mpr ⟨tw_697, (List.forall_mem_cons.mpr ⟨tw_698, (List.forall_mem_cons.mpr ⟨tw_699, (List.forall_mem_cons.mpr ⟨tw_704, (List.forall_mem_cons.mpr ⟨tw_705, (List.forall_mem_cons.mpr ⟨tw_706, (List.forall_mem_cons.mpr ⟨tw_707, (List.forall_mem_cons.mpr ⟨tw_690, (List.forall_mem_cons.mpr ⟨tw_691, (List.forall_mem_cons.mpr ⟨tw_692, (List.forall_mem_cons.mpr ⟨tw_693, (List.forall_mem_cons.mpr ⟨tw_709, (List.forall_mem_cons.mpr ⟨tw_710, (List.forall_mem_cons.mpr ⟨tw_711, (List.forall_mem_cons.mpr ⟨tw_712, (List.forall_mem_cons.mpr ⟨tw_656, (List.forall_mem_cons.mpr ⟨tw_657, (fun _ h => absurd h List.not_mem_nil)⟩)⟩)⟩)⟩)⟩)⟩)⟩)⟩)⟩)⟩)⟩)⟩)⟩)⟩)⟩)⟩)⟩)⟩)⟩)⟩)⟩)⟩)⟩)⟩)
set_option maxRecDepth 20000 in
theorem tl_X11_kind_r5 : ∀ w ∈ wsX11_kind_r5, w ∈ lw_tbl := (List.forall_mem_cons.mpr ⟨tw_658, (List.forall_mem_cons.mpr ⟨tw_659, (List.forall_mem_cons.mpr ⟨tw_959, (List.forall_mem_cons.mpr ⟨tw_960, (List.forall_mem_cons.mpr ⟨tw_961, (List.forall_mem_cons.mpr ⟨tw_962, (fun _ h => absurd h List.not_mem_nil)⟩)⟩)⟩)⟩)⟩)⟩)
set_option maxRecDepth 20000 in
theorem tl_X10_solution_r1 : ∀ w ∈ wsX10_solution_r1, w ∈ lw_tbl := (List.forall_mem_cons.mpr ⟨tw_7, (List.forall_mem_cons.mpr ⟨tw_183, (List.forall_mem_cons.mpr ⟨tw_967, (List.forall_mem_cons.mpr ⟨tw_968, (List.forall_mem_cons.mpr ⟨tw_969, (List.forall_mem_cons.mpr ⟨tw_157, (List.forall_mem_cons.mpr ⟨tw_970, (List.forall_mem_cons.mpr ⟨tw_881, (List.forall_mem_cons.mpr ⟨tw_20, (List.forall_mem_cons.mpr ⟨tw_24, (List.forall_mem_cons.mpr ⟨tw_971, (List.forall_mem_cons.mpr ⟨tw_972, (List.forall_mem_cons.mpr ⟨tw_973, (List.forall_mem_cons.mpr ⟨tw_31, (List.forall_mem_cons.mpr ⟨tw_974, (List.forall_mem_cons.mpr ⟨tw_55, (List.forall_mem_cons.mpr ⟨tw_468, (List.forall_mem_cons.mpr ⟨tw_469, (List.forall_mem_cons.mpr ⟨tw_470, (List.forall_mem_cons.mpr ⟨tw_19, (List.forall_mem_cons.mpr ⟨tw_471, (List.forall_mem_cons.mpr ⟨tw_91, (List.forall_mem_cons.mpr ⟨tw_472, (List.forall_mem_cons.mpr ⟨tw_473, (fun _ h => absurd h List.not_mem_nil)⟩)⟩)⟩)⟩)⟩)⟩)⟩)⟩)⟩)⟩)⟩)⟩)⟩)⟩)⟩)⟩)⟩)⟩)⟩)⟩)⟩)⟩)⟩)⟩)
set_option maxRecDepth 20000 in
theorem tl_X10_solution_r2 : ∀ w ∈ wsX10_solution_r2, w ∈ lw_tbl := (List.forall_mem_cons.mpr ⟨tw_474, (List.forall_mem_cons.mpr ⟨tw_475, (List.forall_mem_cons.mpr ⟨tw_476, (List.forall_mem_cons.mpr ⟨tw_477, (List.forall_mem_cons.mpr ⟨tw_92, (List.forall_mem_cons.mpr ⟨tw_93, (List.forall_mem_cons.mpr ⟨tw_478, (List.forall_mem_cons.mpr ⟨tw_95, (List.forall_mem_cons.mpr ⟨tw_94, (List.forall_mem_cons.mpr ⟨tw_479, (List.forall_mem_cons.mpr ⟨tw_401, (List.forall_mem_cons.mpr ⟨tw_402, (List.forall_mem_cons.mpr ⟨tw_403, (List.forall_mem_cons.mpr ⟨tw_54, (List.forall_mem_cons.mpr ⟨tw_57, (List.forall_mem_cons.mpr ⟨tw_404, (List.forall_mem_cons.mpr ⟨tw_200, (List.forall_mem_cons.mpr ⟨tw_201, (List.forall_mem_cons.mpr ⟨tw_202, (List.forall_mem_cons.mpr ⟨tw_58, (List.forall_mem_cons.mpr ⟨tw_480, (List.forall_mem_cons.mpr ⟨tw_481, (List.forall_mem_cons.mpr ⟨tw_482, (List.forall_mem_cons.mpr ⟨tw_483, (fun _ h => absurd h List.not_mem_nil)⟩)⟩)⟩)⟩)⟩)⟩)⟩)⟩)⟩)⟩)⟩)⟩)⟩)⟩)⟩)⟩)⟩)⟩)⟩)⟩)⟩)⟩)⟩)⟩)
set_option maxRecDepth 20000 in
theorem tl_X10_solution_r3 : ∀ w ∈ wsX10_solution_r3, w ∈ lw_tbl := (List.forall_mem_cons.mpr ⟨tw_484, (List.forall_mem_cons.mpr ⟨tw_485, (List.forall_mem_cons.mpr ⟨tw_486, (List.forall_mem_cons.mpr ⟨tw_487, (List.forall_mem_cons.mpr ⟨tw_488, (List.forall_mem_cons.mpr ⟨tw_489, (List.forall_mem_cons.mpr ⟨tw_490, (List.forall_mem_cons.mpr ⟨tw_491, (List.forall_mem_cons.mpr ⟨tw_492, (List.forall_mem_cons.mpr ⟨tw_493, (List.forall_mem_cons.mpr ⟨tw_410, (List.forall_mem_cons.mpr ⟨tw_411, (List.forall_mem_cons.mpr ⟨tw_412, (List.forall_mem_cons.mpr ⟨tw_494, (List.forall_mem_cons.mpr ⟨tw_495, (List.forall_mem_cons.mpr ⟨tw_496, (List.forall_mem_cons.mpr ⟨tw_497, (List.forall_mem_cons.mpr ⟨tw_498, (List.forall_mem_cons.mpr ⟨tw_499, (List.forall_mem_cons.mpr ⟨tw_500, (List.forall_mem_cons.mpr ⟨tw_501, (List.forall_mem_cons.mpr ⟨tw_502, (List.forall_mem_cons.mpr ⟨tw_503, (List.forall_mem_cons.mpr ⟨tw_504, (fun _ h => absurd h List.not_mem_nil)⟩)⟩)⟩)⟩)⟩)⟩)⟩)⟩)⟩)⟩)⟩)⟩)⟩)⟩)⟩)⟩)⟩)⟩)⟩)⟩)⟩)⟩)⟩)⟩)
set_option maxRecDepth 20000 in
theorem tl_X10_solution_r4 : ∀ w ∈ wsX10_solution_r4, w ∈ lw_tbl := (List.forall_mem_cons.mpr ⟨tw_505, (List.forall_mem_cons.mpr ⟨tw_506, (List.forall_mem_cons.mpr ⟨tw_437, (List.forall_mem_cons.mpr ⟨tw_438, (List.forall_mem_cons.mpr ⟨tw_439, (List.forall_mem_cons.mpr ⟨tw_427, (List.forall_mem_cons.mpr ⟨tw_507, (List.forall_mem_cons.mpr ⟨tw_508, (List.forall_mem_cons.mpr ⟨tw_509, (List.forall_mem_cons.mpr ⟨tw_510, (List.forall_mem_cons.mpr ⟨tw_511, (List.forall_mem_cons.mpr ⟨tw_512, (List.forall_mem_cons.mpr ⟨tw_513, (List.forall_mem_cons.mpr ⟨tw_514, (List.forall_mem_cons.mpr ⟨tw_515, (List.forall_mem_cons.mpr ⟨tw_516, (List.forall_mem_cons.mpr ⟨tw_517, (List.forall_mem_cons.mpr ⟨tw_518, (List.forall_mem_cons.mpr ⟨tw_414, (List.forall_mem_cons.mpr ⟨tw_415, (List.forall_mem_cons.mpr ⟨tw_416, (List.forall_mem_cons.mpr ⟨tw_519, (List.forall_mem_cons.mpr ⟨tw_520, (List.forall_mem_cons.mpr ⟨tw_521, (fun _ h => absurd h List.not_mem_nil)⟩)⟩)⟩)⟩)⟩)⟩)⟩)⟩)⟩)⟩)⟩)⟩)⟩)⟩)⟩)⟩)⟩)⟩)⟩)⟩)⟩)⟩)⟩)⟩)
set_option maxRecDepth 20000 in
theorem tl_X10_solution_r5 : ∀ w ∈ wsX10_solution_r5, w ∈ lw_tbl := (List.forall_mem_cons.mpr ⟨tw_522, (List.forall_mem_cons.mpr ⟨tw_97, (List.forall_mem_cons.mpr ⟨tw_523, (List.forall_mem_cons.mpr ⟨tw_524, (List.forall_mem_cons.mpr ⟨tw_525, (List.forall_mem_cons.mpr ⟨tw_526, (List.forall_mem_cons.mpr ⟨tw_527, (List.forall_mem_cons.mpr ⟨tw_528, (List.forall_mem_cons.mpr ⟨tw_406, (List.forall_mem_cons.mpr ⟨tw_407, (List.forall_mem_cons.mpr ⟨tw_36, (List.forall_mem_cons.mpr ⟨tw_408, (List.forall_mem_cons.mpr ⟨tw_373, (List.forall_mem_cons.mpr ⟨tw_378, (List.forall_mem_cons.mpr ⟨tw_64, (List.forall_mem_cons.mpr ⟨tw_409, (List.forall_mem_cons.mpr ⟨tw_413, (List.forall_mem_cons.mpr ⟨tw_529, (List.forall_mem_cons.mpr ⟨tw_530, (List.forall_mem_cons.mpr ⟨tw_531, (List.forall_mem_cons.mpr ⟨tw_532, (List.forall_mem_cons.mpr ⟨tw_374, (List.forall_mem_cons.mpr ⟨tw_375, (List.forall_mem_cons.mpr ⟨tw_376, (fun _ h => absurd h List.not_mem_nil)⟩)⟩)⟩)⟩)⟩)⟩)⟩)⟩)⟩)⟩)⟩)⟩)⟩)⟩)⟩)⟩)⟩)⟩)⟩)⟩)⟩)⟩)⟩)⟩)
set_option maxRecDepth 20000 in
theorem tl_X10_solution_r6 : ∀ w ∈ wsX10_solution_r6, w ∈ lw_tbl := (List.forall_mem_cons.mpr ⟨tw_377, (List.forall_mem_cons.mpr ⟨tw_379, (List.forall_mem_cons.mpr ⟨tw_380, (List.forall_mem_cons.mpr ⟨tw_381, (List.forall_mem_cons.mpr ⟨tw_382, (List.forall_mem_cons.mpr ⟨tw_383, (List.forall_mem_cons.mpr ⟨tw_384, (List.forall_mem_cons.mpr ⟨tw_533, (List.forall_mem_cons.mpr ⟨tw_534, (List.forall_mem_cons.mpr ⟨tw_535, (List.forall_mem_cons.mpr ⟨tw_536, (List.forall_mem_cons.mpr ⟨tw_537, (List.forall_mem_cons.mpr ⟨tw_458, (List.forall_mem_cons.mpr ⟨tw_459, (List.forall_mem_cons.mpr ⟨tw_460, (List.forall_mem_cons.mpr ⟨tw_60, (List.forall_mem_cons.mpr ⟨tw_461, (List.forall_mem_cons.mpr ⟨tw_422, (List.forall_mem_cons.mpr ⟨tw_462, (List.forall_mem_cons.mpr ⟨tw_441, (List.forall_mem_cons.mpr ⟨tw_442, (List.forall_mem_cons.mpr ⟨tw_443, (List.forall_mem_cons.mpr ⟨tw_428, (List.forall_mem_cons.mpr ⟨tw_463, (fun _ h => absurd h List.not_mem_nil)⟩)⟩)⟩)⟩)⟩)⟩)⟩)⟩)⟩)⟩)⟩)⟩)⟩)⟩)⟩)⟩)⟩)⟩)⟩)⟩)⟩)⟩)⟩)⟩)
set_option maxRecDepth 20000 in
theorem tl_X10_solution_r7 : ∀ w ∈ wsX10_solution_r7, w ∈ lw_tbl := (List.forall_mem_cons.mpr ⟨tw_464, (List.forall_mem_cons.mpr ⟨tw_465, (List.forall_mem_cons.mpr ⟨tw_466, (List.forall_mem_cons.mpr ⟨tw_467, (List.forall_mem_cons.mpr ⟨tw_386, (List.forall_mem_cons.mpr ⟨tw_387, (List.forall_mem_cons.mpr ⟨tw_388, (List.forall_mem_cons.mpr ⟨tw_389, (List.forall_mem_cons.mpr ⟨tw_390, (List.forall_mem_cons.mpr ⟨tw_975, (List.forall_mem_cons.mpr ⟨tw_976, (List.forall_mem_cons.mpr ⟨tw_977, (List.forall_mem_cons.mpr ⟨tw_978, (List.forall_mem_cons.mpr ⟨tw_979, (List.forall_mem_cons.mpr ⟨tw_952, (List.forall_mem_cons.mpr ⟨tw_953, (List.forall_mem_cons.mpr ⟨tw_954, (List.forall_mem_cons.mpr ⟨tw_942, (List.forall_mem_cons.mpr ⟨tw_980, (List.forall_mem_cons.mpr ⟨tw_981, (List.forall_mem_cons.mpr ⟨tw_982, (List.forall_mem_cons.mpr ⟨tw_23, (List.forall_mem_cons.mpr ⟨tw_983, (List.forall_mem_cons.mpr ⟨tw_984, (fun _ h => absurd h List.not_mem_nil)⟩)⟩)⟩)⟩)⟩)⟩)⟩)⟩)⟩)⟩)⟩)⟩)⟩)⟩)⟩)⟩)⟩)⟩)⟩)⟩)⟩)⟩)⟩)⟩)
set_option maxRecDepth 20000 in
theorem tl_X10_solution_r8 : ∀ w ∈ wsX10_solution_r8, w ∈ lw_tbl := (List.forall_mem_cons.mpr ⟨tw_985, (List.forall_mem_cons.mpr ⟨tw_986, (List.forall_mem_cons.mpr ⟨tw_987, (List.forall_mem_cons.mpr ⟨tw_102, (List.forall_mem_cons.mpr ⟨tw_103, (List.forall_mem_cons.mpr ⟨tw_988, (List.forall_mem_cons.mpr ⟨tw_989, (List.forall_mem_cons.mpr ⟨tw_66, (List.forall_mem_cons.mpr ⟨tw_67, (List.forall_mem_cons.mpr ⟨tw_68, (List.forall_mem_cons.mpr ⟨tw_990, (List.forall_mem_cons.mpr ⟨tw_991, (List.forall_mem_cons.mpr ⟨tw_992, (List.forall_mem_cons.mpr ⟨tw_993, (List.forall_mem_cons.mpr ⟨tw_994, (List.forall_mem_cons.mpr ⟨tw_995, (List.forall_mem_cons.mpr ⟨tw_105, (List.forall_mem_cons.mpr ⟨tw_996, (List.forall_mem_cons.mpr ⟨tw_106, (List.forall_mem_cons.mpr ⟨tw_997, (List.forall_mem_cons.mpr ⟨tw_998, (List.forall_mem_cons.mpr ⟨tw_999, (List.forall_mem_cons.mpr ⟨tw_1000, (List.forall_mem_cons.mpr ⟨tw_1001, (fun _ h => absurd h List.not_mem_nil)⟩)⟩)⟩)⟩)⟩)⟩)⟩)⟩)⟩)⟩)⟩)⟩)⟩)⟩)⟩)⟩)⟩)⟩)⟩)⟩)⟩)⟩)⟩)⟩)
set_option maxRecDepth 20000 in
theorem tl_X10_solution_r9 : ∀ w ∈ wsX10_solution_r9, w ∈ lw_tbl := (List.forall_mem_cons.mpr ⟨tw_1002, (List.forall_mem_cons.mpr ⟨tw_1003, (List.forall_mem_cons.mpr ⟨tw_1004, (List.forall_mem_cons.mpr ⟨tw_1005, (List.forall_mem_cons.mpr ⟨tw_1006, (List.forall_mem_cons.mpr ⟨tw_1007, (List.forall_mem_cons.mpr ⟨tw_1008, (List.forall_mem_cons.mpr ⟨tw_370, (List.forall_mem_cons.mpr ⟨tw_371, (List.forall_mem_cons.mpr ⟨tw_372, (List.forall_mem_cons.mpr ⟨tw_1009, (List.forall_mem_cons.mpr ⟨tw_1010, (List.forall_mem_cons.mpr ⟨tw_1011, (List.forall_mem_cons.mpr ⟨tw_1012, (List.forall_mem_cons.mpr ⟨tw_1013, (List.forall_mem_cons.mpr ⟨tw_1014, (List.forall_mem_cons.mpr ⟨tw_1015, (List.forall_mem_cons.mpr ⟨tw_1016, (List.forall_mem_cons.mpr ⟨tw_1017, (List.forall_mem_cons.mpr ⟨tw_1018, (List.forall_mem_cons.mpr ⟨tw_1019, (List.forall_mem_cons.mpr ⟨tw_1020, (List.forall_mem_cons.mpr ⟨tw_1021, (List.forall_mem_cons.mpr ⟨tw_1022, (fun _ h => absurd h List.not_mem_nil)⟩)⟩)⟩)⟩)⟩)⟩)⟩)⟩)⟩)⟩)⟩)⟩)⟩)⟩)⟩)⟩)⟩)⟩)⟩)⟩)⟩)⟩)⟩)⟩)
set_option maxRecDepth 20000 in
theorem tl_X10_solution_r10 : ∀ w ∈ wsX10_solution_r10, w ∈ lw_tbl := (List.forall_mem_cons.mpr ⟨tw_1023, (List.forall_mem_cons.mpr ⟨tw_1024, (List.forall_mem_cons.mpr ⟨tw_1025, (List.forall_mem_cons.mpr ⟨tw_1026, (List.forall_mem_cons.mpr ⟨tw_1027, (List.forall_mem_cons.mpr ⟨tw_1028, (List.forall_mem_cons.mpr ⟨tw_1029, (List.forall_mem_cons.mpr ⟨tw_1030, (List.forall_mem_cons.mpr ⟨tw_1031, (fun _ h => absurd h List.not_mem_nil)⟩)⟩)⟩)⟩)⟩)⟩)⟩)⟩)⟩)
set_option maxRecDepth 20000 in
theorem tl_X11_solution_r1 : ∀ w ∈ wsX11_solution_r1, w ∈ lw_tbl := (List.forall_mem_cons.mpr ⟨tw_633, (List.forall_mem_cons.mpr ⟨tw_890, (List.forall_mem_cons.mpr ⟨tw_622, (List.forall_mem_cons.mpr ⟨tw_623, (List.forall_mem_cons.mpr ⟨tw_624, (List.forall_mem_cons.mpr ⟨tw_144, (List.forall_mem_cons.mpr ⟨tw_625, (List.forall_mem_cons.mpr ⟨tw_626, (List.forall_mem_cons.mpr ⟨tw_627, (List.forall_mem_cons.mpr ⟨tw_628, (List.forall_mem_cons.mpr ⟨tw_629, (List.forall_mem_cons.mpr ⟨tw_630, (List.forall_mem_cons.mpr ⟨tw_631, (List.forall_mem_cons.mpr ⟨tw_124, (List.forall_mem_cons.mpr ⟨tw_632, (List.forall_mem_cons.mpr ⟨tw_129, (List.forall_mem_cons.mpr ⟨tw_130, (List.forall_mem_cons.mpr ⟨tw_168, (List.forall_mem_cons.mpr ⟨tw_169, (List.forall_mem_cons.mpr ⟨tw_170, (List.forall_mem_cons.mpr ⟨tw_1036, (List.forall_mem_cons.mpr ⟨tw_1037, (List.forall_mem_cons.mpr ⟨tw_1038, (List.forall_mem_cons.mpr ⟨tw_1039, (fun _ h => absurd h List.not_mem_nil)⟩)⟩)⟩)⟩)⟩)⟩)⟩)⟩)⟩)⟩)⟩)⟩)⟩)⟩)⟩)⟩)⟩)⟩)⟩)⟩)⟩)⟩)⟩)⟩)
set_option maxRecDepth 20000 in
theorem tl_X11_solution_r2 : ∀ w ∈ wsX11_solution_r2, w ∈ lw_tbl := (List.forall_mem_cons.mpr ⟨tw_717, (List.forall_mem_cons.mpr ⟨tw_718, (List.forall_mem_cons.mpr ⟨tw_719, (List.forall_mem_cons.mpr ⟨tw_720, (List.forall_mem_cons.mpr ⟨tw_721, (List.forall_mem_cons.mpr ⟨tw_135, (List.forall_mem_cons.mpr ⟨tw_136, (List.forall_mem_cons.mpr ⟨tw_131, (List.forall_mem_cons.mpr ⟨tw_132, (List.forall_mem_cons.mpr ⟨tw_722, (List.forall_mem_cons.mpr ⟨tw_723, (List.forall_mem_cons.mpr ⟨tw_724, (List.forall_mem_cons.mpr ⟨tw_725, (List.forall_mem_cons.mpr ⟨tw_133, (List.forall_mem_cons.mpr ⟨tw_134, (List.forall_mem_cons.mpr ⟨tw_660, (List.forall_mem_cons.mpr ⟨tw_661, (List.forall_mem_cons.mpr ⟨tw_662, (List.forall_mem_cons.mpr ⟨tw_726, (List.forall_mem_cons.mpr ⟨tw_727, (List.forall_mem_cons.mpr ⟨tw_728, (List.forall_mem_cons.mpr ⟨tw_729, (List.forall_mem_cons.mpr ⟨tw_730, (List.forall_mem_cons.mpr ⟨tw_731, (fun _ h => absurd h List.not_mem_nil)⟩)⟩)⟩)⟩)⟩)⟩)⟩)⟩)⟩)⟩)⟩)⟩)⟩)⟩)⟩)⟩)⟩)⟩)⟩)⟩)⟩)⟩)⟩)⟩)
set_option maxRecDepth 20000 in
theorem tl_X11_solution_r3 : ∀ w ∈ wsX11_solution_r3, w ∈ lw_tbl := (List.forall_mem_cons.mpr ⟨tw_732, (List.forall_mem_cons.mpr ⟨tw_733, (List.forall_mem_cons.mpr ⟨tw_734, (List.forall_mem_cons.mpr ⟨tw_735, (List.forall_mem_cons.mpr ⟨tw_736, (List.forall_mem_cons.mpr ⟨tw_737, (List.forall_mem_cons.mpr ⟨tw_738, (List.forall_mem_cons.mpr ⟨tw_739, (List.forall_mem_cons.mpr ⟨tw_740, (List.forall_mem_cons.mpr ⟨tw_741, (List.forall_mem_cons.mpr ⟨tw_742, (List.forall_mem_cons.mpr ⟨tw_743, (List.forall_mem_cons.mpr ⟨tw_744, (List.forall_mem_cons.mpr ⟨tw_745, (List.forall_mem_cons.mpr ⟨tw_746, (List.forall_mem_cons.mpr ⟨tw_747, (List.forall_mem_cons.mpr ⟨tw_748, (List.forall_mem_cons.mpr ⟨tw_749, (List.forall_mem_cons.mpr ⟨tw_708, (List.forall_mem_cons.mpr ⟨tw_652, (List.forall_mem_cons.mpr ⟨tw_640, (List.forall_mem_cons.mpr ⟨tw_641, (List.forall_mem_cons.mpr ⟨tw_750, (List.forall_mem_cons.mpr ⟨tw_751, (fun _ h => absurd h List.not_mem_nil)⟩)⟩)⟩)⟩)⟩)⟩)⟩)⟩)⟩)⟩)⟩)⟩)⟩)⟩)⟩)⟩)⟩)⟩)⟩)⟩)⟩)⟩)⟩)⟩)
set_option maxRecDepth 20000 in
theorem tl_X11_solution_r4 : ∀ w ∈ wsX11_solution_r4, w ∈ lw_tbl := (List.forall_mem_cons.mpr ⟨tw_752, (List.forall_mem_cons.mpr ⟨tw_753, (List.forall_mem_cons.mpr ⟨tw_646, (List.forall_mem_cons.mpr ⟨tw_647, (List.forall_mem_cons.mpr ⟨tw_648, (List.forall_mem_cons.mpr ⟨tw_649, (List.forall_mem_cons.mpr ⟨tw_650, (List.forall_mem_cons.mpr ⟨tw_651, (List.forall_mem_cons.mpr ⟨tw_653, (List.forall_mem_cons.mpr ⟨tw_654, (List.forall_mem_cons.mpr ⟨tw_655, (List.forall_mem_cons.mpr ⟨tw_694, (List.forall_mem_cons.mpr ⟨tw_695, (List.forall_mem_cons.mpr ⟨tw_696, (List.forall_mem_cons.mpr ⟨tw_697, (List.forall_mem_cons.mpr ⟨tw_698, (List.forall_mem_cons.mpr ⟨tw_699, (List.forall_mem_cons.mpr ⟨tw_704, (List.forall_mem_cons.mpr ⟨tw_705, (List.forall_mem_cons.mpr ⟨tw_706, (List.forall_mem_cons.mpr ⟨tw_707, (List.forall_mem_cons.mpr ⟨tw_690, (List.forall_mem_cons.mpr ⟨tw_691, (List.forall_mem_cons.mpr ⟨tw_692, (fun _ h => absurd h List.not_mem_nil)⟩)⟩)⟩)⟩)⟩)⟩)⟩)⟩)⟩)⟩)⟩)⟩)⟩)⟩)⟩)⟩)⟩)⟩)⟩)⟩)⟩)⟩)⟩)⟩)
set_option maxRecDepth 20000 in
theorem tl_X11_solution_r5 : ∀ w ∈ wsX11_solution_r5, w ∈ lw_tbl := (List.forall_mem_cons.mpr ⟨tw_693, (List.forall_mem_cons.mpr ⟨tw_709, (List.forall_mem_cons.mpr ⟨tw_710, (List.forall_mem_cons.mpr ⟨tw_711, (List.forall_mem_cons.mpr ⟨tw_712, (List.forall_mem_cons.mpr ⟨tw_656, (List.forall_mem_cons.mpr ⟨tw_657, (List.forall_mem_cons.mpr ⟨tw_658, (List.forall_mem_cons.mpr ⟨tw_659, (List.forall_mem_cons.mpr ⟨tw_959, (List.forall_mem_cons.mpr ⟨tw_960, (List.forall_mem_cons.mpr ⟨tw_961, (List.forall_mem_cons.mpr ⟨tw_962, (List.forall_mem_cons.mpr ⟨tw_1040, (List.forall_mem_cons.mpr ⟨tw_1041, (List.forall_mem_cons.mpr ⟨tw_1042, (List.forall_mem_cons.mpr ⟨tw_1043, (List.forall_mem_cons.mpr ⟨tw_138, (List.forall_mem_cons.mpr ⟨tw_139, (List.forall_mem_cons.mpr ⟨tw_140, (List.forall_mem_cons.mpr ⟨tw_1044, (List.forall_mem_cons.mpr ⟨tw_1045, (List.forall_mem_cons.mpr ⟨tw_1046, (List.forall_mem_cons.mpr ⟨tw_1047, (fun _ h => absurd h List.not_mem_nil)⟩)⟩)⟩)⟩)⟩)⟩)⟩)⟩)⟩)⟩)⟩)⟩)⟩)⟩)⟩)⟩)⟩)⟩)⟩)⟩)⟩)⟩)⟩)⟩)
set_option maxRecDepth 20000 in
theorem tl_X11_solution_r6 : ∀ w ∈ wsX11_solution_r6, w ∈ lw_tbl := (List.forall_mem_cons.mpr ⟨tw_1048, (List.forall_mem_cons.mpr ⟨tw_1049, (List.forall_mem_cons.mpr ⟨tw_1050, (List.forall_mem_cons.mpr ⟨tw_1051, (fun _ h => absurd h List.not_mem_nil)⟩)⟩)⟩)⟩)
set_option maxRecDepth 20000 in
theorem tl_X10_free_r1 : ∀ w ∈ wsX10_free_r1, w ∈ lw_tbl := (List.forall_mem_cons.mpr ⟨tw_20, (List.forall_mem_cons.mpr ⟨tw_7, (List.forall_mem_cons.mpr ⟨tw_183, (List.forall_mem_cons.mpr ⟨tw_906, (List.forall_mem_cons.mpr ⟨tw_881, (List.forall_mem_cons.mpr ⟨tw_468, (List.forall_mem_cons.mpr ⟨tw_469, (List.forall_mem_cons.mpr ⟨tw_470, (List.forall_mem_cons.mpr ⟨tw_19, (List.forall_mem_cons.mpr ⟨tw_471, (List.forall_mem_cons.mpr ⟨tw_91, (List.forall_mem_cons.mpr ⟨tw_472, (List.forall_mem_cons.mpr ⟨tw_473, (List.forall_mem_cons.mpr ⟨tw_474, (List.forall_mem_cons.mpr ⟨tw_475, (List.forall_mem_cons.mpr ⟨tw_476, (List.forall_mem_cons.mpr ⟨tw_477, (List.forall_mem_cons.mpr ⟨tw_92, (List.forall_mem_cons.mpr ⟨tw_93, (List.forall_mem_cons.mpr ⟨tw_478, (List.forall_mem_cons.mpr ⟨tw_95, (List.forall_mem_cons.mpr ⟨tw_94, (List.forall_mem_cons.mpr ⟨tw_479, (List.forall_mem_cons.mpr ⟨tw_401, (fun _ h => absurd h List.not_mem_nil)⟩)⟩)⟩)⟩)⟩)⟩)⟩)⟩)⟩)⟩)⟩)⟩)⟩)⟩)⟩)⟩)⟩)⟩)⟩)⟩)⟩)⟩)⟩)⟩)
set_option maxRecDepth 20000 in
theorem tl_X10_free_r2 : ∀ w ∈ wsX10_free_r2, w ∈ lw_tbl := (List.forall_mem_cons.mpr ⟨tw_402, (List.forall_mem_cons.mpr ⟨tw_31, (List.forall_mem_cons.mpr ⟨tw_403, (List.forall_mem_cons.mpr ⟨tw_54, (List.forall_mem_cons.mpr ⟨tw_55, (List.forall_mem_cons.mpr ⟨tw_57, (List.forall_mem_cons.mpr ⟨tw_404, (List.forall_mem_cons.mpr ⟨tw_200, (List.forall_mem_cons.mpr ⟨tw_201, (List.forall_mem_cons.mpr ⟨tw_202, (List.forall_mem_cons.mpr ⟨tw_58, (List.forall_mem_cons.mpr ⟨tw_480, (List.forall_mem_cons.mpr ⟨tw_481, (List.forall_mem_cons.mpr ⟨tw_482, (List.forall_mem_cons.mpr ⟨tw_483, (List.forall_mem_cons.mpr ⟨tw_484, (List.forall_mem_cons.mpr ⟨tw_485, (List.forall_mem_cons.mpr ⟨tw_486, (List.forall_mem_cons.mpr ⟨tw_487, (List.forall_mem_cons.mpr ⟨tw_488, (List.forall_mem_cons.mpr ⟨tw_489, (List.forall_mem_cons.mpr ⟨tw_490, (List.forall_mem_cons.mpr ⟨tw_491, (List.forall_mem_cons.mpr ⟨tw_492, (fun _ h => absurd h List.not_mem_nil)⟩)⟩)⟩)⟩)⟩)⟩)⟩)⟩)⟩)⟩)⟩)⟩)⟩)⟩)⟩)⟩)⟩)⟩)⟩)⟩)⟩)⟩)⟩)⟩)
set_option maxRecDepth 20000 in
theorem tl_X10_free_r3 : ∀ w ∈ wsX10_free_r3, w ∈ lw_tbl := (List.forall_mem_cons.mpr ⟨tw_493, (List.forall_mem_cons.mpr ⟨tw_410, (List.forall_mem_cons.mpr ⟨tw_411, (List.forall_mem_cons.mpr ⟨tw_412, (List.forall_mem_cons.mpr ⟨tw_494, (List.forall_mem_cons.mpr ⟨tw_495, (List.forall_mem_cons.mpr ⟨tw_496, (List.forall_mem_cons.mpr ⟨tw_497, (List.forall_mem_cons.mpr ⟨tw_498, (List.forall_mem_cons.mpr ⟨tw_499, (List.forall_mem_cons.mpr ⟨tw_500, (List.forall_mem_cons.mpr ⟨tw_501, (List.forall_mem_cons.mpr ⟨tw_502, (List.forall_mem_cons.mpr ⟨tw_503, (List.forall_mem_cons.mpr ⟨tw_504, (List.forall_mem_cons.mpr ⟨tw_505, (List.forall_mem_cons.mpr ⟨tw_506, (List.forall_mem_cons.mpr ⟨tw_437, (List.forall_mem_cons.mpr ⟨tw_438, (List.forall_mem_cons.mpr ⟨tw_439, (List.forall_mem_cons.mpr ⟨tw_427, (List.forall_mem_cons.mpr ⟨tw_507, (List.forall_mem_cons.mpr ⟨tw_508, (List.forall_mem_cons.mpr ⟨tw_509, (fun _ h => absurd h List.not_mem_nil)⟩)⟩)⟩)⟩)⟩)⟩)⟩)⟩)⟩)⟩)⟩)⟩)⟩)⟩)⟩)⟩)⟩)⟩)⟩)⟩)⟩)⟩)⟩)⟩)
set_option maxRecDepth 20000 in
theorem tl_X10_free_r4 : ∀ w ∈ wsX10_free_r4, w ∈ lw_tbl := (List.forall_mem_cons.mpr ⟨tw_510, (List.forall_mem_cons.mpr ⟨tw_511, (List.forall_mem_cons.mpr ⟨tw_512, (List.forall_mem_cons.mpr ⟨tw_513, (List.forall_mem_cons.mpr ⟨tw_514, (List.forall_mem_cons.mpr ⟨tw_515, (List.forall_mem_cons.mpr ⟨tw_516, (List.forall_mem_cons.mpr ⟨tw_517, (List.forall_mem_cons.mpr ⟨tw_518, (List.forall_mem_cons.mpr ⟨tw_414, (List.forall_mem_cons.mpr ⟨tw_415, (List.forall_mem_cons.mpr ⟨tw_416, (List.forall_mem_cons.mpr ⟨tw_519, (List.forall_mem_cons.mpr ⟨tw_520, (List.forall_mem_cons.mpr ⟨tw_521, (List.forall_mem_cons.mpr ⟨tw_522, (List.forall_mem_cons.mpr ⟨tw_97, (List.forall_mem_cons.mpr ⟨tw_523, (List.forall_mem_cons.mpr ⟨tw_524, (List.forall_mem_cons.mpr ⟨tw_525, (List.forall_mem_cons.mpr ⟨tw_526, (List.forall_mem_cons.mpr ⟨tw_527, (List.forall_mem_cons.mpr ⟨tw_528, (List.forall_mem_cons.mpr ⟨tw_406, (fun _ h => absurd h List.not_mem_nil)⟩)⟩)⟩)⟩)⟩)⟩)⟩)⟩)⟩)⟩)⟩)⟩)⟩)⟩)⟩)⟩)⟩)⟩)⟩)⟩)⟩)⟩)⟩)⟩)
set_option maxRecDepth 20000 in
theorem tl_X10_free_r5 : ∀ w ∈ wsX10_free_r5, w ∈ lw_tbl := (List.forall_mem_cons.mpr ⟨tw_407, (List.forall_mem_cons.mpr ⟨tw_36, (List.forall_mem_cons.mpr ⟨tw_408, (List.forall_mem_cons.mpr ⟨tw_373, (List.forall_mem_cons.mpr ⟨tw_378, (List.forall_mem_cons.mpr ⟨tw_64, (List.forall_mem_cons.mpr ⟨tw_409, (List.forall_mem_cons.mpr ⟨tw_413, (List.forall_mem_cons.mpr ⟨tw_529, (List.forall_mem_cons.mpr ⟨tw_530, (List.forall_mem_cons.mpr ⟨tw_531, (List.forall_mem_cons.mpr ⟨tw_532, (List.forall_mem_cons.mpr ⟨tw_374, (List.forall_mem_cons.mpr ⟨tw_375, (List.forall_mem_cons.mpr ⟨tw_376, (List.forall_mem_cons.mpr ⟨tw_377, (List.forall_mem_cons.mpr ⟨tw_379, (List.forall_mem_cons.mpr ⟨tw_380, (List.forall_mem_cons.mpr ⟨tw_381, (List.forall_mem_cons.mpr ⟨tw_382, (List.forall_mem_cons.mpr ⟨tw_383, (List.forall_mem_cons.mpr ⟨tw_384, (List.forall_mem_cons.mpr ⟨tw_533, (List.forall_mem_cons.mpr ⟨tw_534, (fun _ h => absurd h List.not_mem_nil)⟩)⟩)⟩)⟩)⟩)⟩)⟩)⟩)⟩)⟩)⟩)⟩)⟩)⟩)⟩)⟩)⟩)⟩)⟩)⟩)⟩)⟩)⟩)⟩)
set_option maxRecDepth 20000 in
theorem tl_X10_free_r6 : ∀ w ∈ wsX10_free_r6, w ∈ lw_tbl := (List.forall_mem_cons.mpr ⟨tw_535, (List.forall_mem_cons.mpr ⟨tw_536, (List.forall_mem_cons.mpr ⟨tw_537, (List.forall_mem_cons.mpr ⟨tw_458, (List.forall_mem_cons.mpr ⟨tw_459, (List.forall_mem_cons.mpr ⟨tw_460, (List.forall_mem_cons.mpr ⟨tw_60, (List.forall_mem_cons.mpr ⟨tw_461, (List.forall_mem_cons.mpr ⟨tw_422, (List.forall_mem_cons.mpr ⟨tw_462, (List.forall_mem_cons.mpr ⟨tw_441, (List.forall_mem_cons.mpr ⟨tw_442, (List.forall_mem_cons.mpr ⟨tw_443, (List.forall_mem_cons.mpr ⟨tw_428, (List.forall_mem_cons.mpr ⟨tw_463, (List.forall_mem_cons.mpr ⟨tw_464, (List.forall_mem_cons.mpr ⟨tw_465, (List.forall_mem_cons.mpr ⟨tw_466, (List.forall_mem_cons.mpr ⟨tw_467, (List.forall_mem_cons.mpr ⟨tw_386, (List.forall_mem_cons.mpr ⟨tw_387, (List.forall_mem_cons.mpr ⟨tw_388, (List.forall_mem_cons.mpr ⟨tw_389, (List.forall_mem_cons.mpr ⟨tw_390, (fun _ h => absurd h List.not_mem_nil)⟩)⟩)⟩)⟩)⟩)⟩)⟩)⟩)⟩)⟩)⟩)⟩)⟩)⟩)⟩)⟩)⟩)⟩)⟩)⟩)⟩)⟩)⟩)⟩)
set_option maxRecDepth 20000 in
theorem tl_X10_free_r7 : ∀ w ∈ wsX10_free_r7, w ∈ lw_tbl := (List.forall_mem_cons.mpr ⟨tw_1056, (List.forall_mem_cons.mpr ⟨tw_1057, (List.forall_mem_cons.mpr ⟨tw_1058, (List.forall_mem_cons.mpr ⟨tw_1059, (fun _ h => absurd h List.not_mem_nil)⟩)⟩)⟩)⟩)
set_option maxRecDepth 20000 in
theorem tl_X11_free_r1 : ∀ w ∈ wsX11_free_r1, w ∈ lw_tbl := (List.forall_mem_cons.mpr ⟨tw_633, (List.forall_mem_cons.mpr ⟨tw_627, (List.forall_mem_cons.mpr ⟨tw_890, (List.forall_mem_cons.mpr ⟨tw_622, (List.forall_mem_cons.mpr ⟨tw_623, (List.forall_mem_cons.mpr ⟨tw_624, (List.forall_mem_cons.mpr ⟨tw_144, (List.forall_mem_cons.mpr ⟨tw_625, (List.forall_mem_cons.mpr ⟨tw_626, (List.forall_mem_cons.mpr ⟨tw_628, (List.forall_mem_cons.mpr ⟨tw_629, (List.forall_mem_cons.mpr ⟨tw_630, (List.forall_mem_cons.mpr ⟨tw_631, (List.forall_mem_cons.mpr ⟨tw_124, (List.forall_mem_cons.mpr ⟨tw_632, (List.forall_mem_cons.mpr ⟨tw_129, (List.forall_mem_cons.mpr ⟨tw_130, (List.forall_mem_cons.mpr ⟨tw_717, (List.forall_mem_cons.mpr ⟨tw_718, (List.forall_mem_cons.mpr ⟨tw_719, (List.forall_mem_cons.mpr ⟨tw_720, (List.forall_mem_cons.mpr ⟨tw_721, (List.forall_mem_cons.mpr ⟨tw_135, (List.forall_mem_cons.mpr ⟨tw_136, (fun _ h => absurd h List.not_mem_nil)⟩)⟩)⟩)⟩)⟩)⟩)⟩)⟩)⟩)⟩)⟩)⟩)⟩)⟩)⟩)⟩)⟩)⟩)⟩)⟩)⟩)⟩)⟩)⟩)
set_option maxRecDepth 20000 in
theorem tl_X11_free_r2 : ∀ w ∈ wsX11_free_r2, w ∈ lw_tbl := (List.forall_mem_cons.mpr ⟨tw_131, (List.forall_mem_cons.mpr ⟨tw_132, (List.forall_mem_cons.mpr ⟨tw_722, (List.forall_mem_cons.mpr ⟨tw_723, (List.forall_mem_cons.mpr ⟨tw_724, (List.forall_mem_cons.mpr ⟨tw_725, (List.forall_mem_cons.mpr ⟨tw_133, (List.forall_mem_cons.mpr ⟨tw_134, (List.forall_mem_cons.mpr ⟨tw_660, (List.forall_mem_cons.mpr ⟨tw_661, (List.forall_mem_cons.mpr ⟨tw_662, (List.forall_mem_cons.mpr ⟨tw_726, (List.forall_mem_cons.mpr ⟨tw_727, (List.forall_mem_cons.mpr ⟨tw_728, (List.forall_mem_cons.mpr ⟨tw_729, (List.forall_mem_cons.mpr ⟨tw_730, (List.forall_mem_cons.mpr ⟨tw_731, (List.forall_mem_cons.mpr ⟨tw_732, (List.forall_mem_cons.mpr ⟨tw_733, (List.forall_mem_cons.mpr ⟨tw_734, (List.forall_mem_cons.mpr ⟨tw_735, (List.forall_mem_cons.mpr ⟨tw_736, (List.forall_mem_cons.mpr ⟨tw_737, (List.forall_mem_cons.mpr ⟨tw_738, (fun _ h => absurd h List.not_mem_nil)⟩)⟩)⟩)⟩)⟩)⟩)⟩)⟩)⟩)⟩)⟩)⟩)⟩)⟩)⟩)⟩)⟩)⟩)⟩)⟩)⟩)⟩)⟩)⟩)
set_option maxRecDepth 20000 in
theorem tl_X11_free_r3 : ∀ w ∈ wsX11_free_r3, w ∈ lw_tbl := (List.forall_mem_cons.mpr ⟨tw_739, (List.forall_mem_cons.mpr ⟨tw_740, (List.forall_mem_cons.mpr ⟨tw_741, (List.forall_mem_cons.mpr ⟨tw_742, (List.forall_mem_cons.mpr ⟨tw_743, (List.forall_mem_cons.mpr ⟨tw_744, (List.forall_mem_cons.mpr ⟨tw_745, (List.forall_mem_cons.mpr ⟨tw_746, (List.forall_mem_cons.mpr ⟨tw_747, (List.forall_mem_cons.mpr ⟨tw_748, (List.forall_mem_cons.mpr ⟨tw_749, (List.forall_mem_cons.mpr ⟨tw_708, (List.forall_mem_cons.mpr ⟨tw_652, (List.forall_mem_cons.mpr ⟨tw_640, (List.forall_mem_cons.mpr ⟨tw_641, (List.forall_mem_cons.mpr ⟨tw_750, (List.forall_mem_cons.mpr ⟨tw_751, (List.forall_mem_cons.mpr ⟨tw_752, (List.forall_mem_cons.mpr ⟨tw_753, (List.forall_mem_cons.mpr ⟨tw_646, (List.forall_mem_cons.mpr ⟨tw_647, (List.forall_mem_cons.mpr ⟨tw_648, (List.forall_mem_cons.mpr ⟨tw_649, (List.forall_mem_cons.mpr ⟨tw_650, (fun _ h => absurd h List.not_mem_nil)⟩)⟩)⟩)⟩)⟩)⟩)⟩)⟩)⟩)⟩)⟩)⟩)⟩)⟩)⟩)⟩)⟩)⟩)⟩)⟩)⟩)⟩)⟩)⟩)
set_option maxRecDepth 20000 in
theorem tl_X11_free_r4 : ∀ w ∈ wsX11_free_r4, w ∈ lw_tbl := (List.forall_mem_cons.mpr ⟨tw_651, (List.forall_mem_cons.mpr ⟨tw_653, (List.forall_mem_cons.mpr ⟨tw_654, (List.forall_mem_cons.mpr ⟨tw_655, (List.forall_mem_cons.mpr ⟨tw_694, (List.forall_mem_cons.mpr ⟨tw_695, (List.forall_mem_cons.mpr ⟨tw_696, (List.forall_mem_cons.mpr ⟨tw_697, (List.forall_mem_cons.mpr ⟨tw_698, (List.forall_mem_cons.mpr ⟨tw_699, (List.forall_mem_cons.mpr ⟨tw_704, (List.forall_mem_cons.mpr ⟨tw_705, (List.forall_mem_cons.mpr ⟨tw_706, (List.forall_mem_cons.mpr ⟨tw_707, (List.forall_mem_cons.mpr ⟨tw_690, (List.forall_mem_cons.mpr ⟨tw_691, (List.forall_mem_cons.mpr ⟨tw_692, (List.forall_mem_cons.mpr ⟨tw_693, (List.forall_mem_cons.mpr ⟨tw_709, (List.forall_mem_cons.mpr ⟨tw_710, (List.forall_mem_cons.mpr ⟨tw_711, (List.forall_mem_cons.mpr ⟨tw_712, (List.forall_mem_cons.mpr ⟨tw_656, (List.forall_mem_cons.mpr ⟨tw_657, (fun _ h => absurd h List.not_mem_nil)⟩)⟩)⟩)⟩)⟩)⟩)⟩)⟩)⟩)⟩)⟩)⟩)⟩)⟩)⟩)⟩)⟩)⟩)⟩)⟩)⟩)⟩)⟩)⟩)
set_option maxRecDepth 20000 in
theorem tl_X11_free_r5 : ∀ w ∈ wsX11_free_r5, w ∈ lw_tbl := (List.forall_mem_cons.mpr ⟨tw_658, (List.forall_mem_cons.mpr ⟨tw_659, (List.forall_mem_cons.mpr ⟨tw_1064, (List.forall_mem_cons.mpr ⟨tw_1065, (List.forall_mem_cons.mpr ⟨tw_1066, (List.forall_mem_cons.mpr ⟨tw_1067, (fun _ h => absurd h List.not_mem_nil)⟩)⟩)⟩)⟩)⟩)⟩)
set_option maxRecDepth 20000 in
theorem tl_X10_zero_r1 : ∀ w ∈ wsX10_zero_r1, w ∈ lw_tbl := (List.forall_mem_cons.mpr ⟨tw_7, (List.forall_mem_cons.mpr ⟨tw_183, (List.forall_mem_cons.mpr ⟨tw_881, (List.forall_mem_cons.mpr ⟨tw_20, (List.forall_mem_cons.mpr ⟨tw_906, (List.forall_mem_cons.mpr ⟨tw_24, (List.forall_mem_cons.mpr ⟨tw_971, (List.forall_mem_cons.mpr ⟨tw_972, (List.forall_mem_cons.mpr ⟨tw_973, (List.forall_mem_cons.mpr ⟨tw_31, (List.forall_mem_cons.mpr ⟨tw_974, (List.forall_mem_cons.mpr ⟨tw_55, (List.forall_mem_cons.mpr ⟨tw_468, (List.forall_mem_cons.mpr ⟨tw_469, (List.forall_mem_cons.mpr ⟨tw_470, (List.forall_mem_cons.mpr ⟨tw_19, (List.forall_mem_cons.mpr ⟨tw_471, (List.forall_mem_cons.mpr ⟨tw_91, (List.forall_mem_cons.mpr ⟨tw_472, (List.forall_mem_cons.mpr ⟨tw_473, (List.forall_mem_cons.mpr ⟨tw_474, (List.forall_mem_cons.mpr ⟨tw_475, (List.forall_mem_cons.mpr ⟨tw_476, (List.forall_mem_cons.mpr ⟨tw_477, (fun _ h => absurd h List.not_mem_nil)⟩)⟩)⟩)⟩)⟩)⟩)⟩)⟩)⟩)⟩)⟩)⟩)⟩)⟩)⟩)⟩)⟩)⟩)⟩)⟩)⟩)⟩)⟩)⟩)
set_option maxRecDepth 20000 in
theorem tl_X10_zero_r2 : ∀ w ∈ wsX10_zero_r2, w ∈ lw_tbl := (List.forall_mem_cons.mpr ⟨tw_92, (List.forall_mem_cons.mpr ⟨tw_93, (List.forall_mem_cons.mpr ⟨tw_478, (List.forall_mem_cons.mpr ⟨tw_95, (List.forall_mem_cons.mpr ⟨tw_94, (List.forall_mem_cons.mpr ⟨tw_479, (List.forall_mem_cons.mpr ⟨tw_401, (List.forall_mem_cons.mpr ⟨tw_402, (List.forall_mem_cons.mpr ⟨tw_403, (List.forall_mem_cons.mpr ⟨tw_54, (List.forall_mem_cons.mpr ⟨tw_57, (List.forall_mem_cons.mpr ⟨tw_404, (List.forall_mem_cons.mpr ⟨tw_200, (List.forall_mem_cons.mpr ⟨tw_201, (List.forall_mem_cons.mpr ⟨tw_202, (List.forall_mem_cons.mpr ⟨tw_58, (List.forall_mem_cons.mpr ⟨tw_480, (List.forall_mem_cons.mpr ⟨tw_481, (List.forall_mem_cons.mpr ⟨tw_482, (List.forall_mem_cons.mpr ⟨tw_483, (List.forall_mem_cons.mpr ⟨tw_484, (List.forall_mem_cons.mpr ⟨tw_485, (List.forall_mem_cons.mpr ⟨tw_486, (List.forall_mem_cons.mpr ⟨tw_487, (fun _ h => absurd h List.not_mem_nil)⟩)⟩)⟩)⟩)⟩)⟩)⟩)⟩)⟩)⟩)⟩)⟩)⟩)⟩)⟩)⟩)⟩)⟩)⟩)⟩)⟩)⟩)⟩)⟩)
set_option maxRecDepth 20000 in
theorem tl_X10_zero_r3 : ∀ w ∈ wsX10_zero_r3, w ∈ lw_tbl := (List.forall_mem_cons.mpr ⟨tw_488, (List.forall_mem_cons.mpr ⟨tw_489, (List.forall_mem_cons.mpr ⟨tw_490, (List.forall_mem_cons.mpr ⟨tw_491, (List.forall_mem_cons.mpr ⟨tw_492, (List.forall_mem_cons.mpr ⟨tw_493, (List.forall_mem_cons.mpr ⟨tw_410, (List.forall_mem_cons.mpr ⟨tw_411, (List.forall_mem_cons.mpr ⟨tw_412, (List.forall_mem_cons.mpr ⟨tw_494, (List.forall_mem_cons.mpr ⟨tw_495, (List.forall_mem_cons.mpr ⟨tw_496, (List.forall_mem_cons.mpr ⟨tw_497, (List.forall_mem_cons.mpr ⟨tw_498, (List.forall_mem_cons.mpr ⟨tw_499, (List.forall_mem_cons.mpr ⟨tw_500, (List.forall_mem_cons.mpr ⟨tw_501, (List.forall_mem_cons.mpr ⟨tw_502, (List.forall_mem_cons.mpr ⟨tw_503, (List.forall_mem_cons.mpr ⟨tw_504, (List.forall_mem_cons.mpr ⟨tw_505, (List.forall_mem_cons.mpr ⟨tw_506, (List.forall_mem_cons.mpr ⟨tw_437, (List.forall_mem_cons.mpr ⟨tw_438, (fun _ h => absurd h List.not_mem_nil)⟩)⟩)⟩)⟩)⟩)⟩)⟩)⟩)⟩)⟩)⟩)⟩)⟩)⟩)⟩)⟩)⟩)⟩)⟩)⟩)⟩)⟩)⟩)⟩)
set_option maxRecDepth 20000 in
theorem tl_X10_zero_r4 : ∀ w ∈ wsX10_zero_r4, w ∈ lw_tbl := (List.forall_mem_cons.mpr ⟨tw_439, (List.forall_mem_cons.mpr ⟨tw_427, (List.forall_mem_cons.mpr ⟨tw_507, (List.forall_mem_cons.mpr ⟨tw_508, (List.forall_mem_cons.mpr ⟨tw_509, (List.forall_mem_cons.mpr ⟨tw_510, (List.forall_mem_cons.mpr ⟨tw_511, (List.forall_mem_cons.mpr ⟨tw_512, (List.forall_mem_cons.mpr ⟨tw_513, (List.forall_mem_cons.mpr ⟨tw_514, (List.forall_mem_cons.mpr ⟨tw_515, (List.forall_mem_cons.mpr ⟨tw_516, (List.forall_mem_cons.mpr ⟨tw_517, (List.forall_mem_cons.mpr ⟨tw_518, (List.forall_mem_cons.mpr ⟨tw_414, (List.forall_mem_cons.mpr ⟨tw_415, (List.forall_mem_cons.mpr ⟨tw_416, (List.forall_mem_cons.mpr ⟨tw_519, (List.forall_mem_cons.mpr ⟨tw_520, (List.forall_mem_cons.mpr ⟨tw_521, (List.forall_mem_cons.mpr ⟨tw_522, (List.forall_mem_cons.mpr ⟨tw_97, (List.forall_mem_cons.mpr ⟨tw_523, (List.forall_mem_cons.mpr ⟨tw_524, (fun _ h => absurd h List.not_mem_nil)⟩)⟩)⟩)⟩)⟩)⟩)⟩)⟩)⟩)⟩)⟩)⟩)⟩)⟩)⟩)⟩)⟩)⟩)⟩)⟩)⟩)⟩)⟩)⟩)
set_option maxRecDepth 20000 in
theorem tl_X10_zero_r5 : ∀ w ∈ wsX10_zero_r5, w ∈ lw_tbl := (List.forall_mem_cons.mpr ⟨tw_525, (List.forall_mem_cons.mpr ⟨tw_526, (List.forall_mem_cons.mpr ⟨tw_527, (List.forall_mem_cons.mpr ⟨tw_528, (List.forall_mem_cons.mpr ⟨tw_406, (List.forall_mem_cons.mpr ⟨tw_407, (List.forall_mem_cons.mpr ⟨tw_36, (List.forall_mem_cons.mpr ⟨tw_408, (List.forall_mem_cons.mpr ⟨tw_373, (List.forall_mem_cons.mpr ⟨tw_378, (List.forall_mem_cons.mpr ⟨tw_64, (List.forall_mem_cons.mpr ⟨tw_409, (List.forall_mem_cons.mpr ⟨tw_413, (List.forall_mem_cons.mpr ⟨tw_529, (List.forall_mem_cons.mpr ⟨tw_530, (List.forall_mem_cons.mpr ⟨tw_531, (List.forall_mem_cons.mpr ⟨tw_532, (List.forall_mem_cons.mpr ⟨tw_374, (List.forall_mem_cons.mpr ⟨tw_375, (List.forall_mem_cons.mpr ⟨tw_376, (List.forall_mem_cons.mpr ⟨tw_377, (List.forall_mem_cons.mpr ⟨tw_379, (List.forall_mem_cons.mpr ⟨tw_380, (List.forall_mem_cons.mpr ⟨tw_381, (fun _ h => absurd h List.not_mem_nil)⟩)⟩)⟩)⟩)⟩)⟩)⟩)⟩)⟩)⟩)⟩)⟩)⟩)⟩)⟩)⟩)⟩)⟩)⟩)⟩)⟩)⟩)⟩)⟩)
set_option maxRecDepth 20000 in
theorem tl_X10_zero_r6 : ∀ w ∈ wsX10_zero_r6, w ∈ lw_tbl := (List.forall_mem_cons.mpr ⟨tw_382, (List.forall_mem_cons.mpr ⟨tw_383, (List.forall_mem_cons.mpr ⟨tw_384, (List.forall_mem_cons.mpr ⟨tw_533, (List.forall_mem_cons.mpr ⟨tw_534, (List.forall_mem_cons.mpr ⟨tw_535, (List.forall_mem_cons.mpr ⟨tw_536, (List.forall_mem_cons.mpr ⟨tw_537, (List.forall_mem_cons.mpr ⟨tw_458, (List.forall_mem_cons.mpr ⟨tw_459, (List.forall_mem_cons.mpr ⟨tw_460, (List.forall_mem_cons.mpr ⟨tw_60, (List.forall_mem_cons.mpr ⟨tw_461, (List.forall_mem_cons.mpr ⟨tw_422, (List.forall_mem_cons.mpr ⟨tw_462, (List.forall_mem_cons.mpr ⟨tw_441, (List.forall_mem_cons.mpr ⟨tw_442, (List.forall_mem_cons.mpr ⟨tw_443, (List.forall_mem_cons.mpr ⟨tw_428, (List.forall_mem_cons.mpr ⟨tw_463, (List.forall_mem_cons.mpr ⟨tw_464, (List.forall_mem_cons.mpr ⟨tw_465, (List.forall_mem_cons.mpr ⟨tw_466, (List.forall_mem_cons.mpr ⟨tw_467, (fun _ h => absurd h List.not_mem_nil)⟩)⟩)⟩)⟩)⟩)⟩)⟩)⟩)⟩)⟩)⟩)⟩)⟩)⟩)⟩)⟩)⟩)⟩)⟩)⟩)⟩)⟩)⟩)⟩)
set_option maxRecDepth 20000 in
theorem tl_X10_zero_r7 : ∀ w ∈ wsX10_zero_r7, w ∈ lw_tbl := (List.forall_mem_cons.mpr ⟨tw_386, (List.forall_mem_cons.mpr ⟨tw_387, (List.forall_mem_cons.mpr ⟨tw_388, (List.forall_mem_cons.mpr ⟨tw_389, (List.forall_mem_cons.mpr ⟨tw_390, (List.forall_mem_cons.mpr ⟨tw_1056, (List.forall_mem_cons.mpr ⟨tw_1057, (List.forall_mem_cons.mpr ⟨tw_1058, (List.forall_mem_cons.mpr ⟨tw_1059, (List.forall_mem_cons.mpr ⟨tw_1072, (List.forall_mem_cons.mpr ⟨tw_1073, (List.forall_mem_cons.mpr ⟨tw_1074, (List.forall_mem_cons.mpr ⟨tw_23, (List.forall_mem_cons.mpr ⟨tw_1075, (List.forall_mem_cons.mpr ⟨tw_105, (List.forall_mem_cons.mpr ⟨tw_984, (List.forall_mem_cons.mpr ⟨tw_985, (List.forall_mem_cons.mpr ⟨tw_986, (List.forall_mem_cons.mpr ⟨tw_987, (List.forall_mem_cons.mpr ⟨tw_102, (List.forall_mem_cons.mpr ⟨tw_103, (List.forall_mem_cons.mpr ⟨tw_988, (List.forall_mem_cons.mpr ⟨tw_989, (List.forall_mem_cons.mpr ⟨tw_66, (fun _ h => absurd h List.not_mem_nil)⟩)⟩)⟩)⟩)⟩)⟩)⟩)⟩)⟩)⟩)⟩)⟩)⟩)⟩)⟩)⟩)⟩)⟩)⟩)⟩)⟩)⟩)⟩)⟩)
set_option maxRecDepth 20000 in
theorem tl_X10_zero_r8 : ∀ w ∈ wsX10_zero_r8, w ∈ lw_tbl := (List.forall_mem_cons.mpr ⟨tw_67, (List.forall_mem_cons.mpr ⟨tw_68, (List.forall_mem_cons.mpr ⟨tw_1008, (List.forall_mem_cons.mpr ⟨tw_370, (List.forall_mem_cons.mpr ⟨tw_371, (List.forall_mem_cons.mpr ⟨tw_372, (List.forall_mem_cons.mpr ⟨tw_1023, (List.forall_mem_cons.mpr ⟨tw_1024, (List.forall_mem_cons.mpr ⟨tw_1025, (List.forall_mem_cons.mpr ⟨tw_1026, (List.forall_mem_cons.mpr ⟨tw_998, (List.forall_mem_cons.mpr ⟨tw_999, (List.forall_mem_cons.mpr ⟨tw_997, (List.forall_mem_cons.mpr ⟨tw_990, (List.forall_mem_cons.mpr ⟨tw_991, (List.forall_mem_cons.mpr ⟨tw_992, (List.forall_mem_cons.mpr ⟨tw_993, (List.forall_mem_cons.mpr ⟨tw_994, (List.forall_mem_cons.mpr ⟨tw_995, (List.forall_mem_cons.mpr ⟨tw_996, (List.forall_mem_cons.mpr ⟨tw_106, (List.forall_mem_cons.mpr ⟨tw_1000, (List.forall_mem_cons.mpr ⟨tw_1001, (List.forall_mem_cons.mpr ⟨tw_1002, (fun _ h => absurd h List.not_mem_nil)⟩)⟩)⟩)⟩)⟩)⟩)⟩)⟩)⟩)⟩)⟩)⟩)⟩)⟩)⟩)⟩)⟩)⟩)⟩)⟩)⟩)⟩)⟩)⟩)
set_option maxRecDepth 20000 in
theorem tl_X10_zero_r9 : ∀ w ∈ wsX10_zero_r9, w ∈ lw_tbl := (List.forall_mem_cons.mpr ⟨tw_1003, (List.forall_mem_cons.mpr ⟨tw_1004, (List.forall_mem_cons.mpr ⟨tw_1005, (List.forall_mem_cons.mpr ⟨tw_1006, (List.forall_mem_cons.mpr ⟨tw_1007, (List.forall_mem_cons.mpr ⟨tw_1009, (List.forall_mem_cons.mpr ⟨tw_1010, (List.forall_mem_cons.mpr ⟨tw_1011, (List.forall_mem_cons.mpr ⟨tw_1012, (List.forall_mem_cons.mpr ⟨tw_1013, (List.forall_mem_cons.mpr ⟨tw_1014, (List.forall_mem_cons.mpr ⟨tw_1015, (List.forall_mem_cons.mpr ⟨tw_1016, (List.forall_mem_cons.mpr ⟨tw_1017, (List.forall_mem_cons.mpr ⟨tw_1018, (List.forall_mem_cons.mpr ⟨tw_1019, (List.forall_mem_cons.mpr ⟨tw_1020, (List.forall_mem_cons.mpr ⟨tw_1021, (List.forall_mem_cons.mpr ⟨tw_1022, (List.forall_mem_cons.mpr ⟨tw_1027, (List.forall_mem_cons.mpr ⟨tw_1028, (List.forall_mem_cons.mpr ⟨tw_1029, (List.forall_mem_cons.mpr ⟨tw_1030, (List.forall_mem_cons.mpr ⟨tw_1031, (fun _ h => absurd h List.not_mem_nil)⟩)⟩)⟩)⟩)⟩)⟩)⟩)⟩)⟩)⟩)⟩)⟩)⟩)⟩)⟩)⟩)⟩)⟩)⟩)⟩)⟩)⟩)⟩)⟩)
set_option maxRecDepth 20000 in
theorem tl_X11_zero_r1 : ∀ w ∈ wsX11_zero_r1, w ∈ lw_tbl := (List.forall_mem_cons.mpr ⟨tw_627, (List.forall_mem_cons.mpr ⟨tw_633, (List.forall_mem_cons.mpr ⟨tw_890, (List.forall_mem_cons.mpr ⟨tw_622, (List.forall_mem_cons.mpr ⟨tw_623, (List.forall_mem_cons.mpr ⟨tw_624, (List.forall_mem_cons.mpr ⟨tw_144, (List.forall_mem_cons.mpr ⟨tw_625, (List.forall_mem_cons.mpr ⟨tw_626, (List.forall_mem_cons.mpr ⟨tw_628, (List.forall_mem_cons.mpr ⟨tw_629, (List.forall_mem_cons.mpr ⟨tw_630, (List.forall_mem_cons.mpr ⟨tw_631, (List.forall_mem_cons.mpr ⟨tw_124, (List.forall_mem_cons.mpr ⟨tw_632, (List.forall_mem_cons.mpr ⟨tw_129, (List.forall_mem_cons.mpr ⟨tw_130, (List.forall_mem_cons.mpr ⟨tw_717, (List.forall_mem_cons.mpr ⟨tw_718, (List.forall_mem_cons.mpr ⟨tw_719, (List.forall_mem_cons.mpr ⟨tw_720, (List.forall_mem_cons.mpr ⟨tw_721, (List.forall_mem_cons.mpr ⟨tw_135, (List.forall_mem_cons.mpr ⟨tw_136, (fun _ h => absurd h List.not_mem_nil)⟩)⟩)⟩)⟩)⟩)⟩)⟩)⟩)⟩)⟩)⟩)⟩)⟩)⟩)⟩)⟩)⟩)⟩)⟩)⟩)⟩)⟩)⟩)⟩)
set_option maxRecDepth 20000 in
theorem tl_X11_zero_r2 : ∀ w ∈ wsX11_zero_r2, w ∈ lw_tbl := (List.forall_mem_cons.mpr ⟨tw_131, (List.forall_mem_cons.mpr ⟨tw_132, (List.forall_mem_cons.mpr ⟨tw_722, (List.forall_mem_cons.mpr ⟨tw_723, (List.forall_mem_cons.mpr ⟨tw_724, (List.forall_mem_cons.mpr ⟨tw_725, (List.forall_mem_cons.mpr ⟨tw_133, (List.forall_mem_cons.mpr ⟨tw_134, (List.forall_mem_cons.mpr ⟨tw_660, (List.forall_mem_cons.mpr ⟨tw_661, (List.forall_mem_cons.mpr ⟨tw_662, (List.forall_mem_cons.mpr ⟨tw_726, (List.forall_mem_cons.mpr ⟨tw_727, (List.forall_mem_cons.mpr ⟨tw_728, (List.forall_mem_cons.mpr ⟨tw_729, (List.forall_mem_cons.mpr ⟨tw_730, (List.forall_mem_cons.mpr ⟨tw_731, (List.forall_mem_cons.mpr ⟨tw_732, (List.forall_mem_cons.mpr ⟨tw_733, (List.forall_mem_cons.mpr ⟨tw_734, (List.forall_mem_cons.mpr ⟨tw_735, (List.forall_mem_cons.mpr ⟨tw_736, (List.forall_mem_cons.mpr ⟨tw_737, (List.forall_mem_cons.mpr ⟨tw_738, (fun _ h => absurd h List.not_mem_nil)⟩)⟩)⟩)⟩)⟩)⟩)⟩)⟩)⟩)⟩)⟩)⟩)⟩)⟩)⟩)⟩)⟩)⟩)⟩)⟩)⟩)⟩)⟩)⟩)
set_option maxRecDepth 20000 in
theorem tl_X11_zero_r3 : ∀ w ∈ wsX11_zero_r3, w ∈ lw_tbl := (List.forall_mem_cons.mpr ⟨tw_739, (List.forall_mem_cons.mpr ⟨tw_740, (List.forall_mem_cons.mpr ⟨tw_741, (List.forall_mem_cons.mpr ⟨tw_742, (List.forall_mem_cons.mpr ⟨tw_743, (List.forall_mem_cons.mpr ⟨tw_744, (List.forall_mem_cons.mpr ⟨tw_745, (List.forall_mem_cons.mpr ⟨tw_746, (List.forall_mem_cons.mpr ⟨tw_747, (List.forall_mem_cons.mpr ⟨tw_748, (List.forall_mem_cons.mpr ⟨tw_749, (List.forall_mem_cons.mpr ⟨tw_708, (List.forall_mem_cons.mpr ⟨tw_652, (List.forall_mem_cons.mpr ⟨tw_640, (List.forall_mem_cons.mpr ⟨tw_641, (List.forall_mem_cons.mpr ⟨tw_750, (List.forall_mem_cons.mpr ⟨tw_751, (List.forall_mem_cons.mpr ⟨tw_752, (List.forall_mem_cons.mpr ⟨tw_753, (List.forall_mem_cons.mpr ⟨tw_646, (List.forall_mem_cons.mpr ⟨tw_647, (List.forall_mem_cons.mpr ⟨tw_648, (List.forall_mem_cons.mpr ⟨tw_649, (List.forall_mem_cons.mpr ⟨tw_650, (fun _ h => absurd h List.not_mem_nil)⟩)⟩)⟩)⟩)⟩)⟩)⟩)⟩)⟩)⟩)⟩)⟩)⟩)⟩)⟩)⟩)⟩)⟩)⟩)⟩)⟩)⟩)⟩)⟩)
set_option maxRecDepth 20000 in
theorem tl_X11_zero_r4 : ∀ w ∈ wsX11_zero_r4, w ∈ lw_tbl := (List.forall_mem_cons.mpr ⟨tw_651, (List.forall_mem_cons.mpr ⟨tw_653, (List.forall_mem_cons.mpr ⟨tw_654, (List.forall_mem_cons.mpr ⟨tw_655, (List.forall_mem_cons.mpr ⟨tw_694, (List.forall_mem_cons.mpr ⟨tw_695, (List.forall_mem_cons.mpr ⟨tw_696, (List.forall_mem_cons.mpr ⟨tw_697, (List.forall_mem_cons.mpr ⟨tw_698, (List.forall_mem_cons.mpr ⟨tw_699, (List.forall_mem_cons.mpr ⟨tw_704, (List.forall_mem_cons.mpr ⟨tw_705, (List.forall_mem_cons.mpr ⟨tw_706, (List.forall_mem_cons.mpr ⟨tw_707, (List.forall_mem_cons.mpr ⟨tw_690, (List.forall_mem_cons.mpr ⟨tw_691, (List.forall_mem_cons.mpr ⟨tw_692, (List.forall_mem_cons.mpr ⟨tw_693, (List.forall_mem_cons.mpr ⟨tw_709, (List.forall_mem_cons.mpr ⟨tw_710, (List.forall_mem_cons.mpr ⟨tw_711, (List.forall_mem_cons.mpr ⟨tw_712, (List.forall_mem_cons.mpr ⟨tw_656, (List.forall_mem_cons.mpr ⟨tw_657, (fun _ h => absurd h List.not_mem_nil)⟩)⟩)⟩)⟩)⟩)⟩)⟩)⟩)⟩)⟩)⟩)⟩)⟩)⟩)⟩)⟩)⟩)⟩)⟩)⟩)⟩)⟩)⟩)⟩)
set_option maxRecDepth 20000 in
theorem tl_X11_zero_r5 : ∀ w ∈ wsX11_zero_r5, w ∈ lw_tbl := (List.forall_mem_cons.mpr ⟨tw_658, (List.forall_mem_cons.mpr ⟨tw_659, (List.forall_mem_cons.mpr ⟨tw_168, (List.forall_mem_cons.mpr ⟨tw_169, (List.forall_mem_cons.mpr ⟨tw_170, (List.forall_mem_cons.mpr ⟨tw_1064, (List.forall_mem_cons.mpr ⟨tw_1065, (List.forall_mem_cons.mpr ⟨tw_1066, (List.forall_mem_cons.mpr ⟨tw_1067, (List.forall_mem_cons.mpr ⟨tw_1040, (List.forall_mem_cons.mpr ⟨tw_1041, (List.forall_mem_cons.mpr ⟨tw_1042, (List.forall_mem_cons.mpr ⟨tw_1043, (List.forall_mem_cons.mpr ⟨tw_138, (List.forall_mem_cons.mpr ⟨tw_139, (List.forall_mem_cons.mpr ⟨tw_140, (List.forall_mem_cons.mpr ⟨tw_1044, (List.forall_mem_cons.mpr ⟨tw_1045, (List.forall_mem_cons.mpr ⟨tw_1046, (List.forall_mem_cons.mpr ⟨tw_1047, (List.forall_mem_cons.mpr ⟨tw_1048, (List.forall_mem_cons.mpr ⟨tw_1049, (List.forall_mem_cons.mpr ⟨tw_1050, (List.forall_mem_cons.mpr ⟨tw_1051, (fun _ h => absurd h List.not_mem_nil)⟩)⟩)⟩)⟩)⟩)⟩)⟩)⟩)⟩)⟩)⟩)⟩)⟩)⟩)⟩)⟩)⟩)⟩)⟩)⟩)⟩)⟩)⟩)⟩)
set_option maxRecDepth 20000 in
theorem tl_X10_determinant_r1 : ∀ w ∈ wsX10_determinant_r1, w ∈ lw_tbl := (List.forall_mem_cons.mpr ⟨tw_7, (List.forall_mem_cons.mpr ⟨tw_183, (List.forall_mem_cons.mpr ⟨tw_1084, (List.forall_mem_cons.mpr ⟨tw_1085, (List.forall_mem_cons.mpr ⟨tw_1086, (List.forall_mem_cons.mpr ⟨tw_157, (List.forall_mem_cons.mpr ⟨tw_1087, (List.forall_mem_cons.mpr ⟨tw_881, (List.forall_mem_cons.mpr ⟨tw_20, (List.forall_mem_cons.mpr ⟨tw_906, (List.forall_mem_cons.mpr ⟨tw_37, (List.forall_mem_cons.mpr ⟨tw_1088, (List.forall_mem_cons.mpr ⟨tw_1089, (List.forall_mem_cons.mpr ⟨tw_1090, (List.forall_mem_cons.mpr ⟨tw_31, (List.forall_mem_cons.mpr ⟨tw_1091, (List.forall_mem_cons.mpr ⟨tw_54, (List.forall_mem_cons.mpr ⟨tw_55, (List.forall_mem_cons.mpr ⟨tw_468, (List.forall_mem_cons.mpr ⟨tw_469, (List.forall_mem_cons.mpr ⟨tw_470, (List.forall_mem_cons.mpr ⟨tw_19, (List.forall_mem_cons.mpr ⟨tw_471, (List.forall_mem_cons.mpr ⟨tw_91, (fun _ h => absurd h List.not_mem_nil)⟩)⟩)⟩)⟩)⟩)⟩)⟩)⟩)⟩)⟩)⟩)⟩)⟩)⟩)⟩)⟩)⟩)⟩)⟩)⟩)⟩)⟩)⟩)⟩)
set_option maxRecDepth 20000 in
theorem tl_X10_determinant_r2 : ∀ w ∈ wsX10_determinant_r2, w ∈ lw_tbl := (List.forall_mem_cons.mpr ⟨tw_472, (List.forall_mem_cons.mpr ⟨tw_473, (List.forall_mem_cons.mpr ⟨tw_474, (List.forall_mem_cons.mpr ⟨tw_475, (List.forall_mem_cons.mpr ⟨tw_476, (List.forall_mem_cons.mpr ⟨tw_477, (List.forall_mem_cons.mpr ⟨tw_92, (List.forall_mem_cons.mpr ⟨tw_93, (List.forall_mem_cons.mpr ⟨tw_478, (List.forall_mem_cons.mpr ⟨tw_95, (List.forall_mem_cons.mpr ⟨tw_94, (List.forall_mem_cons.mpr ⟨tw_479, (List.forall_mem_cons.mpr ⟨tw_401, (List.forall_mem_cons.mpr ⟨tw_402, (List.forall_mem_cons.mpr ⟨tw_403, (List.forall_mem_cons.mpr ⟨tw_57, (List.forall_mem_cons.mpr ⟨tw_404, (List.forall_mem_cons.mpr ⟨tw_200, (List.forall_mem_cons.mpr ⟨tw_201, (List.forall_mem_cons.mpr ⟨tw_202, (List.forall_mem_cons.mpr ⟨tw_58, (List.forall_mem_cons.mpr ⟨tw_480, (List.forall_mem_cons.mpr ⟨tw_481, (List.forall_mem_cons.mpr ⟨tw_482, (fun _ h => absurd h List.not_mem_nil)⟩)⟩)⟩)⟩)⟩)⟩)⟩)⟩)⟩)⟩)⟩)⟩)⟩)⟩)⟩)⟩)⟩)⟩)⟩)⟩)⟩)⟩)⟩)⟩)
set_option maxRecDepth 20000 in
theorem tl_X10_determinant_r3 : ∀ w ∈ wsX10_determinant_r3, w ∈ lw_tbl := (List.forall_mem_cons.mpr ⟨tw_483, (List.forall_mem_cons.mpr ⟨tw_484, (List.forall_mem_cons.mpr ⟨tw_485, (List.forall_mem_cons.mpr ⟨tw_486, (List.forall_mem_cons.mpr ⟨tw_487, (List.forall_mem_cons.mpr ⟨tw_488, (List.forall_mem_cons.mpr ⟨tw_489, (List.forall_mem_cons.mpr ⟨tw_490, (List.forall_mem_cons.mpr ⟨tw_491, (List.forall_mem_cons.mpr ⟨tw_492, (List.forall_mem_cons.mpr ⟨tw_493, (List.forall_mem_cons.mpr ⟨tw_410, (List.forall_mem_cons.mpr ⟨tw_411, (List.forall_mem_cons.mpr ⟨tw_412, (List.forall_mem_cons.mpr ⟨tw_494, (List.forall_mem_cons.mpr ⟨tw_495, (List.forall_mem_cons.mpr ⟨tw_496, (List.forall_mem_cons.mpr ⟨tw_497, (List.forall_mem_cons.mpr ⟨tw_498, (List.forall_mem_cons.mpr ⟨tw_499, (List.forall_mem_cons.mpr ⟨tw_500, (List.forall_mem_cons.mpr ⟨tw_501, (List.forall_mem_cons.mpr ⟨tw_502, (List.forall_mem_cons.mpr ⟨tw_503, (fun _ h => absurd h List.not_mem_nil)⟩)⟩)⟩)⟩)⟩)⟩)⟩)⟩)⟩)⟩)⟩)⟩)⟩)⟩)⟩)⟩)⟩)⟩)⟩)⟩)⟩)⟩)⟩)⟩)
set_option maxRecDepth 20000 in
theorem tl_X10_determinant_r4 : ∀ w ∈ wsX10_determinant_r4, w ∈ lw_tbl := (List.forall_mem_cons.mpr ⟨tw_504, (List.forall_mem_cons.mpr ⟨tw_505, (List.forall_mem_cons.mpr ⟨tw_506, (List.forall_mem_cons.mpr ⟨tw_437, (List.forall_mem_cons.mpr ⟨tw_438, (List.forall_mem_cons.mpr ⟨tw_439, (List.forall_mem_cons.mpr ⟨tw_427, (List.forall_mem_cons.mpr ⟨tw_507, (List.forall_mem_cons.mpr ⟨tw_508, (List.forall_mem_cons.mpr ⟨tw_509, (List.forall_mem_cons.mpr ⟨tw_510, (List.forall_mem_cons.mpr ⟨tw_511, (List.forall_mem_cons.mpr ⟨tw_512, (List.forall_mem_cons.mpr ⟨tw_513, (List.forall_mem_cons.mpr ⟨tw_514, (List.forall_mem_cons.mpr ⟨tw_515, (List.forall_mem_cons.mpr ⟨tw_516, (List.forall_mem_cons.mpr ⟨tw_517, (List.forall_mem_cons.mpr ⟨tw_518, (List.forall_mem_cons.mpr ⟨tw_414, (List.forall_mem_cons.mpr ⟨tw_415, (List.forall_mem_cons.mpr ⟨tw_416, (List.forall_mem_cons.mpr ⟨tw_519, (List.forall_mem_cons.mpr ⟨tw_520, (fun _ h => absurd h List.not_mem_nil)⟩)⟩)⟩)⟩)⟩)⟩)⟩)⟩)⟩)⟩)⟩)⟩)⟩)⟩)⟩)⟩)⟩)⟩)⟩)⟩)⟩)⟩)⟩)⟩)
set_option maxRecDepth 20000 in
theorem tl_X10_determinant_r5 : ∀ w ∈ wsX10_determinant_r5, w ∈ lw_tbl := (List.forall_mem_cons.mpr ⟨tw_521, (List.forall_mem_cons.mpr ⟨tw_522, (List.forall_mem_cons.mpr ⟨tw_97, (List.forall_mem_cons.mpr ⟨tw_523, (List.forall_mem_cons.mpr ⟨tw_524, (List.forall_mem_cons.mpr ⟨tw_525, (List.forall_mem_cons.mpr ⟨tw_526, (List.forall_mem_cons.mpr ⟨tw_527, (List.forall_mem_cons.mpr ⟨tw_528, (List.forall_mem_cons.mpr ⟨tw_406, (List.forall_mem_cons.mpr ⟨tw_407, (List.forall_mem_cons.mpr ⟨tw_36, (List.forall_mem_cons.mpr ⟨tw_408, (List.forall_mem_cons.mpr ⟨tw_373, (List.forall_mem_cons.mpr ⟨tw_378, (List.forall_mem_cons.mpr ⟨tw_64, (List.forall_mem_cons.mpr ⟨tw_409, (List.forall_mem_cons.mpr ⟨tw_413, (List.forall_mem_cons.mpr ⟨tw_529, (List.forall_mem_cons.mpr ⟨tw_530, (List.forall_mem_cons.mpr ⟨tw_531, (List.forall_mem_cons.mpr ⟨tw_532, (List.forall_mem_cons.mpr ⟨tw_374, (List.forall_mem_cons.mpr ⟨tw_375, (fun _ h => absurd h List.not_mem_nil)⟩)⟩)⟩)⟩)⟩)⟩)⟩)⟩)⟩)⟩)⟩)⟩)⟩)⟩)⟩)⟩)⟩)⟩)⟩)⟩)⟩)⟩)⟩)⟩)
set_option maxRecDepth 20000 in
theorem tl_X10_determinant_r6 : ∀ w ∈ wsX10_determinant_r6, w ∈ lw_tbl := (List.forall_mem_cons.mpr ⟨tw_376, (List.forall_mem_cons.mpr ⟨tw_377, (List.forall_mem_cons.mpr ⟨tw_379, (List.forall_mem_cons.mpr ⟨tw_380, (List.forall_mem_cons.mpr ⟨tw_381, (List.forall_mem_cons.mpr ⟨tw_382, (List.forall_mem_cons.mpr ⟨tw_383, (List.forall_mem_cons.mpr ⟨tw_384, (List.forall_mem_cons.mpr ⟨tw_533, (List.forall_mem_cons.mpr ⟨tw_534, (List.forall_mem_cons.mpr ⟨tw_535, (List.forall_mem_cons.mpr ⟨tw_536, (List.forall_mem_cons.mpr ⟨tw_537, (List.forall_mem_cons.mpr ⟨tw_458, (List.forall_mem_cons.mpr ⟨tw_459, (List.forall_mem_cons.mpr ⟨tw_460, (List.forall_mem_cons.mpr ⟨tw_60, (List.forall_mem_cons.mpr ⟨tw_461, (List.forall_mem_cons.mpr ⟨tw_422, (List.forall_mem_cons.mpr ⟨tw_462, (List.forall_mem_cons.mpr ⟨tw_441, (List.forall_mem_cons.mpr ⟨tw_442, (List.forall_mem_cons.mpr ⟨tw_443, (List.forall_mem_cons.mpr ⟨tw_428, (fun _ h => absurd h List.not_mem_nil)⟩)⟩)⟩)⟩)⟩)⟩)⟩)⟩)⟩)⟩)⟩)⟩)⟩)⟩)⟩)⟩)⟩)⟩)⟩)⟩)⟩)⟩)⟩)⟩)
set_option maxRecDepth 20000 in
theorem tl_X10_determinant_r7 : ∀ w ∈ wsX10_determinant_r7, w ∈ lw_tbl := (List.forall_mem_cons.mpr ⟨tw_463, (List.forall_mem_cons.mpr ⟨tw_464, (List.forall_mem_cons.mpr ⟨tw_465, (List.forall_mem_cons.mpr ⟨tw_466, (List.forall_mem_cons.mpr ⟨tw_467, (List.forall_mem_cons.mpr ⟨tw_386, (List.forall_mem_cons.mpr ⟨tw_387, (List.forall_mem_cons.mpr ⟨tw_388, (List.forall_mem_cons.mpr ⟨tw_389, (List.forall_mem_cons.mpr ⟨tw_390, (List.forall_mem_cons.mpr ⟨tw_1092, (List.forall_mem_cons.mpr ⟨tw_1093, (List.forall_mem_cons.mpr ⟨tw_1094, (List.forall_mem_cons.mpr ⟨tw_1095, (List.forall_mem_cons.mpr ⟨tw_1096, (List.forall_mem_cons.mpr ⟨tw_370, (List.forall_mem_cons.mpr ⟨tw_371, (List.forall_mem_cons.mpr ⟨tw_372, (List.forall_mem_cons.mpr ⟨tw_1097, (List.forall_mem_cons.mpr ⟨tw_1001, (List.forall_mem_cons.mpr ⟨tw_1002, (List.forall_mem_cons.mpr ⟨tw_1003, (List.forall_mem_cons.mpr ⟨tw_1098, (List.forall_mem_cons.mpr ⟨tw_1005, (fun _ h => absurd h List.not_mem_nil)⟩)⟩)⟩)⟩)⟩)⟩)⟩)⟩)⟩)⟩)⟩)⟩)⟩)⟩)⟩)⟩)⟩)⟩)⟩)⟩)⟩)⟩)⟩)⟩)
set_option maxRecDepth 20000 in
theorem tl_X10_determinant_r8 : ∀ w ∈ wsX10_determinant_r8, w ∈ lw_tbl := (List.forall_mem_cons.mpr ⟨tw_1006, (List.forall_mem_cons.mpr ⟨tw_1007, (List.forall_mem_cons.mpr ⟨tw_1099, (List.forall_mem_cons.mpr ⟨tw_1100, (List.forall_mem_cons.mpr ⟨tw_1101, (List.forall_mem_cons.mpr ⟨tw_1102, (List.forall_mem_cons.mpr ⟨tw_1103, (List.forall_mem_cons.mpr ⟨tw_1104, (List.forall_mem_cons.mpr ⟨tw_1105, (fun _ h => absurd h List.not_mem_nil)⟩)⟩)⟩)⟩)⟩)⟩)⟩)⟩)⟩)
set_option maxRecDepth 20000 in
theorem tl_X11_determinant_r1 : ∀ w ∈ wsX11_determinant_r1, w ∈ lw_tbl := (List.forall_mem_cons.mpr ⟨tw_632, (List.forall_mem_cons.mpr ⟨tw_633, (List.forall_mem_cons.mpr ⟨tw_890, (List.forall_mem_cons.mpr ⟨tw_622, (List.forall_mem_cons.mpr ⟨tw_623, (List.forall_mem_cons.mpr ⟨tw_624, (List.forall_mem_cons.mpr ⟨tw_144, (List.forall_mem_cons.mpr ⟨tw_625, (List.forall_mem_cons.mpr ⟨tw_626, (List.forall_mem_cons.mpr ⟨tw_627, (List.forall_mem_cons.mpr ⟨tw_628, (List.forall_mem_cons.mpr ⟨tw_629, (List.forall_mem_cons.mpr ⟨tw_630, (List.forall_mem_cons.mpr ⟨tw_631, (List.forall_mem_cons.mpr ⟨tw_124, (List.forall_mem_cons.mpr ⟨tw_129, (List.forall_mem_cons.mpr ⟨tw_130, (List.forall_mem_cons.mpr ⟨tw_1110, (List.forall_mem_cons.mpr ⟨tw_1111, (List.forall_mem_cons.mpr ⟨tw_1112, (List.forall_mem_cons.mpr ⟨tw_1113, (List.forall_mem_cons.mpr ⟨tw_721, (List.forall_mem_cons.mpr ⟨tw_131, (List.forall_mem_cons.mpr ⟨tw_132, (fun _ h => absurd h List.not_mem_nil)⟩)⟩)⟩)⟩)⟩)⟩)⟩)⟩)⟩)⟩)⟩)⟩)⟩)⟩)⟩)⟩)⟩)⟩)⟩)⟩)⟩)⟩)⟩)⟩)
set_option maxRecDepth 20000 in
theorem tl_X11_determinant_r2 : ∀ w ∈ wsX11_determinant_r2, w ∈ lw_tbl := (List.forall_mem_cons.mpr ⟨tw_640, (List.forall_mem_cons.mpr ⟨tw_641, (List.forall_mem_cons.mpr ⟨tw_652, (List.forall_mem_cons.mpr ⟨tw_717, (List.forall_mem_cons.mpr ⟨tw_718, (List.forall_mem_cons.mpr ⟨tw_719, (List.forall_mem_cons.mpr ⟨tw_720, (List.forall_mem_cons.mpr ⟨tw_135, (List.forall_mem_cons.mpr ⟨tw_136, (List.forall_mem_cons.mpr ⟨tw_722, (List.forall_mem_cons.mpr ⟨tw_723, (List.forall_mem_cons.mpr ⟨tw_724, (List.forall_mem_cons.mpr ⟨tw_725, (List.forall_mem_cons.mpr ⟨tw_133, (List.forall_mem_cons.mpr ⟨tw_134, (List.forall_mem_cons.mpr ⟨tw_660, (List.forall_mem_cons.mpr ⟨tw_661, (List.forall_mem_cons.mpr ⟨tw_662, (List.forall_mem_cons.mpr ⟨tw_726, (List.forall_mem_cons.mpr ⟨tw_727, (List.forall_mem_cons.mpr ⟨tw_728, (List.forall_mem_cons.mpr ⟨tw_729, (List.forall_mem_cons.mpr ⟨tw_730, (List.forall_mem_cons.mpr ⟨tw_731, (fun _ h => absurd h List.not_mem_nil)⟩)⟩)⟩)⟩)⟩)⟩)⟩)⟩)⟩)⟩)⟩)⟩)⟩)⟩)⟩)⟩)⟩)⟩)⟩)⟩)⟩)⟩)⟩)⟩)
set_option maxRecDepth 20000 in
theorem tl_X11_determinant_r3 : ∀ w ∈ wsX11_determinant_r3, w ∈ lw_tbl := (List.forall_mem_cons.mpr ⟨tw_732, (List.forall_mem_cons.mpr ⟨tw_733, (List.forall_mem_cons.mpr ⟨tw_734, (List.forall_mem_cons.mpr ⟨tw_735, (List.forall_mem_cons.mpr ⟨tw_736, (List.forall_mem_cons.mpr ⟨tw_737, (List.forall_mem_cons.mpr ⟨tw_738, (List.forall_mem_cons.mpr ⟨tw_739, (List.forall_mem_cons.mpr ⟨tw_740, (List.forall_mem_cons.mpr ⟨tw_741, (List.forall_mem_cons.mpr ⟨tw_742, (List.forall_mem_cons.mpr ⟨tw_743, (List.forall_mem_cons.mpr ⟨tw_744, (List.forall_mem_cons.mpr ⟨tw_745, (List.forall_mem_cons.mpr ⟨tw_746, (List.forall_mem_cons.mpr ⟨tw_747, (List.forall_mem_cons.mpr ⟨tw_748, (List.forall_mem_cons.mpr ⟨tw_749, (List.forall_mem_cons.mpr ⟨tw_708, (List.forall_mem_cons.mpr ⟨tw_750, (List.forall_mem_cons.mpr ⟨tw_751, (List.forall_mem_cons.mpr ⟨tw_752, (List.forall_mem_cons.mpr ⟨tw_753, (List.forall_mem_cons.mpr ⟨tw_646, (fun _ h => absurd h List.not_mem_nil)⟩)⟩)⟩)⟩)⟩)⟩)⟩)⟩)⟩)⟩)⟩)⟩)⟩)⟩)⟩)⟩)⟩)⟩)⟩)⟩)⟩)⟩)⟩)⟩)
set_option maxRecDepth 20000 in
theorem tl_X11_determinant_r4 : ∀ w ∈ wsX11_determinant_r4, w ∈ lw_tbl := (List.forall_mem_cons.mpr ⟨tw_647, (List.forall_mem_cons.mpr ⟨tw_648, (List.forall_mem_cons.mpr ⟨tw_649, (List.forall_mem_cons.mpr ⟨tw_650, (List.forall_mem_cons.mpr ⟨tw_651, (List.forall_mem_cons.mpr ⟨tw_653, (List.forall_mem_cons.mpr ⟨tw_654, (List.forall_mem_cons.mpr ⟨tw_655, (List.forall_mem_cons.mpr ⟨tw_694, (List.forall_mem_cons.mpr ⟨tw_695, (List.forall_mem_cons.mpr ⟨tw_696, (List.forall_mem_cons.mpr ⟨tw_697, (List.forall_mem_cons.mpr ⟨tw_698, (List.forall_mem_cons.mpr ⟨tw_699, (List.forall_mem_cons.mpr ⟨tw_704, (List.forall_mem_cons.mpr ⟨tw_705, (List.forall_mem_cons.mpr ⟨tw_706, (List.forall_mem_cons.mpr ⟨tw_707, (List.forall_mem_cons.mpr ⟨tw_690, (List.forall_mem_cons.mpr ⟨tw_691, (List.forall_mem_cons.mpr ⟨tw_692, (List.forall_mem_cons.mpr ⟨tw_693, (List.forall_mem_cons.mpr ⟨tw_709, (List.forall_mem_cons.mpr ⟨tw_710, (fun _ h => absurd h List.not_mem_nil)⟩)⟩)⟩)⟩)⟩)⟩)⟩)⟩)⟩)⟩)⟩)⟩)⟩)⟩)⟩)⟩)⟩)⟩)⟩)⟩)⟩)⟩)⟩)⟩)
set_option maxRecDepth 20000 in
theorem tl_X11_determinant_r5 : ∀ w ∈ wsX11_determinant_r5, w ∈ lw_tbl := (List.forall_mem_cons.mpr ⟨tw_711, (List.forall_mem_cons.mpr ⟨tw_712, (List.forall_mem_cons.mpr ⟨tw_656, (List.forall_mem_cons.mpr ⟨tw_657, (List.forall_mem_cons.mpr ⟨tw_658, (List.forall_mem_cons.mpr ⟨tw_659, (List.forall_mem_cons.mpr ⟨tw_1064, (List.forall_mem_cons.mpr ⟨tw_1065, (List.forall_mem_cons.mpr ⟨tw_1066, (List.forall_mem_cons.mpr ⟨tw_1067, (List.forall_mem_cons.mpr ⟨tw_1114, (List.forall_mem_cons.mpr ⟨tw_1115, (List.forall_mem_cons.mpr ⟨tw_1116, (List.forall_mem_cons.mpr ⟨tw_1117, (fun _ h => absurd h List.not_mem_nil)⟩)⟩)⟩)⟩)⟩)⟩)⟩)⟩)⟩)⟩)⟩)⟩)⟩)⟩)
set_option maxRecDepth 20000 in
theorem tl_X10_inverse_r1 : ∀ w ∈ wsX10_inverse_r1, w ∈ lw_tbl := (List.forall_mem_cons.mpr ⟨tw_7, (List.forall_mem_cons.mpr ⟨tw_183, (List.forall_mem_cons.mpr ⟨tw_881, (List.forall_mem_cons.mpr ⟨tw_33, (List.forall_mem_cons.mpr ⟨tw_37, (List.forall_mem_cons.mpr ⟨tw_178, (List.forall_mem_cons.mpr ⟨tw_20, (List.forall_mem_cons.mpr ⟨tw_906, (List.forall_mem_cons.mpr ⟨tw_937, (List.forall_mem_cons.mpr ⟨tw_177, (List.forall_mem_cons.mpr ⟨tw_24, (List.forall_mem_cons.mpr ⟨tw_1088, (List.forall_mem_cons.mpr ⟨tw_1089, (List.forall_mem_cons.mpr ⟨tw_1090, (List.forall_mem_cons.mpr ⟨tw_31, (List.forall_mem_cons.mpr ⟨tw_1091, (List.forall_mem_cons.mpr ⟨tw_54, (List.forall_mem_cons.mpr ⟨tw_55, (List.forall_mem_cons.mpr ⟨tw_882, (List.forall_mem_cons.mpr ⟨tw_397, (List.forall_mem_cons.mpr ⟨tw_398, (List.forall_mem_cons.mpr ⟨tw_399, (List.forall_mem_cons.mpr ⟨tw_971, (List.forall_mem_cons.mpr ⟨tw_972, (fun _ h => absurd h List.not_mem_nil)⟩)⟩)⟩)⟩)⟩)⟩)⟩)⟩)⟩)⟩)⟩)⟩)⟩)⟩)⟩)⟩)⟩)⟩)⟩)⟩)⟩)⟩)⟩)⟩)
set_option maxRecDepth 20000 in
theorem tl_X10_inverse_r2 : ∀ w ∈ wsX10_inverse_r2, w ∈ lw_tbl := (List.forall_mem_cons.mpr ⟨tw_973, (List.forall_mem_cons.mpr ⟨tw_974, (List.forall_mem_cons.mpr ⟨tw_550, (List.forall_mem_cons.mpr ⟨tw_401, (List.forall_mem_cons.mpr ⟨tw_402, (List.forall_mem_cons.mpr ⟨tw_403, (List.forall_mem_cons.mpr ⟨tw_57, (List.forall_mem_cons.mpr ⟨tw_404, (List.forall_mem_cons.mpr ⟨tw_200, (List.forall_mem_cons.mpr ⟨tw_201, (List.forall_mem_cons.mpr ⟨tw_202, (List.forall_mem_cons.mpr ⟨tw_58, (List.forall_mem_cons.mpr ⟨tw_1122, (List.forall_mem_cons.mpr ⟨tw_1123, (List.forall_mem_cons.mpr ⟨tw_1124, (List.forall_mem_cons.mpr ⟨tw_1125, (List.forall_mem_cons.mpr ⟨tw_60, (List.forall_mem_cons.mpr ⟨tw_1126, (List.forall_mem_cons.mpr ⟨tw_370, (List.forall_mem_cons.mpr ⟨tw_371, (List.forall_mem_cons.mpr ⟨tw_36, (List.forall_mem_cons.mpr ⟨tw_372, (List.forall_mem_cons.mpr ⟨tw_373, (List.forall_mem_cons.mpr ⟨tw_374, (fun _ h => absurd h List.not_mem_nil)⟩)⟩)⟩)⟩)⟩)⟩)⟩)⟩)⟩)⟩)⟩)⟩)⟩)⟩)⟩)⟩)⟩)⟩)⟩)⟩)⟩)⟩)⟩)⟩)
set_option maxRecDepth 20000 in
theorem tl_X10_inverse_r3 : ∀ w ∈ wsX10_inverse_r3, w ∈ lw_tbl := (List.forall_mem_cons.mpr ⟨tw_375, (List.forall_mem_cons.mpr ⟨tw_376, (List.forall_mem_cons.mpr ⟨tw_377, (List.forall_mem_cons.mpr ⟨tw_378, (List.forall_mem_cons.mpr ⟨tw_64, (List.forall_mem_cons.mpr ⟨tw_379, (List.forall_mem_cons.mpr ⟨tw_380, (List.forall_mem_cons.mpr ⟨tw_381, (List.forall_mem_cons.mpr ⟨tw_382, (List.forall_mem_cons.mpr ⟨tw_383, (List.forall_mem_cons.mpr ⟨tw_384, (List.forall_mem_cons.mpr ⟨tw_467, (List.forall_mem_cons.mpr ⟨tw_386, (List.forall_mem_cons.mpr ⟨tw_387, (List.forall_mem_cons.mpr ⟨tw_388, (List.forall_mem_cons.mpr ⟨tw_389, (List.forall_mem_cons.mpr ⟨tw_390, (List.forall_mem_cons.mpr ⟨tw_369, (List.forall_mem_cons.mpr ⟨tw_385, (List.forall_mem_cons.mpr ⟨tw_468, (List.forall_mem_cons.mpr ⟨tw_469, (List.forall_mem_cons.mpr ⟨tw_470, (List.forall_mem_cons.mpr ⟨tw_19, (List.forall_mem_cons.mpr ⟨tw_471, (fun _ h => absurd h List.not_mem_nil)⟩)⟩)⟩)⟩)⟩)⟩)⟩)⟩)⟩)⟩)⟩)⟩)⟩)⟩)⟩)⟩)⟩)⟩)⟩)⟩)⟩)⟩)⟩)⟩)
set_option maxRecDepth 20000 in
theorem tl_X10_inverse_r4 : ∀ w ∈ wsX10_inverse_r4, w ∈ lw_tbl := (List.forall_mem_cons.mpr ⟨tw_91, (List.forall_mem_cons.mpr ⟨tw_472, (List.forall_mem_cons.mpr ⟨tw_473, (List.forall_mem_cons.mpr ⟨tw_474, (List.forall_mem_cons.mpr ⟨tw_475, (List.forall_mem_cons.mpr ⟨tw_476, (List.forall_mem_cons.mpr ⟨tw_477, (List.forall_mem_cons.mpr ⟨tw_92, (List.forall_mem_cons.mpr ⟨tw_93, (List.forall_mem_cons.mpr ⟨tw_478, (List.forall_mem_cons.mpr ⟨tw_95, (List.forall_mem_cons.mpr ⟨tw_94, (List.forall_mem_cons.mpr ⟨tw_479, (List.forall_mem_cons.mpr ⟨tw_480, (List.forall_mem_cons.mpr ⟨tw_481, (List.forall_mem_cons.mpr ⟨tw_482, (List.forall_mem_cons.mpr ⟨tw_483, (List.forall_mem_cons.mpr ⟨tw_484, (List.forall_mem_cons.mpr ⟨tw_485, (List.forall_mem_cons.mpr ⟨tw_486, (List.forall_mem_cons.mpr ⟨tw_487, (List.forall_mem_cons.mpr ⟨tw_488, (List.forall_mem_cons.mpr ⟨tw_489, (List.forall_mem_cons.mpr ⟨tw_490, (fun _ h => absurd h List.not_mem_nil)⟩)⟩)⟩)⟩)⟩)⟩)⟩)⟩)⟩)⟩)⟩)⟩)⟩)⟩)⟩)⟩)⟩)⟩)⟩)⟩)⟩)⟩)⟩)⟩)
set_option maxRecDepth 20000 in
theorem tl_X10_inverse_r5 : ∀ w ∈ wsX10_inverse_r5, w ∈ lw_tbl := (List.forall_mem_cons.mpr ⟨tw_491, (List.forall_mem_cons.mpr ⟨tw_492, (List.forall_mem_cons.mpr ⟨tw_493, (List.forall_mem_cons.mpr ⟨tw_410, (List.forall_mem_cons.mpr ⟨tw_411, (List.forall_mem_cons.mpr ⟨tw_412, (List.forall_mem_cons.mpr ⟨tw_494, (List.forall_mem_cons.mpr ⟨tw_495, (List.forall_mem_cons.mpr ⟨tw_496, (List.forall_mem_cons.mpr ⟨tw_497, (List.forall_mem_cons.mpr ⟨tw_498, (List.forall_mem_cons.mpr ⟨tw_499, (List.forall_mem_cons.mpr ⟨tw_500, (List.forall_mem_cons.mpr ⟨tw_501, (List.forall_mem_cons.mpr ⟨tw_502, (List.forall_mem_cons.mpr ⟨tw_503, (List.forall_mem_cons.mpr ⟨tw_504, (List.forall_mem_cons.mpr ⟨tw_505, (List.forall_mem_cons.mpr ⟨tw_506, (List.forall_mem_cons.mpr ⟨tw_437, (List.forall_mem_cons.mpr ⟨tw_438, (List.forall_mem_cons.mpr ⟨tw_439, (List.forall_mem_cons.mpr ⟨tw_427, (List.forall_mem_cons.mpr ⟨tw_507, (fun _ h => absurd h List.not_mem_nil)⟩)⟩)⟩)⟩)⟩)⟩)⟩)⟩)⟩)⟩)⟩)⟩)⟩)⟩)⟩)⟩)⟩)⟩)⟩)⟩)⟩)⟩)⟩)⟩)
set_option maxRecDepth 20000 in
theorem tl_X10_inverse_r6 : ∀ w ∈ wsX10_inverse_r6, w ∈ lw_tbl := (List.forall_mem_cons.mpr ⟨tw_508, (List.forall_mem_cons.mpr ⟨tw_509, (List.forall_mem_cons.mpr ⟨tw_510, (List.forall_mem_cons.mpr ⟨tw_511, (List.forall_mem_cons.mpr ⟨tw_512, (List.forall_mem_cons.mpr ⟨tw_513, (List.forall_mem_cons.mpr ⟨tw_514, (List.forall_mem_cons.mpr ⟨tw_515, (List.forall_mem_cons.mpr ⟨tw_516, (List.forall_mem_cons.mpr ⟨tw_517, (List.forall_mem_cons.mpr ⟨tw_518, (List.forall_mem_cons.mpr ⟨tw_414, (List.forall_mem_cons.mpr ⟨tw_415, (List.forall_mem_cons.mpr ⟨tw_416, (List.forall_mem_cons.mpr ⟨tw_519, (List.forall_mem_cons.mpr ⟨tw_520, (List.forall_mem_cons.mpr ⟨tw_521, (List.forall_mem_cons.mpr ⟨tw_522, (List.forall_mem_cons.mpr ⟨tw_97, (List.forall_mem_cons.mpr ⟨tw_523, (List.forall_mem_cons.mpr ⟨tw_524, (List.forall_mem_cons.mpr ⟨tw_525, (List.forall_mem_cons.mpr ⟨tw_526, (List.forall_mem_cons.mpr ⟨tw_527, (fun _ h => absurd h List.not_mem_nil)⟩)⟩)⟩)⟩)⟩)⟩)⟩)⟩)⟩)⟩)⟩)⟩)⟩)⟩)⟩)⟩)⟩)⟩)⟩)⟩)⟩)⟩)⟩)⟩)
set_option maxRecDepth 20000 in
theorem tl_X10_inverse_r7 : ∀ w ∈ wsX10_inverse_r7, w ∈ lw_tbl := (List.forall_mem_cons.mpr ⟨tw_528, (List.forall_mem_cons.mpr ⟨tw_406, (List.forall_mem_cons.mpr ⟨tw_407, (List.forall_mem_cons.mpr ⟨tw_408, (List.forall_mem_cons.mpr ⟨tw_409, (List.forall_mem_cons.mpr ⟨tw_413, (List.forall_mem_cons.mpr ⟨tw_529, (List.forall_mem_cons.mpr ⟨tw_530, (List.forall_mem_cons.mpr ⟨tw_531, (List.forall_mem_cons.mpr ⟨tw_532, (List.forall_mem_cons.mpr ⟨tw_533, (List.forall_mem_cons.mpr ⟨tw_534, (List.forall_mem_cons.mpr ⟨tw_535, (List.forall_mem_cons.mpr ⟨tw_536, (List.forall_mem_cons.mpr ⟨tw_537, (List.forall_mem_cons.mpr ⟨tw_458, (List.forall_mem_cons.mpr ⟨tw_459, (List.forall_mem_cons.mpr ⟨tw_460, (List.forall_mem_cons.mpr ⟨tw_461, (List.forall_mem_cons.mpr ⟨tw_422, (List.forall_mem_cons.mpr ⟨tw_462, (List.forall_mem_cons.mpr ⟨tw_441, (List.forall_mem_cons.mpr ⟨tw_442, (List.forall_mem_cons.mpr ⟨tw_443, (fun _ h => absurd h List.not_mem_nil)⟩)⟩)⟩)⟩)⟩)⟩)⟩)⟩)⟩)⟩)⟩)⟩)⟩)⟩)⟩)⟩)⟩)⟩)⟩)⟩)⟩)⟩)⟩)⟩)
set_option maxRecDepth 20000 in
theorem tl_X10_inverse_r8 : ∀ w ∈ wsX10_inverse_r8, w ∈ lw_tbl := (List.forall_mem_cons.mpr ⟨tw_428, (List.forall_mem_cons.mpr ⟨tw_463, (List.forall_mem_cons.mpr ⟨tw_464, (List.forall_mem_cons.mpr ⟨tw_465, (List.forall_mem_cons.mpr ⟨tw_466, (List.forall_mem_cons.mpr ⟨tw_980, (List.forall_mem_cons.mpr ⟨tw_981, (List.forall_mem_cons.mpr ⟨tw_982, (List.forall_mem_cons.mpr ⟨tw_23, (List.forall_mem_cons.mpr ⟨tw_983, (List.forall_mem_cons.mpr ⟨tw_984, (List.forall_mem_cons.mpr ⟨tw_985, (List.forall_mem_cons.mpr ⟨tw_986, (List.forall_mem_cons.mpr ⟨tw_987, (List.forall_mem_cons.mpr ⟨tw_102, (List.forall_mem_cons.mpr ⟨tw_103, (List.forall_mem_cons.mpr ⟨tw_988, (List.forall_mem_cons.mpr ⟨tw_989, (List.forall_mem_cons.mpr ⟨tw_66, (List.forall_mem_cons.mpr ⟨tw_67, (List.forall_mem_cons.mpr ⟨tw_68, (List.forall_mem_cons.mpr ⟨tw_990, (List.forall_mem_cons.mpr ⟨tw_991, (List.forall_mem_cons.mpr ⟨tw_992, (fun _ h => absurd h List.not_mem_nil)⟩)⟩)⟩)⟩)⟩)⟩)⟩)⟩)⟩)⟩)⟩)⟩)⟩)⟩)⟩)⟩)⟩)⟩)⟩)⟩)⟩)⟩)⟩)⟩)
set_option maxRecDepth 20000 in
theorem tl_X10_inverse_r9 : ∀ w ∈ wsX10_inverse_r9, w ∈ lw_tbl := (List.forall_mem_cons.mpr ⟨tw_993, (List.forall_mem_cons.mpr ⟨tw_994, (List.forall_mem_cons.mpr ⟨tw_995, (List.forall_mem_cons.mpr ⟨tw_105, (List.forall_mem_cons.mpr ⟨tw_996, (List.forall_mem_cons.mpr ⟨tw_106, (List.forall_mem_cons.mpr ⟨tw_997, (List.forall_mem_cons.mpr ⟨tw_998, (List.forall_mem_cons.mpr ⟨tw_999, (List.forall_mem_cons.mpr ⟨tw_1000, (List.forall_mem_cons.mpr ⟨tw_1001, (List.forall_mem_cons.mpr ⟨tw_1002, (List.forall_mem_cons.mpr ⟨tw_1003, (List.forall_mem_cons.mpr ⟨tw_1004, (List.forall_mem_cons.mpr ⟨tw_1005, (List.forall_mem_cons.mpr ⟨tw_1006, (List.forall_mem_cons.mpr ⟨tw_1007, (List.forall_mem_cons.mpr ⟨tw_1008, (List.forall_mem_cons.mpr ⟨tw_1009, (List.forall_mem_cons.mpr ⟨tw_1010, (List.forall_mem_cons.mpr ⟨tw_1011, (List.forall_mem_cons.mpr ⟨tw_1012, (List.forall_mem_cons.mpr ⟨tw_1013, (List.forall_mem_cons.mpr ⟨tw_1014, (fun _ h => absurd h List.not_mem_nil)⟩)⟩)⟩)⟩)⟩)⟩)⟩)⟩)⟩)⟩)⟩)⟩)⟩)⟩)⟩)⟩)⟩)⟩)⟩)⟩)⟩)⟩)⟩)⟩)
set_option maxRecDepth 20000 in
theorem tl_X10_inverse_r10 : ∀ w ∈ wsX10_inverse_r10, w ∈ lw_tbl := (List.forall_mem_cons.mpr ⟨tw_1015, (List.forall_mem_cons.mpr ⟨tw_1016, (List.forall_mem_cons.mpr ⟨tw_1017, (List.forall_mem_cons.mpr ⟨tw_1018, (List.forall_mem_cons.mpr ⟨tw_1019, (List.forall_mem_cons.mpr ⟨tw_1020, (List.forall_mem_cons.mpr ⟨tw_1021, (List.forall_mem_cons.mpr ⟨tw_1022, (List.forall_mem_cons.mpr ⟨tw_1023, (List.forall_mem_cons.mpr ⟨tw_1024, (List.forall_mem_cons.mpr ⟨tw_1025, (List.forall_mem_cons.mpr ⟨tw_1026, (List.forall_mem_cons.mpr ⟨tw_1027, (List.forall_mem_cons.mpr ⟨tw_1028, (List.forall_mem_cons.mpr ⟨tw_1029, (List.forall_mem_cons.mpr ⟨tw_1030, (List.forall_mem_cons.mpr ⟨tw_1031, (fun _ h => absurd h List.not_mem_nil)⟩)⟩)⟩)⟩)⟩)⟩)⟩)⟩)⟩)⟩)⟩)⟩)⟩)⟩)⟩)⟩)⟩)
set_option maxRecDepth 20000 in
theorem tl_X11_inverse_r1 : ∀ w ∈ wsX11_inverse_r1, w ∈ lw_tbl := (List.forall_mem_cons.mpr ⟨tw_632, (List.forall_mem_cons.mpr ⟨tw_633, (List.forall_mem_cons.mpr ⟨tw_890, (List.forall_mem_cons.mpr ⟨tw_627, (List.forall_mem_cons.mpr ⟨tw_721, (List.forall_mem_cons.mpr ⟨tw_622, (List.forall_mem_cons.mpr ⟨tw_623, (List.forall_mem_cons.mpr ⟨tw_624, (List.forall_mem_cons.mpr ⟨tw_144, (List.forall_mem_cons.mpr ⟨tw_625, (List.forall_mem_cons.mpr ⟨tw_626, (List.forall_mem_cons.mpr ⟨tw_628, (List.forall_mem_cons.mpr ⟨tw_629, (List.forall_mem_cons.mpr ⟨tw_630, (List.forall_mem_cons.mpr ⟨tw_631, (List.forall_mem_cons.mpr ⟨tw_124, (List.forall_mem_cons.mpr ⟨tw_129, (List.forall_mem_cons.mpr ⟨tw_130, (List.forall_mem_cons.mpr ⟨tw_675, (List.forall_mem_cons.mpr ⟨tw_676, (List.forall_mem_cons.mpr ⟨tw_677, (List.forall_mem_cons.mpr ⟨tw_678, (List.forall_mem_cons.mpr ⟨tw_168, (List.forall_mem_cons.mpr ⟨tw_169, (fun _ h => absurd h List.not_mem_nil)⟩)⟩)⟩)⟩)⟩)⟩)⟩)⟩)⟩)⟩)⟩)⟩)⟩)⟩)⟩)⟩)⟩)⟩)⟩)⟩)⟩)⟩)⟩)⟩)
set_option maxRecDepth 20000 in
theorem tl_X11_inverse_r2 : ∀ w ∈ wsX11_inverse_r2, w ∈ lw_tbl := (List.forall_mem_cons.mpr ⟨tw_170, (List.forall_mem_cons.mpr ⟨tw_656, (List.forall_mem_cons.mpr ⟨tw_657, (List.forall_mem_cons.mpr ⟨tw_658, (List.forall_mem_cons.mpr ⟨tw_659, (List.forall_mem_cons.mpr ⟨tw_660, (List.forall_mem_cons.mpr ⟨tw_661, (List.forall_mem_cons.mpr ⟨tw_662, (List.forall_mem_cons.mpr ⟨tw_717, (List.forall_mem_cons.mpr ⟨tw_718, (List.forall_mem_cons.mpr ⟨tw_719, (List.forall_mem_cons.mpr ⟨tw_720, (List.forall_mem_cons.mpr ⟨tw_135, (List.forall_mem_cons.mpr ⟨tw_136, (List.forall_mem_cons.mpr ⟨tw_131, (List.forall_mem_cons.mpr ⟨tw_132, (List.forall_mem_cons.mpr ⟨tw_722, (List.forall_mem_cons.mpr ⟨tw_723, (List.forall_mem_cons.mpr ⟨tw_724, (List.forall_mem_cons.mpr ⟨tw_725, (List.forall_mem_cons.mpr ⟨tw_133, (List.forall_mem_cons.mpr ⟨tw_134, (List.forall_mem_cons.mpr ⟨tw_726, (List.forall_mem_cons.mpr ⟨tw_727, (fun _ h => absurd h List.not_mem_nil)⟩)⟩)⟩)⟩)⟩)⟩)⟩)⟩)⟩)⟩)⟩)⟩)⟩)⟩)⟩)⟩)⟩)⟩)⟩)⟩)⟩)⟩)⟩)⟩)
set_option maxRecDepth 20000 in
theorem tl_X11_inverse_r3 : ∀ w ∈ wsX11_inverse_r3, w ∈ lw_tbl := (List.forall_mem_cons.mpr ⟨tw_728, (List.forall_mem_cons.mpr ⟨tw_729, (List.forall_mem_cons.mpr ⟨tw_730, (List.forall_mem_cons.mpr ⟨tw_731, (List.forall_mem_cons.mpr ⟨tw_732, (List.forall_mem_cons.mpr ⟨tw_733, (List.forall_mem_cons.mpr ⟨tw_734, (List.forall_mem_cons.mpr ⟨tw_735, (List.forall_mem_cons.mpr ⟨tw_736, (List.forall_mem_cons.mpr ⟨tw_737, (List.forall_mem_cons.mpr ⟨tw_738, (List.forall_mem_cons.mpr ⟨tw_739, (List.forall_mem_cons.mpr ⟨tw_740, (List.forall_mem_cons.mpr ⟨tw_741, (List.forall_mem_cons.mpr ⟨tw_742, (List.forall_mem_cons.mpr ⟨tw_743, (List.forall_mem_cons.mpr ⟨tw_744, (List.forall_mem_cons.mpr ⟨tw_745, (List.forall_mem_cons.mpr ⟨tw_746, (List.forall_mem_cons.mpr ⟨tw_747, (List.forall_mem_cons.mpr ⟨tw_748, (List.forall_mem_cons.mpr ⟨tw_749, (List.forall_mem_cons.mpr ⟨tw_708, (List.forall_mem_cons.mpr ⟨tw_652, (fun _ h => absurd h List.not_mem_nil)⟩)⟩)⟩)⟩)⟩)⟩)⟩)⟩)⟩)⟩)⟩)⟩)⟩)⟩)⟩)⟩)⟩)⟩)⟩)⟩)⟩)⟩)⟩)⟩)
set_option maxRecDepth 20000 in
theorem tl_X11_inverse_r4 : ∀ w ∈ wsX11_inverse_r4, w ∈ lw_tbl := (List.forall_mem_cons.mpr ⟨tw_640, (List.forall_mem_cons.mpr ⟨tw_641, (List.forall_mem_cons.mpr ⟨tw_750, (List.forall_mem_cons.mpr ⟨tw_751, (List.forall_mem_cons.mpr ⟨tw_752, (List.forall_mem_cons.mpr ⟨tw_753, (List.forall_mem_cons.mpr ⟨tw_646, (List.forall_mem_cons.mpr ⟨tw_647, (List.forall_mem_cons.mpr ⟨tw_648, (List.forall_mem_cons.mpr ⟨tw_649, (List.forall_mem_cons.mpr ⟨tw_650, (List.forall_mem_cons.mpr ⟨tw_651, (List.forall_mem_cons.mpr ⟨tw_653, (List.forall_mem_cons.mpr ⟨tw_654, (List.forall_mem_cons.mpr ⟨tw_655, (List.forall_mem_cons.mpr ⟨tw_694, (List.forall_mem_cons.mpr ⟨tw_695, (List.forall_mem_cons.mpr ⟨tw_696, (List.forall_mem_cons.mpr ⟨tw_697, (List.forall_mem_cons.mpr ⟨tw_698, (List.forall_mem_cons.mpr ⟨tw_699, (List.forall_mem_cons.mpr ⟨tw_704, (List.forall_mem_cons.mpr ⟨tw_705, (List.forall_mem_cons.mpr ⟨tw_706, (fun _ h => absurd h List.not_mem_nil)⟩)⟩)⟩)⟩)⟩)⟩)⟩)⟩)⟩)⟩)⟩)⟩)⟩)⟩)⟩)⟩)⟩)⟩)⟩)⟩)⟩)⟩)⟩)⟩)
set_option maxRecDepth 20000 in
theorem tl_X11_inverse_r5 : ∀ w ∈ wsX11_inverse_r5, w ∈ lw_tbl := (List.forall_mem_cons.mpr ⟨tw_707, (List.forall_mem_cons.mpr ⟨tw_690, (List.forall_mem_cons.mpr ⟨tw_691, (List.forall_mem_cons.mpr ⟨tw_692, (List.forall_mem_cons.mpr ⟨tw_693, (List.forall_mem_cons.mpr ⟨tw_709, (List.forall_mem_cons.mpr ⟨tw_710, (List.forall_mem_cons.mpr ⟨tw_711, (List.forall_mem_cons.mpr ⟨tw_712, (List.forall_mem_cons.mpr ⟨tw_1040, (List.forall_mem_cons.mpr ⟨tw_1041, (List.forall_mem_cons.mpr ⟨tw_1042, (List.forall_mem_cons.mpr ⟨tw_1043, (List.forall_mem_cons.mpr ⟨tw_138, (List.forall_mem_cons.mpr ⟨tw_139, (List.forall_mem_cons.mpr ⟨tw_140, (List.forall_mem_cons.mpr ⟨tw_1044, (List.forall_mem_cons.mpr ⟨tw_1045, (List.forall_mem_cons.mpr ⟨tw_1046, (List.forall_mem_cons.mpr ⟨tw_1047, (List.forall_mem_cons.mpr ⟨tw_1048, (List.forall_mem_cons.mpr ⟨tw_1049, (List.forall_mem_cons.mpr ⟨tw_1050, (List.forall_mem_cons.mpr ⟨tw_1051, (fun _ h => absurd h List.not_mem_nil)⟩)⟩)⟩)⟩)⟩)⟩)⟩)⟩)⟩)⟩)⟩)⟩)⟩)⟩)⟩)⟩)⟩)⟩)⟩)⟩)⟩)⟩)⟩)⟩)
set_option maxRecDepth 20000 in
theorem tl_X10_minor_r1 : ∀ w ∈ wsX10_minor_r1, w ∈ lw_tbl := (List.forall_mem_cons.mpr ⟨tw_7, (List.forall_mem_cons.mpr ⟨tw_183, (List.forall_mem_cons.mpr ⟨tw_881, (List.forall_mem_cons.mpr ⟨tw_177, (List.forall_mem_cons.mpr ⟨tw_33, (List.forall_mem_cons.mpr ⟨tw_1088, (List.forall_mem_cons.mpr ⟨tw_1089, (List.forall_mem_cons.mpr ⟨tw_1090, (List.forall_mem_cons.mpr ⟨tw_31, (List.forall_mem_cons.mpr ⟨tw_1091, (List.forall_mem_cons.mpr ⟨tw_54, (List.forall_mem_cons.mpr ⟨tw_55, (List.forall_mem_cons.mpr ⟨tw_882, (List.forall_mem_cons.mpr ⟨tw_397, (List.forall_mem_cons.mpr ⟨tw_398, (List.forall_mem_cons.mpr ⟨tw_399, (List.forall_mem_cons.mpr ⟨tw_971, (List.forall_mem_cons.mpr ⟨tw_972, (List.forall_mem_cons.mpr ⟨tw_973, (List.forall_mem_cons.mpr ⟨tw_974, (List.forall_mem_cons.mpr ⟨tw_1135, (List.forall_mem_cons.mpr ⟨tw_1136, (List.forall_mem_cons.mpr ⟨tw_1137, (List.forall_mem_cons.mpr ⟨tw_1138, (fun _ h => absurd h List.not_mem_nil)⟩)⟩)⟩)⟩)⟩)⟩)⟩)⟩)⟩)⟩)⟩)⟩)⟩)⟩)⟩)⟩)⟩)⟩)⟩)⟩)⟩)⟩)⟩)⟩)
set_option maxRecDepth 20000 in
theorem tl_X10_minor_r2 : ∀ w ∈ wsX10_minor_r2, w ∈ lw_tbl := (List.forall_mem_cons.mpr ⟨tw_60, (List.forall_mem_cons.mpr ⟨tw_1139, (List.forall_mem_cons.mpr ⟨tw_331, (List.forall_mem_cons.mpr ⟨tw_332, (List.forall_mem_cons.mpr ⟨tw_333, (List.forall_mem_cons.mpr ⟨tw_57, (List.forall_mem_cons.mpr ⟨tw_58, (List.forall_mem_cons.mpr ⟨tw_65, (List.forall_mem_cons.mpr ⟨tw_66, (List.forall_mem_cons.mpr ⟨tw_67, (List.forall_mem_cons.mpr ⟨tw_68, (List.forall_mem_cons.mpr ⟨tw_422, (List.forall_mem_cons.mpr ⟨tw_406, (List.forall_mem_cons.mpr ⟨tw_407, (List.forall_mem_cons.mpr ⟨tw_36, (List.forall_mem_cons.mpr ⟨tw_408, (List.forall_mem_cons.mpr ⟨tw_373, (List.forall_mem_cons.mpr ⟨tw_378, (List.forall_mem_cons.mpr ⟨tw_64, (List.forall_mem_cons.mpr ⟨tw_409, (List.forall_mem_cons.mpr ⟨tw_410, (List.forall_mem_cons.mpr ⟨tw_411, (List.forall_mem_cons.mpr ⟨tw_412, (List.forall_mem_cons.mpr ⟨tw_413, (fun _ h => absurd h List.not_mem_nil)⟩)⟩)⟩)⟩)⟩)⟩)⟩)⟩)⟩)⟩)⟩)⟩)⟩)⟩)⟩)⟩)⟩)⟩)⟩)⟩)⟩)⟩)⟩)⟩)
set_option maxRecDepth 20000 in
theorem tl_X10_minor_r3 : ∀ w ∈ wsX10_minor_r3, w ∈ lw_tbl := (List.forall_mem_cons.mpr ⟨tw_414, (List.forall_mem_cons.mpr ⟨tw_415, (List.forall_mem_cons.mpr ⟨tw_416, (List.forall_mem_cons.mpr ⟨tw_467, (List.forall_mem_cons.mpr ⟨tw_386, (List.forall_mem_cons.mpr ⟨tw_387, (List.forall_mem_cons.mpr ⟨tw_388, (List.forall_mem_cons.mpr ⟨tw_389, (List.forall_mem_cons.mpr ⟨tw_390, (List.forall_mem_cons.mpr ⟨tw_1084, (List.forall_mem_cons.mpr ⟨tw_1085, (List.forall_mem_cons.mpr ⟨tw_1086, (List.forall_mem_cons.mpr ⟨tw_157, (List.forall_mem_cons.mpr ⟨tw_1087, (List.forall_mem_cons.mpr ⟨tw_20, (List.forall_mem_cons.mpr ⟨tw_906, (List.forall_mem_cons.mpr ⟨tw_37, (List.forall_mem_cons.mpr ⟨tw_468, (List.forall_mem_cons.mpr ⟨tw_469, (List.forall_mem_cons.mpr ⟨tw_470, (List.forall_mem_cons.mpr ⟨tw_19, (List.forall_mem_cons.mpr ⟨tw_471, (List.forall_mem_cons.mpr ⟨tw_91, (List.forall_mem_cons.mpr ⟨tw_472, (fun _ h => absurd h List.not_mem_nil)⟩)⟩)⟩)⟩)⟩)⟩)⟩)⟩)⟩)⟩)⟩)⟩)⟩)⟩)⟩)⟩)⟩)⟩)⟩)⟩)⟩)⟩)⟩)⟩)
set_option maxRecDepth 20000 in
theorem tl_X10_minor_r4 : ∀ w ∈ wsX10_minor_r4, w ∈ lw_tbl := (List.forall_mem_cons.mpr ⟨tw_473, (List.forall_mem_cons.mpr ⟨tw_474, (List.forall_mem_cons.mpr ⟨tw_475, (List.forall_mem_cons.mpr ⟨tw_476, (List.forall_mem_cons.mpr ⟨tw_477, (List.forall_mem_cons.mpr ⟨tw_92, (List.forall_mem_cons.mpr ⟨tw_93, (List.forall_mem_cons.mpr ⟨tw_478, (List.forall_mem_cons.mpr ⟨tw_95, (List.forall_mem_cons.mpr ⟨tw_94, (List.forall_mem_cons.mpr ⟨tw_479, (List.forall_mem_cons.mpr ⟨tw_401, (List.forall_mem_cons.mpr ⟨tw_402, (List.forall_mem_cons.mpr ⟨tw_403, (List.forall_mem_cons.mpr ⟨tw_404, (List.forall_mem_cons.mpr ⟨tw_200, (List.forall_mem_cons.mpr ⟨tw_201, (List.forall_mem_cons.mpr ⟨tw_202, (List.forall_mem_cons.mpr ⟨tw_480, (List.forall_mem_cons.mpr ⟨tw_481, (List.forall_mem_cons.mpr ⟨tw_482, (List.forall_mem_cons.mpr ⟨tw_483, (List.forall_mem_cons.mpr ⟨tw_484, (List.forall_mem_cons.mpr ⟨tw_485, (fun _ h => absurd h List.not_mem_nil)⟩)⟩)⟩)⟩)⟩)⟩)⟩)⟩)⟩)⟩)⟩)⟩)⟩)⟩)⟩)⟩)⟩)⟩)⟩)⟩)⟩)⟩)⟩)⟩)
set_option maxRecDepth 20000 in
theorem tl_X10_minor_r5 : ∀ w ∈ wsX10_minor_r5, w ∈ lw_tbl := (List.forall_mem_cons.mpr ⟨tw_486, (List.forall_mem_cons.mpr ⟨tw_487, (List.forall_mem_cons.mpr ⟨tw_488, (List.forall_mem_cons.mpr ⟨tw_489, (List.forall_mem_cons.mpr ⟨tw_490, (List.forall_mem_cons.mpr ⟨tw_491, (List.forall_mem_cons.mpr ⟨tw_492, (List.forall_mem_cons.mpr ⟨tw_493, (List.forall_mem_cons.mpr ⟨tw_494, (List.forall_mem_cons.mpr ⟨tw_495, (List.forall_mem_cons.mpr ⟨tw_496, (List.forall_mem_cons.mpr ⟨tw_497, (List.forall_mem_cons.mpr ⟨tw_498, (List.forall_mem_cons.mpr ⟨tw_499, (List.forall_mem_cons.mpr ⟨tw_500, (List.forall_mem_cons.mpr ⟨tw_501, (List.forall_mem_cons.mpr ⟨tw_502, (List.forall_mem_cons.mpr ⟨tw_503, (List.forall_mem_cons.mpr ⟨tw_504, (List.forall_mem_cons.mpr ⟨tw_505, (List.forall_mem_cons.mpr ⟨tw_506, (List.forall_mem_cons.mpr ⟨tw_437, (List.forall_mem_cons.mpr ⟨tw_438, (List.forall_mem_cons.mpr ⟨tw_439, (fun _ h => absurd h List.not_mem_nil)⟩)⟩)⟩)⟩)⟩)⟩)⟩)⟩)⟩)⟩)⟩)⟩)⟩)⟩)⟩)⟩)⟩)⟩)⟩)⟩)⟩)⟩)⟩)⟩)
set_option maxRecDepth 20000 in
theorem tl_X10_minor_r6 : ∀ w ∈ wsX10_minor_r6, w ∈ lw_tbl := (List.forall_mem_cons.mpr ⟨tw_427, (List.forall_mem_cons.mpr ⟨tw_507, (List.forall_mem_cons.mpr ⟨tw_508, (List.forall_mem_cons.mpr ⟨tw_509, (List.forall_mem_cons.mpr ⟨tw_510, (List.forall_mem_cons.mpr ⟨tw_511, (List.forall_mem_cons.mpr ⟨tw_512, (List.forall_mem_cons.mpr ⟨tw_513, (List.forall_mem_cons.mpr ⟨tw_514, (List.forall_mem_cons.mpr ⟨tw_515, (List.forall_mem_cons.mpr ⟨tw_516, (List.forall_mem_cons.mpr ⟨tw_517, (List.forall_mem_cons.mpr ⟨tw_518, (List.forall_mem_cons.mpr ⟨tw_519, (List.forall_mem_cons.mpr ⟨tw_520, (List.forall_mem_cons.mpr ⟨tw_521, (List.forall_mem_cons.mpr ⟨tw_522, (List.forall_mem_cons.mpr ⟨tw_97, (List.forall_mem_cons.mpr ⟨tw_523, (List.forall_mem_cons.mpr ⟨tw_524, (List.forall_mem_cons.mpr ⟨tw_525, (List.forall_mem_cons.mpr ⟨tw_526, (List.forall_mem_cons.mpr ⟨tw_527, (List.forall_mem_cons.mpr ⟨tw_528, (fun _ h => absurd h List.not_mem_nil)⟩)⟩)⟩)⟩)⟩)⟩)⟩)⟩)⟩)⟩)⟩)⟩)⟩)⟩)⟩)⟩)⟩)⟩)⟩)⟩)⟩)⟩)⟩)⟩)
set_option maxRecDepth 20000 in
theorem tl_X10_minor_r7 : ∀ w ∈ wsX10_minor_r7, w ∈ lw_tbl := (List.forall_mem_cons.mpr ⟨tw_529, (List.forall_mem_cons.mpr ⟨tw_530, (List.forall_mem_cons.mpr ⟨tw_531, (List.forall_mem_cons.mpr ⟨tw_532, (List.forall_mem_cons.mpr ⟨tw_374, (List.forall_mem_cons.mpr ⟨tw_375, (List.forall_mem_cons.mpr ⟨tw_376, (List.forall_mem_cons.mpr ⟨tw_377, (List.forall_mem_cons.mpr ⟨tw_379, (List.forall_mem_cons.mpr ⟨tw_380, (List.forall_mem_cons.mpr ⟨tw_381, (List.forall_mem_cons.mpr ⟨tw_382, (List.forall_mem_cons.mpr ⟨tw_383, (List.forall_mem_cons.mpr ⟨tw_384, (List.forall_mem_cons.mpr ⟨tw_533, (List.forall_mem_cons.mpr ⟨tw_534, (List.forall_mem_cons.mpr ⟨tw_535, (List.forall_mem_cons.mpr ⟨tw_536, (List.forall_mem_cons.mpr ⟨tw_537, (List.forall_mem_cons.mpr ⟨tw_458, (List.forall_mem_cons.mpr ⟨tw_459, (List.forall_mem_cons.mpr ⟨tw_460, (List.forall_mem_cons.mpr ⟨tw_461, (List.forall_mem_cons.mpr ⟨tw_462, (fun _ h => absurd h List.not_mem_nil)⟩)⟩)⟩)⟩)⟩)⟩)⟩)⟩)⟩)⟩)⟩)⟩)⟩)⟩)⟩)⟩)⟩)⟩)⟩)⟩)⟩)⟩)⟩)⟩)
set_option maxRecDepth 20000 in
theorem tl_X10_minor_r8 : ∀ w ∈ wsX10_minor_r8, w ∈ lw_tbl := (List.forall_mem_cons.mpr ⟨tw_441, (List.forall_mem_cons.mpr ⟨tw_442, (List.forall_mem_cons.mpr ⟨tw_443, (List.forall_mem_cons.mpr ⟨tw_428, (List.forall_mem_cons.mpr ⟨tw_463, (List.forall_mem_cons.mpr ⟨tw_464, (List.forall_mem_cons.mpr ⟨tw_465, (List.forall_mem_cons.mpr ⟨tw_466, (List.forall_mem_cons.mpr ⟨tw_1092, (List.forall_mem_cons.mpr ⟨tw_1093, (List.forall_mem_cons.mpr ⟨tw_1094, (List.forall_mem_cons.mpr ⟨tw_1095, (List.forall_mem_cons.mpr ⟨tw_1096, (List.forall_mem_cons.mpr ⟨tw_370, (List.forall_mem_cons.mpr ⟨tw_371, (List.forall_mem_cons.mpr ⟨tw_372, (List.forall_mem_cons.mpr ⟨tw_1097, (List.forall_mem_cons.mpr ⟨tw_1001, (List.forall_mem_cons.mpr ⟨tw_1002, (List.forall_mem_cons.mpr ⟨tw_1003, (List.forall_mem_cons.mpr ⟨tw_1098, (List.forall_mem_cons.mpr ⟨tw_1005, (List.forall_mem_cons.mpr ⟨tw_1006, (List.forall_mem_cons.mpr ⟨tw_1007, (fun _ h => absurd h List.not_mem_nil)⟩)⟩)⟩)⟩)⟩)⟩)⟩)⟩)⟩)⟩)⟩)⟩)⟩)⟩)⟩)⟩)⟩)⟩)⟩)⟩)⟩)⟩)⟩)⟩)
set_option maxRecDepth 20000 in
theorem tl_X10_minor_r9 : ∀ w ∈ wsX10_minor_r9, w ∈ lw_tbl := (List.forall_mem_cons.mpr ⟨tw_1099, (List.forall_mem_cons.mpr ⟨tw_1100, (List.forall_mem_cons.mpr ⟨tw_1101, (List.forall_mem_cons.mpr ⟨tw_1102, (List.forall_mem_cons.mpr ⟨tw_1103, (List.forall_mem_cons.mpr ⟨tw_1104, (List.forall_mem_cons.mpr ⟨tw_1105, (fun _ h => absurd h List.not_mem_nil)⟩)⟩)⟩)⟩)⟩)⟩)⟩)
set_option maxRecDepth 20000 in
theorem tl_X11_minor_r1 : ∀ w ∈ wsX11_minor_r1, w ∈ lw_tbl := (List.forall_mem_cons.mpr ⟨tw_632, (List.forall_mem_cons.mpr ⟨tw_633, (List.forall_mem_cons.mpr ⟨tw_890, (List.forall_mem_cons.mpr ⟨tw_129, (List.forall_mem_cons.mpr ⟨tw_130, (List.forall_mem_cons.mpr ⟨tw_640, (List.forall_mem_cons.mpr ⟨tw_622, (List.forall_mem_cons.mpr ⟨tw_623, (List.forall_mem_cons.mpr ⟨tw_624, (List.forall_mem_cons.mpr ⟨tw_144, (List.forall_mem_cons.mpr ⟨tw_625, (List.forall_mem_cons.mpr ⟨tw_626, (List.forall_mem_cons.mpr ⟨tw_627, (List.forall_mem_cons.mpr ⟨tw_628, (List.forall_mem_cons.mpr ⟨tw_629, (List.forall_mem_cons.mpr ⟨tw_630, (List.forall_mem_cons.mpr ⟨tw_631, (List.forall_mem_cons.mpr ⟨tw_124, (List.forall_mem_cons.mpr ⟨tw_675, (List.forall_mem_cons.mpr ⟨tw_676, (List.forall_mem_cons.mpr ⟨tw_677, (List.forall_mem_cons.mpr ⟨tw_678, (List.forall_mem_cons.mpr ⟨tw_168, (List.forall_mem_cons.mpr ⟨tw_169, (fun _ h => absurd h List.not_mem_nil)⟩)⟩)⟩)⟩)⟩)⟩)⟩)⟩)⟩)⟩)⟩)⟩)⟩)⟩)⟩)⟩)⟩)⟩)⟩)⟩)⟩)⟩)⟩)⟩)
set_option maxRecDepth 20000 in
theorem tl_X11_minor_r2 : ∀ w ∈ wsX11_minor_r2, w ∈ lw_tbl := (List.forall_mem_cons.mpr ⟨tw_170, (List.forall_mem_cons.mpr ⟨tw_660, (List.forall_mem_cons.mpr ⟨tw_661, (List.forall_mem_cons.mpr ⟨tw_662, (List.forall_mem_cons.mpr ⟨tw_656, (List.forall_mem_cons.mpr ⟨tw_657, (List.forall_mem_cons.mpr ⟨tw_658, (List.forall_mem_cons.mpr ⟨tw_659, (List.forall_mem_cons.mpr ⟨tw_1144, (List.forall_mem_cons.mpr ⟨tw_1145, (List.forall_mem_cons.mpr ⟨tw_1146, (List.forall_mem_cons.mpr ⟨tw_1147, (List.forall_mem_cons.mpr ⟨tw_1110, (List.forall_mem_cons.mpr ⟨tw_1111, (List.forall_mem_cons.mpr ⟨tw_1112, (List.forall_mem_cons.mpr ⟨tw_1113, (List.forall_mem_cons.mpr ⟨tw_721, (List.forall_mem_cons.mpr ⟨tw_131, (List.forall_mem_cons.mpr ⟨tw_132, (List.forall_mem_cons.mpr ⟨tw_641, (List.forall_mem_cons.mpr ⟨tw_652, (List.forall_mem_cons.mpr ⟨tw_717, (List.forall_mem_cons.mpr ⟨tw_718, (List.forall_mem_cons.mpr ⟨tw_719, (fun _ h => absurd h List.not_mem_nil)⟩)⟩)⟩)⟩)⟩)⟩)⟩)⟩)⟩)⟩)⟩)⟩)⟩)⟩)⟩)⟩)⟩)⟩)⟩)⟩)⟩)⟩)⟩)⟩)
set_option maxRecDepth 20000 in
theorem tl_X11_minor_r3 : ∀ w ∈ wsX11_minor_r3, w ∈ lw_tbl := (List.forall_mem_cons.mpr ⟨tw_720, (List.forall_mem_cons.mpr ⟨tw_135, (List.forall_mem_cons.mpr ⟨tw_136, (List.forall_mem_cons.mpr ⟨tw_722, (List.forall_mem_cons.mpr ⟨tw_723, (List.forall_mem_cons.mpr ⟨tw_724, (List.forall_mem_cons.mpr ⟨tw_725, (List.forall_mem_cons.mpr ⟨tw_133, (List.forall_mem_cons.mpr ⟨tw_134, (List.forall_mem_cons.mpr ⟨tw_726, (List.forall_mem_cons.mpr ⟨tw_727, (List.forall_mem_cons.mpr ⟨tw_728, (List.forall_mem_cons.mpr ⟨tw_729, (List.forall_mem_cons.mpr ⟨tw_730, (List.forall_mem_cons.mpr ⟨tw_731, (List.forall_mem_cons.mpr ⟨tw_732, (List.forall_mem_cons.mpr ⟨tw_733, (List.forall_mem_cons.mpr ⟨tw_734, (List.forall_mem_cons.mpr ⟨tw_735, (List.forall_mem_cons.mpr ⟨tw_736, (List.forall_mem_cons.mpr ⟨tw_737, (List.forall_mem_cons.mpr ⟨tw_738, (List.forall_mem_cons.mpr ⟨tw_739, (List.forall_mem_cons.mpr ⟨tw_740, (fun _ h => absurd h List.not_mem_nil)⟩)⟩)⟩)⟩)⟩)⟩)⟩)⟩)⟩)⟩)⟩)⟩)⟩)⟩)⟩)⟩)⟩)⟩)⟩)⟩)⟩)⟩)⟩)⟩)
set_option maxRecDepth 20000 in
theorem tl_X11_minor_r4 : ∀ w ∈ wsX11_minor_r4, w ∈ lw_tbl := (List.forall_mem_cons.mpr ⟨tw_741, (List.forall_mem_cons.mpr ⟨tw_742, (List.forall_mem_cons.mpr ⟨tw_743, (List.forall_mem_cons.mpr ⟨tw_744, (List.forall_mem_cons.mpr ⟨tw_745, (List.forall_mem_cons.mpr ⟨tw_746, (List.forall_mem_cons.mpr ⟨tw_747, (List.forall_mem_cons.mpr ⟨tw_748, (List.forall_mem_cons.mpr ⟨tw_749, (List.forall_mem_cons.mpr ⟨tw_708, (List.forall_mem_cons.mpr ⟨tw_750, (List.forall_mem_cons.mpr ⟨tw_751, (List.forall_mem_cons.mpr ⟨tw_752, (List.forall_mem_cons.mpr ⟨tw_753, (List.forall_mem_cons.mpr ⟨tw_646, (List.forall_mem_cons.mpr ⟨tw_647, (List.forall_mem_cons.mpr ⟨tw_648, (List.forall_mem_cons.mpr ⟨tw_649, (List.forall_mem_cons.mpr ⟨tw_650, (List.forall_mem_cons.mpr ⟨tw_651, (List.forall_mem_cons.mpr ⟨tw_653, (List.forall_mem_cons.mpr ⟨tw_654, (List.forall_mem_cons.mpr ⟨tw_655, (List.forall_mem_cons.mpr ⟨tw_694, (fun _ h => absurd h List.not_mem_nil)⟩)⟩)⟩)⟩)⟩)⟩)⟩)⟩)⟩)⟩)⟩)⟩)⟩)⟩)⟩)⟩)⟩)⟩)⟩)⟩)⟩)⟩)⟩)⟩)
set_option maxRecDepth 20000 in
theorem tl_X11_minor_r5 : ∀ w ∈ wsX11_minor_r5, w ∈ lw_tbl := (List.forall_mem_cons.mpr ⟨tw_695, (List.forall_mem_cons.mpr ⟨tw_696, (List.forall_mem_cons.mpr ⟨tw_697, (List.forall_mem_cons.mpr ⟨tw_698, (List.forall_mem_cons.mpr ⟨tw_699, (List.forall_mem_cons.mpr ⟨tw_704, (List.forall_mem_cons.mpr ⟨tw_705, (List.forall_mem_cons.mpr ⟨tw_706, (List.forall_mem_cons.mpr ⟨tw_707, (List.forall_mem_cons.mpr ⟨tw_690, (List.forall_mem_cons.mpr ⟨tw_691, (List.forall_mem_cons.mpr ⟨tw_692, (List.forall_mem_cons.mpr ⟨tw_693, (List.forall_mem_cons.mpr ⟨tw_709, (List.forall_mem_cons.mpr ⟨tw_710, (List.forall_mem_cons.mpr ⟨tw_711, (List.forall_mem_cons.mpr ⟨tw_712, (List.forall_mem_cons.mpr ⟨tw_1064, (List.forall_mem_cons.mpr ⟨tw_1065, (List.forall_mem_cons.mpr ⟨tw_1066, (List.forall_mem_cons.mpr ⟨tw_1067, (List.forall_mem_cons.mpr ⟨tw_1114, (List.forall_mem_cons.mpr ⟨tw_1115, (List.forall_mem_cons.mpr ⟨tw_1116, (fun _ h => absurd h List.not_mem_nil)⟩)⟩)⟩)⟩)⟩)⟩)⟩)⟩)⟩)⟩)⟩)⟩)⟩)⟩)⟩)⟩)⟩)⟩)⟩)⟩)⟩)⟩)⟩)⟩)
set_option maxRecDepth 20000 in
theorem tl_X11_minor_r6 : ∀ w ∈ wsX11_minor_r6, w ∈ lw_tbl := (List.forall_mem_cons.mpr ⟨tw_1117, (fun _ h => absurd h List.not_mem_nil)⟩)
set_option maxRecDepth 20000 in
theorem tl_X10_cramer_r1 : ∀ w ∈ wsX10_cramer_r1, w ∈ lw_tbl := (List.forall_mem_cons.mpr ⟨tw_7, (List.forall_mem_cons.mpr ⟨tw_183, (List.forall_mem_cons.mpr ⟨tw_881, (List.forall_mem_cons.mpr ⟨tw_33, (List.forall_mem_cons.mpr ⟨tw_177, (List.forall_mem_cons.mpr ⟨tw_37, (List.forall_mem_cons.mpr ⟨tw_178, (List.forall_mem_cons.mpr ⟨tw_1088, (List.forall_mem_cons.mpr ⟨tw_1089, (List.forall_mem_cons.mpr ⟨tw_1090, (List.forall_mem_cons.mpr ⟨tw_31, (List.forall_mem_cons.mpr ⟨tw_1091, (List.forall_mem_cons.mpr ⟨tw_54, (List.forall_mem_cons.mpr ⟨tw_55, (List.forall_mem_cons.mpr ⟨tw_971, (List.forall_mem_cons.mpr ⟨tw_972, (List.forall_mem_cons.mpr ⟨tw_973, (List.forall_mem_cons.mpr ⟨tw_974, (List.forall_mem_cons.mpr ⟨tw_550, (List.forall_mem_cons.mpr ⟨tw_401, (List.forall_mem_cons.mpr ⟨tw_402, (List.forall_mem_cons.mpr ⟨tw_403, (List.forall_mem_cons.mpr ⟨tw_57, (List.forall_mem_cons.mpr ⟨tw_404, (fun _ h => absurd h List.not_mem_nil)⟩)⟩)⟩)⟩)⟩)⟩)⟩)⟩)⟩)⟩)⟩)⟩)⟩)⟩)⟩)⟩)⟩)⟩)⟩)⟩)⟩)⟩)⟩)⟩)
set_option maxRecDepth 20000 in
theorem tl_X10_cramer_r2 : ∀ w ∈ wsX10_cramer_r2, w ∈ lw_tbl := (List.forall_mem_cons.mpr ⟨tw_200, (List.forall_mem_cons.mpr ⟨tw_201, (List.forall_mem_cons.mpr ⟨tw_202, (List.forall_mem_cons.mpr ⟨tw_58, (List.forall_mem_cons.mpr ⟨tw_1152, (List.forall_mem_cons.mpr ⟨tw_406, (List.forall_mem_cons.mpr ⟨tw_407, (List.forall_mem_cons.mpr ⟨tw_36, (List.forall_mem_cons.mpr ⟨tw_408, (List.forall_mem_cons.mpr ⟨tw_373, (List.forall_mem_cons.mpr ⟨tw_378, (List.forall_mem_cons.mpr ⟨tw_64, (List.forall_mem_cons.mpr ⟨tw_409, (List.forall_mem_cons.mpr ⟨tw_410, (List.forall_mem_cons.mpr ⟨tw_411, (List.forall_mem_cons.mpr ⟨tw_412, (List.forall_mem_cons.mpr ⟨tw_413, (List.forall_mem_cons.mpr ⟨tw_414, (List.forall_mem_cons.mpr ⟨tw_415, (List.forall_mem_cons.mpr ⟨tw_416, (List.forall_mem_cons.mpr ⟨tw_385, (List.forall_mem_cons.mpr ⟨tw_386, (List.forall_mem_cons.mpr ⟨tw_387, (List.forall_mem_cons.mpr ⟨tw_388, (fun _ h => absurd h List.not_mem_nil)⟩)⟩)⟩)⟩)⟩)⟩)⟩)⟩)⟩)⟩)⟩)⟩)⟩)⟩)⟩)⟩)⟩)⟩)⟩)⟩)⟩)⟩)⟩)⟩)
set_option maxRecDepth 20000 in
theorem tl_X10_cramer_r3 : ∀ w ∈ wsX10_cramer_r3, w ∈ lw_tbl := (List.forall_mem_cons.mpr ⟨tw_389, (List.forall_mem_cons.mpr ⟨tw_390, (List.forall_mem_cons.mpr ⟨tw_1122, (List.forall_mem_cons.mpr ⟨tw_1123, (List.forall_mem_cons.mpr ⟨tw_1124, (List.forall_mem_cons.mpr ⟨tw_1125, (List.forall_mem_cons.mpr ⟨tw_60, (List.forall_mem_cons.mpr ⟨tw_1126, (List.forall_mem_cons.mpr ⟨tw_370, (List.forall_mem_cons.mpr ⟨tw_371, (List.forall_mem_cons.mpr ⟨tw_372, (List.forall_mem_cons.mpr ⟨tw_374, (List.forall_mem_cons.mpr ⟨tw_375, (List.forall_mem_cons.mpr ⟨tw_376, (List.forall_mem_cons.mpr ⟨tw_377, (List.forall_mem_cons.mpr ⟨tw_379, (List.forall_mem_cons.mpr ⟨tw_380, (List.forall_mem_cons.mpr ⟨tw_381, (List.forall_mem_cons.mpr ⟨tw_382, (List.forall_mem_cons.mpr ⟨tw_383, (List.forall_mem_cons.mpr ⟨tw_384, (List.forall_mem_cons.mpr ⟨tw_467, (List.forall_mem_cons.mpr ⟨tw_1084, (List.forall_mem_cons.mpr ⟨tw_1085, (fun _ h => absurd h List.not_mem_nil)⟩)⟩)⟩)⟩)⟩)⟩)⟩)⟩)⟩)⟩)⟩)⟩)⟩)⟩)⟩)⟩)⟩)⟩)⟩)⟩)⟩)⟩)⟩)⟩)
set_option maxRecDepth 20000 in
theorem tl_X10_cramer_r4 : ∀ w ∈ wsX10_cramer_r4, w ∈ lw_tbl := (List.forall_mem_cons.mpr ⟨tw_1086, (List.forall_mem_cons.mpr ⟨tw_157, (List.forall_mem_cons.mpr ⟨tw_1087, (List.forall_mem_cons.mpr ⟨tw_20, (List.forall_mem_cons.mpr ⟨tw_906, (List.forall_mem_cons.mpr ⟨tw_468, (List.forall_mem_cons.mpr ⟨tw_469, (List.forall_mem_cons.mpr ⟨tw_470, (List.forall_mem_cons.mpr ⟨tw_19, (List.forall_mem_cons.mpr ⟨tw_471, (List.forall_mem_cons.mpr ⟨tw_91, (List.forall_mem_cons.mpr ⟨tw_472, (List.forall_mem_cons.mpr ⟨tw_473, (List.forall_mem_cons.mpr ⟨tw_474, (List.forall_mem_cons.mpr ⟨tw_475, (List.forall_mem_cons.mpr ⟨tw_476, (List.forall_mem_cons.mpr ⟨tw_477, (List.forall_mem_cons.mpr ⟨tw_92, (List.forall_mem_cons.mpr ⟨tw_93, (List.forall_mem_cons.mpr ⟨tw_478, (List.forall_mem_cons.mpr ⟨tw_95, (List.forall_mem_cons.mpr ⟨tw_94, (List.forall_mem_cons.mpr ⟨tw_479, (List.forall_mem_cons.mpr ⟨tw_480, (fun _ h => absurd h List.not_mem_nil)⟩)⟩)⟩)⟩)⟩)⟩)⟩)⟩)⟩)⟩)⟩)⟩)⟩)⟩)⟩)⟩)⟩)⟩)⟩)⟩)⟩)⟩)⟩)⟩)
set_option maxRecDepth 20000 in
theorem tl_X10_cramer_r5 : ∀ w ∈ wsX10_cramer_r5, w ∈ lw_tbl := (List.forall_mem_cons.mpr ⟨tw_481, (List.forall_mem_cons.mpr ⟨tw_482, (List.forall_mem_cons.mpr ⟨tw_483, (List.forall_mem_cons.mpr ⟨tw_484, (List.forall_mem_cons.mpr ⟨tw_485, (List.forall_mem_cons.mpr ⟨tw_486, (List.forall_mem_cons.mpr ⟨tw_487, (List.forall_mem_cons.mpr ⟨tw_488, (List.forall_mem_cons.mpr ⟨tw_489, (List.forall_mem_cons.mpr ⟨tw_490, (List.forall_mem_cons.mpr ⟨tw_491, (List.forall_mem_cons.mpr ⟨tw_492, (List.forall_mem_cons.mpr ⟨tw_493, (List.forall_mem_cons.mpr ⟨tw_494, (List.forall_mem_cons.mpr ⟨tw_495, (List.forall_mem_cons.mpr ⟨tw_496, (List.forall_mem_cons.mpr ⟨tw_497, (List.forall_mem_cons.mpr ⟨tw_498, (List.forall_mem_cons.mpr ⟨tw_499, (List.forall_mem_cons.mpr ⟨tw_500, (List.forall_mem_cons.mpr ⟨tw_501, (List.forall_mem_cons.mpr ⟨tw_502, (List.forall_mem_cons.mpr ⟨tw_503, (List.forall_mem_cons.mpr ⟨tw_504, (fun _ h => absurd h List.not_mem_nil)⟩)⟩)⟩)⟩)⟩)⟩)⟩)⟩)⟩)⟩)⟩)⟩)⟩)⟩)⟩)⟩)⟩)⟩)⟩)⟩)⟩)⟩)⟩)⟩)
set_option maxRecDepth 20000 in
theorem tl_X10_cramer_r6 : ∀ w ∈ wsX10_cramer_r6, w ∈ lw_tbl := (List.forall_mem_cons.mpr ⟨tw_505, (List.forall_mem_cons.mpr ⟨tw_506, (List.forall_mem_cons.mpr ⟨tw_437, (List.forall_mem_cons.mpr ⟨tw_438, (List.forall_mem_cons.mpr ⟨tw_439, (List.forall_mem_cons.mpr ⟨tw_427, (List.forall_mem_cons.mpr ⟨tw_507, (List.forall_mem_cons.mpr ⟨tw_508, (List.forall_mem_cons.mpr ⟨tw_509, (List.forall_mem_cons.mpr ⟨tw_510, (List.forall_mem_cons.mpr ⟨tw_511, (List.forall_mem_cons.mpr ⟨tw_512, (List.forall_mem_cons.mpr ⟨tw_513, (List.forall_mem_cons.mpr ⟨tw_514, (List.forall_mem_cons.mpr ⟨tw_515, (List.forall_mem_cons.mpr ⟨tw_516, (List.forall_mem_cons.mpr ⟨tw_517, (List.forall_mem_cons.mpr ⟨tw_518, (List.forall_mem_cons.mpr ⟨tw_519, (List.forall_mem_cons.mpr ⟨tw_520, (List.forall_mem_cons.mpr ⟨tw_521, (List.forall_mem_cons.mpr ⟨tw_522, (List.forall_mem_cons.mpr ⟨tw_97, (List.forall_mem_cons.mpr ⟨tw_523, (fun _ h => absurd h List.not_mem_nil)⟩)⟩)⟩)⟩)⟩)⟩)⟩)⟩)⟩)⟩)⟩)⟩)⟩)⟩)⟩)⟩)⟩)⟩)⟩)⟩)⟩)⟩)⟩)⟩)
set_option maxRecDepth 20000 in
theorem tl_X10_cramer_r7 : ∀ w ∈ wsX10_cramer_r7, w ∈ lw_tbl := (List.forall_mem_cons.mpr ⟨tw_524, (List.forall_mem_cons.mpr ⟨tw_525, (List.forall_mem_cons.mpr ⟨tw_526, (List.forall_mem_cons.mpr ⟨tw_527, (List.forall_mem_cons.mpr ⟨tw_528, (List.forall_mem_cons.mpr ⟨tw_529, (List.forall_mem_cons.mpr ⟨tw_530, (List.forall_mem_cons.mpr ⟨tw_531, (List.forall_mem_cons.mpr ⟨tw_532, (List.forall_mem_cons.mpr ⟨tw_533, (List.forall_mem_cons.mpr ⟨tw_534, (List.forall_mem_cons.mpr ⟨tw_535, (List.forall_mem_cons.mpr ⟨tw_536, (List.forall_mem_cons.mpr ⟨tw_537, (List.forall_mem_cons.mpr ⟨tw_458, (List.forall_mem_cons.mpr ⟨tw_459, (List.forall_mem_cons.mpr ⟨tw_460, (List.forall_mem_cons.mpr ⟨tw_461, (List.forall_mem_cons.mpr ⟨tw_422, (List.forall_mem_cons.mpr ⟨tw_462, (List.forall_mem_cons.mpr ⟨tw_441, (List.forall_mem_cons.mpr ⟨tw_442, (List.forall_mem_cons.mpr ⟨tw_443, (List.forall_mem_cons.mpr ⟨tw_428, (fun _ h => absurd h List.not_mem_nil)⟩)⟩)⟩)⟩)⟩)⟩)⟩)⟩)⟩)⟩)⟩)⟩)⟩)⟩)⟩)⟩)⟩)⟩)⟩)⟩)⟩)⟩)⟩)⟩)
set_option maxRecDepth 20000 in
theorem tl_X10_cramer_r8 : ∀ w ∈ wsX10_cramer_r8, w ∈ lw_tbl := (List.forall_mem_cons.mpr ⟨tw_463, (List.forall_mem_cons.mpr ⟨tw_464, (List.forall_mem_cons.mpr ⟨tw_465, (List.forall_mem_cons.mpr ⟨tw_466, (List.forall_mem_cons.mpr ⟨tw_1092, (List.forall_mem_cons.mpr ⟨tw_1093, (List.forall_mem_cons.mpr ⟨tw_1094, (List.forall_mem_cons.mpr ⟨tw_1095, (List.forall_mem_cons.mpr ⟨tw_1096, (List.forall_mem_cons.mpr ⟨tw_1097, (List.forall_mem_cons.mpr ⟨tw_1001, (List.forall_mem_cons.mpr ⟨tw_1002, (List.forall_mem_cons.mpr ⟨tw_1003, (List.forall_mem_cons.mpr ⟨tw_1098, (List.forall_mem_cons.mpr ⟨tw_1005, (List.forall_mem_cons.mpr ⟨tw_1006, (List.forall_mem_cons.mpr ⟨tw_1007, (List.forall_mem_cons.mpr ⟨tw_1099, (List.forall_mem_cons.mpr ⟨tw_1100, (List.forall_mem_cons.mpr ⟨tw_1101, (List.forall_mem_cons.mpr ⟨tw_1102, (List.forall_mem_cons.mpr ⟨tw_1103, (List.forall_mem_cons.mpr ⟨tw_1104, (List.forall_mem_cons.mpr ⟨tw_1105, (fun _ h => absurd h List.not_mem_nil)⟩)⟩)⟩)⟩)⟩)⟩)⟩)⟩)⟩)⟩)⟩)⟩)⟩)⟩)⟩)⟩)⟩)⟩)⟩)⟩)⟩)⟩)⟩)⟩)
set_option maxRecDepth 20000 in
theorem tl_X11_cramer_r1 : ∀ w ∈ wsX11_cramer_r1, w ∈ lw_tbl := (List.forall_mem_cons.mpr ⟨tw_632, (List.forall_mem_cons.mpr ⟨tw_633, (List.forall_mem_cons.mpr ⟨tw_890, (List.forall_mem_cons.mpr ⟨tw_129, (List.forall_mem_cons.mpr ⟨tw_130, (List.forall_mem_cons.mpr ⟨tw_622, (List.forall_mem_cons.mpr ⟨tw_623, (List.forall_mem_cons.mpr ⟨tw_624, (List.forall_mem_cons.mpr ⟨tw_144, (List.forall_mem_cons.mpr ⟨tw_625, (List.forall_mem_cons.mpr ⟨tw_626, (List.forall_mem_cons.mpr ⟨tw_627, (List.forall_mem_cons.mpr ⟨tw_628, (List.forall_mem_cons.mpr ⟨tw_629, (List.forall_mem_cons.mpr ⟨tw_630, (List.forall_mem_cons.mpr ⟨tw_631, (List.forall_mem_cons.mpr ⟨tw_124, (List.forall_mem_cons.mpr ⟨tw_675, (List.forall_mem_cons.mpr ⟨tw_676, (List.forall_mem_cons.mpr ⟨tw_677, (List.forall_mem_cons.mpr ⟨tw_678, (List.forall_mem_cons.mpr ⟨tw_168, (List.forall_mem_cons.mpr ⟨tw_169, (List.forall_mem_cons.mpr ⟨tw_170, (fun _ h => absurd h List.not_mem_nil)⟩)⟩)⟩)⟩)⟩)⟩)⟩)⟩)⟩)⟩)⟩)⟩)⟩)⟩)⟩)⟩)⟩)⟩)⟩)⟩)⟩)⟩)⟩)⟩)
set_option maxRecDepth 20000 in
theorem tl_X11_cramer_r2 : ∀ w ∈ wsX11_cramer_r2, w ∈ lw_tbl := (List.forall_mem_cons.mpr ⟨tw_660, (List.forall_mem_cons.mpr ⟨tw_661, (List.forall_mem_cons.mpr ⟨tw_662, (List.forall_mem_cons.mpr ⟨tw_656, (List.forall_mem_cons.mpr ⟨tw_657, (List.forall_mem_cons.mpr ⟨tw_658, (List.forall_mem_cons.mpr ⟨tw_659, (List.forall_mem_cons.mpr ⟨tw_1144, (List.forall_mem_cons.mpr ⟨tw_1145, (List.forall_mem_cons.mpr ⟨tw_1146, (List.forall_mem_cons.mpr ⟨tw_1147, (List.forall_mem_cons.mpr ⟨tw_1110, (List.forall_mem_cons.mpr ⟨tw_1111, (List.forall_mem_cons.mpr ⟨tw_1112, (List.forall_mem_cons.mpr ⟨tw_1113, (List.forall_mem_cons.mpr ⟨tw_721, (List.forall_mem_cons.mpr ⟨tw_131, (List.forall_mem_cons.mpr ⟨tw_132, (List.forall_mem_cons.mpr ⟨tw_640, (List.forall_mem_cons.mpr ⟨tw_641, (List.forall_mem_cons.mpr ⟨tw_652, (List.forall_mem_cons.mpr ⟨tw_717, (List.forall_mem_cons.mpr ⟨tw_718, (List.forall_mem_cons.mpr ⟨tw_719, (fun _ h => absurd h List.not_mem_nil)⟩)⟩)⟩)⟩)⟩)⟩)⟩)⟩)⟩)⟩)⟩)⟩)⟩)⟩)⟩)⟩)⟩)⟩)⟩)⟩)⟩)⟩)⟩)⟩)
set_option maxRecDepth 20000 in
theorem tl_X11_cramer_r3 : ∀ w ∈ wsX11_cramer_r3, w ∈ lw_tbl := (List.forall_mem_cons.mpr ⟨tw_720, (List.forall_mem_cons.mpr ⟨tw_135, (List.forall_mem_cons.mpr ⟨tw_136, (List.forall_mem_cons.mpr ⟨tw_722, (List.forall_mem_cons.mpr ⟨tw_723, (List.forall_mem_cons.mpr ⟨tw_724, (List.forall_mem_cons.mpr ⟨tw_725, (List.forall_mem_cons.mpr ⟨tw_133, (List.forall_mem_cons.mpr ⟨tw_134, (List.forall_mem_cons.mpr ⟨tw_726, (List.forall_mem_cons.mpr ⟨tw_727, (List.forall_mem_cons.mpr ⟨tw_728, (List.forall_mem_cons.mpr ⟨tw_729, (List.forall_mem_cons.mpr ⟨tw_730, (List.forall_mem_cons.mpr ⟨tw_731, (List.forall_mem_cons.mpr ⟨tw_732, (List.forall_mem_cons.mpr ⟨tw_733, (List.forall_mem_cons.mpr ⟨tw_734, (List.forall_mem_cons.mpr ⟨tw_735, (List.forall_mem_cons.mpr ⟨tw_736, (List.forall_mem_cons.mpr ⟨tw_737, (List.forall_mem_cons.mpr ⟨tw_738, (List.forall_mem_cons.mpr ⟨tw_739, (List.forall_mem_cons.mpr ⟨tw_740, (fun _ h => absurd h List.not_mem_nil)⟩)⟩)⟩)⟩)⟩)⟩)⟩)⟩)⟩)⟩)⟩)⟩)⟩)⟩)⟩)⟩)⟩)⟩)⟩)⟩)⟩)⟩)⟩)⟩)
set_option maxRecDepth 20000 in
theorem tl_X11_cramer_r4 : ∀ w ∈ wsX11_cramer_r4, w ∈ lw_tbl := (List.forall_mem_cons.mpr ⟨tw_741, (List.forall_mem_cons.mpr ⟨tw_742, (List.forall_mem_cons.mpr ⟨tw_743, (List.forall_mem_cons.mpr ⟨tw_744, (List.forall_mem_cons.mpr ⟨tw_745, (List.forall_mem_cons.mpr ⟨tw_746, (List.forall_mem_cons.mpr ⟨tw_747, (List.forall_mem_cons.mpr ⟨tw_748, (List.forall_mem_cons.mpr ⟨tw_749, (List.forall_mem_cons.mpr ⟨tw_708, (List.forall_mem_cons.mpr ⟨tw_750, (List.forall_mem_cons.mpr ⟨tw_751, (List.forall_mem_cons.mpr ⟨tw_752, (List.forall_mem_cons.mpr ⟨tw_753, (List.forall_mem_cons.mpr ⟨tw_646, (List.forall_mem_cons.mpr ⟨tw_647, (List.forall_mem_cons.mpr ⟨tw_648, (List.forall_mem_cons.mpr ⟨tw_649, (List.forall_mem_cons.mpr ⟨tw_650, (List.forall_mem_cons.mpr ⟨tw_651, (List.forall_mem_cons.mpr ⟨tw_653, (List.forall_mem_cons.mpr ⟨tw_654, (List.forall_mem_cons.mpr ⟨tw_655, (List.forall_mem_cons.mpr ⟨tw_694, (fun _ h => absurd h List.not_mem_nil)⟩)⟩)⟩)⟩)⟩)⟩)⟩)⟩)⟩)⟩)⟩)⟩)⟩)⟩)⟩)⟩)⟩)⟩)⟩)⟩)⟩)⟩)⟩)⟩)
set_option maxRecDepth 20000 in
theorem tl_X11_cramer_r5 : ∀ w ∈ wsX11_cramer_r5, w ∈ lw_tbl := (List.forall_mem_cons.mpr ⟨tw_695, (List.forall_mem_cons.mpr ⟨tw_696, (List.forall_mem_cons.mpr ⟨tw_697, (List.forall_mem_cons.mpr ⟨tw_698, (List.forall_mem_cons.mpr ⟨tw_699, (List.forall_mem_cons.mpr ⟨tw_704, (List.forall_mem_cons.mpr ⟨tw_705, (List.forall_mem_cons.mpr ⟨tw_706, (List.forall_mem_cons.mpr ⟨tw_707, (List.forall_mem_cons.mpr ⟨tw_690, (List.forall_mem_cons.mpr ⟨tw_691, (List.forall_mem_cons.mpr ⟨tw_692, (List.forall_mem_cons.mpr ⟨tw_693, (List.forall_mem_cons.mpr ⟨tw_709, (List.forall_mem_cons.mpr ⟨tw_710, (List.forall_mem_cons.mpr ⟨tw_711, (List.forall_mem_cons.mpr ⟨tw_712, (List.forall_mem_cons.mpr ⟨tw_1064, (List.forall_mem_cons.mpr ⟨tw_1065, (List.forall_mem_cons.mpr ⟨tw_1066, (List.forall_mem_cons.mpr ⟨tw_1067, (List.forall_mem_cons.mpr ⟨tw_1114, (List.forall_mem_cons.mpr ⟨tw_1115, (List.forall_mem_cons.mpr ⟨tw_1116, (fun _ h => absurd h List.not_mem_nil)⟩)⟩)⟩)⟩)⟩)⟩)⟩)⟩)⟩)⟩)⟩)⟩)⟩)⟩)⟩)⟩)⟩)⟩)⟩)⟩)⟩)⟩)⟩)⟩)
set_option maxRecDepth 20000 in
theorem tl_X11_cramer_r6 : ∀ w ∈ wsX11_cramer_r6, w ∈ lw_tbl := (List.forall_mem_cons.mpr ⟨tw_1117, (fun _ h => absurd h List.not_mem_nil)⟩)
set_option maxRecDepth 20000 in
theorem tl_X10_would_r1 : ∀ w ∈ wsX10_would_r1, w ∈ lw_tbl := (List.forall_mem_cons.mpr ⟨tw_7, (List.forall_mem_cons.mpr ⟨tw_183, (List.forall_mem_cons.mpr ⟨tw_881, (List.forall_mem_cons.mpr ⟨tw_33, (List.forall_mem_cons.mpr ⟨tw_177, (List.forall_mem_cons.mpr ⟨tw_37, (List.forall_mem_cons.mpr ⟨tw_1161, (List.forall_mem_cons.mpr ⟨tw_178, (List.forall_mem_cons.mpr ⟨tw_883, (List.forall_mem_cons.mpr ⟨tw_779, (List.forall_mem_cons.mpr ⟨tw_780, (List.forall_mem_cons.mpr ⟨tw_31, (List.forall_mem_cons.mpr ⟨tw_781, (List.forall_mem_cons.mpr ⟨tw_55, (List.forall_mem_cons.mpr ⟨tw_1162, (List.forall_mem_cons.mpr ⟨tw_434, (List.forall_mem_cons.mpr ⟨tw_157, (List.forall_mem_cons.mpr ⟨tw_435, (List.forall_mem_cons.mpr ⟨tw_550, (List.forall_mem_cons.mpr ⟨tw_401, (List.forall_mem_cons.mpr ⟨tw_402, (List.forall_mem_cons.mpr ⟨tw_403, (List.forall_mem_cons.mpr ⟨tw_54, (List.forall_mem_cons.mpr ⟨tw_57, (fun _ h => absurd h List.not_mem_nil)⟩)⟩)⟩)⟩)⟩)⟩)⟩)⟩)⟩)⟩)⟩)⟩)⟩)⟩)⟩)⟩)⟩)⟩)⟩)⟩)⟩)⟩)⟩)⟩)
set_option maxRecDepth 20000 in
theorem tl_X10_would_r2 : ∀ w ∈ wsX10_would_r2, w ∈ lw_tbl := (List.forall_mem_cons.mpr ⟨tw_404, (List.forall_mem_cons.mpr ⟨tw_200, (List.forall_mem_cons.mpr ⟨tw_201, (List.forall_mem_cons.mpr ⟨tw_202, (List.forall_mem_cons.mpr ⟨tw_58, (List.forall_mem_cons.mpr ⟨tw_1152, (List.forall_mem_cons.mpr ⟨tw_406, (List.forall_mem_cons.mpr ⟨tw_407, (List.forall_mem_cons.mpr ⟨tw_36, (List.forall_mem_cons.mpr ⟨tw_408, (List.forall_mem_cons.mpr ⟨tw_373, (List.forall_mem_cons.mpr ⟨tw_378, (List.forall_mem_cons.mpr ⟨tw_64, (List.forall_mem_cons.mpr ⟨tw_409, (List.forall_mem_cons.mpr ⟨tw_410, (List.forall_mem_cons.mpr ⟨tw_411, (List.forall_mem_cons.mpr ⟨tw_412, (List.forall_mem_cons.mpr ⟨tw_413, (List.forall_mem_cons.mpr ⟨tw_414, (List.forall_mem_cons.mpr ⟨tw_415, (List.forall_mem_cons.mpr ⟨tw_416, (List.forall_mem_cons.mpr ⟨tw_1163, (List.forall_mem_cons.mpr ⟨tw_441, (List.forall_mem_cons.mpr ⟨tw_442, (fun _ h => absurd h List.not_mem_nil)⟩)⟩)⟩)⟩)⟩)⟩)⟩)⟩)⟩)⟩)⟩)⟩)⟩)⟩)⟩)⟩)⟩)⟩)⟩)⟩)⟩)⟩)⟩)⟩)
set_option maxRecDepth 20000 in
theorem tl_X10_would_r3 : ∀ w ∈ wsX10_would_r3, w ∈ lw_tbl := (List.forall_mem_cons.mpr ⟨tw_443, (List.forall_mem_cons.mpr ⟨tw_374, (List.forall_mem_cons.mpr ⟨tw_375, (List.forall_mem_cons.mpr ⟨tw_376, (List.forall_mem_cons.mpr ⟨tw_377, (List.forall_mem_cons.mpr ⟨tw_379, (List.forall_mem_cons.mpr ⟨tw_380, (List.forall_mem_cons.mpr ⟨tw_381, (List.forall_mem_cons.mpr ⟨tw_382, (List.forall_mem_cons.mpr ⟨tw_383, (List.forall_mem_cons.mpr ⟨tw_384, (List.forall_mem_cons.mpr ⟨tw_385, (List.forall_mem_cons.mpr ⟨tw_386, (List.forall_mem_cons.mpr ⟨tw_387, (List.forall_mem_cons.mpr ⟨tw_388, (List.forall_mem_cons.mpr ⟨tw_389, (List.forall_mem_cons.mpr ⟨tw_390, (List.forall_mem_cons.mpr ⟨tw_967, (List.forall_mem_cons.mpr ⟨tw_968, (List.forall_mem_cons.mpr ⟨tw_969, (List.forall_mem_cons.mpr ⟨tw_970, (List.forall_mem_cons.mpr ⟨tw_20, (List.forall_mem_cons.mpr ⟨tw_24, (List.forall_mem_cons.mpr ⟨tw_971, (fun _ h => absurd h List.not_mem_nil)⟩)⟩)⟩)⟩)⟩)⟩)⟩)⟩)⟩)⟩)⟩)⟩)⟩)⟩)⟩)⟩)⟩)⟩)⟩)⟩)⟩)⟩)⟩)⟩)
set_option maxRecDepth 20000 in
theorem tl_X10_would_r4 : ∀ w ∈ wsX10_would_r4, w ∈ lw_tbl := (List.forall_mem_cons.mpr ⟨tw_972, (List.forall_mem_cons.mpr ⟨tw_973, (List.forall_mem_cons.mpr ⟨tw_974, (List.forall_mem_cons.mpr ⟨tw_468, (List.forall_mem_cons.mpr ⟨tw_469, (List.forall_mem_cons.mpr ⟨tw_470, (List.forall_mem_cons.mpr ⟨tw_19, (List.forall_mem_cons.mpr ⟨tw_471, (List.forall_mem_cons.mpr ⟨tw_91, (List.forall_mem_cons.mpr ⟨tw_472, (List.forall_mem_cons.mpr ⟨tw_473, (List.forall_mem_cons.mpr ⟨tw_474, (List.forall_mem_cons.mpr ⟨tw_475, (List.forall_mem_cons.mpr ⟨tw_476, (List.forall_mem_cons.mpr ⟨tw_477, (List.forall_mem_cons.mpr ⟨tw_92, (List.forall_mem_cons.mpr ⟨tw_93, (List.forall_mem_cons.mpr ⟨tw_478, (List.forall_mem_cons.mpr ⟨tw_95, (List.forall_mem_cons.mpr ⟨tw_94, (List.forall_mem_cons.mpr ⟨tw_479, (List.forall_mem_cons.mpr ⟨tw_480, (List.forall_mem_cons.mpr ⟨tw_481, (List.forall_mem_cons.mpr ⟨tw_482, (fun _ h => absurd h List.not_mem_nil)⟩)⟩)⟩)⟩)⟩)⟩)⟩)⟩)⟩)⟩)⟩)⟩)⟩)⟩)⟩)⟩)⟩)⟩)⟩)⟩)⟩)⟩)⟩)⟩)
set_option maxRecDepth 20000 in
theorem tl_X10_would_r5 : ∀ w ∈ wsX10_would_r5, w ∈ lw_tbl := (List.forall_mem_cons.mpr ⟨tw_483, (List.forall_mem_cons.mpr ⟨tw_484, (List.forall_mem_cons.mpr ⟨tw_485, (List.forall_mem_cons.mpr ⟨tw_486, (List.forall_mem_cons.mpr ⟨tw_487, (List.forall_mem_cons.mpr ⟨tw_488, (List.forall_mem_cons.mpr ⟨tw_489, (List.forall_mem_cons.mpr ⟨tw_490, (List.forall_mem_cons.mpr ⟨tw_491, (List.forall_mem_cons.mpr ⟨tw_492, (List.forall_mem_cons.mpr ⟨tw_493, (List.forall_mem_cons.mpr ⟨tw_494, (List.forall_mem_cons.mpr ⟨tw_495, (List.forall_mem_cons.mpr ⟨tw_496, (List.forall_mem_cons.mpr ⟨tw_497, (List.forall_mem_cons.mpr ⟨tw_498, (List.forall_mem_cons.mpr ⟨tw_499, (List.forall_mem_cons.mpr ⟨tw_500, (List.forall_mem_cons.mpr ⟨tw_501, (List.forall_mem_cons.mpr ⟨tw_502, (List.forall_mem_cons.mpr ⟨tw_503, (List.forall_mem_cons.mpr ⟨tw_504, (List.forall_mem_cons.mpr ⟨tw_505, (List.forall_mem_cons.mpr ⟨tw_506, (fun _ h => absurd h List.not_mem_nil)⟩)⟩)⟩)⟩)⟩)⟩)⟩)⟩)⟩)⟩)⟩)⟩)⟩)⟩)⟩)⟩)⟩)⟩)⟩)⟩)⟩)⟩)⟩)⟩)
set_option maxRecDepth 20000 in
theorem tl_X10_would_r6 : ∀ w ∈ wsX10_would_r6, w ∈ lw_tbl := (List.forall_mem_cons.mpr ⟨tw_437, (List.forall_mem_cons.mpr ⟨tw_438, (List.forall_mem_cons.mpr ⟨tw_439, (List.forall_mem_cons.mpr ⟨tw_427, (List.forall_mem_cons.mpr ⟨tw_507, (List.forall_mem_cons.mpr ⟨tw_508, (List.forall_mem_cons.mpr ⟨tw_509, (List.forall_mem_cons.mpr ⟨tw_510, (List.forall_mem_cons.mpr ⟨tw_511, (List.forall_mem_cons.mpr ⟨tw_512, (List.forall_mem_cons.mpr ⟨tw_513, (List.forall_mem_cons.mpr ⟨tw_514, (List.forall_mem_cons.mpr ⟨tw_515, (List.forall_mem_cons.mpr ⟨tw_516, (List.forall_mem_cons.mpr ⟨tw_517, (List.forall_mem_cons.mpr ⟨tw_518, (List.forall_mem_cons.mpr ⟨tw_519, (List.forall_mem_cons.mpr ⟨tw_520, (List.forall_mem_cons.mpr ⟨tw_521, (List.forall_mem_cons.mpr ⟨tw_522, (List.forall_mem_cons.mpr ⟨tw_97, (List.forall_mem_cons.mpr ⟨tw_523, (List.forall_mem_cons.mpr ⟨tw_524, (List.forall_mem_cons.mpr ⟨tw_525, (fun _ h => absurd h List.not_mem_nil)⟩)⟩)⟩)⟩)⟩)⟩)⟩)⟩)⟩)⟩)⟩)⟩)⟩)⟩)⟩)⟩)⟩)⟩)⟩)⟩)⟩)⟩)⟩)⟩)
set_option maxRecDepth 20000 in
theorem tl_X10_would_r7 : ∀ w ∈ wsX10_would_r7, w ∈ lw_tbl := (List.forall_mem_cons.mpr ⟨tw_526, (List.forall_mem_cons.mpr ⟨tw_527, (List.forall_mem_cons.mpr ⟨tw_528, (List.forall_mem_cons.mpr ⟨tw_529, (List.forall_mem_cons.mpr ⟨tw_530, (List.forall_mem_cons.mpr ⟨tw_531, (List.forall_mem_cons.mpr ⟨tw_532, (List.forall_mem_cons.mpr ⟨tw_533, (List.forall_mem_cons.mpr ⟨tw_534, (List.forall_mem_cons.mpr ⟨tw_535, (List.forall_mem_cons.mpr ⟨tw_536, (List.forall_mem_cons.mpr ⟨tw_537, (List.forall_mem_cons.mpr ⟨tw_458, (List.forall_mem_cons.mpr ⟨tw_459, (List.forall_mem_cons.mpr ⟨tw_460, (List.forall_mem_cons.mpr ⟨tw_60, (List.forall_mem_cons.mpr ⟨tw_461, (List.forall_mem_cons.mpr ⟨tw_422, (List.forall_mem_cons.mpr ⟨tw_462, (List.forall_mem_cons.mpr ⟨tw_428, (List.forall_mem_cons.mpr ⟨tw_463, (List.forall_mem_cons.mpr ⟨tw_464, (List.forall_mem_cons.mpr ⟨tw_465, (List.forall_mem_cons.mpr ⟨tw_466, (fun _ h => absurd h List.not_mem_nil)⟩)⟩)⟩)⟩)⟩)⟩)⟩)⟩)⟩)⟩)⟩)⟩)⟩)⟩)⟩)⟩)⟩)⟩)⟩)⟩)⟩)⟩)⟩)⟩)
set_option maxRecDepth 20000 in
theorem tl_X10_would_r8 : ∀ w ∈ wsX10_would_r8, w ∈ lw_tbl := (List.forall_mem_cons.mpr ⟨tw_467, (List.forall_mem_cons.mpr ⟨tw_975, (List.forall_mem_cons.mpr ⟨tw_976, (List.forall_mem_cons.mpr ⟨tw_977, (List.forall_mem_cons.mpr ⟨tw_978, (List.forall_mem_cons.mpr ⟨tw_979, (List.forall_mem_cons.mpr ⟨tw_952, (List.forall_mem_cons.mpr ⟨tw_953, (List.forall_mem_cons.mpr ⟨tw_954, (List.forall_mem_cons.mpr ⟨tw_942, (List.forall_mem_cons.mpr ⟨tw_980, (List.forall_mem_cons.mpr ⟨tw_981, (List.forall_mem_cons.mpr ⟨tw_982, (List.forall_mem_cons.mpr ⟨tw_23, (List.forall_mem_cons.mpr ⟨tw_983, (List.forall_mem_cons.mpr ⟨tw_984, (List.forall_mem_cons.mpr ⟨tw_985, (List.forall_mem_cons.mpr ⟨tw_986, (List.forall_mem_cons.mpr ⟨tw_987, (List.forall_mem_cons.mpr ⟨tw_102, (List.forall_mem_cons.mpr ⟨tw_103, (List.forall_mem_cons.mpr ⟨tw_988, (List.forall_mem_cons.mpr ⟨tw_989, (List.forall_mem_cons.mpr ⟨tw_66, (fun _ h => absurd h List.not_mem_nil)⟩)⟩)⟩)⟩)⟩)⟩)⟩)⟩)⟩)⟩)⟩)⟩)⟩)⟩)⟩)⟩)⟩)⟩)⟩)⟩)⟩)⟩)⟩)⟩)
set_option maxRecDepth 20000 in
theorem tl_X10_would_r9 : ∀ w ∈ wsX10_would_r9, w ∈ lw_tbl := (List.forall_mem_cons.mpr ⟨tw_67, (List.forall_mem_cons.mpr ⟨tw_68, (List.forall_mem_cons.mpr ⟨tw_990, (List.forall_mem_cons.mpr ⟨tw_991, (List.forall_mem_cons.mpr ⟨tw_992, (List.forall_mem_cons.mpr ⟨tw_993, (List.forall_mem_cons.mpr ⟨tw_994, (List.forall_mem_cons.mpr ⟨tw_995, (List.forall_mem_cons.mpr ⟨tw_105, (List.forall_mem_cons.mpr ⟨tw_996, (List.forall_mem_cons.mpr ⟨tw_106, (List.forall_mem_cons.mpr ⟨tw_997, (List.forall_mem_cons.mpr ⟨tw_998, (List.forall_mem_cons.mpr ⟨tw_999, (List.forall_mem_cons.mpr ⟨tw_1000, (List.forall_mem_cons.mpr ⟨tw_1001, (List.forall_mem_cons.mpr ⟨tw_1002, (List.forall_mem_cons.mpr ⟨tw_1003, (List.forall_mem_cons.mpr ⟨tw_1004, (List.forall_mem_cons.mpr ⟨tw_1005, (List.forall_mem_cons.mpr ⟨tw_1006, (List.forall_mem_cons.mpr ⟨tw_1007, (List.forall_mem_cons.mpr ⟨tw_1008, (List.forall_mem_cons.mpr ⟨tw_370, (fun _ h => absurd h List.not_mem_nil)⟩)⟩)⟩)⟩)⟩)⟩)⟩)⟩)⟩)⟩)⟩)⟩)⟩)⟩)⟩)⟩)⟩)⟩)⟩)⟩)⟩)⟩)⟩)⟩)
set_option maxRecDepth 20000 in
theorem tl_X10_would_r10 : ∀ w ∈ wsX10_would_r10, w ∈ lw_tbl := (List.forall_mem_cons.mpr ⟨tw_371, (List.forall_mem_cons.mpr ⟨tw_372, (List.forall_mem_cons.mpr ⟨tw_1009, (List.forall_mem_cons.mpr ⟨tw_1010, (List.forall_mem_cons.mpr ⟨tw_1011, (List.forall_mem_cons.mpr ⟨tw_1012, (List.forall_mem_cons.mpr ⟨tw_1013, (List.forall_mem_cons.mpr ⟨tw_1014, (List.forall_mem_cons.mpr ⟨tw_1015, (List.forall_mem_cons.mpr ⟨tw_1016, (List.forall_mem_cons.mpr ⟨tw_1017, (List.forall_mem_cons.mpr ⟨tw_1018, (List.forall_mem_cons.mpr ⟨tw_1019, (List.forall_mem_cons.mpr ⟨tw_1020, (List.forall_mem_cons.mpr ⟨tw_1021, (List.forall_mem_cons.mpr ⟨tw_1022, (List.forall_mem_cons.mpr ⟨tw_1023, (List.forall_mem_cons.mpr ⟨tw_1024, (List.forall_mem_cons.mpr ⟨tw_1025, (List.forall_mem_cons.mpr ⟨tw_1026, (List.forall_mem_cons.mpr ⟨tw_1027, (List.forall_mem_cons.mpr ⟨tw_1028, (List.forall_mem_cons.mpr ⟨tw_1029, (List.forall_mem_cons.mpr ⟨tw_1030, (fun _ h => absurd h List.not_mem_nil)⟩)⟩)⟩)⟩)⟩)⟩)⟩)⟩)⟩)⟩)⟩)⟩)⟩)⟩)⟩)⟩)⟩)⟩)⟩)⟩)⟩)⟩)⟩)⟩)
set_option maxRecDepth 20000 in
theorem tl_X10_would_r11 : ∀ w ∈ wsX10_would_r11, w ∈ lw_tbl := (List.forall_mem_cons.mpr ⟨tw_1031, (fun _ h => absurd h List.not_mem_nil)⟩)
set_option maxRecDepth 20000 in
theorem tl_X11_would_r1 : ∀ w ∈ wsX11_would_r1, w ∈ lw_tbl := (List.forall_mem_cons.mpr ⟨tw_633, (List.forall_mem_cons.mpr ⟨tw_890, (List.forall_mem_cons.mpr ⟨tw_632, (List.forall_mem_cons.mpr ⟨tw_129, (List.forall_mem_cons.mpr ⟨tw_130, (List.forall_mem_cons.mpr ⟨tw_652, (List.forall_mem_cons.mpr ⟨tw_640, (List.forall_mem_cons.mpr ⟨tw_641, (List.forall_mem_cons.mpr ⟨tw_622, (List.forall_mem_cons.mpr ⟨tw_623, (List.forall_mem_cons.mpr ⟨tw_624, (List.forall_mem_cons.mpr ⟨tw_144, (List.forall_mem_cons.mpr ⟨tw_625, (List.forall_mem_cons.mpr ⟨tw_626, (List.forall_mem_cons.mpr ⟨tw_627, (List.forall_mem_cons.mpr ⟨tw_628, (List.forall_mem_cons.mpr ⟨tw_629, (List.forall_mem_cons.mpr ⟨tw_630, (List.forall_mem_cons.mpr ⟨tw_631, (List.forall_mem_cons.mpr ⟨tw_124, (List.forall_mem_cons.mpr ⟨tw_168, (List.forall_mem_cons.mpr ⟨tw_169, (List.forall_mem_cons.mpr ⟨tw_170, (List.forall_mem_cons.mpr ⟨tw_683, (fun _ h => absurd h List.not_mem_nil)⟩)⟩)⟩)⟩)⟩)⟩)⟩)⟩)⟩)⟩)⟩)⟩)⟩)⟩)⟩)⟩)⟩)⟩)⟩)⟩)⟩)⟩)⟩)⟩)
set_option maxRecDepth 20000 in
theorem tl_X11_would_r2 : ∀ w ∈ wsX11_would_r2, w ∈ lw_tbl := (List.forall_mem_cons.mpr ⟨tw_684, (List.forall_mem_cons.mpr ⟨tw_685, (List.forall_mem_cons.mpr ⟨tw_660, (List.forall_mem_cons.mpr ⟨tw_661, (List.forall_mem_cons.mpr ⟨tw_662, (List.forall_mem_cons.mpr ⟨tw_690, (List.forall_mem_cons.mpr ⟨tw_691, (List.forall_mem_cons.mpr ⟨tw_692, (List.forall_mem_cons.mpr ⟨tw_693, (List.forall_mem_cons.mpr ⟨tw_646, (List.forall_mem_cons.mpr ⟨tw_647, (List.forall_mem_cons.mpr ⟨tw_648, (List.forall_mem_cons.mpr ⟨tw_649, (List.forall_mem_cons.mpr ⟨tw_650, (List.forall_mem_cons.mpr ⟨tw_651, (List.forall_mem_cons.mpr ⟨tw_653, (List.forall_mem_cons.mpr ⟨tw_654, (List.forall_mem_cons.mpr ⟨tw_655, (List.forall_mem_cons.mpr ⟨tw_656, (List.forall_mem_cons.mpr ⟨tw_657, (List.forall_mem_cons.mpr ⟨tw_658, (List.forall_mem_cons.mpr ⟨tw_659, (List.forall_mem_cons.mpr ⟨tw_1036, (List.forall_mem_cons.mpr ⟨tw_1037, (fun _ h => absurd h List.not_mem_nil)⟩)⟩)⟩)⟩)⟩)⟩)⟩)⟩)⟩)⟩)⟩)⟩)⟩)⟩)⟩)⟩)⟩)⟩)⟩)⟩)⟩)⟩)⟩)⟩)
set_option maxRecDepth 20000 in
theorem tl_X11_would_r3 : ∀ w ∈ wsX11_would_r3, w ∈ lw_tbl := (List.forall_mem_cons.mpr ⟨tw_1038, (List.forall_mem_cons.mpr ⟨tw_1039, (List.forall_mem_cons.mpr ⟨tw_717, (List.forall_mem_cons.mpr ⟨tw_718, (List.forall_mem_cons.mpr ⟨tw_719, (List.forall_mem_cons.mpr ⟨tw_720, (List.forall_mem_cons.mpr ⟨tw_721, (List.forall_mem_cons.mpr ⟨tw_135, (List.forall_mem_cons.mpr ⟨tw_136, (List.forall_mem_cons.mpr ⟨tw_131, (List.forall_mem_cons.mpr ⟨tw_132, (List.forall_mem_cons.mpr ⟨tw_722, (List.forall_mem_cons.mpr ⟨tw_723, (List.forall_mem_cons.mpr ⟨tw_724, (List.forall_mem_cons.mpr ⟨tw_725, (List.forall_mem_cons.mpr ⟨tw_133, (List.forall_mem_cons.mpr ⟨tw_134, (List.forall_mem_cons.mpr ⟨tw_726, (List.forall_mem_cons.mpr ⟨tw_727, (List.forall_mem_cons.mpr ⟨tw_728, (List.forall_mem_cons.mpr ⟨tw_729, (List.forall_mem_cons.mpr ⟨tw_730, (List.forall_mem_cons.mpr ⟨tw_731, (List.forall_mem_cons.mpr ⟨tw_732, (fun _ h => absurd h List.not_mem_nil)⟩)⟩)⟩)⟩)⟩)⟩)⟩)⟩)⟩)⟩)⟩)⟩)⟩)⟩)⟩)⟩)⟩)⟩)⟩)⟩)⟩)⟩)⟩)⟩)
set_option maxRecDepth 20000 in
theorem tl_X11_would_r4 : ∀ w ∈ wsX11_would_r4, w ∈ lw_tbl := (List.forall_mem_cons.mpr ⟨tw_733, (List.forall_mem_cons.mpr ⟨tw_734, (List.forall_mem_cons.mpr ⟨tw_735, (List.forall_mem_cons.mpr ⟨tw_736, (List.forall_mem_cons.mpr ⟨tw_737, (List.forall_mem_cons.mpr ⟨tw_738, (List.forall_mem_cons.mpr ⟨tw_739, (List.forall_mem_cons.mpr ⟨tw_740, (List.forall_mem_cons.mpr ⟨tw_741, (List.forall_mem_cons.mpr ⟨tw_742, (List.forall_mem_cons.mpr ⟨tw_743, (List.forall_mem_cons.mpr ⟨tw_744, (List.forall_mem_cons.mpr ⟨tw_745, (List.forall_mem_cons.mpr ⟨tw_746, (List.forall_mem_cons.mpr ⟨tw_747, (List.forall_mem_cons.mpr ⟨tw_748, (List.forall_mem_cons.mpr ⟨tw_749, (List.forall_mem_cons.mpr ⟨tw_708, (List.forall_mem_cons.mpr ⟨tw_750, (List.forall_mem_cons.mpr ⟨tw_751, (List.forall_mem_cons.mpr ⟨tw_752, (List.forall_mem_cons.mpr ⟨tw_753, (List.forall_mem_cons.mpr ⟨tw_694, (List.forall_mem_cons.mpr ⟨tw_695, (fun _ h => absurd h List.not_mem_nil)⟩)⟩)⟩)⟩)⟩)⟩)⟩)⟩)⟩)⟩)⟩)⟩)⟩)⟩)⟩)⟩)⟩)⟩)⟩)⟩)⟩)⟩)⟩)⟩)
set_option maxRecDepth 20000 in
theorem tl_X11_would_r5 : ∀ w ∈ wsX11_would_r5, w ∈ lw_tbl := (List.forall_mem_cons.mpr ⟨tw_696, (List.forall_mem_cons.mpr ⟨tw_697, (List.forall_mem_cons.mpr ⟨tw_698, (List.forall_mem_cons.mpr ⟨tw_699, (List.forall_mem_cons.mpr ⟨tw_704, (List.forall_mem_cons.mpr ⟨tw_705, (List.forall_mem_cons.mpr ⟨tw_706, (List.forall_mem_cons.mpr ⟨tw_707, (List.forall_mem_cons.mpr ⟨tw_709, (List.forall_mem_cons.mpr ⟨tw_710, (List.forall_mem_cons.mpr ⟨tw_711, (List.forall_mem_cons.mpr ⟨tw_712, (List.forall_mem_cons.mpr ⟨tw_959, (List.forall_mem_cons.mpr ⟨tw_960, (List.forall_mem_cons.mpr ⟨tw_961, (List.forall_mem_cons.mpr ⟨tw_962, (List.forall_mem_cons.mpr ⟨tw_1040, (List.forall_mem_cons.mpr ⟨tw_1041, (List.forall_mem_cons.mpr ⟨tw_1042, (List.forall_mem_cons.mpr ⟨tw_1043, (List.forall_mem_cons.mpr ⟨tw_138, (List.forall_mem_cons.mpr ⟨tw_139, (List.forall_mem_cons.mpr ⟨tw_140, (List.forall_mem_cons.mpr ⟨tw_1044, (fun _ h => absurd h List.not_mem_nil)⟩)⟩)⟩)⟩)⟩)⟩)⟩)⟩)⟩)⟩)⟩)⟩)⟩)⟩)⟩)⟩)⟩)⟩)⟩)⟩)⟩)⟩)⟩)⟩)
set_option maxRecDepth 20000 in
theorem tl_X11_would_r6 : ∀ w ∈ wsX11_would_r6, w ∈ lw_tbl := (List.forall_mem_cons.mpr ⟨tw_1045, (List.forall_mem_cons.mpr ⟨tw_1046, (List.forall_mem_cons.mpr ⟨tw_1047, (List.forall_mem_cons.mpr ⟨tw_1048, (List.forall_mem_cons.mpr ⟨tw_1049, (List.forall_mem_cons.mpr ⟨tw_1050, (List.forall_mem_cons.mpr ⟨tw_1051, (fun _ h => absurd h List.not_mem_nil)⟩)⟩)⟩)⟩)⟩)⟩)⟩)
set_option maxRecDepth 20000 in
theorem tl_X10_ranked_r1 : ∀ w ∈ wsX10_ranked_r1, w ∈ lw_tbl := (List.forall_mem_cons.mpr ⟨tw_7, (List.forall_mem_cons.mpr ⟨tw_183, (List.forall_mem_cons.mpr ⟨tw_881, (List.forall_mem_cons.mpr ⟨tw_33, (List.forall_mem_cons.mpr ⟨tw_37, (List.forall_mem_cons.mpr ⟨tw_20, (List.forall_mem_cons.mpr ⟨tw_906, (List.forall_mem_cons.mpr ⟨tw_937, (List.forall_mem_cons.mpr ⟨tw_882, (List.forall_mem_cons.mpr ⟨tw_397, (List.forall_mem_cons.mpr ⟨tw_398, (List.forall_mem_cons.mpr ⟨tw_31, (List.forall_mem_cons.mpr ⟨tw_399, (List.forall_mem_cons.mpr ⟨tw_54, (List.forall_mem_cons.mpr ⟨tw_971, (List.forall_mem_cons.mpr ⟨tw_972, (List.forall_mem_cons.mpr ⟨tw_973, (List.forall_mem_cons.mpr ⟨tw_974, (List.forall_mem_cons.mpr ⟨tw_55, (List.forall_mem_cons.mpr ⟨tw_1162, (List.forall_mem_cons.mpr ⟨tw_434, (List.forall_mem_cons.mpr ⟨tw_157, (List.forall_mem_cons.mpr ⟨tw_435, (List.forall_mem_cons.mpr ⟨tw_550, (fun _ h => absurd h List.not_mem_nil)⟩)⟩)⟩)⟩)⟩)⟩)⟩)⟩)⟩)⟩)⟩)⟩)⟩)⟩)⟩)⟩)⟩)⟩)⟩)⟩)⟩)⟩)⟩)⟩)
set_option maxRecDepth 20000 in
theorem tl_X10_ranked_r2 : ∀ w ∈ wsX10_ranked_r2, w ∈ lw_tbl := (List.forall_mem_cons.mpr ⟨tw_401, (List.forall_mem_cons.mpr ⟨tw_402, (List.forall_mem_cons.mpr ⟨tw_403, (List.forall_mem_cons.mpr ⟨tw_57, (List.forall_mem_cons.mpr ⟨tw_404, (List.forall_mem_cons.mpr ⟨tw_200, (List.forall_mem_cons.mpr ⟨tw_201, (List.forall_mem_cons.mpr ⟨tw_202, (List.forall_mem_cons.mpr ⟨tw_58, (List.forall_mem_cons.mpr ⟨tw_369, (List.forall_mem_cons.mpr ⟨tw_370, (List.forall_mem_cons.mpr ⟨tw_371, (List.forall_mem_cons.mpr ⟨tw_36, (List.forall_mem_cons.mpr ⟨tw_372, (List.forall_mem_cons.mpr ⟨tw_373, (List.forall_mem_cons.mpr ⟨tw_374, (List.forall_mem_cons.mpr ⟨tw_375, (List.forall_mem_cons.mpr ⟨tw_376, (List.forall_mem_cons.mpr ⟨tw_377, (List.forall_mem_cons.mpr ⟨tw_378, (List.forall_mem_cons.mpr ⟨tw_64, (List.forall_mem_cons.mpr ⟨tw_379, (List.forall_mem_cons.mpr ⟨tw_380, (List.forall_mem_cons.mpr ⟨tw_381, (fun _ h => absurd h List.not_mem_nil)⟩)⟩)⟩)⟩)⟩)⟩)⟩)⟩)⟩)⟩)⟩)⟩)⟩)⟩)⟩)⟩)⟩)⟩)⟩)⟩)⟩)⟩)⟩)⟩)
set_option maxRecDepth 20000 in
theorem tl_X10_ranked_r3 : ∀ w ∈ wsX10_ranked_r3, w ∈ lw_tbl := (List.forall_mem_cons.mpr ⟨tw_382, (List.forall_mem_cons.mpr ⟨tw_383, (List.forall_mem_cons.mpr ⟨tw_384, (List.forall_mem_cons.mpr ⟨tw_385, (List.forall_mem_cons.mpr ⟨tw_386, (List.forall_mem_cons.mpr ⟨tw_387, (List.forall_mem_cons.mpr ⟨tw_388, (List.forall_mem_cons.mpr ⟨tw_389, (List.forall_mem_cons.mpr ⟨tw_390, (List.forall_mem_cons.mpr ⟨tw_468, (List.forall_mem_cons.mpr ⟨tw_469, (List.forall_mem_cons.mpr ⟨tw_470, (List.forall_mem_cons.mpr ⟨tw_19, (List.forall_mem_cons.mpr ⟨tw_471, (List.forall_mem_cons.mpr ⟨tw_91, (List.forall_mem_cons.mpr ⟨tw_472, (List.forall_mem_cons.mpr ⟨tw_473, (List.forall_mem_cons.mpr ⟨tw_474, (List.forall_mem_cons.mpr ⟨tw_475, (List.forall_mem_cons.mpr ⟨tw_476, (List.forall_mem_cons.mpr ⟨tw_477, (List.forall_mem_cons.mpr ⟨tw_92, (List.forall_mem_cons.mpr ⟨tw_93, (List.forall_mem_cons.mpr ⟨tw_478, (fun _ h => absurd h List.not_mem_nil)⟩)⟩)⟩)⟩)⟩)⟩)⟩)⟩)⟩)⟩)⟩)⟩)⟩)⟩)⟩)⟩)⟩)⟩)⟩)⟩)⟩)⟩)⟩)⟩)
set_option maxRecDepth 20000 in
theorem tl_X10_ranked_r4 : ∀ w ∈ wsX10_ranked_r4, w ∈ lw_tbl := (List.forall_mem_cons.mpr ⟨tw_95, (List.forall_mem_cons.mpr ⟨tw_94, (List.forall_mem_cons.mpr ⟨tw_479, (List.forall_mem_cons.mpr ⟨tw_480, (List.forall_mem_cons.mpr ⟨tw_481, (List.forall_mem_cons.mpr ⟨tw_482, (List.forall_mem_cons.mpr ⟨tw_483, (List.forall_mem_cons.mpr ⟨tw_484, (List.forall_mem_cons.mpr ⟨tw_485, (List.forall_mem_cons.mpr ⟨tw_486, (List.forall_mem_cons.mpr ⟨tw_487, (List.forall_mem_cons.mpr ⟨tw_488, (List.forall_mem_cons.mpr ⟨tw_489, (List.forall_mem_cons.mpr ⟨tw_490, (List.forall_mem_cons.mpr ⟨tw_491, (List.forall_mem_cons.mpr ⟨tw_492, (List.forall_mem_cons.mpr ⟨tw_493, (List.forall_mem_cons.mpr ⟨tw_410, (List.forall_mem_cons.mpr ⟨tw_411, (List.forall_mem_cons.mpr ⟨tw_412, (List.forall_mem_cons.mpr ⟨tw_494, (List.forall_mem_cons.mpr ⟨tw_495, (List.forall_mem_cons.mpr ⟨tw_496, (List.forall_mem_cons.mpr ⟨tw_497, (fun _ h => absurd h List.not_mem_nil)⟩)⟩)⟩)⟩)⟩)⟩)⟩)⟩)⟩)⟩)⟩)⟩)⟩)⟩)⟩)⟩)⟩)⟩)⟩)⟩)⟩)⟩)⟩)⟩)
set_option maxRecDepth 20000 in
theorem tl_X10_ranked_r5 : ∀ w ∈ wsX10_ranked_r5, w ∈ lw_tbl := (List.forall_mem_cons.mpr ⟨tw_498, (List.forall_mem_cons.mpr ⟨tw_499, (List.forall_mem_cons.mpr ⟨tw_500, (List.forall_mem_cons.mpr ⟨tw_501, (List.forall_mem_cons.mpr ⟨tw_502, (List.forall_mem_cons.mpr ⟨tw_503, (List.forall_mem_cons.mpr ⟨tw_504, (List.forall_mem_cons.mpr ⟨tw_505, (List.forall_mem_cons.mpr ⟨tw_506, (List.forall_mem_cons.mpr ⟨tw_437, (List.forall_mem_cons.mpr ⟨tw_438, (List.forall_mem_cons.mpr ⟨tw_439, (List.forall_mem_cons.mpr ⟨tw_427, (List.forall_mem_cons.mpr ⟨tw_507, (List.forall_mem_cons.mpr ⟨tw_508, (List.forall_mem_cons.mpr ⟨tw_509, (List.forall_mem_cons.mpr ⟨tw_510, (List.forall_mem_cons.mpr ⟨tw_511, (List.forall_mem_cons.mpr ⟨tw_512, (List.forall_mem_cons.mpr ⟨tw_513, (List.forall_mem_cons.mpr ⟨tw_514, (List.forall_mem_cons.mpr ⟨tw_515, (List.forall_mem_cons.mpr ⟨tw_516, (List.forall_mem_cons.mpr ⟨tw_517, (fun _ h => absurd h List.not_mem_nil)⟩)⟩)⟩)⟩)⟩)⟩)⟩)⟩)⟩)⟩)⟩)⟩)⟩)⟩)⟩)⟩)⟩)⟩)⟩)⟩)⟩)⟩)⟩)⟩)
set_option maxRecDepth 20000 in
theorem tl_X10_ranked_r6 : ∀ w ∈ wsX10_ranked_r6, w ∈ lw_tbl := (List.forall_mem_cons.mpr ⟨tw_518, (List.forall_mem_cons.mpr ⟨tw_414, (List.forall_mem_cons.mpr ⟨tw_415, (List.forall_mem_cons.mpr ⟨tw_416, (List.forall_mem_cons.mpr ⟨tw_519, (List.forall_mem_cons.mpr ⟨tw_520, (List.forall_mem_cons.mpr ⟨tw_521, (List.forall_mem_cons.mpr ⟨tw_522, (List.forall_mem_cons.mpr ⟨tw_97, (List.forall_mem_cons.mpr ⟨tw_523, (List.forall_mem_cons.mpr ⟨tw_524, (List.forall_mem_cons.mpr ⟨tw_525, (List.forall_mem_cons.mpr ⟨tw_526, (List.forall_mem_cons.mpr ⟨tw_527, (List.forall_mem_cons.mpr ⟨tw_528, (List.forall_mem_cons.mpr ⟨tw_406, (List.forall_mem_cons.mpr ⟨tw_407, (List.forall_mem_cons.mpr ⟨tw_408, (List.forall_mem_cons.mpr ⟨tw_409, (List.forall_mem_cons.mpr ⟨tw_413, (List.forall_mem_cons.mpr ⟨tw_529, (List.forall_mem_cons.mpr ⟨tw_530, (List.forall_mem_cons.mpr ⟨tw_531, (List.forall_mem_cons.mpr ⟨tw_532, (fun _ h => absurd h List.not_mem_nil)⟩)⟩)⟩)⟩)⟩)⟩)⟩)⟩)⟩)⟩)⟩)⟩)⟩)⟩)⟩)⟩)⟩)⟩)⟩)⟩)⟩)⟩)⟩)⟩)
set_option maxRecDepth 20000 in
theorem tl_X10_ranked_r7 : ∀ w ∈ wsX10_ranked_r7, w ∈ lw_tbl := (List.forall_mem_cons.mpr ⟨tw_533, (List.forall_mem_cons.mpr ⟨tw_534, (List.forall_mem_cons.mpr ⟨tw_535, (List.forall_mem_cons.mpr ⟨tw_536, (List.forall_mem_cons.mpr ⟨tw_537, (List.forall_mem_cons.mpr ⟨tw_458, (List.forall_mem_cons.mpr ⟨tw_459, (List.forall_mem_cons.mpr ⟨tw_460, (List.forall_mem_cons.mpr ⟨tw_60, (List.forall_mem_cons.mpr ⟨tw_461, (List.forall_mem_cons.mpr ⟨tw_422, (List.forall_mem_cons.mpr ⟨tw_462, (List.forall_mem_cons.mpr ⟨tw_441, (List.forall_mem_cons.mpr ⟨tw_442, (List.forall_mem_cons.mpr ⟨tw_443, (List.forall_mem_cons.mpr ⟨tw_428, (List.forall_mem_cons.mpr ⟨tw_463, (List.forall_mem_cons.mpr ⟨tw_464, (List.forall_mem_cons.mpr ⟨tw_465, (List.forall_mem_cons.mpr ⟨tw_466, (List.forall_mem_cons.mpr ⟨tw_467, (fun _ h => absurd h List.not_mem_nil)⟩)⟩)⟩)⟩)⟩)⟩)⟩)⟩)⟩)⟩)⟩)⟩)⟩)⟩)⟩)⟩)⟩)⟩)⟩)⟩)⟩)
set_option maxRecDepth 20000 in
theorem tl_X11_ranked_r1 : ∀ w ∈ wsX11_ranked_r1, w ∈ lw_tbl := (List.forall_mem_cons.mpr ⟨tw_633, (List.forall_mem_cons.mpr ⟨tw_890, (List.forall_mem_cons.mpr ⟨tw_640, (List.forall_mem_cons.mpr ⟨tw_641, (List.forall_mem_cons.mpr ⟨tw_627, (List.forall_mem_cons.mpr ⟨tw_721, (List.forall_mem_cons.mpr ⟨tw_622, (List.forall_mem_cons.mpr ⟨tw_623, (List.forall_mem_cons.mpr ⟨tw_624, (List.forall_mem_cons.mpr ⟨tw_144, (List.forall_mem_cons.mpr ⟨tw_625, (List.forall_mem_cons.mpr ⟨tw_626, (List.forall_mem_cons.mpr ⟨tw_628, (List.forall_mem_cons.mpr ⟨tw_629, (List.forall_mem_cons.mpr ⟨tw_630, (List.forall_mem_cons.mpr ⟨tw_631, (List.forall_mem_cons.mpr ⟨tw_124, (List.forall_mem_cons.mpr ⟨tw_632, (List.forall_mem_cons.mpr ⟨tw_129, (List.forall_mem_cons.mpr ⟨tw_130, (List.forall_mem_cons.mpr ⟨tw_675, (List.forall_mem_cons.mpr ⟨tw_676, (List.forall_mem_cons.mpr ⟨tw_677, (List.forall_mem_cons.mpr ⟨tw_678, (fun _ h => absurd h List.not_mem_nil)⟩)⟩)⟩)⟩)⟩)⟩)⟩)⟩)⟩)⟩)⟩)⟩)⟩)⟩)⟩)⟩)⟩)⟩)⟩)⟩)⟩)⟩)⟩)⟩)
set_option maxRecDepth 20000 in
theorem tl_X11_ranked_r2 : ∀ w ∈ wsX11_ranked_r2, w ∈ lw_tbl := (List.forall_mem_cons.mpr ⟨tw_168, (List.forall_mem_cons.mpr ⟨tw_169, (List.forall_mem_cons.mpr ⟨tw_170, (List.forall_mem_cons.mpr ⟨tw_683, (List.forall_mem_cons.mpr ⟨tw_684, (List.forall_mem_cons.mpr ⟨tw_685, (List.forall_mem_cons.mpr ⟨tw_646, (List.forall_mem_cons.mpr ⟨tw_647, (List.forall_mem_cons.mpr ⟨tw_648, (List.forall_mem_cons.mpr ⟨tw_649, (List.forall_mem_cons.mpr ⟨tw_650, (List.forall_mem_cons.mpr ⟨tw_651, (List.forall_mem_cons.mpr ⟨tw_652, (List.forall_mem_cons.mpr ⟨tw_653, (List.forall_mem_cons.mpr ⟨tw_654, (List.forall_mem_cons.mpr ⟨tw_655, (List.forall_mem_cons.mpr ⟨tw_656, (List.forall_mem_cons.mpr ⟨tw_657, (List.forall_mem_cons.mpr ⟨tw_658, (List.forall_mem_cons.mpr ⟨tw_659, (List.forall_mem_cons.mpr ⟨tw_660, (List.forall_mem_cons.mpr ⟨tw_661, (List.forall_mem_cons.mpr ⟨tw_662, (List.forall_mem_cons.mpr ⟨tw_717, (fun _ h => absurd h List.not_mem_nil)⟩)⟩)⟩)⟩)⟩)⟩)⟩)⟩)⟩)⟩)⟩)⟩)⟩)⟩)⟩)⟩)⟩)⟩)⟩)⟩)⟩)⟩)⟩)⟩)
set_option maxRecDepth 20000 in
theorem tl_X11_ranked_r3 : ∀ w ∈ wsX11_ranked_r3, w ∈ lw_tbl := (List.forall_mem_cons.mpr ⟨tw_718, (List.forall_mem_cons.mpr ⟨tw_719, (List.forall_mem_cons.mpr ⟨tw_720, (List.forall_mem_cons.mpr ⟨tw_135, (List.forall_mem_cons.mpr ⟨tw_136, (List.forall_mem_cons.mpr ⟨tw_131, (List.forall_mem_cons.mpr ⟨tw_132, (List.forall_mem_cons.mpr ⟨tw_722, (List.forall_mem_cons.mpr ⟨tw_723, (List.forall_mem_cons.mpr ⟨tw_724, (List.forall_mem_cons.mpr ⟨tw_725, (List.forall_mem_cons.mpr ⟨tw_133, (List.forall_mem_cons.mpr ⟨tw_134, (List.forall_mem_cons.mpr ⟨tw_726, (List.forall_mem_cons.mpr ⟨tw_727, (List.forall_mem_cons.mpr ⟨tw_728, (List.forall_mem_cons.mpr ⟨tw_729, (List.forall_mem_cons.mpr ⟨tw_730, (List.forall_mem_cons.mpr ⟨tw_731, (List.forall_mem_cons.mpr ⟨tw_732, (List.forall_mem_cons.mpr ⟨tw_733, (List.forall_mem_cons.mpr ⟨tw_734, (List.forall_mem_cons.mpr ⟨tw_735, (List.forall_mem_cons.mpr ⟨tw_736, (fun _ h => absurd h List.not_mem_nil)⟩)⟩)⟩)⟩)⟩)⟩)⟩)⟩)⟩)⟩)⟩)⟩)⟩)⟩)⟩)⟩)⟩)⟩)⟩)⟩)⟩)⟩)⟩)⟩)
set_option maxRecDepth 20000 in
theorem tl_X11_ranked_r4 : ∀ w ∈ wsX11_ranked_r4, w ∈ lw_tbl := (List.forall_mem_cons.mpr ⟨tw_737, (List.forall_mem_cons.mpr ⟨tw_738, (List.forall_mem_cons.mpr ⟨tw_739, (List.forall_mem_cons.mpr ⟨tw_740, (List.forall_mem_cons.mpr ⟨tw_741, (List.forall_mem_cons.mpr ⟨tw_742, (List.forall_mem_cons.mpr ⟨tw_743, (List.forall_mem_cons.mpr ⟨tw_744, (List.forall_mem_cons.mpr ⟨tw_745, (List.forall_mem_cons.mpr ⟨tw_746, (List.forall_mem_cons.mpr ⟨tw_747, (List.forall_mem_cons.mpr ⟨tw_748, (List.forall_mem_cons.mpr ⟨tw_749, (List.forall_mem_cons.mpr ⟨tw_708, (List.forall_mem_cons.mpr ⟨tw_750, (List.forall_mem_cons.mpr ⟨tw_751, (List.forall_mem_cons.mpr ⟨tw_752, (List.forall_mem_cons.mpr ⟨tw_753, (List.forall_mem_cons.mpr ⟨tw_694, (List.forall_mem_cons.mpr ⟨tw_695, (List.forall_mem_cons.mpr ⟨tw_696, (List.forall_mem_cons.mpr ⟨tw_697, (List.forall_mem_cons.mpr ⟨tw_698, (List.forall_mem_cons.mpr ⟨tw_699, (fun _ h => absurd h List.not_mem_nil)⟩)⟩)⟩)⟩)⟩)⟩)⟩)⟩)⟩)⟩)⟩)⟩)⟩)⟩)⟩)⟩)⟩)⟩)⟩)⟩)⟩)⟩)⟩)⟩)
set_option maxRecDepth 20000 in
theorem tl_X11_ranked_r5 : ∀ w ∈ wsX11_ranked_r5, w ∈ lw_tbl := (List.forall_mem_cons.mpr ⟨tw_704, (List.forall_mem_cons.mpr ⟨tw_705, (List.forall_mem_cons.mpr ⟨tw_706, (List.forall_mem_cons.mpr ⟨tw_707, (List.forall_mem_cons.mpr ⟨tw_690, (List.forall_mem_cons.mpr ⟨tw_691, (List.forall_mem_cons.mpr ⟨tw_692, (List.forall_mem_cons.mpr ⟨tw_693, (List.forall_mem_cons.mpr ⟨tw_709, (List.forall_mem_cons.mpr ⟨tw_710, (List.forall_mem_cons.mpr ⟨tw_711, (List.forall_mem_cons.mpr ⟨tw_712, (fun _ h => absurd h List.not_mem_nil)⟩)⟩)⟩)⟩)⟩)⟩)⟩)⟩)⟩)⟩)⟩)⟩)
set_option maxRecDepth 20000 in
theorem tl_X10_residue_r1 : ∀ w ∈ wsX10_residue_r1, w ∈ lw_tbl := (List.forall_mem_cons.mpr ⟨tw_7, (List.forall_mem_cons.mpr ⟨tw_183, (List.forall_mem_cons.mpr ⟨tw_881, (List.forall_mem_cons.mpr ⟨tw_20, (List.forall_mem_cons.mpr ⟨tw_24, (List.forall_mem_cons.mpr ⟨tw_37, (List.forall_mem_cons.mpr ⟨tw_882, (List.forall_mem_cons.mpr ⟨tw_397, (List.forall_mem_cons.mpr ⟨tw_398, (List.forall_mem_cons.mpr ⟨tw_31, (List.forall_mem_cons.mpr ⟨tw_399, (List.forall_mem_cons.mpr ⟨tw_54, (List.forall_mem_cons.mpr ⟨tw_468, (List.forall_mem_cons.mpr ⟨tw_469, (List.forall_mem_cons.mpr ⟨tw_470, (List.forall_mem_cons.mpr ⟨tw_19, (List.forall_mem_cons.mpr ⟨tw_471, (List.forall_mem_cons.mpr ⟨tw_91, (List.forall_mem_cons.mpr ⟨tw_472, (List.forall_mem_cons.mpr ⟨tw_473, (List.forall_mem_cons.mpr ⟨tw_474, (List.forall_mem_cons.mpr ⟨tw_475, (List.forall_mem_cons.mpr ⟨tw_476, (List.forall_mem_cons.mpr ⟨tw_477, (fun _ h => absurd h List.not_mem_nil)⟩)⟩)⟩)⟩)⟩)⟩)⟩)⟩)⟩)⟩)⟩)⟩)⟩)⟩)⟩)⟩)⟩)⟩)⟩)⟩)⟩)⟩)⟩)⟩)
set_option maxRecDepth 20000 in
theorem tl_X10_residue_r2 : ∀ w ∈ wsX10_residue_r2, w ∈ lw_tbl := (List.forall_mem_cons.mpr ⟨tw_92, (List.forall_mem_cons.mpr ⟨tw_93, (List.forall_mem_cons.mpr ⟨tw_478, (List.forall_mem_cons.mpr ⟨tw_95, (List.forall_mem_cons.mpr ⟨tw_94, (List.forall_mem_cons.mpr ⟨tw_479, (List.forall_mem_cons.mpr ⟨tw_401, (List.forall_mem_cons.mpr ⟨tw_402, (List.forall_mem_cons.mpr ⟨tw_403, (List.forall_mem_cons.mpr ⟨tw_55, (List.forall_mem_cons.mpr ⟨tw_57, (List.forall_mem_cons.mpr ⟨tw_404, (List.forall_mem_cons.mpr ⟨tw_200, (List.forall_mem_cons.mpr ⟨tw_201, (List.forall_mem_cons.mpr ⟨tw_202, (List.forall_mem_cons.mpr ⟨tw_58, (List.forall_mem_cons.mpr ⟨tw_480, (List.forall_mem_cons.mpr ⟨tw_481, (List.forall_mem_cons.mpr ⟨tw_482, (List.forall_mem_cons.mpr ⟨tw_483, (List.forall_mem_cons.mpr ⟨tw_484, (List.forall_mem_cons.mpr ⟨tw_485, (List.forall_mem_cons.mpr ⟨tw_486, (List.forall_mem_cons.mpr ⟨tw_487, (fun _ h => absurd h List.not_mem_nil)⟩)⟩)⟩)⟩)⟩)⟩)⟩)⟩)⟩)⟩)⟩)⟩)⟩)⟩)⟩)⟩)⟩)⟩)⟩)⟩)⟩)⟩)⟩)⟩)
set_option maxRecDepth 20000 in
theorem tl_X10_residue_r3 : ∀ w ∈ wsX10_residue_r3, w ∈ lw_tbl := (List.forall_mem_cons.mpr ⟨tw_488, (List.forall_mem_cons.mpr ⟨tw_489, (List.forall_mem_cons.mpr ⟨tw_490, (List.forall_mem_cons.mpr ⟨tw_491, (List.forall_mem_cons.mpr ⟨tw_492, (List.forall_mem_cons.mpr ⟨tw_493, (List.forall_mem_cons.mpr ⟨tw_410, (List.forall_mem_cons.mpr ⟨tw_411, (List.forall_mem_cons.mpr ⟨tw_412, (List.forall_mem_cons.mpr ⟨tw_494, (List.forall_mem_cons.mpr ⟨tw_495, (List.forall_mem_cons.mpr ⟨tw_496, (List.forall_mem_cons.mpr ⟨tw_497, (List.forall_mem_cons.mpr ⟨tw_498, (List.forall_mem_cons.mpr ⟨tw_499, (List.forall_mem_cons.mpr ⟨tw_500, (List.forall_mem_cons.mpr ⟨tw_501, (List.forall_mem_cons.mpr ⟨tw_502, (List.forall_mem_cons.mpr ⟨tw_503, (List.forall_mem_cons.mpr ⟨tw_504, (List.forall_mem_cons.mpr ⟨tw_505, (List.forall_mem_cons.mpr ⟨tw_506, (List.forall_mem_cons.mpr ⟨tw_437, (List.forall_mem_cons.mpr ⟨tw_438, (fun _ h => absurd h List.not_mem_nil)⟩)⟩)⟩)⟩)⟩)⟩)⟩)⟩)⟩)⟩)⟩)⟩)⟩)⟩)⟩)⟩)⟩)⟩)⟩)⟩)⟩)⟩)⟩)⟩)
set_option maxRecDepth 20000 in
theorem tl_X10_residue_r4 : ∀ w ∈ wsX10_residue_r4, w ∈ lw_tbl := (List.forall_mem_cons.mpr ⟨tw_439, (List.forall_mem_cons.mpr ⟨tw_427, (List.forall_mem_cons.mpr ⟨tw_507, (List.forall_mem_cons.mpr ⟨tw_508, (List.forall_mem_cons.mpr ⟨tw_509, (List.forall_mem_cons.mpr ⟨tw_510, (List.forall_mem_cons.mpr ⟨tw_511, (List.forall_mem_cons.mpr ⟨tw_512, (List.forall_mem_cons.mpr ⟨tw_513, (List.forall_mem_cons.mpr ⟨tw_514, (List.forall_mem_cons.mpr ⟨tw_515, (List.forall_mem_cons.mpr ⟨tw_516, (List.forall_mem_cons.mpr ⟨tw_517, (List.forall_mem_cons.mpr ⟨tw_518, (List.forall_mem_cons.mpr ⟨tw_414, (List.forall_mem_cons.mpr ⟨tw_415, (List.forall_mem_cons.mpr ⟨tw_416, (List.forall_mem_cons.mpr ⟨tw_519, (List.forall_mem_cons.mpr ⟨tw_520, (List.forall_mem_cons.mpr ⟨tw_521, (List.forall_mem_cons.mpr ⟨tw_522, (List.forall_mem_cons.mpr ⟨tw_97, (List.forall_mem_cons.mpr ⟨tw_523, (List.forall_mem_cons.mpr ⟨tw_524, (fun _ h => absurd h List.not_mem_nil)⟩)⟩)⟩)⟩)⟩)⟩)⟩)⟩)⟩)⟩)⟩)⟩)⟩)⟩)⟩)⟩)⟩)⟩)⟩)⟩)⟩)⟩)⟩)⟩)
set_option maxRecDepth 20000 in
theorem tl_X10_residue_r5 : ∀ w ∈ wsX10_residue_r5, w ∈ lw_tbl := (List.forall_mem_cons.mpr ⟨tw_525, (List.forall_mem_cons.mpr ⟨tw_526, (List.forall_mem_cons.mpr ⟨tw_527, (List.forall_mem_cons.mpr ⟨tw_528, (List.forall_mem_cons.mpr ⟨tw_406, (List.forall_mem_cons.mpr ⟨tw_407, (List.forall_mem_cons.mpr ⟨tw_36, (List.forall_mem_cons.mpr ⟨tw_408, (List.forall_mem_cons.mpr ⟨tw_373, (List.forall_mem_cons.mpr ⟨tw_378, (List.forall_mem_cons.mpr ⟨tw_64, (List.forall_mem_cons.mpr ⟨tw_409, (List.forall_mem_cons.mpr ⟨tw_413, (List.forall_mem_cons.mpr ⟨tw_529, (List.forall_mem_cons.mpr ⟨tw_530, (List.forall_mem_cons.mpr ⟨tw_531, (List.forall_mem_cons.mpr ⟨tw_532, (List.forall_mem_cons.mpr ⟨tw_374, (List.forall_mem_cons.mpr ⟨tw_375, (List.forall_mem_cons.mpr ⟨tw_376, (List.forall_mem_cons.mpr ⟨tw_377, (List.forall_mem_cons.mpr ⟨tw_379, (List.forall_mem_cons.mpr ⟨tw_380, (List.forall_mem_cons.mpr ⟨tw_381, (fun _ h => absurd h List.not_mem_nil)⟩)⟩)⟩)⟩)⟩)⟩)⟩)⟩)⟩)⟩)⟩)⟩)⟩)⟩)⟩)⟩)⟩)⟩)⟩)⟩)⟩)⟩)⟩)⟩)
set_option maxRecDepth 20000 in
theorem tl_X10_residue_r6 : ∀ w ∈ wsX10_residue_r6, w ∈ lw_tbl := (List.forall_mem_cons.mpr ⟨tw_382, (List.forall_mem_cons.mpr ⟨tw_383, (List.forall_mem_cons.mpr ⟨tw_384, (List.forall_mem_cons.mpr ⟨tw_533, (List.forall_mem_cons.mpr ⟨tw_534, (List.forall_mem_cons.mpr ⟨tw_535, (List.forall_mem_cons.mpr ⟨tw_536, (List.forall_mem_cons.mpr ⟨tw_537, (List.forall_mem_cons.mpr ⟨tw_458, (List.forall_mem_cons.mpr ⟨tw_459, (List.forall_mem_cons.mpr ⟨tw_460, (List.forall_mem_cons.mpr ⟨tw_60, (List.forall_mem_cons.mpr ⟨tw_461, (List.forall_mem_cons.mpr ⟨tw_422, (List.forall_mem_cons.mpr ⟨tw_462, (List.forall_mem_cons.mpr ⟨tw_441, (List.forall_mem_cons.mpr ⟨tw_442, (List.forall_mem_cons.mpr ⟨tw_443, (List.forall_mem_cons.mpr ⟨tw_428, (List.forall_mem_cons.mpr ⟨tw_463, (List.forall_mem_cons.mpr ⟨tw_464, (List.forall_mem_cons.mpr ⟨tw_465, (List.forall_mem_cons.mpr ⟨tw_466, (List.forall_mem_cons.mpr ⟨tw_467, (fun _ h => absurd h List.not_mem_nil)⟩)⟩)⟩)⟩)⟩)⟩)⟩)⟩)⟩)⟩)⟩)⟩)⟩)⟩)⟩)⟩)⟩)⟩)⟩)⟩)⟩)⟩)⟩)⟩)
set_option maxRecDepth 20000 in
theorem tl_X10_residue_r7 : ∀ w ∈ wsX10_residue_r7, w ∈ lw_tbl := (List.forall_mem_cons.mpr ⟨tw_386, (List.forall_mem_cons.mpr ⟨tw_387, (List.forall_mem_cons.mpr ⟨tw_388, (List.forall_mem_cons.mpr ⟨tw_389, (List.forall_mem_cons.mpr ⟨tw_390, (List.forall_mem_cons.mpr ⟨tw_975, (List.forall_mem_cons.mpr ⟨tw_976, (List.forall_mem_cons.mpr ⟨tw_977, (List.forall_mem_cons.mpr ⟨tw_978, (List.forall_mem_cons.mpr ⟨tw_979, (List.forall_mem_cons.mpr ⟨tw_952, (List.forall_mem_cons.mpr ⟨tw_953, (List.forall_mem_cons.mpr ⟨tw_954, (List.forall_mem_cons.mpr ⟨tw_942, (List.forall_mem_cons.mpr ⟨tw_980, (List.forall_mem_cons.mpr ⟨tw_981, (List.forall_mem_cons.mpr ⟨tw_982, (List.forall_mem_cons.mpr ⟨tw_23, (List.forall_mem_cons.mpr ⟨tw_983, (List.forall_mem_cons.mpr ⟨tw_984, (List.forall_mem_cons.mpr ⟨tw_985, (List.forall_mem_cons.mpr ⟨tw_986, (List.forall_mem_cons.mpr ⟨tw_987, (List.forall_mem_cons.mpr ⟨tw_102, (fun _ h => absurd h List.not_mem_nil)⟩)⟩)⟩)⟩)⟩)⟩)⟩)⟩)⟩)⟩)⟩)⟩)⟩)⟩)⟩)⟩)⟩)⟩)⟩)⟩)⟩)⟩)⟩)⟩)
set_option maxRecDepth 20000 in
theorem tl_X10_residue_r8 : ∀ w ∈ wsX10_residue_r8, w ∈ lw_tbl := (List.forall_mem_cons.mpr ⟨tw_103, (List.forall_mem_cons.mpr ⟨tw_988, (List.forall_mem_cons.mpr ⟨tw_989, (List.forall_mem_cons.mpr ⟨tw_66, (List.forall_mem_cons.mpr ⟨tw_67, (List.forall_mem_cons.mpr ⟨tw_68, (List.forall_mem_cons.mpr ⟨tw_990, (List.forall_mem_cons.mpr ⟨tw_991, (List.forall_mem_cons.mpr ⟨tw_992, (List.forall_mem_cons.mpr ⟨tw_993, (List.forall_mem_cons.mpr ⟨tw_994, (List.forall_mem_cons.mpr ⟨tw_995, (List.forall_mem_cons.mpr ⟨tw_105, (List.forall_mem_cons.mpr ⟨tw_996, (List.forall_mem_cons.mpr ⟨tw_106, (List.forall_mem_cons.mpr ⟨tw_997, (List.forall_mem_cons.mpr ⟨tw_998, (List.forall_mem_cons.mpr ⟨tw_999, (List.forall_mem_cons.mpr ⟨tw_1000, (List.forall_mem_cons.mpr ⟨tw_1001, (List.forall_mem_cons.mpr ⟨tw_1002, (List.forall_mem_cons.mpr ⟨tw_1003, (List.forall_mem_cons.mpr ⟨tw_1004, (List.forall_mem_cons.mpr ⟨tw_1005, (fun _ h => absurd h List.not_mem_nil)⟩)⟩)⟩)⟩)⟩)⟩)⟩)⟩)⟩)⟩)⟩)⟩)⟩)⟩)⟩)⟩)⟩)⟩)⟩)⟩)⟩)⟩)⟩)⟩)
set_option maxRecDepth 20000 in
theorem tl_X10_residue_r9 : ∀ w ∈ wsX10_residue_r9, w ∈ lw_tbl := (List.forall_mem_cons.mpr ⟨tw_1006, (List.forall_mem_cons.mpr ⟨tw_1007, (List.forall_mem_cons.mpr ⟨tw_1008, (List.forall_mem_cons.mpr ⟨tw_370, (List.forall_mem_cons.mpr ⟨tw_371, (List.forall_mem_cons.mpr ⟨tw_372, (List.forall_mem_cons.mpr ⟨tw_1009, (List.forall_mem_cons.mpr ⟨tw_1010, (List.forall_mem_cons.mpr ⟨tw_1011, (List.forall_mem_cons.mpr ⟨tw_1012, (List.forall_mem_cons.mpr ⟨tw_1013, (List.forall_mem_cons.mpr ⟨tw_1014, (List.forall_mem_cons.mpr ⟨tw_1015, (List.forall_mem_cons.mpr ⟨tw_1016, (List.forall_mem_cons.mpr ⟨tw_1017, (List.forall_mem_cons.mpr ⟨tw_1018, (List.forall_mem_cons.mpr ⟨tw_1019, (List.forall_mem_cons.mpr ⟨tw_1020, (List.forall_mem_cons.mpr ⟨tw_1021, (List.forall_mem_cons.mpr ⟨tw_1022, (List.forall_mem_cons.mpr ⟨tw_1023, (List.forall_mem_cons.mpr ⟨tw_1024, (List.forall_mem_cons.mpr ⟨tw_1025, (List.forall_mem_cons.mpr ⟨tw_1026, (fun _ h => absurd h List.not_mem_nil)⟩)⟩)⟩)⟩)⟩)⟩)⟩)⟩)⟩)⟩)⟩)⟩)⟩)⟩)⟩)⟩)⟩)⟩)⟩)⟩)⟩)⟩)⟩)⟩)
set_option maxRecDepth 20000 in
theorem tl_X10_residue_r10 : ∀ w ∈ wsX10_residue_r10, w ∈ lw_tbl := (List.forall_mem_cons.mpr ⟨tw_1180, (List.forall_mem_cons.mpr ⟨tw_1181, (List.forall_mem_cons.mpr ⟨tw_1182, (List.forall_mem_cons.mpr ⟨tw_1183, (List.forall_mem_cons.mpr ⟨tw_1184, (List.forall_mem_cons.mpr ⟨tw_1101, (List.forall_mem_cons.mpr ⟨tw_1102, (List.forall_mem_cons.mpr ⟨tw_1103, (List.forall_mem_cons.mpr ⟨tw_1104, (List.forall_mem_cons.mpr ⟨tw_1105, (fun _ h => absurd h List.not_mem_nil)⟩)⟩)⟩)⟩)⟩)⟩)⟩)⟩)⟩)⟩)
set_option maxRecDepth 20000 in
theorem tl_X11_residue_r1 : ∀ w ∈ wsX11_residue_r1, w ∈ lw_tbl := (List.forall_mem_cons.mpr ⟨tw_890, (List.forall_mem_cons.mpr ⟨tw_633, (List.forall_mem_cons.mpr ⟨tw_129, (List.forall_mem_cons.mpr ⟨tw_140, (List.forall_mem_cons.mpr ⟨tw_130, (List.forall_mem_cons.mpr ⟨tw_138, (List.forall_mem_cons.mpr ⟨tw_139, (List.forall_mem_cons.mpr ⟨tw_652, (List.forall_mem_cons.mpr ⟨tw_640, (List.forall_mem_cons.mpr ⟨tw_641, (List.forall_mem_cons.mpr ⟨tw_622, (List.forall_mem_cons.mpr ⟨tw_623, (List.forall_mem_cons.mpr ⟨tw_624, (List.forall_mem_cons.mpr ⟨tw_144, (List.forall_mem_cons.mpr ⟨tw_625, (List.forall_mem_cons.mpr ⟨tw_626, (List.forall_mem_cons.mpr ⟨tw_627, (List.forall_mem_cons.mpr ⟨tw_628, (List.forall_mem_cons.mpr ⟨tw_629, (List.forall_mem_cons.mpr ⟨tw_630, (List.forall_mem_cons.mpr ⟨tw_631, (List.forall_mem_cons.mpr ⟨tw_124, (List.forall_mem_cons.mpr ⟨tw_632, (List.forall_mem_cons.mpr ⟨tw_675, (fun _ h => absurd h List.not_mem_nil)⟩)⟩)⟩)⟩)⟩)⟩)⟩)⟩)⟩)⟩)⟩)⟩)⟩)⟩)⟩)⟩)⟩)⟩)⟩)⟩)⟩)⟩)⟩)⟩)
set_option maxRecDepth 20000 in
theorem tl_X11_residue_r2 : ∀ w ∈ wsX11_residue_r2, w ∈ lw_tbl := (List.forall_mem_cons.mpr ⟨tw_676, (List.forall_mem_cons.mpr ⟨tw_677, (List.forall_mem_cons.mpr ⟨tw_678, (List.forall_mem_cons.mpr ⟨tw_168, (List.forall_mem_cons.mpr ⟨tw_169, (List.forall_mem_cons.mpr ⟨tw_170, (List.forall_mem_cons.mpr ⟨tw_1036, (List.forall_mem_cons.mpr ⟨tw_1037, (List.forall_mem_cons.mpr ⟨tw_1038, (List.forall_mem_cons.mpr ⟨tw_1039, (List.forall_mem_cons.mpr ⟨tw_717, (List.forall_mem_cons.mpr ⟨tw_718, (List.forall_mem_cons.mpr ⟨tw_719, (List.forall_mem_cons.mpr ⟨tw_720, (List.forall_mem_cons.mpr ⟨tw_721, (List.forall_mem_cons.mpr ⟨tw_135, (List.forall_mem_cons.mpr ⟨tw_136, (List.forall_mem_cons.mpr ⟨tw_131, (List.forall_mem_cons.mpr ⟨tw_132, (List.forall_mem_cons.mpr ⟨tw_722, (List.forall_mem_cons.mpr ⟨tw_723, (List.forall_mem_cons.mpr ⟨tw_724, (List.forall_mem_cons.mpr ⟨tw_725, (List.forall_mem_cons.mpr ⟨tw_133, (fun _ h => absurd h List.not_mem_nil)⟩)⟩)⟩)⟩)⟩)⟩)⟩)⟩)⟩)⟩)⟩)⟩)⟩)⟩)⟩)⟩)⟩)⟩)⟩)⟩)⟩)⟩)⟩)⟩)
set_option maxRecDepth 20000 in
theorem tl_X11_residue_r3 : ∀ w ∈ wsX11_residue_r3, w ∈ lw_tbl := (List.forall_mem_cons.mpr ⟨tw_134, (List.forall_mem_cons.mpr ⟨tw_660, (List.forall_mem_cons.mpr ⟨tw_661, (List.forall_mem_cons.mpr ⟨tw_662, (List.forall_mem_cons.mpr ⟨tw_726, (List.forall_mem_cons.mpr ⟨tw_727, (List.forall_mem_cons.mpr ⟨tw_728, (List.forall_mem_cons.mpr ⟨tw_729, (List.forall_mem_cons.mpr ⟨tw_730, (List.forall_mem_cons.mpr ⟨tw_731, (List.forall_mem_cons.mpr ⟨tw_732, (List.forall_mem_cons.mpr ⟨tw_733, (List.forall_mem_cons.mpr ⟨tw_734, (List.forall_mem_cons.mpr ⟨tw_735, (List.forall_mem_cons.mpr ⟨tw_736, (List.forall_mem_cons.mpr ⟨tw_737, (List.forall_mem_cons.mpr ⟨tw_738, (List.forall_mem_cons.mpr ⟨tw_739, (List.forall_mem_cons.mpr ⟨tw_740, (List.forall_mem_cons.mpr ⟨tw_741, (List.forall_mem_cons.mpr ⟨tw_742, (List.forall_mem_cons.mpr ⟨tw_743, (List.forall_mem_cons.mpr ⟨tw_744, (List.forall_mem_cons.mpr ⟨tw_745, (fun _ h => absurd h List.not_mem_nil)⟩)⟩)⟩)⟩)⟩)⟩)⟩)⟩)⟩)⟩)⟩)⟩)⟩)⟩)⟩)⟩)⟩)⟩)⟩)⟩)⟩)⟩)⟩)⟩)
set_option maxRecDepth 20000 in
theorem tl_X11_residue_r4 : ∀ w ∈ wsX11_residue_r4, w ∈ lw_tbl := (List.forall_mem_cons.mpr ⟨tw_746, (List.forall_mem_cons.mpr ⟨tw_747, (List.forall_mem_cons.mpr ⟨tw_748, (List.forall_mem_cons.mpr ⟨tw_749, (List.forall_mem_cons.mpr ⟨tw_708, (List.forall_mem_cons.mpr ⟨tw_750, (List.forall_mem_cons.mpr ⟨tw_751, (List.forall_mem_cons.mpr ⟨tw_752, (List.forall_mem_cons.mpr ⟨tw_753, (List.forall_mem_cons.mpr ⟨tw_646, (List.forall_mem_cons.mpr ⟨tw_647, (List.forall_mem_cons.mpr ⟨tw_648, (List.forall_mem_cons.mpr ⟨tw_649, (List.forall_mem_cons.mpr ⟨tw_650, (List.forall_mem_cons.mpr ⟨tw_651, (List.forall_mem_cons.mpr ⟨tw_653, (List.forall_mem_cons.mpr ⟨tw_654, (List.forall_mem_cons.mpr ⟨tw_655, (List.forall_mem_cons.mpr ⟨tw_694, (List.forall_mem_cons.mpr ⟨tw_695, (List.forall_mem_cons.mpr ⟨tw_696, (List.forall_mem_cons.mpr ⟨tw_697, (List.forall_mem_cons.mpr ⟨tw_698, (List.forall_mem_cons.mpr ⟨tw_699, (fun _ h => absurd h List.not_mem_nil)⟩)⟩)⟩)⟩)⟩)⟩)⟩)⟩)⟩)⟩)⟩)⟩)⟩)⟩)⟩)⟩)⟩)⟩)⟩)⟩)⟩)⟩)⟩)⟩)
set_option maxRecDepth 20000 in
theorem tl_X11_residue_r5 : ∀ w ∈ wsX11_residue_r5, w ∈ lw_tbl := (List.forall_mem_cons.mpr ⟨tw_704, (List.forall_mem_cons.mpr ⟨tw_705, (List.forall_mem_cons.mpr ⟨tw_706, (List.forall_mem_cons.mpr ⟨tw_707, (List.forall_mem_cons.mpr ⟨tw_690, (List.forall_mem_cons.mpr ⟨tw_691, (List.forall_mem_cons.mpr ⟨tw_692, (List.forall_mem_cons.mpr ⟨tw_693, (List.forall_mem_cons.mpr ⟨tw_709, (List.forall_mem_cons.mpr ⟨tw_710, (List.forall_mem_cons.mpr ⟨tw_711, (List.forall_mem_cons.mpr ⟨tw_712, (List.forall_mem_cons.mpr ⟨tw_656, (List.forall_mem_cons.mpr ⟨tw_657, (List.forall_mem_cons.mpr ⟨tw_658, (List.forall_mem_cons.mpr ⟨tw_659, (List.forall_mem_cons.mpr ⟨tw_959, (List.forall_mem_cons.mpr ⟨tw_960, (List.forall_mem_cons.mpr ⟨tw_961, (List.forall_mem_cons.mpr ⟨tw_962, (List.forall_mem_cons.mpr ⟨tw_1040, (List.forall_mem_cons.mpr ⟨tw_1041, (List.forall_mem_cons.mpr ⟨tw_1042, (List.forall_mem_cons.mpr ⟨tw_1043, (fun _ h => absurd h List.not_mem_nil)⟩)⟩)⟩)⟩)⟩)⟩)⟩)⟩)⟩)⟩)⟩)⟩)⟩)⟩)⟩)⟩)⟩)⟩)⟩)⟩)⟩)⟩)⟩)⟩)
set_option maxRecDepth 20000 in
theorem tl_X11_residue_r6 : ∀ w ∈ wsX11_residue_r6, w ∈ lw_tbl := (List.forall_mem_cons.mpr ⟨tw_1044, (List.forall_mem_cons.mpr ⟨tw_1045, (List.forall_mem_cons.mpr ⟨tw_1046, (List.forall_mem_cons.mpr ⟨tw_1047, (List.forall_mem_cons.mpr ⟨tw_1114, (List.forall_mem_cons.mpr ⟨tw_1115, (List.forall_mem_cons.mpr ⟨tw_1116, (List.forall_mem_cons.mpr ⟨tw_1117, (fun _ h => absurd h List.not_mem_nil)⟩)⟩)⟩)⟩)⟩)⟩)⟩)⟩)
set_option maxRecDepth 20000 in
theorem tl_X10_image_r1 : ∀ w ∈ wsX10_image_r1, w ∈ lw_tbl := (List.forall_mem_cons.mpr ⟨tw_8, (List.forall_mem_cons.mpr ⟨tw_4, (List.forall_mem_cons.mpr ⟨tw_5, (List.forall_mem_cons.mpr ⟨tw_6, (List.forall_mem_cons.mpr ⟨tw_7, (List.forall_mem_cons.mpr ⟨tw_38, (List.forall_mem_cons.mpr ⟨tw_39, (List.forall_mem_cons.mpr ⟨tw_40, (List.forall_mem_cons.mpr ⟨tw_2, (List.forall_mem_cons.mpr ⟨tw_3, (List.forall_mem_cons.mpr ⟨tw_41, (List.forall_mem_cons.mpr ⟨tw_30, (List.forall_mem_cons.mpr ⟨tw_31, (List.forall_mem_cons.mpr ⟨tw_42, (List.forall_mem_cons.mpr ⟨tw_43, (List.forall_mem_cons.mpr ⟨tw_44, (List.forall_mem_cons.mpr ⟨tw_45, (List.forall_mem_cons.mpr ⟨tw_46, (List.forall_mem_cons.mpr ⟨tw_47, (List.forall_mem_cons.mpr ⟨tw_48, (List.forall_mem_cons.mpr ⟨tw_49, (List.forall_mem_cons.mpr ⟨tw_50, (List.forall_mem_cons.mpr ⟨tw_51, (List.forall_mem_cons.mpr ⟨tw_52, (fun _ h => absurd h List.not_mem_nil)⟩)⟩)⟩)⟩)⟩)⟩)⟩)⟩)⟩)⟩)⟩)⟩)⟩)⟩)⟩)⟩)⟩)⟩)⟩)⟩)⟩)⟩)⟩)⟩)
set_option maxRecDepth 20000 in
theorem tl_X10_image_r2 : ∀ w ∈ wsX10_image_r2, w ∈ lw_tbl := (List.forall_mem_cons.mpr ⟨tw_53, (List.forall_mem_cons.mpr ⟨tw_54, (List.forall_mem_cons.mpr ⟨tw_55, (List.forall_mem_cons.mpr ⟨tw_56, (List.forall_mem_cons.mpr ⟨tw_57, (List.forall_mem_cons.mpr ⟨tw_58, (List.forall_mem_cons.mpr ⟨tw_59, (List.forall_mem_cons.mpr ⟨tw_35, (List.forall_mem_cons.mpr ⟨tw_36, (List.forall_mem_cons.mpr ⟨tw_60, (List.forall_mem_cons.mpr ⟨tw_61, (List.forall_mem_cons.mpr ⟨tw_62, (List.forall_mem_cons.mpr ⟨tw_63, (List.forall_mem_cons.mpr ⟨tw_64, (List.forall_mem_cons.mpr ⟨tw_65, (List.forall_mem_cons.mpr ⟨tw_66, (List.forall_mem_cons.mpr ⟨tw_67, (List.forall_mem_cons.mpr ⟨tw_68, (List.forall_mem_cons.mpr ⟨tw_69, (List.forall_mem_cons.mpr ⟨tw_70, (List.forall_mem_cons.mpr ⟨tw_71, (List.forall_mem_cons.mpr ⟨tw_72, (List.forall_mem_cons.mpr ⟨tw_73, (List.forall_mem_cons.mpr ⟨tw_1193, (fun _ h => absurd h List.not_mem_nil)⟩)⟩)⟩)⟩)⟩)⟩)⟩)⟩)⟩)⟩)⟩)⟩)⟩)⟩)⟩)⟩)⟩)⟩)⟩)⟩)⟩)⟩)⟩)⟩)
set_option maxRecDepth 20000 in
theorem tl_X10_image_r3 : ∀ w ∈ wsX10_image_r3, w ∈ lw_tbl := (List.forall_mem_cons.mpr ⟨tw_1194, (List.forall_mem_cons.mpr ⟨tw_1195, (List.forall_mem_cons.mpr ⟨tw_1196, (List.forall_mem_cons.mpr ⟨tw_1197, (List.forall_mem_cons.mpr ⟨tw_1198, (List.forall_mem_cons.mpr ⟨tw_1199, (List.forall_mem_cons.mpr ⟨tw_401, (List.forall_mem_cons.mpr ⟨tw_402, (List.forall_mem_cons.mpr ⟨tw_403, (List.forall_mem_cons.mpr ⟨tw_404, (List.forall_mem_cons.mpr ⟨tw_200, (List.forall_mem_cons.mpr ⟨tw_201, (List.forall_mem_cons.mpr ⟨tw_202, (List.forall_mem_cons.mpr ⟨tw_1200, (List.forall_mem_cons.mpr ⟨tw_196, (List.forall_mem_cons.mpr ⟨tw_197, (List.forall_mem_cons.mpr ⟨tw_198, (List.forall_mem_cons.mpr ⟨tw_153, (List.forall_mem_cons.mpr ⟨tw_199, (fun _ h => absurd h List.not_mem_nil)⟩)⟩)⟩)⟩)⟩)⟩)⟩)⟩)⟩)⟩)⟩)⟩)⟩)⟩)⟩)⟩)⟩)⟩)⟩)
set_option maxRecDepth 20000 in
theorem tl_X10_again_r1 : ∀ w ∈ wsX10_again_r1, w ∈ lw_tbl := (List.forall_mem_cons.mpr ⟨tw_8, (List.forall_mem_cons.mpr ⟨tw_7, (List.forall_mem_cons.mpr ⟨tw_12, (List.forall_mem_cons.mpr ⟨tw_1193, (List.forall_mem_cons.mpr ⟨tw_1194, (List.forall_mem_cons.mpr ⟨tw_1195, (List.forall_mem_cons.mpr ⟨tw_6, (List.forall_mem_cons.mpr ⟨tw_1196, (List.forall_mem_cons.mpr ⟨tw_42, (List.forall_mem_cons.mpr ⟨tw_46, (List.forall_mem_cons.mpr ⟨tw_1197, (List.forall_mem_cons.mpr ⟨tw_47, (List.forall_mem_cons.mpr ⟨tw_1198, (List.forall_mem_cons.mpr ⟨tw_48, (List.forall_mem_cons.mpr ⟨tw_49, (List.forall_mem_cons.mpr ⟨tw_1199, (List.forall_mem_cons.mpr ⟨tw_401, (List.forall_mem_cons.mpr ⟨tw_402, (List.forall_mem_cons.mpr ⟨tw_31, (List.forall_mem_cons.mpr ⟨tw_403, (List.forall_mem_cons.mpr ⟨tw_54, (List.forall_mem_cons.mpr ⟨tw_55, (List.forall_mem_cons.mpr ⟨tw_57, (List.forall_mem_cons.mpr ⟨tw_404, (fun _ h => absurd h List.not_mem_nil)⟩)⟩)⟩)⟩)⟩)⟩)⟩)⟩)⟩)⟩)⟩)⟩)⟩)⟩)⟩)⟩)⟩)⟩)⟩)⟩)⟩)⟩)⟩)⟩)
set_option maxRecDepth 20000 in
theorem tl_X10_again_r2 : ∀ w ∈ wsX10_again_r2, w ∈ lw_tbl := (List.forall_mem_cons.mpr ⟨tw_200, (List.forall_mem_cons.mpr ⟨tw_201, (List.forall_mem_cons.mpr ⟨tw_202, (List.forall_mem_cons.mpr ⟨tw_58, (List.forall_mem_cons.mpr ⟨tw_1200, (List.forall_mem_cons.mpr ⟨tw_196, (List.forall_mem_cons.mpr ⟨tw_197, (List.forall_mem_cons.mpr ⟨tw_45, (List.forall_mem_cons.mpr ⟨tw_198, (List.forall_mem_cons.mpr ⟨tw_153, (List.forall_mem_cons.mpr ⟨tw_73, (List.forall_mem_cons.mpr ⟨tw_199, (List.forall_mem_cons.mpr ⟨tw_551, (List.forall_mem_cons.mpr ⟨tw_552, (List.forall_mem_cons.mpr ⟨tw_553, (List.forall_mem_cons.mpr ⟨tw_11, (List.forall_mem_cons.mpr ⟨tw_554, (List.forall_mem_cons.mpr ⟨tw_555, (List.forall_mem_cons.mpr ⟨tw_556, (fun _ h => absurd h List.not_mem_nil)⟩)⟩)⟩)⟩)⟩)⟩)⟩)⟩)⟩)⟩)⟩)⟩)⟩)⟩)⟩)⟩)⟩)⟩)⟩)
set_option maxRecDepth 20000 in
theorem tm_X10_init : ∀ w ∈ wsX10_init, w ∈ lw_tbl := List.forall_mem_cons.mpr ⟨tw_0, (List.forall_mem_append.mpr ⟨(List.forall_mem_append.mpr ⟨(List.forall_mem_append.mpr ⟨(List.forall_mem_append.mpr ⟨(List.forall_mem_append.mpr ⟨(List.forall_mem_append.mpr ⟨(List.forall_mem_append.mpr ⟨(List.forall_mem_append.mpr ⟨(List.forall_mem_append.mpr ⟨(List.forall_mem_append.mpr ⟨(List.forall_mem_append.mpr ⟨(List.forall_mem_append.mpr ⟨tl_X10_init_r1, (List.forall_mem_append.mpr ⟨tl_X10_init_r2, (List.forall_mem_append.mpr ⟨tl_X10_init_r3, (List.forall_mem_append.mpr ⟨tl_X10_init_r4, (List.forall_mem_append.mpr ⟨tl_X10_init_r5, tl_X10_init_r6⟩)⟩)⟩)⟩)⟩), tc_X6⟩), tc_X10⟩), tc_X2⟩), tc_X0⟩), tc_X7⟩), tc_X9⟩), tc_X4⟩), tc_X1⟩), tc_X3⟩), tc_X8⟩), tc_X5⟩)⟩
set_option maxRecDepth 20000 in
theorem tg_X10_init : GoodIn wsX10_init wsX10_init := goodIn_sub (fun _ h => h) (by decide +kernel)
set_option maxRecDepth 20000 in
theorem tm_X11_init : ∀ w ∈ wsX11_init, w ∈ lw_tbl := List.forall_mem_cons.mpr ⟨tw_122, (List.forall_mem_append.mpr ⟨(List.forall_mem_append.mpr ⟨tl_X11_init_r1, tl_X11_init_r2⟩), tc_X11⟩)⟩
set_option maxRecDepth 20000 in
theorem tg_X11_init : GoodIn wsX11_init wsX11_init := goodIn_sub (fun _ h => h) (by decide +kernel)
set_option maxRecDepth 20000 in
theorem tm_X10_feed : ∀ w ∈ wsX10_feed, w ∈ lw_tbl := List.forall_mem_cons.mpr ⟨tw_146, (List.forall_mem_append.mpr ⟨(List.forall_mem_append.mpr ⟨(List.forall_mem_append.mpr ⟨(List.forall_mem_cons.mpr ⟨tw_7, (List.forall_mem_cons.mpr ⟨tw_147, (List.forall_mem_cons.mpr ⟨tw_148, (List.forall_mem_cons.mpr ⟨tw_149, (List.forall_mem_cons.mpr ⟨tw_150, (List.forall_mem_cons.mpr ⟨tw_151, (List.forall_mem_cons.mpr ⟨tw_45, (List.forall_mem_cons.mpr ⟨tw_152, (List.forall_mem_cons.mpr ⟨tw_153, (List.forall_mem_cons.mpr ⟨tw_73, (fun _ h => absurd h List.not_mem_nil)⟩)⟩)⟩)⟩)⟩)⟩)⟩)⟩)⟩)⟩), tc_X10⟩), tc_X6⟩), tc_X8⟩)⟩
set_option maxRecDepth 20000 in
theorem tv_X10_feed : ∀ w ∈ wsV RL 13 RX10 yX10_feed wsX10_feed, w ∈ lw_tbl := List.forall_mem_append.mpr ⟨(List.forall_mem_cons.mpr ⟨tw_154, (List.forall_mem_cons.mpr ⟨tw_155, (List.forall_mem_cons.mpr ⟨tw_156, (List.forall_mem_cons.mpr ⟨tw_157, (fun _ h => absurd h List.not_mem_nil)⟩)⟩)⟩)⟩), tm_X10_feed⟩
set_option maxRecDepth 20000 in
theorem tg_X10_feed : GoodIn (wsV RL 13 RX10 yX10_feed wsX10_feed) (wsV RL 13 RX10 yX10_feed wsX10_feed) := goodIn_sub (fun _ h => h) (by decide +kernel)
set_option maxRecDepth 20000 in
theorem tm_X11_feed : ∀ w ∈ wsX11_feed, w ∈ lw_tbl := List.forall_mem_cons.mpr ⟨tw_158, (List.forall_mem_append.mpr ⟨(List.forall_mem_cons.mpr ⟨tw_159, (List.forall_mem_cons.mpr ⟨tw_125, (fun _ h => absurd h List.not_mem_nil)⟩)⟩), tc_X11⟩)⟩
set_option maxRecDepth 20000 in
theorem tv_X11_feed : ∀ w ∈ wsV RL 17 RX11 yX11_feed wsX11_feed, w ∈ lw_tbl := List.forall_mem_append.mpr ⟨(List.forall_mem_cons.mpr ⟨tw_160, (List.forall_mem_cons.mpr ⟨tw_161, (List.forall_mem_cons.mpr ⟨tw_162, (List.forall_mem_cons.mpr ⟨tw_144, (fun _ h => absurd h List.not_mem_nil)⟩)⟩)⟩)⟩), tm_X11_feed⟩
set_option maxRecDepth 20000 in
theorem tg_X11_feed : GoodIn (wsV RL 17 RX11 yX11_feed wsX11_feed) (wsV RL 17 RX11 yX11_feed wsX11_feed) := goodIn_sub (fun _ h => h) (by decide +kernel)
set_option maxRecDepth 20000 in
theorem tm_X10_end : ∀ w ∈ wsX10_end, w ∈ lw_tbl := List.forall_mem_cons.mpr ⟨tw_163, (List.forall_mem_append.mpr ⟨(List.forall_mem_append.mpr ⟨(List.forall_mem_append.mpr ⟨(List.forall_mem_cons.mpr ⟨tw_7, (List.forall_mem_cons.mpr ⟨tw_147, (List.forall_mem_cons.mpr ⟨tw_148, (fun _ h => absurd h List.not_mem_nil)⟩)⟩)⟩), tc_X10⟩), tc_X6⟩), tc_X8⟩)⟩
set_option maxRecDepth 20000 in
theorem tv_X10_end : ∀ w ∈ wsV RL 18 RX10 yX10_end wsX10_end, w ∈ lw_tbl := List.forall_mem_append.mpr ⟨(List.forall_mem_cons.mpr ⟨tw_164, (List.forall_mem_cons.mpr ⟨tw_165, (List.forall_mem_cons.mpr ⟨tw_166, (List.forall_mem_cons.mpr ⟨tw_157, (fun _ h => absurd h List.not_mem_nil)⟩)⟩)⟩)⟩), tm_X10_end⟩
set_option maxRecDepth 20000 in
theorem tg_X10_end : GoodIn (wsV RL 18 RX10 yX10_end wsX10_end) (wsV RL 18 RX10 yX10_end wsX10_end) := goodIn_sub (fun _ h => h) (by decide +kernel)
set_option maxRecDepth 20000 in
theorem tm_X11_end : ∀ w ∈ wsX11_end, w ∈ lw_tbl := List.forall_mem_cons.mpr ⟨tw_167, (List.forall_mem_append.mpr ⟨(List.forall_mem_cons.mpr ⟨tw_159, (List.forall_mem_cons.mpr ⟨tw_168, (List.forall_mem_cons.mpr ⟨tw_169, (List.forall_mem_cons.mpr ⟨tw_144, (List.forall_mem_cons.mpr ⟨tw_170, (fun _ h => absurd h List.not_mem_nil)⟩)⟩)⟩)⟩)⟩), tc_X11⟩)⟩
set_option maxRecDepth 20000 in
theorem tv_X11_end : ∀ w ∈ wsV RL 22 RX11 yX11_end wsX11_end, w ∈ lw_tbl := List.forall_mem_append.mpr ⟨(List.forall_mem_cons.mpr ⟨tw_171, (List.forall_mem_cons.mpr ⟨tw_172, (List.forall_mem_cons.mpr ⟨tw_173, (List.forall_mem_cons.mpr ⟨tw_144, (fun _ h => absurd h List.not_mem_nil)⟩)⟩)⟩)⟩), tm_X11_end⟩
set_option maxRecDepth 20000 in
theorem tg_X11_end : GoodIn (wsV RL 22 RX11 yX11_end wsX11_end) (wsV RL 22 RX11 yX11_end wsX11_end) := goodIn_sub (fun _ h => h) (by decide +kernel)
set_option maxRecDepth 20000 in
theorem tm_X10_text : ∀ w ∈ wsX10_text, w ∈ lw_tbl := List.forall_mem_cons.mpr ⟨tw_174, (List.forall_mem_append.mpr ⟨(List.forall_mem_append.mpr ⟨(List.forall_mem_append.mpr ⟨(List.forall_mem_append.mpr ⟨(List.forall_mem_append.mpr ⟨(List.forall_mem_append.mpr ⟨(List.forall_mem_append.mpr ⟨(List.forall_mem_append.mpr ⟨(List.forall_mem_append.mpr ⟨(List.forall_mem_append.mpr ⟨(List.forall_mem_append.mpr ⟨tl_X10_text_r1, (List.forall_mem_append.mpr ⟨tl_X10_text_r2, (List.forall_mem_append.mpr ⟨tl_X10_text_r3, (List.forall_mem_append.mpr ⟨tl_X10_text_r4, (List.forall_mem_append.mpr ⟨tl_X10_text_r5, (List.forall_mem_append.mpr ⟨tl_X10_text_r6, (List.forall_mem_append.mpr ⟨tl_X10_text_r7, (List.forall_mem_append.mpr ⟨tl_X10_text_r8, (List.forall_mem_append.mpr ⟨tl_X10_text_r9, (List.forall_mem_append.mpr ⟨tl_X10_text_r10, (List.forall_mem_append.mpr ⟨tl_X10_text_r11, (List.forall_mem_append.mpr ⟨tl_X10_text_r12, (List.forall_mem_append.mpr ⟨tl_X10_text_r13, (List.forall_mem_append.mpr ⟨tl_X10_text_r14, (List.forall_mem_append.mpr ⟨tl_X10_text_r15, (List.forall_mem_append.mpr ⟨tl_X10_text_r16, (List.forall_mem_append.mpr ⟨tl_X10_text_r17, tl_X10_text_r18⟩)⟩)⟩)⟩)⟩)⟩)⟩)⟩)⟩)⟩)⟩)⟩)⟩)⟩)⟩)⟩)⟩), tc_X10⟩), tc_X6⟩), tc_X4⟩), tc_X1⟩), tc_X8⟩), tc_X5⟩), tc_X0⟩), tc_X3⟩), tc_X7⟩), tc_X2⟩)⟩
set_option maxRecDepth 20000 in
theorem tv_X10_text : ∀ w ∈ wsV RL 23 RX10 yX10_text wsX10_text, w ∈ lw_tbl := List.forall_mem_append.mpr ⟨(List.forall_mem_cons.mpr ⟨tw_557, (List.forall_mem_cons.mpr ⟨tw_558, (List.forall_mem_cons.mpr ⟨tw_559, (List.forall_mem_cons.mpr ⟨tw_157, (fun _ h => absurd h List.not_mem_nil)⟩)⟩)⟩)⟩), tm_X10_text⟩
set_option maxRecDepth 20000 in
theorem tg_X10_text : GoodIn (wsV RL 23 RX10 yX10_text wsX10_text) (wsV RL 23 RX10 yX10_text wsX10_text) := goodIn_sub (fun _ h => h) (by decide +kernel)
set_option maxRecDepth 20000 in
theorem tm_X11_text : ∀ w ∈ wsX11_text, w ∈ lw_tbl := List.forall_mem_cons.mpr ⟨tw_560, (List.forall_mem_append.mpr ⟨(List.forall_mem_append.mpr ⟨tl_X11_text_r1, (List.forall_mem_append.mpr ⟨tl_X11_text_r2, (List.forall_mem_append.mpr ⟨tl_X11_text_r3, (List.forall_mem_append.mpr ⟨tl_X11_text_r4, (List.forall_mem_append.mpr ⟨tl_X11_text_r5, (List.forall_mem_append.mpr ⟨tl_X11_text_r6, (List.forall_mem_append.mpr ⟨tl_X11_text_r7, (List.forall_mem_append.mpr ⟨tl_X11_text_r8, (List.forall_mem_append.mpr ⟨tl_X11_text_r9, tl_X11_text_r10⟩)⟩)⟩)⟩)⟩)⟩)⟩)⟩)⟩), tc_X11⟩)⟩
set_option maxRecDepth 20000 in
theorem tv_X11_text : ∀ w ∈ wsV RL 27 RX11 yX11_text wsX11_text, w ∈ lw_tbl := List.forall_mem_append.mpr ⟨(List.forall_mem_cons.mpr ⟨tw_762, (List.forall_mem_cons.mpr ⟨tw_763, (List.forall_mem_cons.mpr ⟨tw_764, (List.forall_mem_cons.mpr ⟨tw_144, (fun _ h => absurd h List.not_mem_nil)⟩)⟩)⟩)⟩), tm_X11_text⟩
set_option maxRecDepth 20000 in
theorem tg_X11_text : GoodIn (wsV RL 27 RX11 yX11_text wsX11_text) (wsV RL 27 RX11 yX11_text wsX11_text) := goodIn_sub (fun _ h => h) (by decide +kernel)
set_option maxRecDepth 20000 in
theorem tm_X10_fault : ∀ w ∈ wsX10_fault, w ∈ lw_tbl := List.forall_mem_cons.mpr ⟨tw_765, (List.forall_mem_append.mpr ⟨(List.forall_mem_append.mpr ⟨(List.forall_mem_cons.mpr ⟨tw_7, (List.forall_mem_cons.mpr ⟨tw_180, (List.forall_mem_cons.mpr ⟨tw_182, (fun _ h => absurd h List.not_mem_nil)⟩)⟩)⟩), tc_X10⟩), tc_X6⟩)⟩
set_option maxRecDepth 20000 in
theorem tv_X10_fault : ∀ w ∈ wsV RL 28 RX10 yX10_fault wsX10_fault, w ∈ lw_tbl := List.forall_mem_append.mpr ⟨(List.forall_mem_cons.mpr ⟨tw_766, (List.forall_mem_cons.mpr ⟨tw_767, (List.forall_mem_cons.mpr ⟨tw_768, (List.forall_mem_cons.mpr ⟨tw_157, (fun _ h => absurd h List.not_mem_nil)⟩)⟩)⟩)⟩), tm_X10_fault⟩
set_option maxRecDepth 20000 in
theorem tg_X10_fault : GoodIn (wsV RL 28 RX10 yX10_fault wsX10_fault) (wsV RL 28 RX10 yX10_fault wsX10_fault) := goodIn_sub (fun _ h => h) (by decide +kernel)
set_option maxRecDepth 20000 in
theorem tm_X11_fault : ∀ w ∈ wsX11_fault, w ∈ lw_tbl := List.forall_mem_cons.mpr ⟨tw_769, (List.forall_mem_append.mpr ⟨(List.forall_mem_cons.mpr ⟨tw_562, (List.forall_mem_cons.mpr ⟨tw_128, (fun _ h => absurd h List.not_mem_nil)⟩)⟩), tc_X11⟩)⟩
set_option maxRecDepth 20000 in
theorem tv_X11_fault : ∀ w ∈ wsV RL 31 RX11 yX11_fault wsX11_fault, w ∈ lw_tbl := List.forall_mem_append.mpr ⟨(List.forall_mem_cons.mpr ⟨tw_770, (List.forall_mem_cons.mpr ⟨tw_771, (List.forall_mem_cons.mpr ⟨tw_772, (List.forall_mem_cons.mpr ⟨tw_144, (fun _ h => absurd h List.not_mem_nil)⟩)⟩)⟩)⟩), tm_X11_fault⟩
set_option maxRecDepth 20000 in
theorem tg_X11_fault : GoodIn (wsV RL 31 RX11 yX11_fault wsX11_fault) (wsV RL 31 RX11 yX11_fault wsX11_fault) := goodIn_sub (fun _ h => h) (by decide +kernel)
set_option maxRecDepth 20000 in
theorem tm_X10_set : ∀ w ∈ wsX10_set, w ∈ lw_tbl := List.forall_mem_cons.mpr ⟨tw_773, (List.forall_mem_append.mpr ⟨(List.forall_mem_append.mpr ⟨(List.forall_mem_append.mpr ⟨(List.forall_mem_append.mpr ⟨(List.forall_mem_append.mpr ⟨(List.forall_mem_append.mpr ⟨(List.forall_mem_append.mpr ⟨tl_X10_set_r1, (List.forall_mem_append.mpr ⟨tl_X10_set_r2, (List.forall_mem_append.mpr ⟨tl_X10_set_r3, (List.forall_mem_append.mpr ⟨tl_X10_set_r4, tl_X10_set_r5⟩)⟩)⟩)⟩), tc_X10⟩), tc_X6⟩), tc_X0⟩), tc_X1⟩), tc_X3⟩), tc_X2⟩)⟩
set_option maxRecDepth 20000 in
theorem tv_X10_set : ∀ w ∈ wsV RL 32 RX10 yX10_set wsX10_set, w ∈ lw_tbl := List.forall_mem_append.mpr ⟨(List.forall_mem_cons.mpr ⟨tw_801, (List.forall_mem_cons.mpr ⟨tw_802, (List.forall_mem_cons.mpr ⟨tw_803, (List.forall_mem_cons.mpr ⟨tw_157, (fun _ h => absurd h List.not_mem_nil)⟩)⟩)⟩)⟩), tm_X10_set⟩
set_option maxRecDepth 20000 in
theorem tg_X10_set : GoodIn (wsV RL 32 RX10 yX10_set wsX10_set) (wsV RL 32 RX10 yX10_set wsX10_set) := goodIn_sub (fun _ h => h) (by decide +kernel)
set_option maxRecDepth 20000 in
theorem tm_X11_set : ∀ w ∈ wsX11_set, w ∈ lw_tbl := List.forall_mem_cons.mpr ⟨tw_804, (List.forall_mem_append.mpr ⟨(List.forall_mem_append.mpr ⟨tl_X11_set_r1, (List.forall_mem_append.mpr ⟨tl_X11_set_r2, tl_X11_set_r3⟩)⟩), tc_X11⟩)⟩
set_option maxRecDepth 20000 in
theorem tv_X11_set : ∀ w ∈ wsV RL 36 RX11 yX11_set wsX11_set, w ∈ lw_tbl := List.forall_mem_append.mpr ⟨(List.forall_mem_cons.mpr ⟨tw_821, (List.forall_mem_cons.mpr ⟨tw_822, (List.forall_mem_cons.mpr ⟨tw_823, (List.forall_mem_cons.mpr ⟨tw_144, (fun _ h => absurd h List.not_mem_nil)⟩)⟩)⟩)⟩), tm_X11_set⟩
set_option maxRecDepth 20000 in
theorem tg_X11_set : GoodIn (wsV RL 36 RX11 yX11_set wsX11_set) (wsV RL 36 RX11 yX11_set wsX11_set) := goodIn_sub (fun _ h => h) (by decide +kernel)
set_option maxRecDepth 20000 in
theorem tm_X10_swap : ∀ w ∈ wsX10_swap, w ∈ lw_tbl := List.forall_mem_cons.mpr ⟨tw_824, (List.forall_mem_append.mpr ⟨(List.forall_mem_append.mpr ⟨(List.forall_mem_append.mpr ⟨(List.forall_mem_append.mpr ⟨(List.forall_mem_append.mpr ⟨(List.forall_mem_append.mpr ⟨(List.forall_mem_append.mpr ⟨tl_X10_swap_r1, (List.forall_mem_append.mpr ⟨tl_X10_swap_r2, (List.forall_mem_append.mpr ⟨tl_X10_swap_r3, (List.forall_mem_append.mpr ⟨tl_X10_swap_r4, tl_X10_swap_r5⟩)⟩)⟩)⟩), tc_X10⟩), tc_X6⟩), tc_X0⟩), tc_X1⟩), tc_X3⟩), tc_X2⟩)⟩
set_option maxRecDepth 20000 in
theorem tv_X10_swap : ∀ w ∈ wsV RL 37 RX10 yX10_swap wsX10_swap, w ∈ lw_tbl := List.forall_mem_append.mpr ⟨(List.forall_mem_cons.mpr ⟨tw_825, (List.forall_mem_cons.mpr ⟨tw_826, (List.forall_mem_cons.mpr ⟨tw_827, (List.forall_mem_cons.mpr ⟨tw_157, (fun _ h => absurd h List.not_mem_nil)⟩)⟩)⟩)⟩), tm_X10_swap⟩
set_option maxRecDepth 20000 in
theorem tg_X10_swap : GoodIn (wsV RL 37 RX10 yX10_swap wsX10_swap) (wsV RL 37 RX10 yX10_swap wsX10_swap) := goodIn_sub (fun _ h => h) (by decide +kernel)
set_option maxRecDepth 20000 in
theorem tm_X11_swap : ∀ w ∈ wsX11_swap, w ∈ lw_tbl := List.forall_mem_cons.mpr ⟨tw_828, (List.forall_mem_append.mpr ⟨(List.forall_mem_append.mpr ⟨tl_X11_swap_r1, (List.forall_mem_append.mpr ⟨tl_X11_swap_r2, tl_X11_swap_r3⟩)⟩), tc_X11⟩)⟩
set_option maxRecDepth 20000 in
theorem tv_X11_swap : ∀ w ∈ wsV RL 41 RX11 yX11_swap wsX11_swap, w ∈ lw_tbl := List.forall_mem_append.mpr ⟨(List.forall_mem_cons.mpr ⟨tw_829, (List.forall_mem_cons.mpr ⟨tw_830, (List.forall_mem_cons.mpr ⟨tw_831, (List.forall_mem_cons.mpr ⟨tw_144, (fun _ h => absurd h List.not_mem_nil)⟩)⟩)⟩)⟩), tm_X11_swap⟩
set_option maxRecDepth 20000 in
theorem tg_X11_swap : GoodIn (wsV RL 41 RX11 yX11_swap wsX11_swap) (wsV RL 41 RX11 yX11_swap wsX11_swap) := goodIn_sub (fun _ h => h) (by decide +kernel)
set_option maxRecDepth 20000 in
theorem tm_X10_scale : ∀ w ∈ wsX10_scale, w ∈ lw_tbl := List.forall_mem_cons.mpr ⟨tw_832, (List.forall_mem_append.mpr ⟨(List.forall_mem_append.mpr ⟨(List.forall_mem_append.mpr ⟨(List.forall_mem_append.mpr ⟨(List.forall_mem_append.mpr ⟨(List.forall_mem_append.mpr ⟨(List.forall_mem_append.mpr ⟨tl_X10_scale_r1, (List.forall_mem_append.mpr ⟨tl_X10_scale_r2, (List.forall_mem_append.mpr ⟨tl_X10_scale_r3, (List.forall_mem_append.mpr ⟨tl_X10_scale_r4, (List.forall_mem_append.mpr ⟨tl_X10_scale_r5, tl_X10_scale_r6⟩)⟩)⟩)⟩)⟩), tc_X10⟩), tc_X6⟩), tc_X0⟩), tc_X1⟩), tc_X3⟩), tc_X2⟩)⟩
set_option maxRecDepth 20000 in
theorem tv_X10_scale : ∀ w ∈ wsV RL 42 RX10 yX10_scale wsX10_scale, w ∈ lw_tbl := List.forall_mem_append.mpr ⟨(List.forall_mem_cons.mpr ⟨tw_833, (List.forall_mem_cons.mpr ⟨tw_834, (List.forall_mem_cons.mpr ⟨tw_835, (List.forall_mem_cons.mpr ⟨tw_157, (fun _ h => absurd h List.not_mem_nil)⟩)⟩)⟩)⟩), tm_X10_scale⟩
set_option maxRecDepth 20000 in
theorem tg_X10_scale : GoodIn (wsV RL 42 RX10 yX10_scale wsX10_scale) (wsV RL 42 RX10 yX10_scale wsX10_scale) := goodIn_sub (fun _ h => h) (by decide +kernel)
set_option maxRecDepth 20000 in
theorem tm_X11_scale : ∀ w ∈ wsX11_scale, w ∈ lw_tbl := List.forall_mem_cons.mpr ⟨tw_836, (List.forall_mem_append.mpr ⟨(List.forall_mem_append.mpr ⟨tl_X11_scale_r1, (List.forall_mem_append.mpr ⟨tl_X11_scale_r2, (List.forall_mem_append.mpr ⟨tl_X11_scale_r3, tl_X11_scale_r4⟩)⟩)⟩), tc_X11⟩)⟩
set_option maxRecDepth 20000 in
theorem tv_X11_scale : ∀ w ∈ wsV RL 46 RX11 yX11_scale wsX11_scale, w ∈ lw_tbl := List.forall_mem_append.mpr ⟨(List.forall_mem_cons.mpr ⟨tw_837, (List.forall_mem_cons.mpr ⟨tw_838, (List.forall_mem_cons.mpr ⟨tw_839, (List.forall_mem_cons.mpr ⟨tw_144, (fun _ h => absurd h List.not_mem_nil)⟩)⟩)⟩)⟩), tm_X11_scale⟩
set_option maxRecDepth 20000 in
theorem tg_X11_scale : GoodIn (wsV RL 46 RX11 yX11_scale wsX11_scale) (wsV RL 46 RX11 yX11_scale wsX11_scale) := goodIn_sub (fun _ h => h) (by decide +kernel)
set_option maxRecDepth 20000 in
theorem tm_X10_add : ∀ w ∈ wsX10_add, w ∈ lw_tbl := List.forall_mem_cons.mpr ⟨tw_840, (List.forall_mem_append.mpr ⟨(List.forall_mem_append.mpr ⟨(List.forall_mem_append.mpr ⟨(List.forall_mem_append.mpr ⟨(List.forall_mem_append.mpr ⟨(List.forall_mem_append.mpr ⟨(List.forall_mem_append.mpr ⟨tl_X10_add_r1, (List.forall_mem_append.mpr ⟨tl_X10_add_r2, (List.forall_mem_append.mpr ⟨tl_X10_add_r3, (List.forall_mem_append.mpr ⟨tl_X10_add_r4, (List.forall_mem_append.mpr ⟨tl_X10_add_r5, tl_X10_add_r6⟩)⟩)⟩)⟩)⟩), tc_X10⟩), tc_X6⟩), tc_X0⟩), tc_X3⟩), tc_X1⟩), tc_X2⟩)⟩
set_option maxRecDepth 20000 in
theorem tv_X10_add : ∀ w ∈ wsV RL 47 RX10 yX10_add wsX10_add, w ∈ lw_tbl := List.forall_mem_append.mpr ⟨(List.forall_mem_cons.mpr ⟨tw_841, (List.forall_mem_cons.mpr ⟨tw_842, (List.forall_mem_cons.mpr ⟨tw_843, (List.forall_mem_cons.mpr ⟨tw_157, (fun _ h => absurd h List.not_mem_nil)⟩)⟩)⟩)⟩), tm_X10_add⟩
set_option maxRecDepth 20000 in
theorem tg_X10_add : GoodIn (wsV RL 47 RX10 yX10_add wsX10_add) (wsV RL 47 RX10 yX10_add wsX10_add) := goodIn_sub (fun _ h => h) (by decide +kernel)
set_option maxRecDepth 20000 in
theorem tm_X11_add : ∀ w ∈ wsX11_add, w ∈ lw_tbl := List.forall_mem_cons.mpr ⟨tw_844, (List.forall_mem_append.mpr ⟨(List.forall_mem_append.mpr ⟨tl_X11_add_r1, (List.forall_mem_append.mpr ⟨tl_X11_add_r2, (List.forall_mem_append.mpr ⟨tl_X11_add_r3, tl_X11_add_r4⟩)⟩)⟩), tc_X11⟩)⟩
set_option maxRecDepth 20000 in
theorem tv_X11_add : ∀ w ∈ wsV RL 50 RX11 yX11_add wsX11_add, w ∈ lw_tbl := List.forall_mem_append.mpr ⟨(List.forall_mem_cons.mpr ⟨tw_845, (List.forall_mem_cons.mpr ⟨tw_846, (List.forall_mem_cons.mpr ⟨tw_847, (List.forall_mem_cons.mpr ⟨tw_144, (fun _ h => absurd h List.not_mem_nil)⟩)⟩)⟩)⟩), tm_X11_add⟩
set_option maxRecDepth 20000 in
theorem tg_X11_add : GoodIn (wsV RL 50 RX11 yX11_add wsX11_add) (wsV RL 50 RX11 yX11_add wsX11_add) := goodIn_sub (fun _ h => h) (by decide +kernel)
set_option maxRecDepth 20000 in
theorem tm_X10_reduce : ∀ w ∈ wsX10_reduce, w ∈ lw_tbl := List.forall_mem_cons.mpr ⟨tw_848, (List.forall_mem_append.mpr ⟨(List.forall_mem_append.mpr ⟨(List.forall_mem_append.mpr ⟨(List.forall_mem_append.mpr ⟨(List.forall_mem_append.mpr ⟨(List.forall_mem_append.mpr ⟨(List.forall_mem_append.mpr ⟨(List.forall_mem_append.mpr ⟨tl_X10_reduce_r1, (List.forall_mem_append.mpr ⟨tl_X10_reduce_r2, (List.forall_mem_append.mpr ⟨tl_X10_reduce_r3, (List.forall_mem_append.mpr ⟨tl_X10_reduce_r4, (List.forall_mem_append.mpr ⟨tl_X10_reduce_r5, (List.forall_mem_append.mpr ⟨tl_X10_reduce_r6, (List.forall_mem_append.mpr ⟨tl_X10_reduce_r7, (List.forall_mem_append.mpr ⟨tl_X10_reduce_r8, tl_X10_reduce_r9⟩)⟩)⟩)⟩)⟩)⟩)⟩)⟩), tc_X10⟩), tc_X6⟩), tc_X0⟩), tc_X2⟩), tc_X1⟩), tc_X3⟩), tc_X7⟩)⟩
set_option maxRecDepth 20000 in
theorem tv_X10_reduce : ∀ w ∈ wsV RL 51 RX10 yX10_reduce wsX10_reduce, w ∈ lw_tbl := List.forall_mem_append.mpr ⟨(List.forall_mem_cons.mpr ⟨tw_852, (List.forall_mem_cons.mpr ⟨tw_853, (List.forall_mem_cons.mpr ⟨tw_854, (List.forall_mem_cons.mpr ⟨tw_157, (fun _ h => absurd h List.not_mem_nil)⟩)⟩)⟩)⟩), tm_X10_reduce⟩
set_option maxRecDepth 20000 in
theorem tg_X10_reduce : GoodIn (wsV RL 51 RX10 yX10_reduce wsX10_reduce) (wsV RL 51 RX10 yX10_reduce wsX10_reduce) := goodIn_sub (fun _ h => h) (by decide +kernel)
set_option maxRecDepth 20000 in
theorem tm_X11_reduce : ∀ w ∈ wsX11_reduce, w ∈ lw_tbl := List.forall_mem_cons.mpr ⟨tw_855, (List.forall_mem_append.mpr ⟨(List.forall_mem_append.mpr ⟨tl_X11_reduce_r1, (List.forall_mem_append.mpr ⟨tl_X11_reduce_r2, (List.forall_mem_append.mpr ⟨tl_X11_reduce_r3, (List.forall_mem_append.mpr ⟨tl_X11_reduce_r4, (List.forall_mem_append.mpr ⟨tl_X11_reduce_r5, tl_X11_reduce_r6⟩)⟩)⟩)⟩)⟩), tc_X11⟩)⟩
set_option maxRecDepth 20000 in
theorem tv_X11_reduce : ∀ w ∈ wsV RL 54 RX11 yX11_reduce wsX11_reduce, w ∈ lw_tbl := List.forall_mem_append.mpr ⟨(List.forall_mem_cons.mpr ⟨tw_856, (List.forall_mem_cons.mpr ⟨tw_857, (List.forall_mem_cons.mpr ⟨tw_858, (List.forall_mem_cons.mpr ⟨tw_144, (fun _ h => absurd h List.not_mem_nil)⟩)⟩)⟩)⟩), tm_X11_reduce⟩
set_option maxRecDepth 20000 in
theorem tg_X11_reduce : GoodIn (wsV RL 54 RX11 yX11_reduce wsX11_reduce) (wsV RL 54 RX11 yX11_reduce wsX11_reduce) := goodIn_sub (fun _ h => h) (by decide +kernel)
set_option maxRecDepth 20000 in
theorem tm_X10_why : ∀ w ∈ wsX10_why, w ∈ lw_tbl := List.forall_mem_cons.mpr ⟨tw_859, (List.forall_mem_append.mpr ⟨(List.forall_mem_append.mpr ⟨(List.forall_mem_cons.mpr ⟨tw_7, (List.forall_mem_cons.mpr ⟨tw_787, (List.forall_mem_cons.mpr ⟨tw_789, (List.forall_mem_cons.mpr ⟨tw_791, (fun _ h => absurd h List.not_mem_nil)⟩)⟩)⟩)⟩), tc_X10⟩), tc_X6⟩)⟩
set_option maxRecDepth 20000 in
theorem tv_X10_why : ∀ w ∈ wsV RL 55 RX10 yX10_why wsX10_why, w ∈ lw_tbl := List.forall_mem_append.mpr ⟨(List.forall_mem_cons.mpr ⟨tw_860, (List.forall_mem_cons.mpr ⟨tw_861, (List.forall_mem_cons.mpr ⟨tw_862, (List.forall_mem_cons.mpr ⟨tw_157, (fun _ h => absurd h List.not_mem_nil)⟩)⟩)⟩)⟩), tm_X10_why⟩
set_option maxRecDepth 20000 in
theorem tg_X10_why : GoodIn (wsV RL 55 RX10 yX10_why wsX10_why) (wsV RL 55 RX10 yX10_why wsX10_why) := goodIn_sub (fun _ h => h) (by decide +kernel)
set_option maxRecDepth 20000 in
theorem tm_X11_why : ∀ w ∈ wsX11_why, w ∈ lw_tbl := List.forall_mem_cons.mpr ⟨tw_863, (List.forall_mem_append.mpr ⟨(List.forall_mem_cons.mpr ⟨tw_124, (List.forall_mem_cons.mpr ⟨tw_168, (List.forall_mem_cons.mpr ⟨tw_169, (List.forall_mem_cons.mpr ⟨tw_144, (List.forall_mem_cons.mpr ⟨tw_170, (fun _ h => absurd h List.not_mem_nil)⟩)⟩)⟩)⟩)⟩), tc_X11⟩)⟩
set_option maxRecDepth 20000 in
theorem tv_X11_why : ∀ w ∈ wsV RL 58 RX11 yX11_why wsX11_why, w ∈ lw_tbl := List.forall_mem_append.mpr ⟨(List.forall_mem_cons.mpr ⟨tw_864, (List.forall_mem_cons.mpr ⟨tw_865, (List.forall_mem_cons.mpr ⟨tw_866, (List.forall_mem_cons.mpr ⟨tw_144, (fun _ h => absurd h List.not_mem_nil)⟩)⟩)⟩)⟩), tm_X11_why⟩
set_option maxRecDepth 20000 in
theorem tg_X11_why : GoodIn (wsV RL 58 RX11 yX11_why wsX11_why) (wsV RL 58 RX11 yX11_why wsX11_why) := goodIn_sub (fun _ h => h) (by decide +kernel)
set_option maxRecDepth 20000 in
theorem tm_X10_undo : ∀ w ∈ wsX10_undo, w ∈ lw_tbl := List.forall_mem_cons.mpr ⟨tw_867, (List.forall_mem_append.mpr ⟨(List.forall_mem_append.mpr ⟨(List.forall_mem_append.mpr ⟨(List.forall_mem_append.mpr ⟨(List.forall_mem_append.mpr ⟨tl_X10_undo_r1, tl_X10_undo_r2⟩), tc_X10⟩), tc_X2⟩), tc_X6⟩), tc_X1⟩)⟩
set_option maxRecDepth 20000 in
theorem tv_X10_undo : ∀ w ∈ wsV RL 59 RX10 yX10_undo wsX10_undo, w ∈ lw_tbl := List.forall_mem_append.mpr ⟨(List.forall_mem_cons.mpr ⟨tw_873, (List.forall_mem_cons.mpr ⟨tw_874, (List.forall_mem_cons.mpr ⟨tw_875, (List.forall_mem_cons.mpr ⟨tw_157, (fun _ h => absurd h List.not_mem_nil)⟩)⟩)⟩)⟩), tm_X10_undo⟩
set_option maxRecDepth 20000 in
theorem tg_X10_undo : GoodIn (wsV RL 59 RX10 yX10_undo wsX10_undo) (wsV RL 59 RX10 yX10_undo wsX10_undo) := goodIn_sub (fun _ h => h) (by decide +kernel)
set_option maxRecDepth 20000 in
theorem tm_X11_undo : ∀ w ∈ wsX11_undo, w ∈ lw_tbl := List.forall_mem_cons.mpr ⟨tw_876, (List.forall_mem_append.mpr ⟨(List.forall_mem_cons.mpr ⟨tw_567, (List.forall_mem_cons.mpr ⟨tw_758, (List.forall_mem_cons.mpr ⟨tw_759, (List.forall_mem_cons.mpr ⟨tw_760, (List.forall_mem_cons.mpr ⟨tw_144, (List.forall_mem_cons.mpr ⟨tw_761, (List.forall_mem_cons.mpr ⟨tw_124, (fun _ h => absurd h List.not_mem_nil)⟩)⟩)⟩)⟩)⟩)⟩)⟩), tc_X11⟩)⟩
set_option maxRecDepth 20000 in
theorem tv_X11_undo : ∀ w ∈ wsV RL 62 RX11 yX11_undo wsX11_undo, w ∈ lw_tbl := List.forall_mem_append.mpr ⟨(List.forall_mem_cons.mpr ⟨tw_877, (List.forall_mem_cons.mpr ⟨tw_878, (List.forall_mem_cons.mpr ⟨tw_879, (List.forall_mem_cons.mpr ⟨tw_144, (fun _ h => absurd h List.not_mem_nil)⟩)⟩)⟩)⟩), tm_X11_undo⟩
set_option maxRecDepth 20000 in
theorem tg_X11_undo : GoodIn (wsV RL 62 RX11 yX11_undo wsX11_undo) (wsV RL 62 RX11 yX11_undo wsX11_undo) := goodIn_sub (fun _ h => h) (by decide +kernel)
set_option maxRecDepth 20000 in
theorem tm_X10_entry : ∀ w ∈ wsX10_entry, w ∈ lw_tbl := List.forall_mem_cons.mpr ⟨tw_880, (List.forall_mem_append.mpr ⟨(List.forall_mem_append.mpr ⟨(List.forall_mem_append.mpr ⟨(List.forall_mem_cons.mpr ⟨tw_7, (List.forall_mem_cons.mpr ⟨tw_183, (List.forall_mem_cons.mpr ⟨tw_881, (List.forall_mem_cons.mpr ⟨tw_882, (List.forall_mem_cons.mpr ⟨tw_397, (List.forall_mem_cons.mpr ⟨tw_398, (List.forall_mem_cons.mpr ⟨tw_31, (List.forall_mem_cons.mpr ⟨tw_399, (List.forall_mem_cons.mpr ⟨tw_54, (List.forall_mem_cons.mpr ⟨tw_883, (List.forall_mem_cons.mpr ⟨tw_779, (List.forall_mem_cons.mpr ⟨tw_780, (List.forall_mem_cons.mpr ⟨tw_781, (List.forall_mem_cons.mpr ⟨tw_55, (List.forall_mem_cons.mpr ⟨tw_884, (List.forall_mem_cons.mpr ⟨tw_414, (List.forall_mem_cons.mpr ⟨tw_415, (List.forall_mem_cons.mpr ⟨tw_416, (List.forall_mem_cons.mpr ⟨tw_58, (List.forall_mem_cons.mpr ⟨tw_885, (List.forall_mem_cons.mpr ⟨tw_410, (List.forall_mem_cons.mpr ⟨tw_411, (List.forall_mem_cons.mpr ⟨tw_412, (List.forall_mem_cons.mpr ⟨tw_57, (fun _ h => absurd h List.not_mem_nil)⟩)⟩)⟩)⟩)⟩)⟩)⟩)⟩)⟩)⟩)⟩)⟩)⟩)⟩)⟩)⟩)⟩)⟩)⟩)⟩)⟩)⟩)⟩)⟩), tc_X10⟩), tc_X6⟩), tc_X1⟩)⟩
set_option maxRecDepth 20000 in
theorem tv_X10_entry : ∀ w ∈ wsV RL 63 RX10 yX10_entry wsX10_entry, w ∈ lw_tbl := List.forall_mem_append.mpr ⟨(List.forall_mem_cons.mpr ⟨tw_886, (List.forall_mem_cons.mpr ⟨tw_887, (List.forall_mem_cons.mpr ⟨tw_888, (List.forall_mem_cons.mpr ⟨tw_157, (fun _ h => absurd h List.not_mem_nil)⟩)⟩)⟩)⟩), tm_X10_entry⟩
set_option maxRecDepth 20000 in
theorem tg_X10_entry : GoodIn (wsV RL 63 RX10 yX10_entry wsX10_entry) (wsV RL 63 RX10 yX10_entry wsX10_entry) := goodIn_sub (fun _ h => h) (by decide +kernel)
set_option maxRecDepth 20000 in
theorem tm_X11_entry : ∀ w ∈ wsX11_entry, w ∈ lw_tbl := List.forall_mem_cons.mpr ⟨tw_889, (List.forall_mem_append.mpr ⟨(List.forall_mem_append.mpr ⟨tl_X11_entry_r1, tl_X11_entry_r2⟩), tc_X11⟩)⟩
set_option maxRecDepth 20000 in
theorem tv_X11_entry : ∀ w ∈ wsV RL 67 RX11 yX11_entry wsX11_entry, w ∈ lw_tbl := List.forall_mem_append.mpr ⟨(List.forall_mem_cons.mpr ⟨tw_891, (List.forall_mem_cons.mpr ⟨tw_892, (List.forall_mem_cons.mpr ⟨tw_893, (List.forall_mem_cons.mpr ⟨tw_144, (fun _ h => absurd h List.not_mem_nil)⟩)⟩)⟩)⟩), tm_X11_entry⟩
set_option maxRecDepth 20000 in
theorem tg_X11_entry : GoodIn (wsV RL 67 RX11 yX11_entry wsX11_entry) (wsV RL 67 RX11 yX11_entry wsX11_entry) := goodIn_sub (fun _ h => h) (by decide +kernel)
set_option maxRecDepth 20000 in
theorem tm_X10_count : ∀ w ∈ wsX10_count, w ∈ lw_tbl := List.forall_mem_cons.mpr ⟨tw_894, (List.forall_mem_append.mpr ⟨(List.forall_mem_append.mpr ⟨(List.forall_mem_append.mpr ⟨(List.forall_mem_append.mpr ⟨(List.forall_mem_append.mpr ⟨(List.forall_mem_append.mpr ⟨(List.forall_mem_append.mpr ⟨(List.forall_mem_append.mpr ⟨tl_X10_count_r1, (List.forall_mem_append.mpr ⟨tl_X10_count_r2, (List.forall_mem_append.mpr ⟨tl_X10_count_r3, (List.forall_mem_append.mpr ⟨tl_X10_count_r4, (List.forall_mem_append.mpr ⟨tl_X10_count_r5, (List.forall_mem_append.mpr ⟨tl_X10_count_r6, tl_X10_count_r7⟩)⟩)⟩)⟩)⟩)⟩), tc_X10⟩), tc_X6⟩), tc_X1⟩), tc_X2⟩), tc_X8⟩), tc_X7⟩), tc_X3⟩)⟩
set_option maxRecDepth 20000 in
theorem tv_X10_count : ∀ w ∈ wsV RL 68 RX10 yX10_count wsX10_count, w ∈ lw_tbl := List.forall_mem_append.mpr ⟨(List.forall_mem_cons.mpr ⟨tw_911, (List.forall_mem_cons.mpr ⟨tw_912, (List.forall_mem_cons.mpr ⟨tw_913, (List.forall_mem_cons.mpr ⟨tw_157, (fun _ h => absurd h List.not_mem_nil)⟩)⟩)⟩)⟩), tm_X10_count⟩
set_option maxRecDepth 20000 in
theorem tg_X10_count : GoodIn (wsV RL 68 RX10 yX10_count wsX10_count) (wsV RL 68 RX10 yX10_count wsX10_count) := goodIn_sub (fun _ h => h) (by decide +kernel)
set_option maxRecDepth 20000 in
theorem tm_X11_count : ∀ w ∈ wsX11_count, w ∈ lw_tbl := List.forall_mem_cons.mpr ⟨tw_914, (List.forall_mem_append.mpr ⟨(List.forall_mem_append.mpr ⟨tl_X11_count_r1, (List.forall_mem_append.mpr ⟨tl_X11_count_r2, (List.forall_mem_append.mpr ⟨tl_X11_count_r3, (List.forall_mem_append.mpr ⟨tl_X11_count_r4, tl_X11_count_r5⟩)⟩)⟩)⟩), tc_X11⟩)⟩
set_option maxRecDepth 20000 in
theorem tv_X11_count : ∀ w ∈ wsV RL 71 RX11 yX11_count wsX11_count, w ∈ lw_tbl := List.forall_mem_append.mpr ⟨(List.forall_mem_cons.mpr ⟨tw_923, (List.forall_mem_cons.mpr ⟨tw_924, (List.forall_mem_cons.mpr ⟨tw_925, (List.forall_mem_cons.mpr ⟨tw_144, (fun _ h => absurd h List.not_mem_nil)⟩)⟩)⟩)⟩), tm_X11_count⟩
set_option maxRecDepth 20000 in
theorem tg_X11_count : GoodIn (wsV RL 71 RX11 yX11_count wsX11_count) (wsV RL 71 RX11 yX11_count wsX11_count) := goodIn_sub (fun _ h => h) (by decide +kernel)
set_option maxRecDepth 20000 in
theorem tm_X10_pattern : ∀ w ∈ wsX10_pattern, w ∈ lw_tbl := List.forall_mem_cons.mpr ⟨tw_926, (List.forall_mem_append.mpr ⟨(List.forall_mem_append.mpr ⟨(List.forall_mem_append.mpr ⟨(List.forall_mem_append.mpr ⟨tl_X10_pattern_r1, tl_X10_pattern_r2⟩), tc_X10⟩), tc_X6⟩), tc_X1⟩)⟩
set_option maxRecDepth 20000 in
theorem tv_X10_pattern : ∀ w ∈ wsV RL 72 RX10 yX10_pattern wsX10_pattern, w ∈ lw_tbl := List.forall_mem_append.mpr ⟨(List.forall_mem_cons.mpr ⟨tw_929, (List.forall_mem_cons.mpr ⟨tw_930, (List.forall_mem_cons.mpr ⟨tw_931, (List.forall_mem_cons.mpr ⟨tw_157, (fun _ h => absurd h List.not_mem_nil)⟩)⟩)⟩)⟩), tm_X10_pattern⟩
set_option maxRecDepth 20000 in
theorem tg_X10_pattern : GoodIn (wsV RL 72 RX10 yX10_pattern wsX10_pattern) (wsV RL 72 RX10 yX10_pattern wsX10_pattern) := goodIn_sub (fun _ h => h) (by decide +kernel)
set_option maxRecDepth 20000 in
theorem tm_X11_pattern : ∀ w ∈ wsX11_pattern, w ∈ lw_tbl := List.forall_mem_cons.mpr ⟨tw_932, (List.forall_mem_append.mpr ⟨(List.forall_mem_cons.mpr ⟨tw_633, (List.forall_mem_cons.mpr ⟨tw_632, (List.forall_mem_cons.mpr ⟨tw_129, (List.forall_mem_cons.mpr ⟨tw_622, (List.forall_mem_cons.mpr ⟨tw_623, (List.forall_mem_cons.mpr ⟨tw_624, (List.forall_mem_cons.mpr ⟨tw_144, (List.forall_mem_cons.mpr ⟨tw_625, (List.forall_mem_cons.mpr ⟨tw_626, (List.forall_mem_cons.mpr ⟨tw_627, (List.forall_mem_cons.mpr ⟨tw_628, (List.forall_mem_cons.mpr ⟨tw_629, (List.forall_mem_cons.mpr ⟨tw_630, (List.forall_mem_cons.mpr ⟨tw_631, (List.forall_mem_cons.mpr ⟨tw_124, (List.forall_mem_cons.mpr ⟨tw_130, (List.forall_mem_cons.mpr ⟨tw_168, (List.forall_mem_cons.mpr ⟨tw_169, (List.forall_mem_cons.mpr ⟨tw_170, (List.forall_mem_cons.mpr ⟨tw_660, (List.forall_mem_cons.mpr ⟨tw_661, (List.forall_mem_cons.mpr ⟨tw_662, (fun _ h => absurd h List.not_mem_nil)⟩)⟩)⟩)⟩)⟩)⟩)⟩)⟩)⟩)⟩)⟩)⟩)⟩)⟩)⟩)⟩)⟩)⟩)⟩)⟩)⟩)⟩), tc_X11⟩)⟩
set_option maxRecDepth 20000 in
theorem tv_X11_pattern : ∀ w ∈ wsV RL 76 RX11 yX11_pattern wsX11_pattern, w ∈ lw_tbl := List.forall_mem_append.mpr ⟨(List.forall_mem_cons.mpr ⟨tw_933, (List.forall_mem_cons.mpr ⟨tw_934, (List.forall_mem_cons.mpr ⟨tw_935, (List.forall_mem_cons.mpr ⟨tw_144, (fun _ h => absurd h List.not_mem_nil)⟩)⟩)⟩)⟩), tm_X11_pattern⟩
set_option maxRecDepth 20000 in
theorem tg_X11_pattern : GoodIn (wsV RL 76 RX11 yX11_pattern wsX11_pattern) (wsV RL 76 RX11 yX11_pattern wsX11_pattern) := goodIn_sub (fun _ h => h) (by decide +kernel)
set_option maxRecDepth 20000 in
theorem tm_X10_pivot : ∀ w ∈ wsX10_pivot, w ∈ lw_tbl := List.forall_mem_cons.mpr ⟨tw_936, (List.forall_mem_append.mpr ⟨(List.forall_mem_append.mpr ⟨(List.forall_mem_append.mpr ⟨(List.forall_mem_append.mpr ⟨(List.forall_mem_append.mpr ⟨(List.forall_mem_append.mpr ⟨tl_X10_pivot_r1, (List.forall_mem_append.mpr ⟨tl_X10_pivot_r2, (List.forall_mem_append.mpr ⟨tl_X10_pivot_r3, (List.forall_mem_append.mpr ⟨tl_X10_pivot_r4, (List.forall_mem_append.mpr ⟨tl_X10_pivot_r5, (List.forall_mem_append.mpr ⟨tl_X10_pivot_r6, tl_X10_pivot_r7⟩)⟩)⟩)⟩)⟩)⟩), tc_X10⟩), tc_X6⟩), tc_X7⟩), tc_X1⟩), tc_X3⟩)⟩
set_option maxRecDepth 20000 in
theorem tv_X10_pivot : ∀ w ∈ wsV RL 77 RX10 yX10_pivot wsX10_pivot, w ∈ lw_tbl := List.forall_mem_append.mpr ⟨(List.forall_mem_cons.mpr ⟨tw_943, (List.forall_mem_cons.mpr ⟨tw_944, (List.forall_mem_cons.mpr ⟨tw_945, (List.forall_mem_cons.mpr ⟨tw_157, (fun _ h => absurd h List.not_mem_nil)⟩)⟩)⟩)⟩), tm_X10_pivot⟩
set_option maxRecDepth 20000 in
theorem tg_X10_pivot : GoodIn (wsV RL 77 RX10 yX10_pivot wsX10_pivot) (wsV RL 77 RX10 yX10_pivot wsX10_pivot) := goodIn_sub (fun _ h => h) (by decide +kernel)
set_option maxRecDepth 20000 in
theorem tm_X11_pivot : ∀ w ∈ wsX11_pivot, w ∈ lw_tbl := List.forall_mem_cons.mpr ⟨tw_946, (List.forall_mem_append.mpr ⟨(List.forall_mem_append.mpr ⟨tl_X11_pivot_r1, (List.forall_mem_append.mpr ⟨tl_X11_pivot_r2, (List.forall_mem_append.mpr ⟨tl_X11_pivot_r3, (List.forall_mem_append.mpr ⟨tl_X11_pivot_r4, tl_X11_pivot_r5⟩)⟩)⟩)⟩), tc_X11⟩)⟩
set_option maxRecDepth 20000 in
theorem tv_X11_pivot : ∀ w ∈ wsV RL 80 RX11 yX11_pivot wsX11_pivot, w ∈ lw_tbl := List.forall_mem_append.mpr ⟨(List.forall_mem_cons.mpr ⟨tw_947, (List.forall_mem_cons.mpr ⟨tw_948, (List.forall_mem_cons.mpr ⟨tw_949, (List.forall_mem_cons.mpr ⟨tw_144, (fun _ h => absurd h List.not_mem_nil)⟩)⟩)⟩)⟩), tm_X11_pivot⟩
set_option maxRecDepth 20000 in
theorem tg_X11_pivot : GoodIn (wsV RL 80 RX11 yX11_pivot wsX11_pivot) (wsV RL 80 RX11 yX11_pivot wsX11_pivot) := goodIn_sub (fun _ h => h) (by decide +kernel)
set_option maxRecDepth 20000 in
theorem tm_X10_kind : ∀ w ∈ wsX10_kind, w ∈ lw_tbl := List.forall_mem_cons.mpr ⟨tw_950, (List.forall_mem_append.mpr ⟨(List.forall_mem_append.mpr ⟨(List.forall_mem_append.mpr ⟨(List.forall_mem_append.mpr ⟨(List.forall_mem_append.mpr ⟨(List.forall_mem_append.mpr ⟨tl_X10_kind_r1, (List.forall_mem_append.mpr ⟨tl_X10_kind_r2, (List.forall_mem_append.mpr ⟨tl_X10_kind_r3, (List.forall_mem_append.mpr ⟨tl_X10_kind_r4, (List.forall_mem_append.mpr ⟨tl_X10_kind_r5, (List.forall_mem_append.mpr ⟨tl_X10_kind_r6, tl_X10_kind_r7⟩)⟩)⟩)⟩)⟩)⟩), tc_X10⟩), tc_X6⟩), tc_X7⟩), tc_X1⟩), tc_X3⟩)⟩
set_option maxRecDepth 20000 in
theorem tv_X10_kind : ∀ w ∈ wsV RL 81 RX10 yX10_kind wsX10_kind, w ∈ lw_tbl := List.forall_mem_append.mpr ⟨(List.forall_mem_cons.mpr ⟨tw_955, (List.forall_mem_cons.mpr ⟨tw_956, (List.forall_mem_cons.mpr ⟨tw_957, (List.forall_mem_cons.mpr ⟨tw_157, (fun _ h => absurd h List.not_mem_nil)⟩)⟩)⟩)⟩), tm_X10_kind⟩
set_option maxRecDepth 20000 in
theorem tg_X10_kind : GoodIn (wsV RL 81 RX10 yX10_kind wsX10_kind) (wsV RL 81 RX10 yX10_kind wsX10_kind) := goodIn_sub (fun _ h => h) (by decide +kernel)
set_option maxRecDepth 20000 in
theorem tm_X11_kind : ∀ w ∈ wsX11_kind, w ∈ lw_tbl := List.forall_mem_cons.mpr ⟨tw_958, (List.forall_mem_append.mpr ⟨(List.forall_mem_append.mpr ⟨tl_X11_kind_r1, (List.forall_mem_append.mpr ⟨tl_X11_kind_r2, (List.forall_mem_append.mpr ⟨tl_X11_kind_r3, (List.forall_mem_append.mpr ⟨tl_X11_kind_r4, tl_X11_kind_r5⟩)⟩)⟩)⟩), tc_X11⟩)⟩
set_option maxRecDepth 20000 in
theorem tv_X11_kind : ∀ w ∈ wsV RL 84 RX11 yX11_kind wsX11_kind, w ∈ lw_tbl := List.forall_mem_append.mpr ⟨(List.forall_mem_cons.mpr ⟨tw_963, (List.forall_mem_cons.mpr ⟨tw_964, (List.forall_mem_cons.mpr ⟨tw_965, (List.forall_mem_cons.mpr ⟨tw_144, (fun _ h => absurd h List.not_mem_nil)⟩)⟩)⟩)⟩), tm_X11_kind⟩
set_option maxRecDepth 20000 in
theorem tg_X11_kind : GoodIn (wsV RL 84 RX11 yX11_kind wsX11_kind) (wsV RL 84 RX11 yX11_kind wsX11_kind) := goodIn_sub (fun _ h => h) (by decide +kernel)
set_option maxRecDepth 20000 in
theorem tm_X10_solution : ∀ w ∈ wsX10_solution, w ∈ lw_tbl := List.forall_mem_cons.mpr ⟨tw_966, (List.forall_mem_append.mpr ⟨(List.forall_mem_append.mpr ⟨(List.forall_mem_append.mpr ⟨(List.forall_mem_append.mpr ⟨(List.forall_mem_append.mpr ⟨(List.forall_mem_append.mpr ⟨(List.forall_mem_append.mpr ⟨tl_X10_solution_r1, (List.forall_mem_append.mpr ⟨tl_X10_solution_r2, (List.forall_mem_append.mpr ⟨tl_X10_solution_r3, (List.forall_mem_append.mpr ⟨tl_X10_solution_r4, (List.forall_mem_append.mpr ⟨tl_X10_solution_r5, (List.forall_mem_append.mpr ⟨tl_X10_solution_r6, (List.forall_mem_append.mpr ⟨tl_X10_solution_r7, (List.forall_mem_append.mpr ⟨tl_X10_solution_r8, (List.forall_mem_append.mpr ⟨tl_X10_solution_r9, tl_X10_solution_r10⟩)⟩)⟩)⟩)⟩)⟩)⟩)⟩)⟩), tc_X10⟩), tc_X6⟩), tc_X1⟩), tc_X7⟩), tc_X3⟩), tc_X9⟩)⟩
set_option maxRecDepth 20000 in
theorem tv_X10_solution : ∀ w ∈ wsV RL 85 RX10 yX10_solution wsX10_solution, w ∈ lw_tbl := List.forall_mem_append.mpr ⟨(List.forall_mem_cons.mpr ⟨tw_1032, (List.forall_mem_cons.mpr ⟨tw_1033, (List.forall_mem_cons.mpr ⟨tw_1034, (List.forall_mem_cons.mpr ⟨tw_157, (fun _ h => absurd h List.not_mem_nil)⟩)⟩)⟩)⟩), tm_X10_solution⟩
set_option maxRecDepth 20000 in
theorem tg_X10_solution : GoodIn (wsV RL 85 RX10 yX10_solution wsX10_solution) (wsV RL 85 RX10 yX10_solution wsX10_solution) := goodIn_sub (fun _ h => h) (by decide +kernel)
set_option maxRecDepth 20000 in
theorem tm_X11_solution : ∀ w ∈ wsX11_solution, w ∈ lw_tbl := List.forall_mem_cons.mpr ⟨tw_1035, (List.forall_mem_append.mpr ⟨(List.forall_mem_append.mpr ⟨tl_X11_solution_r1, (List.forall_mem_append.mpr ⟨tl_X11_solution_r2, (List.forall_mem_append.mpr ⟨tl_X11_solution_r3, (List.forall_mem_append.mpr ⟨tl_X11_solution_r4, (List.forall_mem_append.mpr ⟨tl_X11_solution_r5, tl_X11_solution_r6⟩)⟩)⟩)⟩)⟩), tc_X11⟩)⟩
set_option maxRecDepth 20000 in
theorem tv_X11_solution : ∀ w ∈ wsV RL 88 RX11 yX11_solution wsX11_solution, w ∈ lw_tbl := List.forall_mem_append.mpr ⟨(List.forall_mem_cons.mpr ⟨tw_1052, (List.forall_mem_cons.mpr ⟨tw_1053, (List.forall_mem_cons.mpr ⟨tw_1054, (List.forall_mem_cons.mpr ⟨tw_144, (fun _ h => absurd h List.not_mem_nil)⟩)⟩)⟩)⟩), tm_X11_solution⟩
set_option maxRecDepth 20000 in
theorem tg_X11_solution : GoodIn (wsV RL 88 RX11 yX11_solution wsX11_solution) (wsV RL 88 RX11 yX11_solution wsX11_solution) := goodIn_sub (fun _ h => h) (by decide +kernel)
set_option maxRecDepth 20000 in
theorem tm_X10_free : ∀ w ∈ wsX10_free, w ∈ lw_tbl := List.forall_mem_cons.mpr ⟨tw_1055, (List.forall_mem_append.mpr ⟨(List.forall_mem_append.mpr ⟨(List.forall_mem_append.mpr ⟨(List.forall_mem_append.mpr ⟨(List.forall_mem_append.mpr ⟨(List.forall_mem_append.mpr ⟨tl_X10_free_r1, (List.forall_mem_append.mpr ⟨tl_X10_free_r2, (List.forall_mem_append.mpr ⟨tl_X10_free_r3, (List.forall_mem_append.mpr ⟨tl_X10_free_r4, (List.forall_mem_append.mpr ⟨tl_X10_free_r5, (List.forall_mem_append.mpr ⟨tl_X10_free_r6, tl_X10_free_r7⟩)⟩)⟩)⟩)⟩)⟩), tc_X10⟩), tc_X6⟩), tc_X7⟩), tc_X1⟩), tc_X3⟩)⟩
set_option maxRecDepth 20000 in
theorem tv_X10_free : ∀ w ∈ wsV RL 89 RX10 yX10_free wsX10_free, w ∈ lw_tbl := List.forall_mem_append.mpr ⟨(List.forall_mem_cons.mpr ⟨tw_1060, (List.forall_mem_cons.mpr ⟨tw_1061, (List.forall_mem_cons.mpr ⟨tw_1062, (List.forall_mem_cons.mpr ⟨tw_157, (fun _ h => absurd h List.not_mem_nil)⟩)⟩)⟩)⟩), tm_X10_free⟩
set_option maxRecDepth 20000 in
theorem tg_X10_free : GoodIn (wsV RL 89 RX10 yX10_free wsX10_free) (wsV RL 89 RX10 yX10_free wsX10_free) := goodIn_sub (fun _ h => h) (by decide +kernel)
set_option maxRecDepth 20000 in
theorem tm_X11_free : ∀ w ∈ wsX11_free, w ∈ lw_tbl := List.forall_mem_cons.mpr ⟨tw_1063, (List.forall_mem_append.mpr ⟨(List.forall_mem_append.mpr ⟨tl_X11_free_r1, (List.forall_mem_append.mpr ⟨tl_X11_free_r2, (List.forall_mem_append.mpr ⟨tl_X11_free_r3, (List.forall_mem_append.mpr ⟨tl_X11_free_r4, tl_X11_free_r5⟩)⟩)⟩)⟩), tc_X11⟩)⟩
set_option maxRecDepth 20000 in
theorem tv_X11_free : ∀ w ∈ wsV RL 92 RX11 yX11_free wsX11_free, w ∈ lw_tbl := List.forall_mem_append.mpr ⟨(List.forall_mem_cons.mpr ⟨tw_1068, (List.forall_mem_cons.mpr ⟨tw_1069, (List.forall_mem_cons.mpr ⟨tw_1070, (List.forall_mem_cons.mpr ⟨tw_144, (fun _ h => absurd h List.not_mem_nil)⟩)⟩)⟩)⟩), tm_X11_free⟩
set_option maxRecDepth 20000 in
theorem tg_X11_free : GoodIn (wsV RL 92 RX11 yX11_free wsX11_free) (wsV RL 92 RX11 yX11_free wsX11_free) := goodIn_sub (fun _ h => h) (by decide +kernel)
set_option maxRecDepth 20000 in
theorem tm_X10_zero : ∀ w ∈ wsX10_zero, w ∈ lw_tbl := List.forall_mem_cons.mpr ⟨tw_1071, (List.forall_mem_append.mpr ⟨(List.forall_mem_append.mpr ⟨(List.forall_mem_append.mpr ⟨(List.forall_mem_append.mpr ⟨(List.forall_mem_append.mpr ⟨(List.forall_mem_append.mpr ⟨(List.forall_mem_append.mpr ⟨tl_X10_zero_r1, (List.forall_mem_append.mpr ⟨tl_X10_zero_r2, (List.forall_mem_append.mpr ⟨tl_X10_zero_r3, (List.forall_mem_append.mpr ⟨tl_X10_zero_r4, (List.forall_mem_append.mpr ⟨tl_X10_zero_r5, (List.forall_mem_append.mpr ⟨tl_X10_zero_r6, (List.forall_mem_append.mpr ⟨tl_X10_zero_r7, (List.forall_mem_append.mpr ⟨tl_X10_zero_r8, tl_X10_zero_r9⟩)⟩)⟩)⟩)⟩)⟩)⟩)⟩), tc_X10⟩), tc_X6⟩), tc_X7⟩), tc_X1⟩), tc_X3⟩), tc_X9⟩)⟩
set_option maxRecDepth 20000 in
theorem tv_X10_zero : ∀ w ∈ wsV RL 93 RX10 yX10_zero wsX10_zero, w ∈ lw_tbl := List.forall_mem_append.mpr ⟨(List.forall_mem_cons.mpr ⟨tw_1076, (List.forall_mem_cons.mpr ⟨tw_1077, (List.forall_mem_cons.mpr ⟨tw_1078, (List.forall_mem_cons.mpr ⟨tw_157, (fun _ h => absurd h List.not_mem_nil)⟩)⟩)⟩)⟩), tm_X10_zero⟩
set_option maxRecDepth 20000 in
theorem tg_X10_zero : GoodIn (wsV RL 93 RX10 yX10_zero wsX10_zero) (wsV RL 93 RX10 yX10_zero wsX10_zero) := goodIn_sub (fun _ h => h) (by decide +kernel)
set_option maxRecDepth 20000 in
theorem tm_X11_zero : ∀ w ∈ wsX11_zero, w ∈ lw_tbl := List.forall_mem_cons.mpr ⟨tw_1079, (List.forall_mem_append.mpr ⟨(List.forall_mem_append.mpr ⟨tl_X11_zero_r1, (List.forall_mem_append.mpr ⟨tl_X11_zero_r2, (List.forall_mem_append.mpr ⟨tl_X11_zero_r3, (List.forall_mem_append.mpr ⟨tl_X11_zero_r4, tl_X11_zero_r5⟩)⟩)⟩)⟩), tc_X11⟩)⟩
set_option maxRecDepth 20000 in
theorem tv_X11_zero : ∀ w ∈ wsV RL 96 RX11 yX11_zero wsX11_zero, w ∈ lw_tbl := List.forall_mem_append.mpr ⟨(List.forall_mem_cons.mpr ⟨tw_1080, (List.forall_mem_cons.mpr ⟨tw_1081, (List.forall_mem_cons.mpr ⟨tw_1082, (List.forall_mem_cons.mpr ⟨tw_144, (fun _ h => absurd h List.not_mem_nil)⟩)⟩)⟩)⟩), tm_X11_zero⟩
set_option maxRecDepth 20000 in
theorem tg_X11_zero : GoodIn (wsV RL 96 RX11 yX11_zero wsX11_zero) (wsV RL 96 RX11 yX11_zero wsX11_zero) := goodIn_sub (fun _ h => h) (by decide +kernel)
set_option maxRecDepth 20000 in
theorem tm_X10_determinant : ∀ w ∈ wsX10_determinant, w ∈ lw_tbl := List.forall_mem_cons.mpr ⟨tw_1083, (List.forall_mem_append.mpr ⟨(List.forall_mem_append.mpr ⟨(List.forall_mem_append.mpr ⟨(List.forall_mem_append.mpr ⟨(List.forall_mem_append.mpr ⟨(List.forall_mem_append.mpr ⟨tl_X10_determinant_r1, (List.forall_mem_append.mpr ⟨tl_X10_determinant_r2, (List.forall_mem_append.mpr ⟨tl_X10_determinant_r3, (List.forall_mem_append.mpr ⟨tl_X10_determinant_r4, (List.forall_mem_append.mpr ⟨tl_X10_determinant_r5, (List.forall_mem_append.mpr ⟨tl_X10_determinant_r6, (List.forall_mem_append.mpr ⟨tl_X10_determinant_r7, tl_X10_determinant_r8⟩)⟩)⟩)⟩)⟩)⟩)⟩), tc_X10⟩), tc_X6⟩), tc_X7⟩), tc_X1⟩), tc_X3⟩)⟩
set_option maxRecDepth 20000 in
theorem tv_X10_determinant : ∀ w ∈ wsV RL 97 RX10 yX10_determinant wsX10_determinant, w ∈ lw_tbl := List.forall_mem_append.mpr ⟨(List.forall_mem_cons.mpr ⟨tw_1106, (List.forall_mem_cons.mpr ⟨tw_1107, (List.forall_mem_cons.mpr ⟨tw_1108, (List.forall_mem_cons.mpr ⟨tw_157, (fun _ h => absurd h List.not_mem_nil)⟩)⟩)⟩)⟩), tm_X10_determinant⟩
set_option maxRecDepth 20000 in
theorem tg_X10_determinant : GoodIn (wsV RL 97 RX10 yX10_determinant wsX10_determinant) (wsV RL 97 RX10 yX10_determinant wsX10_determinant) := goodIn_sub (fun _ h => h) (by decide +kernel)
set_option maxRecDepth 20000 in
theorem tm_X11_determinant : ∀ w ∈ wsX11_determinant, w ∈ lw_tbl := List.forall_mem_cons.mpr ⟨tw_1109, (List.forall_mem_append.mpr ⟨(List.forall_mem_append.mpr ⟨tl_X11_determinant_r1, (List.forall_mem_append.mpr ⟨tl_X11_determinant_r2, (List.forall_mem_append.mpr ⟨tl_X11_determinant_r3, (List.forall_mem_append.mpr ⟨tl_X11_determinant_r4, tl_X11_determinant_r5⟩)⟩)⟩)⟩), tc_X11⟩)⟩
set_option maxRecDepth 20000 in
theorem tv_X11_determinant : ∀ w ∈ wsV RL 101 RX11 yX11_determinant wsX11_determinant, w ∈ lw_tbl := List.forall_mem_append.mpr ⟨(List.forall_mem_cons.mpr ⟨tw_1118, (List.forall_mem_cons.mpr ⟨tw_1119, (List.forall_mem_cons.mpr ⟨tw_1120, (List.forall_mem_cons.mpr ⟨tw_144, (fun _ h => absurd h List.not_mem_nil)⟩)⟩)⟩)⟩), tm_X11_determinant⟩
set_option maxRecDepth 20000 in
theorem tg_X11_determinant : GoodIn (wsV RL 101 RX11 yX11_determinant wsX11_determinant) (wsV RL 101 RX11 yX11_determinant wsX11_determinant) := goodIn_sub (fun _ h => h) (by decide +kernel)
set_option maxRecDepth 20000 in
theorem tm_X10_inverse : ∀ w ∈ wsX10_inverse, w ∈ lw_tbl := List.forall_mem_cons.mpr ⟨tw_1121, (List.forall_mem_append.mpr ⟨(List.forall_mem_append.mpr ⟨(List.forall_mem_append.mpr ⟨(List.forall_mem_append.mpr ⟨(List.forall_mem_append.mpr ⟨(List.forall_mem_append.mpr ⟨(List.forall_mem_append.mpr ⟨tl_X10_inverse_r1, (List.forall_mem_append.mpr ⟨tl_X10_inverse_r2, (List.forall_mem_append.mpr ⟨tl_X10_inverse_r3, (List.forall_mem_append.mpr ⟨tl_X10_inverse_r4, (List.forall_mem_append.mpr ⟨tl_X10_inverse_r5, (List.forall_mem_append.mpr ⟨tl_X10_inverse_r6, (List.forall_mem_append.mpr ⟨tl_X10_inverse_r7, (List.forall_mem_append.mpr ⟨tl_X10_inverse_r8, (List.forall_mem_append.mpr ⟨tl_X10_inverse_r9, tl_X10_inverse_r10⟩)⟩)⟩)⟩)⟩)⟩)⟩)⟩)⟩), tc_X10⟩), tc_X6⟩), tc_X1⟩), tc_X7⟩), tc_X3⟩), tc_X9⟩)⟩
set_option maxRecDepth 20000 in
theorem tv_X10_inverse : ∀ w ∈ wsV RL 102 RX10 yX10_inverse wsX10_inverse, w ∈ lw_tbl := List.forall_mem_append.mpr ⟨(List.forall_mem_cons.mpr ⟨tw_1127, (List.forall_mem_cons.mpr ⟨tw_1128, (List.forall_mem_cons.mpr ⟨tw_1129, (List.forall_mem_cons.mpr ⟨tw_157, (fun _ h => absurd h List.not_mem_nil)⟩)⟩)⟩)⟩), tm_X10_inverse⟩
set_option maxRecDepth 20000 in
theorem tg_X10_inverse : GoodIn (wsV RL 102 RX10 yX10_inverse wsX10_inverse) (wsV RL 102 RX10 yX10_inverse wsX10_inverse) := goodIn_sub (fun _ h => h) (by decide +kernel)
set_option maxRecDepth 20000 in
theorem tm_X11_inverse : ∀ w ∈ wsX11_inverse, w ∈ lw_tbl := List.forall_mem_cons.mpr ⟨tw_1130, (List.forall_mem_append.mpr ⟨(List.forall_mem_append.mpr ⟨tl_X11_inverse_r1, (List.forall_mem_append.mpr ⟨tl_X11_inverse_r2, (List.forall_mem_append.mpr ⟨tl_X11_inverse_r3, (List.forall_mem_append.mpr ⟨tl_X11_inverse_r4, tl_X11_inverse_r5⟩)⟩)⟩)⟩), tc_X11⟩)⟩
set_option maxRecDepth 20000 in
theorem tv_X11_inverse : ∀ w ∈ wsV RL 105 RX11 yX11_inverse wsX11_inverse, w ∈ lw_tbl := List.forall_mem_append.mpr ⟨(List.forall_mem_cons.mpr ⟨tw_1131, (List.forall_mem_cons.mpr ⟨tw_1132, (List.forall_mem_cons.mpr ⟨tw_1133, (List.forall_mem_cons.mpr ⟨tw_144, (fun _ h => absurd h List.not_mem_nil)⟩)⟩)⟩)⟩), tm_X11_inverse⟩
set_option maxRecDepth 20000 in
theorem tg_X11_inverse : GoodIn (wsV RL 105 RX11 yX11_inverse wsX11_inverse) (wsV RL 105 RX11 yX11_inverse wsX11_inverse) := goodIn_sub (fun _ h => h) (by decide +kernel)
set_option maxRecDepth 20000 in
theorem tm_X10_minor : ∀ w ∈ wsX10_minor, w ∈ lw_tbl := List.forall_mem_cons.mpr ⟨tw_1134, (List.forall_mem_append.mpr ⟨(List.forall_mem_append.mpr ⟨(List.forall_mem_append.mpr ⟨(List.forall_mem_append.mpr ⟨(List.forall_mem_append.mpr ⟨(List.forall_mem_append.mpr ⟨tl_X10_minor_r1, (List.forall_mem_append.mpr ⟨tl_X10_minor_r2, (List.forall_mem_append.mpr ⟨tl_X10_minor_r3, (List.forall_mem_append.mpr ⟨tl_X10_minor_r4, (List.forall_mem_append.mpr ⟨tl_X10_minor_r5, (List.forall_mem_append.mpr ⟨tl_X10_minor_r6, (List.forall_mem_append.mpr ⟨tl_X10_minor_r7, (List.forall_mem_append.mpr ⟨tl_X10_minor_r8, tl_X10_minor_r9⟩)⟩)⟩)⟩)⟩)⟩)⟩)⟩), tc_X10⟩), tc_X6⟩), tc_X1⟩), tc_X3⟩), tc_X7⟩)⟩
set_option maxRecDepth 20000 in
theorem tv_X10_minor : ∀ w ∈ wsV RL 106 RX10 yX10_minor wsX10_minor, w ∈ lw_tbl := List.forall_mem_append.mpr ⟨(List.forall_mem_cons.mpr ⟨tw_1140, (List.forall_mem_cons.mpr ⟨tw_1141, (List.forall_mem_cons.mpr ⟨tw_1142, (List.forall_mem_cons.mpr ⟨tw_157, (fun _ h => absurd h List.not_mem_nil)⟩)⟩)⟩)⟩), tm_X10_minor⟩
set_option maxRecDepth 20000 in
theorem tg_X10_minor : GoodIn (wsV RL 106 RX10 yX10_minor wsX10_minor) (wsV RL 106 RX10 yX10_minor wsX10_minor) := goodIn_sub (fun _ h => h) (by decide +kernel)
set_option maxRecDepth 20000 in
theorem tm_X11_minor : ∀ w ∈ wsX11_minor, w ∈ lw_tbl := List.forall_mem_cons.mpr ⟨tw_1143, (List.forall_mem_append.mpr ⟨(List.forall_mem_append.mpr ⟨tl_X11_minor_r1, (List.forall_mem_append.mpr ⟨tl_X11_minor_r2, (List.forall_mem_append.mpr ⟨tl_X11_minor_r3, (List.forall_mem_append.mpr ⟨tl_X11_minor_r4, (List.forall_mem_append.mpr ⟨tl_X11_minor_r5, tl_X11_minor_r6⟩)⟩)⟩)⟩)⟩), tc_X11⟩)⟩
set_option maxRecDepth 20000 in
theorem tv_X11_minor : ∀ w ∈ wsV RL 109 RX11 yX11_minor wsX11_minor, w ∈ lw_tbl := List.forall_mem_append.mpr ⟨(List.forall_mem_cons.mpr ⟨tw_1148, (List.forall_mem_cons.mpr ⟨tw_1149, (List.forall_mem_cons.mpr ⟨tw_1150, (List.forall_mem_cons.mpr ⟨tw_144, (fun _ h => absurd h List.not_mem_nil)⟩)⟩)⟩)⟩), tm_X11_minor⟩
set_option maxRecDepth 20000 in
theorem tg_X11_minor : GoodIn (wsV RL 109 RX11 yX11_minor wsX11_minor) (wsV RL 109 RX11 yX11_minor wsX11_minor) := goodIn_sub (fun _ h => h) (by decide +kernel)
set_option maxRecDepth 20000 in
theorem tm_X10_cramer : ∀ w ∈ wsX10_cramer, w ∈ lw_tbl := List.forall_mem_cons.mpr ⟨tw_1151, (List.forall_mem_append.mpr ⟨(List.forall_mem_append.mpr ⟨(List.forall_mem_append.mpr ⟨(List.forall_mem_append.mpr ⟨(List.forall_mem_append.mpr ⟨(List.forall_mem_append.mpr ⟨tl_X10_cramer_r1, (List.forall_mem_append.mpr ⟨tl_X10_cramer_r2, (List.forall_mem_append.mpr ⟨tl_X10_cramer_r3, (List.forall_mem_append.mpr ⟨tl_X10_cramer_r4, (List.forall_mem_append.mpr ⟨tl_X10_cramer_r5, (List.forall_mem_append.mpr ⟨tl_X10_cramer_r6, (List.forall_mem_append.mpr ⟨tl_X10_cramer_r7, tl_X10_cramer_r8⟩)⟩)⟩)⟩)⟩)⟩)⟩), tc_X10⟩), tc_X6⟩), tc_X1⟩), tc_X3⟩), tc_X7⟩)⟩
set_option maxRecDepth 20000 in
theorem tv_X10_cramer : ∀ w ∈ wsV RL 110 RX10 yX10_cramer wsX10_cramer, w ∈ lw_tbl := List.forall_mem_append.mpr ⟨(List.forall_mem_cons.mpr ⟨tw_1153, (List.forall_mem_cons.mpr ⟨tw_1154, (List.forall_mem_cons.mpr ⟨tw_1155, (List.forall_mem_cons.mpr ⟨tw_157, (fun _ h => absurd h List.not_mem_nil)⟩)⟩)⟩)⟩), tm_X10_cramer⟩
set_option maxRecDepth 20000 in
theorem tg_X10_cramer : GoodIn (wsV RL 110 RX10 yX10_cramer wsX10_cramer) (wsV RL 110 RX10 yX10_cramer wsX10_cramer) := goodIn_sub (fun _ h => h) (by decide +kernel)
set_option maxRecDepth 20000 in
theorem tm_X11_cramer : ∀ w ∈ wsX11_cramer, w ∈ lw_tbl := List.forall_mem_cons.mpr ⟨tw_1156, (List.forall_mem_append.mpr ⟨(List.forall_mem_append.mpr ⟨tl_X11_cramer_r1, (List.forall_mem_append.mpr ⟨tl_X11_cramer_r2, (List.forall_mem_append.mpr ⟨tl_X11_cramer_r3, (List.forall_mem_append.mpr ⟨tl_X11_cramer_r4, (List.forall_mem_append.mpr ⟨tl_X11_cramer_r5, tl_X11_cramer_r6⟩)⟩)⟩)⟩)⟩), tc_X11⟩)⟩
set_option maxRecDepth 20000 in
theorem tv_X11_cramer : ∀ w ∈ wsV RL 113 RX11 yX11_cramer wsX11_cramer, w ∈ lw_tbl := List.forall_mem_append.mpr ⟨(List.forall_mem_cons.mpr ⟨tw_1157, (List.forall_mem_cons.mpr ⟨tw_1158, (List.forall_mem_cons.mpr ⟨tw_1159, (List.forall_mem_cons.mpr ⟨tw_144, (fun _ h => absurd h List.not_mem_nil)⟩)⟩)⟩)⟩), tm_X11_cramer⟩
set_option maxRecDepth 20000 in
theorem tg_X11_cramer : GoodIn (wsV RL 113 RX11 yX11_cramer wsX11_cramer) (wsV RL 113 RX11 yX11_cramer wsX11_cramer) := goodIn_sub (fun _ h => h) (by decide +kernel)
set_option maxRecDepth 20000 in
theorem tm_X10_would : ∀ w ∈ wsX10_would, w ∈ lw_tbl := List.forall_mem_cons.mpr ⟨tw_1160, (List.forall_mem_append.mpr ⟨(List.forall_mem_append.mpr ⟨(List.forall_mem_append.mpr ⟨(List.forall_mem_append.mpr ⟨(List.forall_mem_append.mpr ⟨(List.forall_mem_append.mpr ⟨(List.forall_mem_append.mpr ⟨tl_X10_would_r1, (List.forall_mem_append.mpr ⟨tl_X10_would_r2, (List.forall_mem_append.mpr ⟨tl_X10_would_r3, (List.forall_mem_append.mpr ⟨tl_X10_would_r4, (List.forall_mem_append.mpr ⟨tl_X10_would_r5, (List.forall_mem_append.mpr ⟨tl_X10_would_r6, (List.forall_mem_append.mpr ⟨tl_X10_would_r7, (List.forall_mem_append.mpr ⟨tl_X10_would_r8, (List.forall_mem_append.mpr ⟨tl_X10_would_r9, (List.forall_mem_append.mpr ⟨tl_X10_would_r10, tl_X10_would_r11⟩)⟩)⟩)⟩)⟩)⟩)⟩)⟩)⟩)⟩), tc_X10⟩), tc_X6⟩), tc_X1⟩), tc_X3⟩), tc_X7⟩), tc_X9⟩)⟩
set_option maxRecDepth 20000 in
theorem tv_X10_would : ∀ w ∈ wsV RL 114 RX10 yX10_would wsX10_would, w ∈ lw_tbl := List.forall_mem_append.mpr ⟨(List.forall_mem_cons.mpr ⟨tw_1164, (List.forall_mem_cons.mpr ⟨tw_1165, (List.forall_mem_cons.mpr ⟨tw_1166, (List.forall_mem_cons.mpr ⟨tw_157, (fun _ h => absurd h List.not_mem_nil)⟩)⟩)⟩)⟩), tm_X10_would⟩
set_option maxRecDepth 20000 in
theorem tg_X10_would : GoodIn (wsV RL 114 RX10 yX10_would wsX10_would) (wsV RL 114 RX10 yX10_would wsX10_would) := goodIn_sub (fun _ h => h) (by decide +kernel)
set_option maxRecDepth 20000 in
theorem tm_X11_would : ∀ w ∈ wsX11_would, w ∈ lw_tbl := List.forall_mem_cons.mpr ⟨tw_1167, (List.forall_mem_append.mpr ⟨(List.forall_mem_append.mpr ⟨tl_X11_would_r1, (List.forall_mem_append.mpr ⟨tl_X11_would_r2, (List.forall_mem_append.mpr ⟨tl_X11_would_r3, (List.forall_mem_append.mpr ⟨tl_X11_would_r4, (List.forall_mem_append.mpr ⟨tl_X11_would_r5, tl_X11_would_r6⟩)⟩)⟩)⟩)⟩), tc_X11⟩)⟩
set_option maxRecDepth 20000 in
theorem tv_X11_would : ∀ w ∈ wsV RL 118 RX11 yX11_would wsX11_would, w ∈ lw_tbl := List.forall_mem_append.mpr ⟨(List.forall_mem_cons.mpr ⟨tw_1168, (List.forall_mem_cons.mpr ⟨tw_1169, (List.forall_mem_cons.mpr ⟨tw_1170, (List.forall_mem_cons.mpr ⟨tw_144, (fun _ h => absurd h List.not_mem_nil)⟩)⟩)⟩)⟩), tm_X11_would⟩
set_option maxRecDepth 20000 in
theorem tg_X11_would : GoodIn (wsV RL 118 RX11 yX11_would wsX11_would) (wsV RL 118 RX11 yX11_would wsX11_would) := goodIn_sub (fun _ h => h) (by decide +kernel)
set_option maxRecDepth 20000 in
theorem tm_X10_ranked : ∀ w ∈ wsX10_ranked, w ∈ lw_tbl := List.forall_mem_cons.mpr ⟨tw_1171, (List.forall_mem_append.mpr ⟨(List.forall_mem_append.mpr ⟨(List.forall_mem_append.mpr ⟨(List.forall_mem_append.mpr ⟨(List.forall_mem_append.mpr ⟨(List.forall_mem_append.mpr ⟨tl_X10_ranked_r1, (List.forall_mem_append.mpr ⟨tl_X10_ranked_r2, (List.forall_mem_append.mpr ⟨tl_X10_ranked_r3, (List.forall_mem_append.mpr ⟨tl_X10_ranked_r4, (List.forall_mem_append.mpr ⟨tl_X10_ranked_r5, (List.forall_mem_append.mpr ⟨tl_X10_ranked_r6, tl_X10_ranked_r7⟩)⟩)⟩)⟩)⟩)⟩), tc_X10⟩), tc_X6⟩), tc_X7⟩), tc_X1⟩), tc_X3⟩)⟩
set_option maxRecDepth 20000 in
theorem tv_X10_ranked : ∀ w ∈ wsV RL 119 RX10 yX10_ranked wsX10_ranked, w ∈ lw_tbl := List.forall_mem_append.mpr ⟨(List.forall_mem_cons.mpr ⟨tw_1172, (List.forall_mem_cons.mpr ⟨tw_1173, (List.forall_mem_cons.mpr ⟨tw_1174, (List.forall_mem_cons.mpr ⟨tw_157, (fun _ h => absurd h List.not_mem_nil)⟩)⟩)⟩)⟩), tm_X10_ranked⟩
set_option maxRecDepth 20000 in
theorem tg_X10_ranked : GoodIn (wsV RL 119 RX10 yX10_ranked wsX10_ranked) (wsV RL 119 RX10 yX10_ranked wsX10_ranked) := goodIn_sub (fun _ h => h) (by decide +kernel)
set_option maxRecDepth 20000 in
theorem tm_X11_ranked : ∀ w ∈ wsX11_ranked, w ∈ lw_tbl := List.forall_mem_cons.mpr ⟨tw_1175, (List.forall_mem_append.mpr ⟨(List.forall_mem_append.mpr ⟨tl_X11_ranked_r1, (List.forall_mem_append.mpr ⟨tl_X11_ranked_r2, (List.forall_mem_append.mpr ⟨tl_X11_ranked_r3, (List.forall_mem_append.mpr ⟨tl_X11_ranked_r4, tl_X11_ranked_r5⟩)⟩)⟩)⟩), tc_X11⟩)⟩
set_option maxRecDepth 20000 in
theorem tv_X11_ranked : ∀ w ∈ wsV RL 122 RX11 yX11_ranked wsX11_ranked, w ∈ lw_tbl := List.forall_mem_append.mpr ⟨(List.forall_mem_cons.mpr ⟨tw_1176, (List.forall_mem_cons.mpr ⟨tw_1177, (List.forall_mem_cons.mpr ⟨tw_1178, (List.forall_mem_cons.mpr ⟨tw_144, (fun _ h => absurd h List.not_mem_nil)⟩)⟩)⟩)⟩), tm_X11_ranked⟩
set_option maxRecDepth 20000 in
theorem tg_X11_ranked : GoodIn (wsV RL 122 RX11 yX11_ranked wsX11_ranked) (wsV RL 122 RX11 yX11_ranked wsX11_ranked) := goodIn_sub (fun _ h => h) (by decide +kernel)
set_option maxRecDepth 20000 in
theorem tm_X10_residue : ∀ w ∈ wsX10_residue, w ∈ lw_tbl := List.forall_mem_cons.mpr ⟨tw_1179, (List.forall_mem_append.mpr ⟨(List.forall_mem_append.mpr ⟨(List.forall_mem_append.mpr ⟨(List.forall_mem_append.mpr ⟨(List.forall_mem_append.mpr ⟨(List.forall_mem_append.mpr ⟨(List.forall_mem_append.mpr ⟨tl_X10_residue_r1, (List.forall_mem_append.mpr ⟨tl_X10_residue_r2, (List.forall_mem_append.mpr ⟨tl_X10_residue_r3, (List.forall_mem_append.mpr ⟨tl_X10_residue_r4, (List.forall_mem_append.mpr ⟨tl_X10_residue_r5, (List.forall_mem_append.mpr ⟨tl_X10_residue_r6, (List.forall_mem_append.mpr ⟨tl_X10_residue_r7, (List.forall_mem_append.mpr ⟨tl_X10_residue_r8, (List.forall_mem_append.mpr ⟨tl_X10_residue_r9, tl_X10_residue_r10⟩)⟩)⟩)⟩)⟩)⟩)⟩)⟩)⟩), tc_X10⟩), tc_X6⟩), tc_X1⟩), tc_X7⟩), tc_X3⟩), tc_X9⟩)⟩
set_option maxRecDepth 20000 in
theorem tv_X10_residue : ∀ w ∈ wsV RL 123 RX10 yX10_residue wsX10_residue, w ∈ lw_tbl := List.forall_mem_append.mpr ⟨(List.forall_mem_cons.mpr ⟨tw_1185, (List.forall_mem_cons.mpr ⟨tw_1186, (List.forall_mem_cons.mpr ⟨tw_1187, (List.forall_mem_cons.mpr ⟨tw_157, (fun _ h => absurd h List.not_mem_nil)⟩)⟩)⟩)⟩), tm_X10_residue⟩
set_option maxRecDepth 20000 in
theorem tg_X10_residue : GoodIn (wsV RL 123 RX10 yX10_residue wsX10_residue) (wsV RL 123 RX10 yX10_residue wsX10_residue) := goodIn_sub (fun _ h => h) (by decide +kernel)
set_option maxRecDepth 20000 in
theorem tm_X11_residue : ∀ w ∈ wsX11_residue, w ∈ lw_tbl := List.forall_mem_cons.mpr ⟨tw_1188, (List.forall_mem_append.mpr ⟨(List.forall_mem_append.mpr ⟨tl_X11_residue_r1, (List.forall_mem_append.mpr ⟨tl_X11_residue_r2, (List.forall_mem_append.mpr ⟨tl_X11_residue_r3, (List.forall_mem_append.mpr ⟨tl_X11_residue_r4, (List.forall_mem_append.mpr ⟨tl_X11_residue_r5, tl_X11_residue_r6⟩)⟩)⟩)⟩)⟩), tc_X11⟩)⟩
set_option maxRecDepth 20000 in
theorem tv_X11_residue : ∀ w ∈ wsV RL 126 RX11 yX11_residue wsX11_residue, w ∈ lw_tbl := List.forall_mem_append.mpr ⟨(List.forall_mem_cons.mpr ⟨tw_1189, (List.forall_mem_cons.mpr ⟨tw_1190, (List.forall_mem_cons.mpr ⟨tw_1191, (List.forall_mem_cons.mpr ⟨tw_144, (fun _ h => absurd h List.not_mem_nil)⟩)⟩)⟩)⟩), tm_X11_residue⟩
set_option maxRecDepth 20000 in
theorem tg_X11_residue : GoodIn (wsV RL 126 RX11 yX11_residue wsX11_residue) (wsV RL 126 RX11 yX11_residue wsX11_residue) := goodIn_sub (fun _ h => h) (by decide +kernel)
set_option maxRecDepth 20000 in
theorem tm_X10_image : ∀ w ∈ wsX10_image, w ∈ lw_tbl := List.forall_mem_cons.mpr ⟨tw_1192, (List.forall_mem_append.mpr ⟨(List.forall_mem_append.mpr ⟨(List.forall_mem_append.mpr ⟨(List.forall_mem_append.mpr ⟨(List.forall_mem_append.mpr ⟨(List.forall_mem_append.mpr ⟨tl_X10_image_r1, (List.forall_mem_append.mpr ⟨tl_X10_image_r2, tl_X10_image_r3⟩)⟩), tc_X10⟩), tc_X6⟩), tc_X1⟩), tc_X8⟩), tc_X3⟩)⟩
set_option maxRecDepth 20000 in
theorem tv_X10_image : ∀ w ∈ wsV RL 127 RX10 yX10_image wsX10_image, w ∈ lw_tbl := List.forall_mem_append.mpr ⟨(List.forall_mem_cons.mpr ⟨tw_1201, (List.forall_mem_cons.mpr ⟨tw_1202, (List.forall_mem_cons.mpr ⟨tw_1203, (List.forall_mem_cons.mpr ⟨tw_157, (fun _ h => absurd h List.not_mem_nil)⟩)⟩)⟩)⟩), tm_X10_image⟩
set_option maxRecDepth 20000 in
theorem tg_X10_image : GoodIn (wsV RL 127 RX10 yX10_image wsX10_image) (wsV RL 127 RX10 yX10_image wsX10_image) := goodIn_sub (fun _ h => h) (by decide +kernel)
set_option maxRecDepth 20000 in
theorem tm_X11_image : ∀ w ∈ wsX11_image, w ∈ lw_tbl := List.forall_mem_cons.mpr ⟨tw_1204, (List.forall_mem_append.mpr ⟨(List.forall_mem_cons.mpr ⟨tw_124, (List.forall_mem_cons.mpr ⟨tw_125, (List.forall_mem_cons.mpr ⟨tw_159, (List.forall_mem_cons.mpr ⟨tw_562, (List.forall_mem_cons.mpr ⟨tw_128, (List.forall_mem_cons.mpr ⟨tw_127, (List.forall_mem_cons.mpr ⟨tw_168, (List.forall_mem_cons.mpr ⟨tw_169, (List.forall_mem_cons.mpr ⟨tw_144, (List.forall_mem_cons.mpr ⟨tw_170, (List.forall_mem_cons.mpr ⟨tw_758, (List.forall_mem_cons.mpr ⟨tw_759, (List.forall_mem_cons.mpr ⟨tw_760, (List.forall_mem_cons.mpr ⟨tw_761, (fun _ h => absurd h List.not_mem_nil)⟩)⟩)⟩)⟩)⟩)⟩)⟩)⟩)⟩)⟩)⟩)⟩)⟩)⟩), tc_X11⟩)⟩
set_option maxRecDepth 20000 in
theorem tv_X11_image : ∀ w ∈ wsV RL 131 RX11 yX11_image wsX11_image, w ∈ lw_tbl := List.forall_mem_append.mpr ⟨(List.forall_mem_cons.mpr ⟨tw_1205, (List.forall_mem_cons.mpr ⟨tw_1206, (List.forall_mem_cons.mpr ⟨tw_1207, (List.forall_mem_cons.mpr ⟨tw_144, (fun _ h => absurd h List.not_mem_nil)⟩)⟩)⟩)⟩), tm_X11_image⟩
set_option maxRecDepth 20000 in
theorem tg_X11_image : GoodIn (wsV RL 131 RX11 yX11_image wsX11_image) (wsV RL 131 RX11 yX11_image wsX11_image) := goodIn_sub (fun _ h => h) (by decide +kernel)
set_option maxRecDepth 20000 in
theorem tm_X10_again : ∀ w ∈ wsX10_again, w ∈ lw_tbl := List.forall_mem_cons.mpr ⟨tw_1208, (List.forall_mem_append.mpr ⟨(List.forall_mem_append.mpr ⟨(List.forall_mem_append.mpr ⟨(List.forall_mem_append.mpr ⟨(List.forall_mem_append.mpr ⟨(List.forall_mem_append.mpr ⟨tl_X10_again_r1, tl_X10_again_r2⟩), tc_X10⟩), tc_X6⟩), tc_X1⟩), tc_X8⟩), tc_X2⟩)⟩
set_option maxRecDepth 20000 in
theorem tv_X10_again : ∀ w ∈ wsV RL 132 RX10 yX10_again wsX10_again, w ∈ lw_tbl := List.forall_mem_append.mpr ⟨(List.forall_mem_cons.mpr ⟨tw_1209, (List.forall_mem_cons.mpr ⟨tw_1210, (List.forall_mem_cons.mpr ⟨tw_1211, (List.forall_mem_cons.mpr ⟨tw_157, (fun _ h => absurd h List.not_mem_nil)⟩)⟩)⟩)⟩), tm_X10_again⟩
set_option maxRecDepth 20000 in
theorem tg_X10_again : GoodIn (wsV RL 132 RX10 yX10_again wsX10_again) (wsV RL 132 RX10 yX10_again wsX10_again) := goodIn_sub (fun _ h => h) (by decide +kernel)
set_option maxRecDepth 20000 in
theorem tm_X11_again : ∀ w ∈ wsX11_again, w ∈ lw_tbl := List.forall_mem_cons.mpr ⟨tw_1212, (List.forall_mem_append.mpr ⟨(List.forall_mem_cons.mpr ⟨tw_127, (List.forall_mem_cons.mpr ⟨tw_125, (List.forall_mem_cons.mpr ⟨tw_124, (List.forall_mem_cons.mpr ⟨tw_159, (List.forall_mem_cons.mpr ⟨tw_562, (List.forall_mem_cons.mpr ⟨tw_128, (List.forall_mem_cons.mpr ⟨tw_567, (List.forall_mem_cons.mpr ⟨tw_168, (List.forall_mem_cons.mpr ⟨tw_169, (List.forall_mem_cons.mpr ⟨tw_144, (List.forall_mem_cons.mpr ⟨tw_170, (List.forall_mem_cons.mpr ⟨tw_758, (List.forall_mem_cons.mpr ⟨tw_759, (List.forall_mem_cons.mpr ⟨tw_760, (List.forall_mem_cons.mpr ⟨tw_761, (fun _ h => absurd h List.not_mem_nil)⟩)⟩)⟩)⟩)⟩)⟩)⟩)⟩)⟩)⟩)⟩)⟩)⟩)⟩)⟩), tc_X11⟩)⟩
set_option maxRecDepth 20000 in
theorem tv_X11_again : ∀ w ∈ wsV RL 135 RX11 yX11_again wsX11_again, w ∈ lw_tbl := List.forall_mem_append.mpr ⟨(List.forall_mem_cons.mpr ⟨tw_1213, (List.forall_mem_cons.mpr ⟨tw_1214, (List.forall_mem_cons.mpr ⟨tw_1215, (List.forall_mem_cons.mpr ⟨tw_144, (fun _ h => absurd h List.not_mem_nil)⟩)⟩)⟩)⟩), tm_X11_again⟩
set_option maxRecDepth 20000 in
theorem tg_X11_again : GoodIn (wsV RL 135 RX11 yX11_again wsX11_again) (wsV RL 135 RX11 yX11_again wsX11_again) := goodIn_sub (fun _ h => h) (by decide +kernel)
