theorem q821 : Cond.constant "java/lang/Integer" 265 (1431655765 : Int32) ∈ GW := gw_of (gw_t (gw_4 (List.mem_of_getElem? (i := 101) (by decide +kernel)))) (by decide +kernel)
theorem q822 : Cond.constant "java/lang/Integer" 266 (858993459 : Int32) ∈ GW := gw_of (gw_t (gw_4 (List.mem_of_getElem? (i := 102) (by decide +kernel)))) (by decide +kernel)
theorem q823 : Cond.constant "java/lang/Integer" 267 (252645135 : Int32) ∈ GW := gw_of (gw_t (gw_4 (List.mem_of_getElem? (i := 103) (by decide +kernel)))) (by decide +kernel)
theorem q313 : Cond.fieldLink "DeskRings$Floor" 18 "DeskRings$Floor" "helped" "[I" ∈ GW := gw_of (gw_t (gw_2 (List.mem_of_getElem? (i := 73) (by decide +kernel)))) (by decide +kernel)
theorem fl_2_18 : FL "DeskRings$Floor" 18 2 9 (.array .int) true := ⟨R2, T2, 13, rfl, by decide, q313, by decide +kernel, rfl, rfl⟩
theorem q1092 : Cond.methodLink "DeskRings$Floor" 177 ⟨"java/lang/Math", "max", "(II)I"⟩ ∈ GW := gw_of (gw_t (gw_5 (List.mem_of_getElem? (i := 132) (by decide +kernel)))) (by decide +kernel)
theorem q1091 : Cond.code ⟨"DeskRings$Floor", "mostHelped", "()I"⟩ prog_4_method_15_code 3 (some .int) ∈ GW := gw_of (gw_t (gw_5 (List.mem_of_getElem? (i := 131) (by decide +kernel)))) (by decide +kernel)
theorem q8 : Cond.initialized "DeskRings$Floor" ∈ GW := gw_of (gw_t (gw_1 (List.mem_of_getElem? (i := 8) (by decide +kernel)))) (by decide +kernel)
theorem zk_X2_mostHelped : ZK Y_X2_mostHelped 0 := ⟨q1091, q8, ⟨by decide, by decide⟩, by decide +kernel⟩
theorem q1089 : Cond.instanceMethod ⟨"DeskRings$Floor", "mostHelped", "()I"⟩ ∈ GW := gw_of (gw_t (gw_5 (List.mem_of_getElem? (i := 129) (by decide +kernel)))) (by decide +kernel)
theorem q1090 : Cond.selects "DeskRings$Floor" ⟨"DeskRings$Floor", "mostHelped", "()I"⟩ ⟨"DeskRings$Floor", "mostHelped", "()I"⟩ ∈ GW := gw_of (gw_t (gw_5 (List.mem_of_getElem? (i := 130) (by decide +kernel)))) (by decide +kernel)
theorem zi_X2_mostHelped : Cond.instanceMethod Y_X2_mostHelped.1 ∈ GW ∧ Cond.selects Y_X2_mostHelped.1.cls Y_X2_mostHelped.1 Y_X2_mostHelped.1 ∈ GW := ⟨q1089, q1090⟩
theorem q1221 : Cond.methodLink "DeskRings$Floor" 180 ⟨"DeskRings$Floor", "mostHelped", "()I"⟩ ∈ GW := gw_of (gw_t (gw_6 (List.mem_of_getElem? (i := 21) (by decide +kernel)))) (by decide +kernel)
theorem q314 : Cond.fieldLink "DeskRings$Floor" 22 "DeskRings$Floor" "slips" "[I" ∈ GW := gw_of (gw_t (gw_2 (List.mem_of_getElem? (i := 74) (by decide +kernel)))) (by decide +kernel)
theorem fl_2_22 : FL "DeskRings$Floor" 22 2 10 (.array .int) true := ⟨R2, T2, 13, rfl, by decide, q314, by decide +kernel, rfl, rfl⟩
theorem q315 : Cond.fieldLink "DeskRings$Floor" 25 "DeskRings$Floor" "slipsRead" "[I" ∈ GW := gw_of (gw_t (gw_2 (List.mem_of_getElem? (i := 75) (by decide +kernel)))) (by decide +kernel)
theorem fl_2_25 : FL "DeskRings$Floor" 25 2 11 (.array .int) true := ⟨R2, T2, 13, rfl, by decide, q315, by decide +kernel, rfl, rfl⟩
theorem q307 : Cond.fieldLink "DeskRings$Floor" 12 "DeskRings$Floor" "office" "LDeskRings$Office;" ∈ GW := gw_of (gw_t (gw_2 (List.mem_of_getElem? (i := 67) (by decide +kernel)))) (by decide +kernel)
theorem fl_2_12 : FL "DeskRings$Floor" 12 2 3 (.object "DeskRings$Office") false := ⟨R2, T2, 13, rfl, by decide, q307, by decide +kernel, rfl, rfl⟩
theorem q68 : Cond.fieldLink "DeskRings$Floor" 168 "DeskRings$Office" "machine" "I" ∈ GW := gw_of (gw_t (gw_1 (List.mem_of_getElem? (i := 68) (by decide +kernel)))) (by decide +kernel)
theorem fl_2_168 : FL "DeskRings$Floor" 168 5 3 .int false := ⟨R5, T5, 15, rfl, by decide, q68, by decide +kernel, rfl, rfl⟩
theorem q309 : Cond.fieldLink "DeskRings$Floor" 46 "DeskRings$Floor" "gone" "I" ∈ GW := gw_of (gw_t (gw_2 (List.mem_of_getElem? (i := 69) (by decide +kernel)))) (by decide +kernel)
theorem fl_2_46 : FL "DeskRings$Floor" 46 2 5 .int false := ⟨R2, T2, 13, rfl, by decide, q309, by decide +kernel, rfl, rfl⟩
theorem q93 : Cond.fieldLink "DeskRings$Floor" 171 "DeskRings$Office" "patience" "[I" ∈ GW := gw_of (gw_t (gw_1 (List.mem_of_getElem? (i := 93) (by decide +kernel)))) (by decide +kernel)
theorem fl_2_171 : FL "DeskRings$Floor" 171 5 12 (.array .int) true := ⟨R5, T5, 15, rfl, by decide, q93, by decide +kernel, rfl, rfl⟩
theorem q310 : Cond.fieldLink "DeskRings$Floor" 49 "DeskRings$Floor" "took" "I" ∈ GW := gw_of (gw_t (gw_2 (List.mem_of_getElem? (i := 70) (by decide +kernel)))) (by decide +kernel)
theorem fl_2_49 : FL "DeskRings$Floor" 49 2 6 .int false := ⟨R2, T2, 13, rfl, by decide, q310, by decide +kernel, rfl, rfl⟩
theorem q69 : Cond.fieldLink "DeskRings$Office" 58 "DeskRings$Office" "fade" "I" ∈ GW := gw_of (gw_t (gw_1 (List.mem_of_getElem? (i := 69) (by decide +kernel)))) (by decide +kernel)
theorem fl_5_58 : FL "DeskRings$Office" 58 5 4 .int false := ⟨R5, T5, 15, rfl, by decide, q69, by decide +kernel, rfl, rfl⟩
theorem q817 : Cond.methodLink "DeskRings$Office" 94 ⟨"java/lang/Math", "max", "(II)I"⟩ ∈ GW := gw_of (gw_t (gw_4 (List.mem_of_getElem? (i := 97) (by decide +kernel)))) (by decide +kernel)
theorem q92 : Cond.fieldLink "DeskRings$Office" 33 "DeskRings$Office" "patience" "[I" ∈ GW := gw_of (gw_t (gw_1 (List.mem_of_getElem? (i := 92) (by decide +kernel)))) (by decide +kernel)
theorem fl_5_33 : FL "DeskRings$Office" 33 5 12 (.array .int) true := ⟨R5, T5, 15, rfl, by decide, q92, by decide +kernel, rfl, rfl⟩
theorem q66 : Cond.fieldLink "DeskRings$Office" 55 "DeskRings$Office" "machine" "I" ∈ GW := gw_of (gw_t (gw_1 (List.mem_of_getElem? (i := 66) (by decide +kernel)))) (by decide +kernel)
theorem fl_5_55 : FL "DeskRings$Office" 55 5 3 .int false := ⟨R5, T5, 15, rfl, by decide, q66, by decide +kernel, rfl, rfl⟩
theorem q316 : Cond.fieldLink "DeskRings$Floor" 31 "DeskRings$Floor" "lift" "LDeskRings$Lift;" ∈ GW := gw_of (gw_t (gw_2 (List.mem_of_getElem? (i := 76) (by decide +kernel)))) (by decide +kernel)
theorem fl_2_31 : FL "DeskRings$Floor" 31 2 12 (.object "DeskRings$Lift") true := ⟨R2, T2, 13, rfl, by decide, q316, by decide +kernel, rfl, rfl⟩
theorem q278 : Cond.fieldLink "DeskRings$Floor" 142 "DeskRings$Lift" "ring" "I" ∈ GW := gw_of (gw_t (gw_2 (List.mem_of_getElem? (i := 38) (by decide +kernel)))) (by decide +kernel)
theorem fl_2_142 : FL "DeskRings$Floor" 142 3 1 .int false := ⟨R3, T3, 3, rfl, by decide, q278, by decide +kernel, rfl, rfl⟩
theorem q808 : Cond.code ⟨"DeskRings$Office", "inTime", "(II)Z"⟩ prog_7_method_20_code 3 (some .boolean) ∈ GW := gw_of (gw_t (gw_4 (List.mem_of_getElem? (i := 88) (by decide +kernel)))) (by decide +kernel)
theorem q3 : Cond.initialized "DeskRings$Office" ∈ GW := gw_of (gw_t (gw_1 (List.mem_of_getElem? (i := 3) (by decide +kernel)))) (by decide +kernel)
theorem zk_X5_inTime : ZK Y_X5_inTime 2 := ⟨q808, q3, ⟨by decide, by decide⟩, by decide +kernel⟩
theorem q806 : Cond.instanceMethod ⟨"DeskRings$Office", "inTime", "(II)Z"⟩ ∈ GW := gw_of (gw_t (gw_4 (List.mem_of_getElem? (i := 86) (by decide +kernel)))) (by decide +kernel)
theorem q807 : Cond.selects "DeskRings$Office" ⟨"DeskRings$Office", "inTime", "(II)Z"⟩ ⟨"DeskRings$Office", "inTime", "(II)Z"⟩ ∈ GW := gw_of (gw_t (gw_4 (List.mem_of_getElem? (i := 87) (by decide +kernel)))) (by decide +kernel)
theorem zi_X5_inTime : Cond.instanceMethod Y_X5_inTime.1 ∈ GW ∧ Cond.selects Y_X5_inTime.1.cls Y_X5_inTime.1 Y_X5_inTime.1 ∈ GW := ⟨q806, q807⟩
theorem q812 : Cond.code ⟨"DeskRings$Floor", "miss", "(I)V"⟩ prog_4_method_12_code 2 (none : Option Jvm.ClassFile.FieldType) ∈ GW := gw_of (gw_t (gw_4 (List.mem_of_getElem? (i := 92) (by decide +kernel)))) (by decide +kernel)
theorem zk_X2_miss : ZK Y_X2_miss 1 := ⟨q812, q8, ⟨by decide, by decide⟩, by decide +kernel⟩
theorem q811 : Cond.instanceMethod ⟨"DeskRings$Floor", "miss", "(I)V"⟩ ∈ GW := gw_of (gw_t (gw_4 (List.mem_of_getElem? (i := 91) (by decide +kernel)))) (by decide +kernel)
theorem qs19 : Cond.selects "DeskRings$Floor" ⟨"DeskRings$Floor", "miss", "(I)V"⟩ ⟨"DeskRings$Floor", "miss", "(I)V"⟩ ∈ GW := gw_of (List.mem_append_left _ (List.mem_of_getElem? (i := 19) (by decide +kernel))) (by decide +kernel)
theorem zi_X2_miss : Cond.instanceMethod Y_X2_miss.1 ∈ GW ∧ Cond.selects Y_X2_miss.1.cls Y_X2_miss.1 Y_X2_miss.1 ∈ GW := ⟨q811, qs19⟩
theorem q809 : Cond.methodLink "DeskRings$Floor" 148 ⟨"DeskRings$Floor", "miss", "(I)V"⟩ ∈ GW := gw_of (gw_t (gw_4 (List.mem_of_getElem? (i := 89) (by decide +kernel)))) (by decide +kernel)
theorem q299 : Cond.fieldLink "DeskRings$Floor" 43 "DeskRings$Floor" "answered" "I" ∈ GW := gw_of (gw_t (gw_2 (List.mem_of_getElem? (i := 59) (by decide +kernel)))) (by decide +kernel)
theorem fl_2_43 : FL "DeskRings$Floor" 43 2 0 .int false := ⟨R2, T2, 13, rfl, by decide, q299, by decide +kernel, rfl, rfl⟩
theorem q301 : Cond.fieldLink "DeskRings$Floor" 52 "DeskRings$Floor" "got" "I" ∈ GW := gw_of (gw_t (gw_2 (List.mem_of_getElem? (i := 61) (by decide +kernel)))) (by decide +kernel)
theorem fl_2_52 : FL "DeskRings$Floor" 52 2 1 .int false := ⟨R2, T2, 13, rfl, by decide, q301, by decide +kernel, rfl, rfl⟩
theorem q90 : Cond.fieldLink "DeskRings$Floor" 151 "DeskRings$Office" "worth" "[I" ∈ GW := gw_of (gw_t (gw_1 (List.mem_of_getElem? (i := 90) (by decide +kernel)))) (by decide +kernel)
theorem fl_2_151 : FL "DeskRings$Floor" 151 5 11 (.array .int) true := ⟨R5, T5, 15, rfl, by decide, q90, by decide +kernel, rfl, rfl⟩
theorem q816 : Cond.code ⟨"DeskRings$Office", "faded", "(II)I"⟩ prog_7_method_19_code 3 (some .int) ∈ GW := gw_of (gw_t (gw_4 (List.mem_of_getElem? (i := 96) (by decide +kernel)))) (by decide +kernel)
theorem zk_X5_faded : ZK Y_X5_faded 2 := ⟨q816, q3, ⟨by decide, by decide⟩, by decide +kernel⟩
theorem q814 : Cond.instanceMethod ⟨"DeskRings$Office", "faded", "(II)I"⟩ ∈ GW := gw_of (gw_t (gw_4 (List.mem_of_getElem? (i := 94) (by decide +kernel)))) (by decide +kernel)
theorem q815 : Cond.selects "DeskRings$Office" ⟨"DeskRings$Office", "faded", "(II)I"⟩ ⟨"DeskRings$Office", "faded", "(II)I"⟩ ∈ GW := gw_of (gw_t (gw_4 (List.mem_of_getElem? (i := 95) (by decide +kernel)))) (by decide +kernel)
theorem zi_X5_faded : Cond.instanceMethod Y_X5_faded.1 ∈ GW ∧ Cond.selects Y_X5_faded.1.cls Y_X5_faded.1 Y_X5_faded.1 ∈ GW := ⟨q814, q815⟩
theorem q280 : Cond.fieldLink "DeskRings$Floor" 157 "DeskRings$Lift" "tied" "I" ∈ GW := gw_of (gw_t (gw_2 (List.mem_of_getElem? (i := 40) (by decide +kernel)))) (by decide +kernel)
theorem fl_2_157 : FL "DeskRings$Floor" 157 3 2 .int false := ⟨R3, T3, 3, rfl, by decide, q280, by decide +kernel, rfl, rfl⟩
theorem q820 : Cond.code ⟨"java/lang/Integer", "bitCount", "(I)I"⟩ prog_15_method_49_code 1 (some .int) ∈ GW := gw_of (gw_t (gw_4 (List.mem_of_getElem? (i := 100) (by decide +kernel)))) (by decide +kernel)
theorem q20 : Cond.initialized "java/lang/Integer" ∈ GW := gw_of (gw_t (gw_1 (List.mem_of_getElem? (i := 20) (by decide +kernel)))) (by decide +kernel)
theorem zk_J6_bitCount_0f7a4 : ZK Y_J6_bitCount_0f7a4 1 := ⟨q820, q20, ⟨by decide, by decide⟩, by decide +kernel⟩
theorem q87 : Cond.fieldLink "DeskRings$Floor" 107 "DeskRings$Office" "callDesk" "[I" ∈ GW := gw_of (gw_t (gw_1 (List.mem_of_getElem? (i := 87) (by decide +kernel)))) (by decide +kernel)
theorem fl_2_107 : FL "DeskRings$Floor" 107 5 10 (.array .int) true := ⟨R5, T5, 15, rfl, by decide, q87, by decide +kernel, rfl, rfl⟩
theorem q271 : Cond.fieldLink "DeskRings$Floor" 104 "DeskRings$Lift" "who" "I" ∈ GW := gw_of (gw_t (gw_2 (List.mem_of_getElem? (i := 31) (by decide +kernel)))) (by decide +kernel)
theorem fl_2_104 : FL "DeskRings$Floor" 104 3 0 .int false := ⟨R3, T3, 3, rfl, by decide, q271, by decide +kernel, rfl, rfl⟩
theorem q304 : Cond.fieldLink "DeskRings$Floor" 55 "DeskRings$Floor" "paid" "I" ∈ GW := gw_of (gw_t (gw_2 (List.mem_of_getElem? (i := 64) (by decide +kernel)))) (by decide +kernel)
theorem fl_2_55 : FL "DeskRings$Floor" 55 2 2 .int false := ⟨R2, T2, 13, rfl, by decide, q304, by decide +kernel, rfl, rfl⟩
theorem q80 : Cond.fieldLink "DeskRings$Floor" 165 "DeskRings$Office" "cost" "[I" ∈ GW := gw_of (gw_t (gw_1 (List.mem_of_getElem? (i := 80) (by decide +kernel)))) (by decide +kernel)
theorem fl_2_165 : FL "DeskRings$Floor" 165 5 8 (.array .int) true := ⟨R5, T5, 15, rfl, by decide, q80, by decide +kernel, rfl, rfl⟩
theorem q311 : Cond.fieldLink "DeskRings$Floor" 58 "DeskRings$Floor" "clashes" "I" ∈ GW := gw_of (gw_t (gw_2 (List.mem_of_getElem? (i := 71) (by decide +kernel)))) (by decide +kernel)
theorem fl_2_58 : FL "DeskRings$Floor" 58 2 7 .int false := ⟨R2, T2, 13, rfl, by decide, q311, by decide +kernel, rfl, rfl⟩
theorem q818 : Cond.methodLink "DeskRings$Floor" 160 ⟨"java/lang/Integer", "bitCount", "(I)I"⟩ ∈ GW := gw_of (gw_t (gw_4 (List.mem_of_getElem? (i := 98) (by decide +kernel)))) (by decide +kernel)
theorem q819 : Cond.static ⟨"java/lang/Integer", "bitCount", "(I)I"⟩ ∈ GW := gw_of (gw_t (gw_4 (List.mem_of_getElem? (i := 99) (by decide +kernel)))) (by decide +kernel)
theorem q813 : Cond.methodLink "DeskRings$Floor" 154 ⟨"DeskRings$Office", "faded", "(II)I"⟩ ∈ GW := gw_of (gw_t (gw_4 (List.mem_of_getElem? (i := 93) (by decide +kernel)))) (by decide +kernel)
theorem q805 : Cond.methodLink "DeskRings$Floor" 145 ⟨"DeskRings$Office", "inTime", "(II)Z"⟩ ∈ GW := gw_of (gw_t (gw_4 (List.mem_of_getElem? (i := 85) (by decide +kernel)))) (by decide +kernel)
theorem q268 : Cond.fieldLink "DeskRings$Lift" 9 "DeskRings$Lift" "who" "I" ∈ GW := gw_of (gw_t (gw_2 (List.mem_of_getElem? (i := 28) (by decide +kernel)))) (by decide +kernel)
theorem fl_3_9 : FL "DeskRings$Lift" 9 3 0 .int false := ⟨R3, T3, 3, rfl, by decide, q268, by decide +kernel, rfl, rfl⟩
theorem q273 : Cond.fieldLink "DeskRings$Lift" 15 "DeskRings$Lift" "ring" "I" ∈ GW := gw_of (gw_t (gw_2 (List.mem_of_getElem? (i := 33) (by decide +kernel)))) (by decide +kernel)
theorem fl_3_15 : FL "DeskRings$Lift" 15 3 1 .int false := ⟨R3, T3, 3, rfl, by decide, q273, by decide +kernel, rfl, rfl⟩
theorem q279 : Cond.fieldLink "DeskRings$Lift" 18 "DeskRings$Lift" "tied" "I" ∈ GW := gw_of (gw_t (gw_2 (List.mem_of_getElem? (i := 39) (by decide +kernel)))) (by decide +kernel)
theorem fl_3_18 : FL "DeskRings$Lift" 18 3 2 .int false := ⟨R3, T3, 3, rfl, by decide, q279, by decide +kernel, rfl, rfl⟩
theorem q98 : Cond.fieldLink "DeskRings$Office" 39 "DeskRings$Office" "gaps" "[I" ∈ GW := gw_of (gw_t (gw_1 (List.mem_of_getElem? (i := 98) (by decide +kernel)))) (by decide +kernel)
theorem fl_5_39 : FL "DeskRings$Office" 39 5 14 (.array .int) true := ⟨R5, T5, 15, rfl, by decide, q98, by decide +kernel, rfl, rfl⟩
theorem q793 : Cond.code ⟨"DeskRings$Office", "gap", "(II)I"⟩ prog_7_method_16_code 3 (some .int) ∈ GW := gw_of (gw_t (gw_4 (List.mem_of_getElem? (i := 73) (by decide +kernel)))) (by decide +kernel)
theorem zk_X5_gap : ZK Y_X5_gap 2 := ⟨q793, q3, ⟨by decide, by decide⟩, by decide +kernel⟩
theorem q791 : Cond.instanceMethod ⟨"DeskRings$Office", "gap", "(II)I"⟩ ∈ GW := gw_of (gw_t (gw_4 (List.mem_of_getElem? (i := 71) (by decide +kernel)))) (by decide +kernel)
theorem q792 : Cond.selects "DeskRings$Office" ⟨"DeskRings$Office", "gap", "(II)I"⟩ ⟨"DeskRings$Office", "gap", "(II)I"⟩ ∈ GW := gw_of (gw_t (gw_4 (List.mem_of_getElem? (i := 72) (by decide +kernel)))) (by decide +kernel)
theorem zi_X5_gap : Cond.instanceMethod Y_X5_gap.1 ∈ GW ∧ Cond.selects Y_X5_gap.1.cls Y_X5_gap.1 Y_X5_gap.1 ∈ GW := ⟨q791, q792⟩
theorem q790 : Cond.methodLink "DeskRings$Lift" 48 ⟨"DeskRings$Office", "gap", "(II)I"⟩ ∈ GW := gw_of (gw_t (gw_4 (List.mem_of_getElem? (i := 70) (by decide +kernel)))) (by decide +kernel)
theorem q50 : Cond.fieldLink "DeskRings$Office" 45 "DeskRings$Office" "desks" "I" ∈ GW := gw_of (gw_t (gw_1 (List.mem_of_getElem? (i := 50) (by decide +kernel)))) (by decide +kernel)
theorem fl_5_45 : FL "DeskRings$Office" 45 5 0 .int false := ⟨R5, T5, 15, rfl, by decide, q50, by decide +kernel, rfl, rfl⟩
theorem q77 : Cond.fieldLink "DeskRings$Lift" 52 "DeskRings$Office" "rings" "[I" ∈ GW := gw_of (gw_t (gw_1 (List.mem_of_getElem? (i := 77) (by decide +kernel)))) (by decide +kernel)
theorem fl_3_52 : FL "DeskRings$Lift" 52 5 7 (.array .int) true := ⟨R5, T5, 15, rfl, by decide, q77, by decide +kernel, rfl, rfl⟩
theorem q74 : Cond.fieldLink "DeskRings$Lift" 45 "DeskRings$Office" "kind" "[I" ∈ GW := gw_of (gw_t (gw_1 (List.mem_of_getElem? (i := 74) (by decide +kernel)))) (by decide +kernel)
theorem fl_3_45 : FL "DeskRings$Lift" 45 5 5 (.array .int) true := ⟨R5, T5, 15, rfl, by decide, q74, by decide +kernel, rfl, rfl⟩
theorem q800 : Cond.code ⟨"DeskRings$Office", "nearestGap", "(II)I"⟩ prog_7_method_18_code 6 (some .int) ∈ GW := gw_of (gw_t (gw_4 (List.mem_of_getElem? (i := 80) (by decide +kernel)))) (by decide +kernel)
theorem zk_X5_nearestGap : ZK Y_X5_nearestGap 2 := ⟨q800, q3, ⟨by decide, by decide⟩, by decide +kernel⟩
theorem q798 : Cond.instanceMethod ⟨"DeskRings$Office", "nearestGap", "(II)I"⟩ ∈ GW := gw_of (gw_t (gw_4 (List.mem_of_getElem? (i := 78) (by decide +kernel)))) (by decide +kernel)
theorem q799 : Cond.selects "DeskRings$Office" ⟨"DeskRings$Office", "nearestGap", "(II)I"⟩ ⟨"DeskRings$Office", "nearestGap", "(II)I"⟩ ∈ GW := gw_of (gw_t (gw_4 (List.mem_of_getElem? (i := 79) (by decide +kernel)))) (by decide +kernel)
theorem zi_X5_nearestGap : Cond.instanceMethod Y_X5_nearestGap.1 ∈ GW ∧ Cond.selects Y_X5_nearestGap.1.cls Y_X5_nearestGap.1 Y_X5_nearestGap.1 ∈ GW := ⟨q798, q799⟩
theorem q797 : Cond.methodLink "DeskRings$Lift" 55 ⟨"DeskRings$Office", "nearestGap", "(II)I"⟩ ∈ GW := gw_of (gw_t (gw_4 (List.mem_of_getElem? (i := 77) (by decide +kernel)))) (by decide +kernel)
theorem q785 : Cond.code ⟨"DeskRings$Lift", "clear", "()V"⟩ prog_5_method_2_code 1 (none : Option Jvm.ClassFile.FieldType) ∈ GW := gw_of (gw_t (gw_4 (List.mem_of_getElem? (i := 65) (by decide +kernel)))) (by decide +kernel)
theorem q7 : Cond.initialized "DeskRings$Lift" ∈ GW := gw_of (gw_t (gw_1 (List.mem_of_getElem? (i := 7) (by decide +kernel)))) (by decide +kernel)
theorem zk_X3_clear : ZK Y_X3_clear 0 := ⟨q785, q7, ⟨by decide, by decide⟩, by decide +kernel⟩
theorem q784 : Cond.instanceMethod ⟨"DeskRings$Lift", "clear", "()V"⟩ ∈ GW := gw_of (gw_t (gw_4 (List.mem_of_getElem? (i := 64) (by decide +kernel)))) (by decide +kernel)
theorem qs16 : Cond.selects "DeskRings$Lift" ⟨"DeskRings$Lift", "clear", "()V"⟩ ⟨"DeskRings$Lift", "clear", "()V"⟩ ∈ GW := gw_of (List.mem_append_left _ (List.mem_of_getElem? (i := 16) (by decide +kernel))) (by decide +kernel)
theorem zi_X3_clear : Cond.instanceMethod Y_X3_clear.1 ∈ GW ∧ Cond.selects Y_X3_clear.1.cls Y_X3_clear.1 Y_X3_clear.1 ∈ GW := ⟨q784, qs16⟩
theorem q95 : Cond.fieldLink "DeskRings$Lift" 28 "DeskRings$Office" "hearers" "[I" ∈ GW := gw_of (gw_t (gw_1 (List.mem_of_getElem? (i := 95) (by decide +kernel)))) (by decide +kernel)
theorem fl_3_28 : FL "DeskRings$Lift" 28 5 13 (.array .int) true := ⟨R5, T5, 15, rfl, by decide, q95, by decide +kernel, rfl, rfl⟩
theorem q55 : Cond.fieldLink "DeskRings$Lift" 34 "DeskRings$Office" "desks" "I" ∈ GW := gw_of (gw_t (gw_1 (List.mem_of_getElem? (i := 55) (by decide +kernel)))) (by decide +kernel)
theorem fl_3_34 : FL "DeskRings$Lift" 34 5 0 .int false := ⟨R5, T5, 15, rfl, by decide, q55, by decide +kernel, rfl, rfl⟩
theorem q796 : Cond.code ⟨"DeskRings$Lift", "ringOf", "(LDeskRings$Office;IIII)I"⟩ prog_5_method_7_code 6 (some .int) ∈ GW := gw_of (gw_t (gw_4 (List.mem_of_getElem? (i := 76) (by decide +kernel)))) (by decide +kernel)
theorem zk_X3_ringOf : ZK Y_X3_ringOf 5 := ⟨q796, q7, ⟨by decide, by decide⟩, by decide +kernel⟩
theorem q789 : Cond.code ⟨"DeskRings$Lift", "offer", "(LDeskRings$Office;III)V"⟩ prog_5_method_6_code 5 (none : Option Jvm.ClassFile.FieldType) ∈ GW := gw_of (gw_t (gw_4 (List.mem_of_getElem? (i := 69) (by decide +kernel)))) (by decide +kernel)
theorem zk_X3_offer : ZK Y_X3_offer 4 := ⟨q789, q7, ⟨by decide, by decide⟩, by decide +kernel⟩
theorem q788 : Cond.instanceMethod ⟨"DeskRings$Lift", "offer", "(LDeskRings$Office;III)V"⟩ ∈ GW := gw_of (gw_t (gw_4 (List.mem_of_getElem? (i := 68) (by decide +kernel)))) (by decide +kernel)
theorem qs17 : Cond.selects "DeskRings$Lift" ⟨"DeskRings$Lift", "offer", "(LDeskRings$Office;III)V"⟩ ⟨"DeskRings$Lift", "offer", "(LDeskRings$Office;III)V"⟩ ∈ GW := gw_of (List.mem_append_left _ (List.mem_of_getElem? (i := 17) (by decide +kernel))) (by decide +kernel)
theorem zi_X3_offer : Cond.instanceMethod Y_X3_offer.1 ∈ GW ∧ Cond.selects Y_X3_offer.1.cls Y_X3_offer.1 Y_X3_offer.1 ∈ GW := ⟨q788, qs17⟩
theorem q786 : Cond.methodLink "DeskRings$Lift" 24 ⟨"DeskRings$Lift", "offer", "(LDeskRings$Office;III)V"⟩ ∈ GW := gw_of (gw_t (gw_4 (List.mem_of_getElem? (i := 66) (by decide +kernel)))) (by decide +kernel)
theorem q794 : Cond.methodLink "DeskRings$Lift" 37 ⟨"DeskRings$Lift", "ringOf", "(LDeskRings$Office;IIII)I"⟩ ∈ GW := gw_of (gw_t (gw_4 (List.mem_of_getElem? (i := 74) (by decide +kernel)))) (by decide +kernel)
theorem q795 : Cond.static ⟨"DeskRings$Lift", "ringOf", "(LDeskRings$Office;IIII)I"⟩ ∈ GW := gw_of (gw_t (gw_4 (List.mem_of_getElem? (i := 75) (by decide +kernel)))) (by decide +kernel)
theorem q782 : Cond.methodLink "DeskRings$Lift" 21 ⟨"DeskRings$Lift", "clear", "()V"⟩ ∈ GW := gw_of (gw_t (gw_4 (List.mem_of_getElem? (i := 62) (by decide +kernel)))) (by decide +kernel)
theorem q59 : Cond.fieldLink "DeskRings$Office" 49 "DeskRings$Office" "calls" "I" ∈ GW := gw_of (gw_t (gw_1 (List.mem_of_getElem? (i := 59) (by decide +kernel)))) (by decide +kernel)
theorem fl_5_49 : FL "DeskRings$Office" 49 5 1 .int false := ⟨R5, T5, 15, rfl, by decide, q59, by decide +kernel, rfl, rfl⟩
theorem q735 : Cond.code ⟨"DeskRings$Office", "hasCall", "(I)Z"⟩ prog_7_method_13_code 2 (some .boolean) ∈ GW := gw_of (gw_t (gw_4 (List.mem_of_getElem? (i := 15) (by decide +kernel)))) (by decide +kernel)
theorem zk_X5_hasCall : ZK Y_X5_hasCall 1 := ⟨q735, q3, ⟨by decide, by decide⟩, by decide +kernel⟩
theorem q733 : Cond.instanceMethod ⟨"DeskRings$Office", "hasCall", "(I)Z"⟩ ∈ GW := gw_of (gw_t (gw_4 (List.mem_of_getElem? (i := 13) (by decide +kernel)))) (by decide +kernel)
theorem q734 : Cond.selects "DeskRings$Office" ⟨"DeskRings$Office", "hasCall", "(I)Z"⟩ ⟨"DeskRings$Office", "hasCall", "(I)Z"⟩ ∈ GW := gw_of (gw_t (gw_4 (List.mem_of_getElem? (i := 14) (by decide +kernel)))) (by decide +kernel)
theorem zi_X5_hasCall : Cond.instanceMethod Y_X5_hasCall.1 ∈ GW ∧ Cond.selects Y_X5_hasCall.1.cls Y_X5_hasCall.1 Y_X5_hasCall.1 ∈ GW := ⟨q733, q734⟩
theorem q308 : Cond.fieldLink "DeskRings$Floor" 39 "DeskRings$Floor" "there" "I" ∈ GW := gw_of (gw_t (gw_2 (List.mem_of_getElem? (i := 68) (by decide +kernel)))) (by decide +kernel)
theorem fl_2_39 : FL "DeskRings$Floor" 39 2 4 .int false := ⟨R2, T2, 13, rfl, by decide, q308, by decide +kernel, rfl, rfl⟩
theorem q781 : Cond.code ⟨"DeskRings$Lift", "asTold", "(LDeskRings$Office;II[I)V"⟩ prog_5_method_3_code 7 (none : Option Jvm.ClassFile.FieldType) ∈ GW := gw_of (gw_t (gw_4 (List.mem_of_getElem? (i := 61) (by decide +kernel)))) (by decide +kernel)
theorem zk_X3_asTold : ZK Y_X3_asTold 4 := ⟨q781, q7, ⟨by decide, by decide⟩, by decide +kernel⟩
theorem q779 : Cond.instanceMethod ⟨"DeskRings$Lift", "asTold", "(LDeskRings$Office;II[I)V"⟩ ∈ GW := gw_of (gw_t (gw_4 (List.mem_of_getElem? (i := 59) (by decide +kernel)))) (by decide +kernel)
theorem q780 : Cond.selects "DeskRings$Lift" ⟨"DeskRings$Lift", "asTold", "(LDeskRings$Office;II[I)V"⟩ ⟨"DeskRings$Lift", "asTold", "(LDeskRings$Office;II[I)V"⟩ ∈ GW := gw_of (gw_t (gw_4 (List.mem_of_getElem? (i := 60) (by decide +kernel)))) (by decide +kernel)
theorem zi_X3_asTold : Cond.instanceMethod Y_X3_asTold.1 ∈ GW ∧ Cond.selects Y_X3_asTold.1.cls Y_X3_asTold.1 Y_X3_asTold.1 ∈ GW := ⟨q779, q780⟩
theorem q804 : Cond.code ⟨"DeskRings$Floor", "settle", "(I)V"⟩ prog_4_method_11_code 3 (none : Option Jvm.ClassFile.FieldType) ∈ GW := gw_of (gw_t (gw_4 (List.mem_of_getElem? (i := 84) (by decide +kernel)))) (by decide +kernel)
theorem zk_X2_settle : ZK Y_X2_settle 1 := ⟨q804, q8, ⟨by decide, by decide⟩, by decide +kernel⟩
theorem q803 : Cond.instanceMethod ⟨"DeskRings$Floor", "settle", "(I)V"⟩ ∈ GW := gw_of (gw_t (gw_4 (List.mem_of_getElem? (i := 83) (by decide +kernel)))) (by decide +kernel)
theorem qs18 : Cond.selects "DeskRings$Floor" ⟨"DeskRings$Floor", "settle", "(I)V"⟩ ⟨"DeskRings$Floor", "settle", "(I)V"⟩ ∈ GW := gw_of (List.mem_append_left _ (List.mem_of_getElem? (i := 18) (by decide +kernel))) (by decide +kernel)
theorem zi_X2_settle : Cond.instanceMethod Y_X2_settle.1 ∈ GW ∧ Cond.selects Y_X2_settle.1.cls Y_X2_settle.1 Y_X2_settle.1 ∈ GW := ⟨q803, qs18⟩
theorem q801 : Cond.methodLink "DeskRings$Floor" 125 ⟨"DeskRings$Floor", "settle", "(I)V"⟩ ∈ GW := gw_of (gw_t (gw_4 (List.mem_of_getElem? (i := 81) (by decide +kernel)))) (by decide +kernel)
theorem q778 : Cond.methodLink "DeskRings$Floor" 113 ⟨"DeskRings$Lift", "asTold", "(LDeskRings$Office;II[I)V"⟩ ∈ GW := gw_of (gw_t (gw_4 (List.mem_of_getElem? (i := 58) (by decide +kernel)))) (by decide +kernel)
theorem q777 : Cond.methodLink "DeskRings$Floor" 139 ⟨"DeskRings$Office", "hasCall", "(I)Z"⟩ ∈ GW := gw_of (gw_t (gw_4 (List.mem_of_getElem? (i := 57) (by decide +kernel)))) (by decide +kernel)
theorem q776 : Cond.code ⟨"DeskRings$Floor", "ringCall", "(I)Z"⟩ prog_4_method_9_code 2 (some .boolean) ∈ GW := gw_of (gw_t (gw_4 (List.mem_of_getElem? (i := 56) (by decide +kernel)))) (by decide +kernel)
theorem zk_X2_ringCall : ZK Y_X2_ringCall 1 := ⟨q776, q8, ⟨by decide, by decide⟩, by decide +kernel⟩
theorem q775 : Cond.instanceMethod ⟨"DeskRings$Floor", "ringCall", "(I)Z"⟩ ∈ GW := gw_of (gw_t (gw_4 (List.mem_of_getElem? (i := 55) (by decide +kernel)))) (by decide +kernel)
theorem qs15 : Cond.selects "DeskRings$Floor" ⟨"DeskRings$Floor", "ringCall", "(I)Z"⟩ ⟨"DeskRings$Floor", "ringCall", "(I)Z"⟩ ∈ GW := gw_of (List.mem_append_left _ (List.mem_of_getElem? (i := 15) (by decide +kernel))) (by decide +kernel)
theorem zi_X2_ringCall : Cond.instanceMethod Y_X2_ringCall.1 ∈ GW ∧ Cond.selects Y_X2_ringCall.1.cls Y_X2_ringCall.1 Y_X2_ringCall.1 ∈ GW := ⟨q775, qs15⟩
theorem q773 : Cond.methodLink "DeskRings$Floor" 129 ⟨"DeskRings$Floor", "ringCall", "(I)Z"⟩ ∈ GW := gw_of (gw_t (gw_4 (List.mem_of_getElem? (i := 53) (by decide +kernel)))) (by decide +kernel)
theorem q683 : Cond.code ⟨"DeskRings$Office", "hasDesk", "(I)Z"⟩ prog_7_method_12_code 2 (some .boolean) ∈ GW := gw_of (gw_t (gw_3 (List.mem_of_getElem? (i := 203) (by decide +kernel)))) (by decide +kernel)
theorem zk_X5_hasDesk : ZK Y_X5_hasDesk 1 := ⟨q683, q3, ⟨by decide, by decide⟩, by decide +kernel⟩
theorem q681 : Cond.instanceMethod ⟨"DeskRings$Office", "hasDesk", "(I)Z"⟩ ∈ GW := gw_of (gw_t (gw_3 (List.mem_of_getElem? (i := 201) (by decide +kernel)))) (by decide +kernel)
theorem q682 : Cond.selects "DeskRings$Office" ⟨"DeskRings$Office", "hasDesk", "(I)Z"⟩ ⟨"DeskRings$Office", "hasDesk", "(I)Z"⟩ ∈ GW := gw_of (gw_t (gw_3 (List.mem_of_getElem? (i := 202) (by decide +kernel)))) (by decide +kernel)
theorem zi_X5_hasDesk : Cond.instanceMethod Y_X5_hasDesk.1 ∈ GW ∧ Cond.selects Y_X5_hasDesk.1.cls Y_X5_hasDesk.1 Y_X5_hasDesk.1 ∈ GW := ⟨q681, q682⟩
theorem q828 : Cond.code ⟨"DeskRings$Floor", "readSlips", "(I)Z"⟩ prog_4_method_10_code 2 (some .boolean) ∈ GW := gw_of (gw_t (gw_4 (List.mem_of_getElem? (i := 108) (by decide +kernel)))) (by decide +kernel)
theorem zk_X2_readSlips : ZK Y_X2_readSlips 1 := ⟨q828, q8, ⟨by decide, by decide⟩, by decide +kernel⟩
theorem q827 : Cond.instanceMethod ⟨"DeskRings$Floor", "readSlips", "(I)Z"⟩ ∈ GW := gw_of (gw_t (gw_4 (List.mem_of_getElem? (i := 107) (by decide +kernel)))) (by decide +kernel)
theorem qs20 : Cond.selects "DeskRings$Floor" ⟨"DeskRings$Floor", "readSlips", "(I)Z"⟩ ⟨"DeskRings$Floor", "readSlips", "(I)Z"⟩ ∈ GW := gw_of (List.mem_append_left _ (List.mem_of_getElem? (i := 20) (by decide +kernel))) (by decide +kernel)
theorem zi_X2_readSlips : Cond.instanceMethod Y_X2_readSlips.1 ∈ GW ∧ Cond.selects Y_X2_readSlips.1.cls Y_X2_readSlips.1 Y_X2_readSlips.1 ∈ GW := ⟨q827, qs20⟩
theorem q825 : Cond.methodLink "DeskRings$Floor" 136 ⟨"DeskRings$Floor", "readSlips", "(I)Z"⟩ ∈ GW := gw_of (gw_t (gw_4 (List.mem_of_getElem? (i := 105) (by decide +kernel)))) (by decide +kernel)
theorem q824 : Cond.methodLink "DeskRings$Floor" 133 ⟨"DeskRings$Office", "hasDesk", "(I)Z"⟩ ∈ GW := gw_of (gw_t (gw_4 (List.mem_of_getElem? (i := 104) (by decide +kernel)))) (by decide +kernel)
theorem q767 : Cond.code ⟨"DeskRings$Office", "everybody", "()I"⟩ prog_7_method_14_code 1 (some .int) ∈ GW := gw_of (gw_t (gw_4 (List.mem_of_getElem? (i := 47) (by decide +kernel)))) (by decide +kernel)
theorem zk_X5_everybody : ZK Y_X5_everybody 0 := ⟨q767, q3, ⟨by decide, by decide⟩, by decide +kernel⟩
theorem q765 : Cond.instanceMethod ⟨"DeskRings$Office", "everybody", "()I"⟩ ∈ GW := gw_of (gw_t (gw_4 (List.mem_of_getElem? (i := 45) (by decide +kernel)))) (by decide +kernel)
theorem q766 : Cond.selects "DeskRings$Office" ⟨"DeskRings$Office", "everybody", "()I"⟩ ⟨"DeskRings$Office", "everybody", "()I"⟩ ∈ GW := gw_of (gw_t (gw_4 (List.mem_of_getElem? (i := 46) (by decide +kernel)))) (by decide +kernel)
theorem zi_X5_everybody : Cond.instanceMethod Y_X5_everybody.1 ∈ GW ∧ Cond.selects Y_X5_everybody.1.cls Y_X5_everybody.1 Y_X5_everybody.1 ∈ GW := ⟨q765, q766⟩
theorem q764 : Cond.methodLink "DeskRings$Floor" 35 ⟨"DeskRings$Office", "everybody", "()I"⟩ ∈ GW := gw_of (gw_t (gw_4 (List.mem_of_getElem? (i := 44) (by decide +kernel)))) (by decide +kernel)
theorem q763 : Cond.code ⟨"DeskRings$Floor", "begin", "(LDeskRings$Office;)V"⟩ prog_4_method_2_code 3 (none : Option Jvm.ClassFile.FieldType) ∈ GW := gw_of (gw_t (gw_4 (List.mem_of_getElem? (i := 43) (by decide +kernel)))) (by decide +kernel)
theorem zk_X2_begin : ZK Y_X2_begin 1 := ⟨q763, q8, ⟨by decide, by decide⟩, by decide +kernel⟩
theorem q761 : Cond.instanceMethod ⟨"DeskRings$Floor", "begin", "(LDeskRings$Office;)V"⟩ ∈ GW := gw_of (gw_t (gw_4 (List.mem_of_getElem? (i := 41) (by decide +kernel)))) (by decide +kernel)
theorem q762 : Cond.selects "DeskRings$Floor" ⟨"DeskRings$Floor", "begin", "(LDeskRings$Office;)V"⟩ ⟨"DeskRings$Floor", "begin", "(LDeskRings$Office;)V"⟩ ∈ GW := gw_of (gw_t (gw_4 (List.mem_of_getElem? (i := 42) (by decide +kernel)))) (by decide +kernel)
theorem zi_X2_begin : Cond.instanceMethod Y_X2_begin.1 ∈ GW ∧ Cond.selects Y_X2_begin.1.cls Y_X2_begin.1 Y_X2_begin.1 ∈ GW := ⟨q761, q762⟩
theorem q139 : Cond.fieldLink "DeskRings$Floor" 65 "DeskRings$Day" "count" "I" ∈ GW := gw_of (gw_t (gw_1 (List.mem_of_getElem? (i := 139) (by decide +kernel)))) (by decide +kernel)
theorem fl_2_65 : FL "DeskRings$Floor" 65 1 0 .int false := ⟨R1, T1, 3, rfl, by decide, q139, by decide +kernel, rfl, rfl⟩
theorem q142 : Cond.fieldLink "DeskRings$Floor" 76 "DeskRings$Day" "deeds" "[I" ∈ GW := gw_of (gw_t (gw_1 (List.mem_of_getElem? (i := 142) (by decide +kernel)))) (by decide +kernel)
theorem fl_2_76 : FL "DeskRings$Floor" 76 1 1 (.array .int) true := ⟨R1, T1, 3, rfl, by decide, q142, by decide +kernel, rfl, rfl⟩
theorem q144 : Cond.fieldLink "DeskRings$Floor" 79 "DeskRings$Day" "numbers" "[I" ∈ GW := gw_of (gw_t (gw_1 (List.mem_of_getElem? (i := 144) (by decide +kernel)))) (by decide +kernel)
theorem fl_2_79 : FL "DeskRings$Floor" 79 1 2 (.array .int) true := ⟨R1, T1, 3, rfl, by decide, q144, by decide +kernel, rfl, rfl⟩
theorem q772 : Cond.code ⟨"DeskRings$Floor", "act", "(II)Z"⟩ prog_4_method_8_code 4 (some .boolean) ∈ GW := gw_of (gw_t (gw_4 (List.mem_of_getElem? (i := 52) (by decide +kernel)))) (by decide +kernel)
theorem zk_X2_act : ZK Y_X2_act 2 := ⟨q772, q8, ⟨by decide, by decide⟩, by decide +kernel⟩
theorem q771 : Cond.instanceMethod ⟨"DeskRings$Floor", "act", "(II)Z"⟩ ∈ GW := gw_of (gw_t (gw_4 (List.mem_of_getElem? (i := 51) (by decide +kernel)))) (by decide +kernel)
theorem qs14 : Cond.selects "DeskRings$Floor" ⟨"DeskRings$Floor", "act", "(II)Z"⟩ ⟨"DeskRings$Floor", "act", "(II)Z"⟩ ∈ GW := gw_of (List.mem_append_left _ (List.mem_of_getElem? (i := 14) (by decide +kernel))) (by decide +kernel)
theorem zi_X2_act : Cond.instanceMethod Y_X2_act.1 ∈ GW ∧ Cond.selects Y_X2_act.1.cls Y_X2_act.1 Y_X2_act.1 ∈ GW := ⟨q771, qs14⟩
theorem q769 : Cond.methodLink "DeskRings$Floor" 82 ⟨"DeskRings$Floor", "act", "(II)Z"⟩ ∈ GW := gw_of (gw_t (gw_4 (List.mem_of_getElem? (i := 49) (by decide +kernel)))) (by decide +kernel)
theorem q760 : Cond.methodLink "DeskRings$Floor" 61 ⟨"DeskRings$Floor", "begin", "(LDeskRings$Office;)V"⟩ ∈ GW := gw_of (gw_t (gw_4 (List.mem_of_getElem? (i := 40) (by decide +kernel)))) (by decide +kernel)
theorem q768 : Cond.methodLink "DeskRings$Floor" 70 ⟨"java/lang/Math", "min", "(II)I"⟩ ∈ GW := gw_of (gw_t (gw_4 (List.mem_of_getElem? (i := 48) (by decide +kernel)))) (by decide +kernel)
theorem q184 : Cond.fieldLink "DeskRings$Told" 19 "DeskRings$Told" "counts" "[I" ∈ GW := gw_of (gw_t (gw_1 (List.mem_of_getElem? (i := 184) (by decide +kernel)))) (by decide +kernel)
theorem fl_9_19 : FL "DeskRings$Told" 19 9 4 (.array .int) true := ⟨R9, T9, 8, rfl, by decide, q184, by decide +kernel, rfl, rfl⟩
theorem q187 : Cond.fieldLink "DeskRings$Told" 31 "DeskRings$Told" "days" "[LDeskRings$Day;" ∈ GW := gw_of (gw_t (gw_1 (List.mem_of_getElem? (i := 187) (by decide +kernel)))) (by decide +kernel)
theorem fl_9_31 : FL "DeskRings$Told" 31 9 6 (.array (.object "DeskRings$Day")) true := ⟨R9, T9, 8, rfl, by decide, q187, by decide +kernel, rfl, rfl⟩
theorem q186 : Cond.fieldLink "DeskRings$Told" 25 "DeskRings$Told" "offices" "[LDeskRings$Office;" ∈ GW := gw_of (gw_t (gw_1 (List.mem_of_getElem? (i := 186) (by decide +kernel)))) (by decide +kernel)
theorem fl_9_25 : FL "DeskRings$Told" 25 9 5 (.array (.object "DeskRings$Office")) true := ⟨R9, T9, 8, rfl, by decide, q186, by decide +kernel, rfl, rfl⟩
theorem q460 : Cond.fieldLink "DeskRings" 10 "DeskRings" "told" "LDeskRings$Told;" ∈ GW := gw_of (gw_t (gw_2 (List.mem_of_getElem? (i := 220) (by decide +kernel)))) (by decide +kernel)
theorem fl_11_10 : FL "DeskRings" 10 11 0 (.object "DeskRings$Told") true := ⟨R11, T11, 10, rfl, by decide, q460, by decide +kernel, rfl, rfl⟩
theorem q719 : Cond.code ⟨"DeskRings$Told", "officeAt", "(I)LDeskRings$Office;"⟩ prog_11_method_6_code 2 (some (.object "DeskRings$Office")) ∈ GW := gw_of (gw_t (gw_3 (List.mem_of_getElem? (i := 239) (by decide +kernel)))) (by decide +kernel)
theorem q2 : Cond.initialized "DeskRings$Told" ∈ GW := gw_of (gw_t (gw_1 (List.mem_of_getElem? (i := 2) (by decide +kernel)))) (by decide +kernel)
theorem zk_X9_officeAt : ZK Y_X9_officeAt 1 := ⟨q719, q2, ⟨by decide, by decide⟩, by decide +kernel⟩
theorem q717 : Cond.instanceMethod ⟨"DeskRings$Told", "officeAt", "(I)LDeskRings$Office;"⟩ ∈ GW := gw_of (gw_t (gw_3 (List.mem_of_getElem? (i := 237) (by decide +kernel)))) (by decide +kernel)
theorem q718 : Cond.selects "DeskRings$Told" ⟨"DeskRings$Told", "officeAt", "(I)LDeskRings$Office;"⟩ ⟨"DeskRings$Told", "officeAt", "(I)LDeskRings$Office;"⟩ ∈ GW := gw_of (gw_t (gw_3 (List.mem_of_getElem? (i := 238) (by decide +kernel)))) (by decide +kernel)
theorem zi_X9_officeAt : Cond.instanceMethod Y_X9_officeAt.1 ∈ GW ∧ Cond.selects Y_X9_officeAt.1.cls Y_X9_officeAt.1 Y_X9_officeAt.1 ∈ GW := ⟨q717, q718⟩
theorem q747 : Cond.code ⟨"DeskRings$Told", "dayAt", "(I)LDeskRings$Day;"⟩ prog_11_method_7_code 2 (some (.object "DeskRings$Day")) ∈ GW := gw_of (gw_t (gw_4 (List.mem_of_getElem? (i := 27) (by decide +kernel)))) (by decide +kernel)
theorem zk_X9_dayAt : ZK Y_X9_dayAt 1 := ⟨q747, q2, ⟨by decide, by decide⟩, by decide +kernel⟩
theorem q745 : Cond.instanceMethod ⟨"DeskRings$Told", "dayAt", "(I)LDeskRings$Day;"⟩ ∈ GW := gw_of (gw_t (gw_4 (List.mem_of_getElem? (i := 25) (by decide +kernel)))) (by decide +kernel)
theorem q746 : Cond.selects "DeskRings$Told" ⟨"DeskRings$Told", "dayAt", "(I)LDeskRings$Day;"⟩ ⟨"DeskRings$Told", "dayAt", "(I)LDeskRings$Day;"⟩ ∈ GW := gw_of (gw_t (gw_4 (List.mem_of_getElem? (i := 26) (by decide +kernel)))) (by decide +kernel)
theorem zi_X9_dayAt : Cond.instanceMethod Y_X9_dayAt.1 ∈ GW ∧ Cond.selects Y_X9_dayAt.1.cls Y_X9_dayAt.1 Y_X9_dayAt.1 ∈ GW := ⟨q745, q746⟩
theorem q465 : Cond.fieldLink "DeskRings" 41 "DeskRings" "floor" "LDeskRings$Floor;" ∈ GW := gw_of (gw_t (gw_2 (List.mem_of_getElem? (i := 225) (by decide +kernel)))) (by decide +kernel)
theorem fl_11_41 : FL "DeskRings" 41 11 5 (.object "DeskRings$Floor") true := ⟨R11, T11, 10, rfl, by decide, q465, by decide +kernel, rfl, rfl⟩
theorem q759 : Cond.code ⟨"DeskRings$Floor", "playDay", "(LDeskRings$Office;LDeskRings$Day;I)I"⟩ prog_4_method_3_code 6 (some .int) ∈ GW := gw_of (gw_t (gw_4 (List.mem_of_getElem? (i := 39) (by decide +kernel)))) (by decide +kernel)
theorem zk_X2_playDay : ZK Y_X2_playDay 3 := ⟨q759, q8, ⟨by decide, by decide⟩, by decide +kernel⟩
theorem q757 : Cond.instanceMethod ⟨"DeskRings$Floor", "playDay", "(LDeskRings$Office;LDeskRings$Day;I)I"⟩ ∈ GW := gw_of (gw_t (gw_4 (List.mem_of_getElem? (i := 37) (by decide +kernel)))) (by decide +kernel)
theorem q758 : Cond.selects "DeskRings$Floor" ⟨"DeskRings$Floor", "playDay", "(LDeskRings$Office;LDeskRings$Day;I)I"⟩ ⟨"DeskRings$Floor", "playDay", "(LDeskRings$Office;LDeskRings$Day;I)I"⟩ ∈ GW := gw_of (gw_t (gw_4 (List.mem_of_getElem? (i := 38) (by decide +kernel)))) (by decide +kernel)
theorem zi_X2_playDay : Cond.instanceMethod Y_X2_playDay.1 ∈ GW ∧ Cond.selects Y_X2_playDay.1.cls Y_X2_playDay.1 Y_X2_playDay.1 ∈ GW := ⟨q757, q758⟩
theorem q1220 : Cond.code ⟨"DeskRings$Floor", "chiefHelper", "()I"⟩ prog_4_method_16_code 3 (some .int) ∈ GW := gw_of (gw_t (gw_6 (List.mem_of_getElem? (i := 20) (by decide +kernel)))) (by decide +kernel)
theorem zk_X2_chiefHelper : ZK Y_X2_chiefHelper 0 := ⟨q1220, q8, ⟨by decide, by decide⟩, by decide +kernel⟩
theorem q1218 : Cond.instanceMethod ⟨"DeskRings$Floor", "chiefHelper", "()I"⟩ ∈ GW := gw_of (gw_t (gw_6 (List.mem_of_getElem? (i := 18) (by decide +kernel)))) (by decide +kernel)
theorem q1219 : Cond.selects "DeskRings$Floor" ⟨"DeskRings$Floor", "chiefHelper", "()I"⟩ ⟨"DeskRings$Floor", "chiefHelper", "()I"⟩ ∈ GW := gw_of (gw_t (gw_6 (List.mem_of_getElem? (i := 19) (by decide +kernel)))) (by decide +kernel)
theorem zi_X2_chiefHelper : Cond.instanceMethod Y_X2_chiefHelper.1 ∈ GW ∧ Cond.selects Y_X2_chiefHelper.1.cls Y_X2_chiefHelper.1 Y_X2_chiefHelper.1 ∈ GW := ⟨q1218, q1219⟩
theorem q1217 : Cond.methodLink "DeskRings" 287 ⟨"DeskRings$Floor", "chiefHelper", "()I"⟩ ∈ GW := gw_of (gw_t (gw_6 (List.mem_of_getElem? (i := 17) (by decide +kernel)))) (by decide +kernel)
theorem q1225 : Cond.code ⟨"DeskRings$Floor", "halfOf", "(LDeskRings$Office;LDeskRings$Day;)I"⟩ prog_4_method_18_code 5 (some .int) ∈ GW := gw_of (gw_t (gw_6 (List.mem_of_getElem? (i := 25) (by decide +kernel)))) (by decide +kernel)
theorem zk_X2_halfOf : ZK Y_X2_halfOf 2 := ⟨q1225, q8, ⟨by decide, by decide⟩, by decide +kernel⟩
theorem q1223 : Cond.instanceMethod ⟨"DeskRings$Floor", "halfOf", "(LDeskRings$Office;LDeskRings$Day;)I"⟩ ∈ GW := gw_of (gw_t (gw_6 (List.mem_of_getElem? (i := 23) (by decide +kernel)))) (by decide +kernel)
theorem q1224 : Cond.selects "DeskRings$Floor" ⟨"DeskRings$Floor", "halfOf", "(LDeskRings$Office;LDeskRings$Day;)I"⟩ ⟨"DeskRings$Floor", "halfOf", "(LDeskRings$Office;LDeskRings$Day;)I"⟩ ∈ GW := gw_of (gw_t (gw_6 (List.mem_of_getElem? (i := 24) (by decide +kernel)))) (by decide +kernel)
theorem zi_X2_halfOf : Cond.instanceMethod Y_X2_halfOf.1 ∈ GW ∧ Cond.selects Y_X2_halfOf.1.cls Y_X2_halfOf.1 Y_X2_halfOf.1 ∈ GW := ⟨q1223, q1224⟩
theorem q1222 : Cond.methodLink "DeskRings" 290 ⟨"DeskRings$Floor", "halfOf", "(LDeskRings$Office;LDeskRings$Day;)I"⟩ ∈ GW := gw_of (gw_t (gw_6 (List.mem_of_getElem? (i := 22) (by decide +kernel)))) (by decide +kernel)
theorem q1229 : Cond.code ⟨"DeskRings$Floor", "unreadDesks", "()I"⟩ prog_4_method_17_code 3 (some .int) ∈ GW := gw_of (gw_t (gw_6 (List.mem_of_getElem? (i := 29) (by decide +kernel)))) (by decide +kernel)
theorem zk_X2_unreadDesks : ZK Y_X2_unreadDesks 0 := ⟨q1229, q8, ⟨by decide, by decide⟩, by decide +kernel⟩
theorem q1227 : Cond.instanceMethod ⟨"DeskRings$Floor", "unreadDesks", "()I"⟩ ∈ GW := gw_of (gw_t (gw_6 (List.mem_of_getElem? (i := 27) (by decide +kernel)))) (by decide +kernel)
theorem q1228 : Cond.selects "DeskRings$Floor" ⟨"DeskRings$Floor", "unreadDesks", "()I"⟩ ⟨"DeskRings$Floor", "unreadDesks", "()I"⟩ ∈ GW := gw_of (gw_t (gw_6 (List.mem_of_getElem? (i := 28) (by decide +kernel)))) (by decide +kernel)
theorem zi_X2_unreadDesks : Cond.instanceMethod Y_X2_unreadDesks.1 ∈ GW ∧ Cond.selects Y_X2_unreadDesks.1.cls Y_X2_unreadDesks.1 Y_X2_unreadDesks.1 ∈ GW := ⟨q1227, q1228⟩
theorem q1226 : Cond.methodLink "DeskRings" 294 ⟨"DeskRings$Floor", "unreadDesks", "()I"⟩ ∈ GW := gw_of (gw_t (gw_6 (List.mem_of_getElem? (i := 26) (by decide +kernel)))) (by decide +kernel)
theorem q756 : Cond.methodLink "DeskRings" 126 ⟨"DeskRings$Floor", "playDay", "(LDeskRings$Office;LDeskRings$Day;I)I"⟩ ∈ GW := gw_of (gw_t (gw_4 (List.mem_of_getElem? (i := 36) (by decide +kernel)))) (by decide +kernel)
theorem q744 : Cond.methodLink "DeskRings" 115 ⟨"DeskRings$Told", "dayAt", "(I)LDeskRings$Day;"⟩ ∈ GW := gw_of (gw_t (gw_4 (List.mem_of_getElem? (i := 24) (by decide +kernel)))) (by decide +kernel)
theorem q716 : Cond.methodLink "DeskRings" 105 ⟨"DeskRings$Told", "officeAt", "(I)LDeskRings$Office;"⟩ ∈ GW := gw_of (gw_t (gw_3 (List.mem_of_getElem? (i := 236) (by decide +kernel)))) (by decide +kernel)
theorem q137 : Cond.fieldLink "DeskRings$Day" 18 "DeskRings$Day" "count" "I" ∈ GW := gw_of (gw_t (gw_1 (List.mem_of_getElem? (i := 137) (by decide +kernel)))) (by decide +kernel)
theorem fl_1_18 : FL "DeskRings$Day" 18 1 0 .int false := ⟨R1, T1, 3, rfl, by decide, q137, by decide +kernel, rfl, rfl⟩
theorem q141 : Cond.fieldLink "DeskRings$Day" 9 "DeskRings$Day" "deeds" "[I" ∈ GW := gw_of (gw_t (gw_1 (List.mem_of_getElem? (i := 141) (by decide +kernel)))) (by decide +kernel)
theorem fl_1_9 : FL "DeskRings$Day" 9 1 1 (.array .int) true := ⟨R1, T1, 3, rfl, by decide, q141, by decide +kernel, rfl, rfl⟩
theorem q143 : Cond.fieldLink "DeskRings$Day" 15 "DeskRings$Day" "numbers" "[I" ∈ GW := gw_of (gw_t (gw_1 (List.mem_of_getElem? (i := 143) (by decide +kernel)))) (by decide +kernel)
theorem fl_1_15 : FL "DeskRings$Day" 15 1 2 (.array .int) true := ⟨R1, T1, 3, rfl, by decide, q143, by decide +kernel, rfl, rfl⟩
theorem q699 : Cond.methodLink "DeskRings$Day" 22 ⟨"java/lang/System", "arraycopy", "(Ljava/lang/Object;ILjava/lang/Object;II)V"⟩ ∈ GW := gw_of (gw_t (gw_3 (List.mem_of_getElem? (i := 219) (by decide +kernel)))) (by decide +kernel)
theorem q694 : Cond.native ⟨"java/lang/System", "arraycopy", "(Ljava/lang/Object;ILjava/lang/Object;II)V"⟩ ∈ GW := gw_of (gw_t (gw_3 (List.mem_of_getElem? (i := 214) (by decide +kernel)))) (by decide +kernel)
theorem q693 : Cond.static ⟨"java/lang/System", "arraycopy", "(Ljava/lang/Object;ILjava/lang/Object;II)V"⟩ ∈ GW := gw_of (gw_t (gw_3 (List.mem_of_getElem? (i := 213) (by decide +kernel)))) (by decide +kernel)
theorem q19 : Cond.initialized "java/lang/System" ∈ GW := gw_of (gw_t (gw_1 (List.mem_of_getElem? (i := 19) (by decide +kernel)))) (by decide +kernel)
theorem q157 : Cond.fieldLink "DeskRings$Log" 21 "DeskRings$Log" "count" "I" ∈ GW := gw_of (gw_t (gw_1 (List.mem_of_getElem? (i := 157) (by decide +kernel)))) (by decide +kernel)
theorem fl_4_21 : FL "DeskRings$Log" 21 4 0 .int false := ⟨R4, T4, 4, rfl, by decide, q157, by decide +kernel, rfl, rfl⟩
theorem q161 : Cond.fieldLink "DeskRings$Log" 9 "DeskRings$Log" "desk" "[I" ∈ GW := gw_of (gw_t (gw_1 (List.mem_of_getElem? (i := 161) (by decide +kernel)))) (by decide +kernel)
theorem fl_4_9 : FL "DeskRings$Log" 9 4 1 (.array .int) true := ⟨R4, T4, 4, rfl, by decide, q161, by decide +kernel, rfl, rfl⟩
theorem q163 : Cond.fieldLink "DeskRings$Log" 15 "DeskRings$Log" "lifter" "[I" ∈ GW := gw_of (gw_t (gw_1 (List.mem_of_getElem? (i := 163) (by decide +kernel)))) (by decide +kernel)
theorem fl_4_15 : FL "DeskRings$Log" 15 4 2 (.array .int) true := ⟨R4, T4, 4, rfl, by decide, q163, by decide +kernel, rfl, rfl⟩
theorem q165 : Cond.fieldLink "DeskRings$Log" 18 "DeskRings$Log" "ring" "[I" ∈ GW := gw_of (gw_t (gw_1 (List.mem_of_getElem? (i := 165) (by decide +kernel)))) (by decide +kernel)
theorem fl_4_18 : FL "DeskRings$Log" 18 4 3 (.array .int) true := ⟨R4, T4, 4, rfl, by decide, q165, by decide +kernel, rfl, rfl⟩
theorem q704 : Cond.methodLink "DeskRings$Log" 25 ⟨"java/lang/System", "arraycopy", "(Ljava/lang/Object;ILjava/lang/Object;II)V"⟩ ∈ GW := gw_of (gw_t (gw_3 (List.mem_of_getElem? (i := 224) (by decide +kernel)))) (by decide +kernel)
theorem q64 : Cond.fieldLink "DeskRings$Office" 52 "DeskRings$Office" "ear" "I" ∈ GW := gw_of (gw_t (gw_1 (List.mem_of_getElem? (i := 64) (by decide +kernel)))) (by decide +kernel)
theorem fl_5_52 : FL "DeskRings$Office" 52 5 2 .int false := ⟨R5, T5, 15, rfl, by decide, q64, by decide +kernel, rfl, rfl⟩
theorem q71 : Cond.fieldLink "DeskRings$Office" 9 "DeskRings$Office" "kind" "[I" ∈ GW := gw_of (gw_t (gw_1 (List.mem_of_getElem? (i := 71) (by decide +kernel)))) (by decide +kernel)
theorem fl_5_9 : FL "DeskRings$Office" 9 5 5 (.array .int) true := ⟨R5, T5, 15, rfl, by decide, q71, by decide +kernel, rfl, rfl⟩
theorem q75 : Cond.fieldLink "DeskRings$Office" 15 "DeskRings$Office" "place" "[I" ∈ GW := gw_of (gw_t (gw_1 (List.mem_of_getElem? (i := 75) (by decide +kernel)))) (by decide +kernel)
theorem fl_5_15 : FL "DeskRings$Office" 15 5 6 (.array .int) true := ⟨R5, T5, 15, rfl, by decide, q75, by decide +kernel, rfl, rfl⟩
theorem q76 : Cond.fieldLink "DeskRings$Office" 18 "DeskRings$Office" "rings" "[I" ∈ GW := gw_of (gw_t (gw_1 (List.mem_of_getElem? (i := 76) (by decide +kernel)))) (by decide +kernel)
theorem fl_5_18 : FL "DeskRings$Office" 18 5 7 (.array .int) true := ⟨R5, T5, 15, rfl, by decide, q76, by decide +kernel, rfl, rfl⟩
theorem q78 : Cond.fieldLink "DeskRings$Office" 21 "DeskRings$Office" "cost" "[I" ∈ GW := gw_of (gw_t (gw_1 (List.mem_of_getElem? (i := 78) (by decide +kernel)))) (by decide +kernel)
theorem fl_5_21 : FL "DeskRings$Office" 21 5 8 (.array .int) true := ⟨R5, T5, 15, rfl, by decide, q78, by decide +kernel, rfl, rfl⟩
theorem q82 : Cond.fieldLink "DeskRings$Office" 24 "DeskRings$Office" "presence" "[I" ∈ GW := gw_of (gw_t (gw_1 (List.mem_of_getElem? (i := 82) (by decide +kernel)))) (by decide +kernel)
theorem fl_5_24 : FL "DeskRings$Office" 24 5 9 (.array .int) true := ⟨R5, T5, 15, rfl, by decide, q82, by decide +kernel, rfl, rfl⟩
theorem q84 : Cond.fieldLink "DeskRings$Office" 27 "DeskRings$Office" "callDesk" "[I" ∈ GW := gw_of (gw_t (gw_1 (List.mem_of_getElem? (i := 84) (by decide +kernel)))) (by decide +kernel)
theorem fl_5_27 : FL "DeskRings$Office" 27 5 10 (.array .int) true := ⟨R5, T5, 15, rfl, by decide, q84, by decide +kernel, rfl, rfl⟩
theorem q88 : Cond.fieldLink "DeskRings$Office" 30 "DeskRings$Office" "worth" "[I" ∈ GW := gw_of (gw_t (gw_1 (List.mem_of_getElem? (i := 88) (by decide +kernel)))) (by decide +kernel)
theorem fl_5_30 : FL "DeskRings$Office" 30 5 11 (.array .int) true := ⟨R5, T5, 15, rfl, by decide, q88, by decide +kernel, rfl, rfl⟩
theorem q94 : Cond.fieldLink "DeskRings$Office" 36 "DeskRings$Office" "hearers" "[I" ∈ GW := gw_of (gw_t (gw_1 (List.mem_of_getElem? (i := 94) (by decide +kernel)))) (by decide +kernel)
theorem fl_5_36 : FL "DeskRings$Office" 36 5 13 (.array .int) true := ⟨R5, T5, 15, rfl, by decide, q94, by decide +kernel, rfl, rfl⟩
theorem q692 : Cond.methodLink "DeskRings$Office" 61 ⟨"java/lang/System", "arraycopy", "(Ljava/lang/Object;ILjava/lang/Object;II)V"⟩ ∈ GW := gw_of (gw_t (gw_3 (List.mem_of_getElem? (i := 212) (by decide +kernel)))) (by decide +kernel)
theorem q178 : Cond.fieldLink "DeskRings$Told" 44 "DeskRings$Told" "length" "I" ∈ GW := gw_of (gw_t (gw_1 (List.mem_of_getElem? (i := 178) (by decide +kernel)))) (by decide +kernel)
theorem fl_9_44 : FL "DeskRings$Told" 44 9 1 .int false := ⟨R9, T9, 8, rfl, by decide, q178, by decide +kernel, rfl, rfl⟩
theorem q180 : Cond.fieldLink "DeskRings$Told" 47 "DeskRings$Told" "fault" "I" ∈ GW := gw_of (gw_t (gw_1 (List.mem_of_getElem? (i := 180) (by decide +kernel)))) (by decide +kernel)
theorem fl_9_47 : FL "DeskRings$Told" 47 9 2 .int false := ⟨R9, T9, 8, rfl, by decide, q180, by decide +kernel, rfl, rfl⟩
theorem q182 : Cond.fieldLink "DeskRings$Told" 15 "DeskRings$Told" "faultPlace" "I" ∈ GW := gw_of (gw_t (gw_1 (List.mem_of_getElem? (i := 182) (by decide +kernel)))) (by decide +kernel)
theorem fl_9_15 : FL "DeskRings$Told" 15 9 3 .int false := ⟨R9, T9, 8, rfl, by decide, q182, by decide +kernel, rfl, rfl⟩
theorem q176 : Cond.fieldLink "DeskRings$Told" 9 "DeskRings$Told" "tape" "[B" ∈ GW := gw_of (gw_t (gw_1 (List.mem_of_getElem? (i := 176) (by decide +kernel)))) (by decide +kernel)
theorem fl_9_9 : FL "DeskRings$Told" 9 9 0 (.array .byte) true := ⟨R9, T9, 8, rfl, by decide, q176, by decide +kernel, rfl, rfl⟩
theorem q691 : Cond.code ⟨"DeskRings$Office", "copyFrom", "(LDeskRings$Office;)V"⟩ prog_7_method_3_code 2 (none : Option Jvm.ClassFile.FieldType) ∈ GW := gw_of (gw_t (gw_3 (List.mem_of_getElem? (i := 211) (by decide +kernel)))) (by decide +kernel)
theorem zk_X5_copyFrom : ZK Y_X5_copyFrom 1 := ⟨q691, q3, ⟨by decide, by decide⟩, by decide +kernel⟩
theorem q689 : Cond.instanceMethod ⟨"DeskRings$Office", "copyFrom", "(LDeskRings$Office;)V"⟩ ∈ GW := gw_of (gw_t (gw_3 (List.mem_of_getElem? (i := 209) (by decide +kernel)))) (by decide +kernel)
theorem q690 : Cond.selects "DeskRings$Office" ⟨"DeskRings$Office", "copyFrom", "(LDeskRings$Office;)V"⟩ ⟨"DeskRings$Office", "copyFrom", "(LDeskRings$Office;)V"⟩ ∈ GW := gw_of (gw_t (gw_3 (List.mem_of_getElem? (i := 210) (by decide +kernel)))) (by decide +kernel)
theorem zi_X5_copyFrom : Cond.instanceMethod Y_X5_copyFrom.1 ∈ GW ∧ Cond.selects Y_X5_copyFrom.1.cls Y_X5_copyFrom.1 Y_X5_copyFrom.1 ∈ GW := ⟨q689, q690⟩
theorem q698 : Cond.code ⟨"DeskRings$Day", "copyFrom", "(LDeskRings$Day;)V"⟩ prog_3_method_2_code 2 (none : Option Jvm.ClassFile.FieldType) ∈ GW := gw_of (gw_t (gw_3 (List.mem_of_getElem? (i := 218) (by decide +kernel)))) (by decide +kernel)
theorem q4 : Cond.initialized "DeskRings$Day" ∈ GW := gw_of (gw_t (gw_1 (List.mem_of_getElem? (i := 4) (by decide +kernel)))) (by decide +kernel)
theorem zk_X1_copyFrom : ZK Y_X1_copyFrom 1 := ⟨q698, q4, ⟨by decide, by decide⟩, by decide +kernel⟩
theorem q696 : Cond.instanceMethod ⟨"DeskRings$Day", "copyFrom", "(LDeskRings$Day;)V"⟩ ∈ GW := gw_of (gw_t (gw_3 (List.mem_of_getElem? (i := 216) (by decide +kernel)))) (by decide +kernel)
theorem q697 : Cond.selects "DeskRings$Day" ⟨"DeskRings$Day", "copyFrom", "(LDeskRings$Day;)V"⟩ ⟨"DeskRings$Day", "copyFrom", "(LDeskRings$Day;)V"⟩ ∈ GW := gw_of (gw_t (gw_3 (List.mem_of_getElem? (i := 217) (by decide +kernel)))) (by decide +kernel)
theorem zi_X1_copyFrom : Cond.instanceMethod Y_X1_copyFrom.1 ∈ GW ∧ Cond.selects Y_X1_copyFrom.1.cls Y_X1_copyFrom.1 Y_X1_copyFrom.1 ∈ GW := ⟨q696, q697⟩
theorem q188 : Cond.fieldLink "DeskRings$Told" 37 "DeskRings$Told" "logs" "[LDeskRings$Log;" ∈ GW := gw_of (gw_t (gw_1 (List.mem_of_getElem? (i := 188) (by decide +kernel)))) (by decide +kernel)
theorem fl_9_37 : FL "DeskRings$Told" 37 9 7 (.array (.object "DeskRings$Log")) true := ⟨R9, T9, 8, rfl, by decide, q188, by decide +kernel, rfl, rfl⟩
theorem q703 : Cond.code ⟨"DeskRings$Log", "copyFrom", "(LDeskRings$Log;)V"⟩ prog_6_method_2_code 2 (none : Option Jvm.ClassFile.FieldType) ∈ GW := gw_of (gw_t (gw_3 (List.mem_of_getElem? (i := 223) (by decide +kernel)))) (by decide +kernel)
theorem q5 : Cond.initialized "DeskRings$Log" ∈ GW := gw_of (gw_t (gw_1 (List.mem_of_getElem? (i := 5) (by decide +kernel)))) (by decide +kernel)
theorem zk_X4_copyFrom : ZK Y_X4_copyFrom 1 := ⟨q703, q5, ⟨by decide, by decide⟩, by decide +kernel⟩
theorem q701 : Cond.instanceMethod ⟨"DeskRings$Log", "copyFrom", "(LDeskRings$Log;)V"⟩ ∈ GW := gw_of (gw_t (gw_3 (List.mem_of_getElem? (i := 221) (by decide +kernel)))) (by decide +kernel)
theorem q702 : Cond.selects "DeskRings$Log" ⟨"DeskRings$Log", "copyFrom", "(LDeskRings$Log;)V"⟩ ⟨"DeskRings$Log", "copyFrom", "(LDeskRings$Log;)V"⟩ ∈ GW := gw_of (gw_t (gw_3 (List.mem_of_getElem? (i := 222) (by decide +kernel)))) (by decide +kernel)
theorem zi_X4_copyFrom : Cond.instanceMethod Y_X4_copyFrom.1 ∈ GW ∧ Cond.selects Y_X4_copyFrom.1.cls Y_X4_copyFrom.1 Y_X4_copyFrom.1 ∈ GW := ⟨q701, q702⟩
theorem q700 : Cond.methodLink "DeskRings$Told" 63 ⟨"DeskRings$Log", "copyFrom", "(LDeskRings$Log;)V"⟩ ∈ GW := gw_of (gw_t (gw_3 (List.mem_of_getElem? (i := 220) (by decide +kernel)))) (by decide +kernel)
theorem q695 : Cond.methodLink "DeskRings$Told" 60 ⟨"DeskRings$Day", "copyFrom", "(LDeskRings$Day;)V"⟩ ∈ GW := gw_of (gw_t (gw_3 (List.mem_of_getElem? (i := 215) (by decide +kernel)))) (by decide +kernel)
theorem q688 : Cond.methodLink "DeskRings$Told" 56 ⟨"DeskRings$Office", "copyFrom", "(LDeskRings$Office;)V"⟩ ∈ GW := gw_of (gw_t (gw_3 (List.mem_of_getElem? (i := 208) (by decide +kernel)))) (by decide +kernel)
theorem q1306 : Cond.methodLink "DeskRings$Told" 50 ⟨"java/lang/System", "arraycopy", "(Ljava/lang/Object;ILjava/lang/Object;II)V"⟩ ∈ GW := gw_of (gw_t (gw_6 (List.mem_of_getElem? (i := 106) (by decide +kernel)))) (by decide +kernel)
theorem q462 : Cond.fieldLink "DeskRings" 20 "DeskRings" "imageMade" "[Z" ∈ GW := gw_of (gw_t (gw_2 (List.mem_of_getElem? (i := 222) (by decide +kernel)))) (by decide +kernel)
theorem fl_11_20 : FL "DeskRings" 20 11 2 (.array .boolean) true := ⟨R11, T11, 10, rfl, by decide, q462, by decide +kernel, rfl, rfl⟩
theorem q461 : Cond.fieldLink "DeskRings" 16 "DeskRings" "images" "[LDeskRings$Told;" ∈ GW := gw_of (gw_t (gw_2 (List.mem_of_getElem? (i := 221) (by decide +kernel)))) (by decide +kernel)
theorem fl_11_16 : FL "DeskRings" 16 11 1 (.array (.object "DeskRings$Told")) true := ⟨R11, T11, 10, rfl, by decide, q461, by decide +kernel, rfl, rfl⟩
theorem q1305 : Cond.code ⟨"DeskRings$Told", "copyFrom", "(LDeskRings$Told;)V"⟩ prog_11_method_2_code 3 (none : Option Jvm.ClassFile.FieldType) ∈ GW := gw_of (gw_t (gw_6 (List.mem_of_getElem? (i := 105) (by decide +kernel)))) (by decide +kernel)
theorem zk_X9_copyFrom : ZK Y_X9_copyFrom 1 := ⟨q1305, q2, ⟨by decide, by decide⟩, by decide +kernel⟩
theorem q1303 : Cond.instanceMethod ⟨"DeskRings$Told", "copyFrom", "(LDeskRings$Told;)V"⟩ ∈ GW := gw_of (gw_t (gw_6 (List.mem_of_getElem? (i := 103) (by decide +kernel)))) (by decide +kernel)
theorem q1304 : Cond.selects "DeskRings$Told" ⟨"DeskRings$Told", "copyFrom", "(LDeskRings$Told;)V"⟩ ⟨"DeskRings$Told", "copyFrom", "(LDeskRings$Told;)V"⟩ ∈ GW := gw_of (gw_t (gw_6 (List.mem_of_getElem? (i := 104) (by decide +kernel)))) (by decide +kernel)
theorem zi_X9_copyFrom : Cond.instanceMethod Y_X9_copyFrom.1 ∈ GW ∧ Cond.selects Y_X9_copyFrom.1.cls Y_X9_copyFrom.1 Y_X9_copyFrom.1 ∈ GW := ⟨q1303, q1304⟩
theorem q1302 : Cond.methodLink "DeskRings" 327 ⟨"DeskRings$Told", "copyFrom", "(LDeskRings$Told;)V"⟩ ∈ GW := gw_of (gw_t (gw_6 (List.mem_of_getElem? (i := 102) (by decide +kernel)))) (by decide +kernel)
theorem q912 : Cond.code ⟨"DeskRings$Office", "hears", "(II)Z"⟩ prog_7_method_17_code 3 (some .boolean) ∈ GW := gw_of (gw_t (gw_4 (List.mem_of_getElem? (i := 192) (by decide +kernel)))) (by decide +kernel)
theorem zk_X5_hears : ZK Y_X5_hears 2 := ⟨q912, q3, ⟨by decide, by decide⟩, by decide +kernel⟩
theorem q910 : Cond.instanceMethod ⟨"DeskRings$Office", "hears", "(II)Z"⟩ ∈ GW := gw_of (gw_t (gw_4 (List.mem_of_getElem? (i := 190) (by decide +kernel)))) (by decide +kernel)
theorem q911 : Cond.selects "DeskRings$Office" ⟨"DeskRings$Office", "hears", "(II)Z"⟩ ⟨"DeskRings$Office", "hears", "(II)Z"⟩ ∈ GW := gw_of (gw_t (gw_4 (List.mem_of_getElem? (i := 191) (by decide +kernel)))) (by decide +kernel)
theorem zi_X5_hears : Cond.instanceMethod Y_X5_hears.1 ∈ GW ∧ Cond.selects Y_X5_hears.1.cls Y_X5_hears.1 Y_X5_hears.1 ∈ GW := ⟨q910, q911⟩
theorem q1083 : Cond.methodLink "DeskRings$Lift" 41 ⟨"DeskRings$Office", "hears", "(II)Z"⟩ ∈ GW := gw_of (gw_t (gw_5 (List.mem_of_getElem? (i := 123) (by decide +kernel)))) (by decide +kernel)
theorem q1016 : Cond.methodLink "DeskRings$Office" 90 ⟨"DeskRings$Office", "everybody", "()I"⟩ ∈ GW := gw_of (gw_t (gw_5 (List.mem_of_getElem? (i := 56) (by decide +kernel)))) (by decide +kernel)
theorem q1015 : Cond.code ⟨"DeskRings$Office", "othersThan", "(I)I"⟩ prog_7_method_15_code 2 (some .int) ∈ GW := gw_of (gw_t (gw_5 (List.mem_of_getElem? (i := 55) (by decide +kernel)))) (by decide +kernel)
theorem zk_X5_othersThan : ZK Y_X5_othersThan 1 := ⟨q1015, q3, ⟨by decide, by decide⟩, by decide +kernel⟩
theorem q1013 : Cond.instanceMethod ⟨"DeskRings$Office", "othersThan", "(I)I"⟩ ∈ GW := gw_of (gw_t (gw_5 (List.mem_of_getElem? (i := 53) (by decide +kernel)))) (by decide +kernel)
theorem q1014 : Cond.selects "DeskRings$Office" ⟨"DeskRings$Office", "othersThan", "(I)I"⟩ ⟨"DeskRings$Office", "othersThan", "(I)I"⟩ ∈ GW := gw_of (gw_t (gw_5 (List.mem_of_getElem? (i := 54) (by decide +kernel)))) (by decide +kernel)
theorem zi_X5_othersThan : Cond.instanceMethod Y_X5_othersThan.1 ∈ GW ∧ Cond.selects Y_X5_othersThan.1.cls Y_X5_othersThan.1 Y_X5_othersThan.1 ∈ GW := ⟨q1013, q1014⟩
theorem q1078 : Cond.methodLink "DeskRings$Floor" 110 ⟨"DeskRings$Office", "othersThan", "(I)I"⟩ ∈ GW := gw_of (gw_t (gw_5 (List.mem_of_getElem? (i := 118) (by decide +kernel)))) (by decide +kernel)
theorem q1082 : Cond.code ⟨"DeskRings$Lift", "allAt", "(LDeskRings$Office;IIZ)V"⟩ prog_5_method_4_code 6 (none : Option Jvm.ClassFile.FieldType) ∈ GW := gw_of (gw_t (gw_5 (List.mem_of_getElem? (i := 122) (by decide +kernel)))) (by decide +kernel)
theorem zk_X3_allAt : ZK Y_X3_allAt 4 := ⟨q1082, q7, ⟨by decide, by decide⟩, by decide +kernel⟩
theorem q1080 : Cond.instanceMethod ⟨"DeskRings$Lift", "allAt", "(LDeskRings$Office;IIZ)V"⟩ ∈ GW := gw_of (gw_t (gw_5 (List.mem_of_getElem? (i := 120) (by decide +kernel)))) (by decide +kernel)
theorem q1081 : Cond.selects "DeskRings$Lift" ⟨"DeskRings$Lift", "allAt", "(LDeskRings$Office;IIZ)V"⟩ ⟨"DeskRings$Lift", "allAt", "(LDeskRings$Office;IIZ)V"⟩ ∈ GW := gw_of (gw_t (gw_5 (List.mem_of_getElem? (i := 121) (by decide +kernel)))) (by decide +kernel)
theorem zi_X3_allAt : Cond.instanceMethod Y_X3_allAt.1 ∈ GW ∧ Cond.selects Y_X3_allAt.1.cls Y_X3_allAt.1 Y_X3_allAt.1 ∈ GW := ⟨q1080, q1081⟩
theorem q1079 : Cond.methodLink "DeskRings$Floor" 117 ⟨"DeskRings$Lift", "allAt", "(LDeskRings$Office;IIZ)V"⟩ ∈ GW := gw_of (gw_t (gw_5 (List.mem_of_getElem? (i := 119) (by decide +kernel)))) (by decide +kernel)
theorem q1087 : Cond.code ⟨"DeskRings$Lift", "byTurns", "(LDeskRings$Office;II)V"⟩ prog_5_method_5_code 6 (none : Option Jvm.ClassFile.FieldType) ∈ GW := gw_of (gw_t (gw_5 (List.mem_of_getElem? (i := 127) (by decide +kernel)))) (by decide +kernel)
theorem zk_X3_byTurns : ZK Y_X3_byTurns 3 := ⟨q1087, q7, ⟨by decide, by decide⟩, by decide +kernel⟩
theorem q1085 : Cond.instanceMethod ⟨"DeskRings$Lift", "byTurns", "(LDeskRings$Office;II)V"⟩ ∈ GW := gw_of (gw_t (gw_5 (List.mem_of_getElem? (i := 125) (by decide +kernel)))) (by decide +kernel)
theorem q1086 : Cond.selects "DeskRings$Lift" ⟨"DeskRings$Lift", "byTurns", "(LDeskRings$Office;II)V"⟩ ⟨"DeskRings$Lift", "byTurns", "(LDeskRings$Office;II)V"⟩ ∈ GW := gw_of (gw_t (gw_5 (List.mem_of_getElem? (i := 126) (by decide +kernel)))) (by decide +kernel)
theorem zi_X3_byTurns : Cond.instanceMethod Y_X3_byTurns.1 ∈ GW ∧ Cond.selects Y_X3_byTurns.1.cls Y_X3_byTurns.1 Y_X3_byTurns.1 ∈ GW := ⟨q1085, q1086⟩
theorem q1084 : Cond.methodLink "DeskRings$Floor" 121 ⟨"DeskRings$Lift", "byTurns", "(LDeskRings$Office;II)V"⟩ ∈ GW := gw_of (gw_t (gw_5 (List.mem_of_getElem? (i := 124) (by decide +kernel)))) (by decide +kernel)
theorem q60 : Cond.fieldLink "DeskRings$Floor" 93 "DeskRings$Office" "calls" "I" ∈ GW := gw_of (gw_t (gw_1 (List.mem_of_getElem? (i := 60) (by decide +kernel)))) (by decide +kernel)
theorem fl_2_93 : FL "DeskRings$Floor" 93 5 1 .int false := ⟨R5, T5, 15, rfl, by decide, q60, by decide +kernel, rfl, rfl⟩
theorem q1077 : Cond.code ⟨"DeskRings$Floor", "ringEmptyDesk", "(III)V"⟩ prog_4_method_7_code 5 (none : Option Jvm.ClassFile.FieldType) ∈ GW := gw_of (gw_t (gw_5 (List.mem_of_getElem? (i := 117) (by decide +kernel)))) (by decide +kernel)
theorem zk_X2_ringEmptyDesk : ZK Y_X2_ringEmptyDesk 3 := ⟨q1077, q8, ⟨by decide, by decide⟩, by decide +kernel⟩
theorem q1075 : Cond.instanceMethod ⟨"DeskRings$Floor", "ringEmptyDesk", "(III)V"⟩ ∈ GW := gw_of (gw_t (gw_5 (List.mem_of_getElem? (i := 115) (by decide +kernel)))) (by decide +kernel)
theorem q1076 : Cond.selects "DeskRings$Floor" ⟨"DeskRings$Floor", "ringEmptyDesk", "(III)V"⟩ ⟨"DeskRings$Floor", "ringEmptyDesk", "(III)V"⟩ ∈ GW := gw_of (gw_t (gw_5 (List.mem_of_getElem? (i := 116) (by decide +kernel)))) (by decide +kernel)
theorem zi_X2_ringEmptyDesk : Cond.instanceMethod Y_X2_ringEmptyDesk.1 ∈ GW ∧ Cond.selects Y_X2_ringEmptyDesk.1.cls Y_X2_ringEmptyDesk.1 Y_X2_ringEmptyDesk.1 ∈ GW := ⟨q1075, q1076⟩
theorem q1074 : Cond.methodLink "DeskRings$Floor" 100 ⟨"DeskRings$Floor", "ringEmptyDesk", "(III)V"⟩ ∈ GW := gw_of (gw_t (gw_5 (List.mem_of_getElem? (i := 114) (by decide +kernel)))) (by decide +kernel)
theorem q438 : Cond.fieldLink "DeskRings$Plans" 18 "DeskRings$Plans" "floor" "LDeskRings$Floor;" ∈ GW := gw_of (gw_t (gw_2 (List.mem_of_getElem? (i := 198) (by decide +kernel)))) (by decide +kernel)
theorem fl_6_18 : FL "DeskRings$Plans" 18 6 3 (.object "DeskRings$Floor") true := ⟨R6, T6, 8, rfl, by decide, q438, by decide +kernel, rfl, rfl⟩
theorem q1073 : Cond.code ⟨"DeskRings$Floor", "playRule", "(LDeskRings$Office;I)V"⟩ prog_4_method_6_code 5 (none : Option Jvm.ClassFile.FieldType) ∈ GW := gw_of (gw_t (gw_5 (List.mem_of_getElem? (i := 113) (by decide +kernel)))) (by decide +kernel)
theorem zk_X2_playRule : ZK Y_X2_playRule 2 := ⟨q1073, q8, ⟨by decide, by decide⟩, by decide +kernel⟩
theorem q1071 : Cond.instanceMethod ⟨"DeskRings$Floor", "playRule", "(LDeskRings$Office;I)V"⟩ ∈ GW := gw_of (gw_t (gw_5 (List.mem_of_getElem? (i := 111) (by decide +kernel)))) (by decide +kernel)
theorem q1072 : Cond.selects "DeskRings$Floor" ⟨"DeskRings$Floor", "playRule", "(LDeskRings$Office;I)V"⟩ ⟨"DeskRings$Floor", "playRule", "(LDeskRings$Office;I)V"⟩ ∈ GW := gw_of (gw_t (gw_5 (List.mem_of_getElem? (i := 112) (by decide +kernel)))) (by decide +kernel)
theorem zi_X2_playRule : Cond.instanceMethod Y_X2_playRule.1 ∈ GW ∧ Cond.selects Y_X2_playRule.1.cls Y_X2_playRule.1 Y_X2_playRule.1 ∈ GW := ⟨q1071, q1072⟩
theorem q302 : Cond.fieldLink "DeskRings$Plans" 95 "DeskRings$Floor" "got" "I" ∈ GW := gw_of (gw_t (gw_2 (List.mem_of_getElem? (i := 62) (by decide +kernel)))) (by decide +kernel)
theorem fl_6_95 : FL "DeskRings$Plans" 95 2 1 .int false := ⟨R2, T2, 13, rfl, by decide, q302, by decide +kernel, rfl, rfl⟩
theorem q305 : Cond.fieldLink "DeskRings$Plans" 98 "DeskRings$Floor" "paid" "I" ∈ GW := gw_of (gw_t (gw_2 (List.mem_of_getElem? (i := 65) (by decide +kernel)))) (by decide +kernel)
theorem fl_6_98 : FL "DeskRings$Plans" 98 2 2 .int false := ⟨R2, T2, 13, rfl, by decide, q305, by decide +kernel, rfl, rfl⟩
theorem q1281 : Cond.methodLink "DeskRings$Plans" 91 ⟨"DeskRings$Floor", "playRule", "(LDeskRings$Office;I)V"⟩ ∈ GW := gw_of (gw_t (gw_6 (List.mem_of_getElem? (i := 81) (by decide +kernel)))) (by decide +kernel)
theorem q469 : Cond.fieldLink "DeskRings" 69 "DeskRings" "plans" "LDeskRings$Plans;" ∈ GW := gw_of (gw_t (gw_2 (List.mem_of_getElem? (i := 229) (by decide +kernel)))) (by decide +kernel)
theorem fl_11_69 : FL "DeskRings" 69 11 9 (.object "DeskRings$Plans") true := ⟨R11, T11, 10, rfl, by decide, q469, by decide +kernel, rfl, rfl⟩
theorem q1280 : Cond.code ⟨"DeskRings$Plans", "bestRule", "(LDeskRings$Office;)I"⟩ prog_8_method_6_code 5 (some .int) ∈ GW := gw_of (gw_t (gw_6 (List.mem_of_getElem? (i := 80) (by decide +kernel)))) (by decide +kernel)
theorem q12 : Cond.initialized "DeskRings$Plans" ∈ GW := gw_of (gw_t (gw_1 (List.mem_of_getElem? (i := 12) (by decide +kernel)))) (by decide +kernel)
theorem zk_X6_bestRule : ZK Y_X6_bestRule 1 := ⟨q1280, q12, ⟨by decide, by decide⟩, by decide +kernel⟩
theorem q1278 : Cond.instanceMethod ⟨"DeskRings$Plans", "bestRule", "(LDeskRings$Office;)I"⟩ ∈ GW := gw_of (gw_t (gw_6 (List.mem_of_getElem? (i := 78) (by decide +kernel)))) (by decide +kernel)
theorem q1279 : Cond.selects "DeskRings$Plans" ⟨"DeskRings$Plans", "bestRule", "(LDeskRings$Office;)I"⟩ ⟨"DeskRings$Plans", "bestRule", "(LDeskRings$Office;)I"⟩ ∈ GW := gw_of (gw_t (gw_6 (List.mem_of_getElem? (i := 79) (by decide +kernel)))) (by decide +kernel)
theorem zi_X6_bestRule : Cond.instanceMethod Y_X6_bestRule.1 ∈ GW ∧ Cond.selects Y_X6_bestRule.1.cls Y_X6_bestRule.1 Y_X6_bestRule.1 ∈ GW := ⟨q1278, q1279⟩
theorem q1277 : Cond.methodLink "DeskRings" 315 ⟨"DeskRings$Plans", "bestRule", "(LDeskRings$Office;)I"⟩ ∈ GW := gw_of (gw_t (gw_6 (List.mem_of_getElem? (i := 77) (by decide +kernel)))) (by decide +kernel)
theorem q997 : Cond.methodLink "DeskRings$Log" 31 ⟨"DeskRings$Office", "hasDesk", "(I)Z"⟩ ∈ GW := gw_of (gw_t (gw_5 (List.mem_of_getElem? (i := 37) (by decide +kernel)))) (by decide +kernel)
theorem q159 : Cond.fieldLink "DeskRings$Suspects" 58 "DeskRings$Log" "count" "I" ∈ GW := gw_of (gw_t (gw_1 (List.mem_of_getElem? (i := 159) (by decide +kernel)))) (by decide +kernel)
theorem fl_8_58 : FL "DeskRings$Suspects" 58 4 0 .int false := ⟨R4, T4, 4, rfl, by decide, q159, by decide +kernel, rfl, rfl⟩
theorem q409 : Cond.fieldLink "DeskRings$Suspects" 25 "DeskRings$Suspects" "lift" "LDeskRings$Lift;" ∈ GW := gw_of (gw_t (gw_2 (List.mem_of_getElem? (i := 169) (by decide +kernel)))) (by decide +kernel)
theorem fl_8_25 : FL "DeskRings$Suspects" 25 8 3 (.object "DeskRings$Lift") true := ⟨R8, T8, 5, rfl, by decide, q409, by decide +kernel, rfl, rfl⟩
theorem q408 : Cond.fieldLink "DeskRings$Suspects" 18 "DeskRings$Suspects" "guess" "LDeskRings$Office;" ∈ GW := gw_of (gw_t (gw_2 (List.mem_of_getElem? (i := 168) (by decide +kernel)))) (by decide +kernel)
theorem fl_8_18 : FL "DeskRings$Suspects" 18 8 2 (.object "DeskRings$Office") true := ⟨R8, T8, 5, rfl, by decide, q408, by decide +kernel, rfl, rfl⟩
theorem q162 : Cond.fieldLink "DeskRings$Suspects" 63 "DeskRings$Log" "desk" "[I" ∈ GW := gw_of (gw_t (gw_1 (List.mem_of_getElem? (i := 162) (by decide +kernel)))) (by decide +kernel)
theorem fl_8_63 : FL "DeskRings$Suspects" 63 4 1 (.array .int) true := ⟨R4, T4, 4, rfl, by decide, q162, by decide +kernel, rfl, rfl⟩
theorem q270 : Cond.fieldLink "DeskRings$Suspects" 77 "DeskRings$Lift" "who" "I" ∈ GW := gw_of (gw_t (gw_2 (List.mem_of_getElem? (i := 30) (by decide +kernel)))) (by decide +kernel)
theorem fl_8_77 : FL "DeskRings$Suspects" 77 3 0 .int false := ⟨R3, T3, 3, rfl, by decide, q270, by decide +kernel, rfl, rfl⟩
theorem q164 : Cond.fieldLink "DeskRings$Suspects" 80 "DeskRings$Log" "lifter" "[I" ∈ GW := gw_of (gw_t (gw_1 (List.mem_of_getElem? (i := 164) (by decide +kernel)))) (by decide +kernel)
theorem fl_8_80 : FL "DeskRings$Suspects" 80 4 2 (.array .int) true := ⟨R4, T4, 4, rfl, by decide, q164, by decide +kernel, rfl, rfl⟩
theorem q275 : Cond.fieldLink "DeskRings$Suspects" 83 "DeskRings$Lift" "ring" "I" ∈ GW := gw_of (gw_t (gw_2 (List.mem_of_getElem? (i := 35) (by decide +kernel)))) (by decide +kernel)
theorem fl_8_83 : FL "DeskRings$Suspects" 83 3 1 .int false := ⟨R3, T3, 3, rfl, by decide, q275, by decide +kernel, rfl, rfl⟩
theorem q166 : Cond.fieldLink "DeskRings$Suspects" 86 "DeskRings$Log" "ring" "[I" ∈ GW := gw_of (gw_t (gw_1 (List.mem_of_getElem? (i := 166) (by decide +kernel)))) (by decide +kernel)
theorem fl_8_86 : FL "DeskRings$Suspects" 86 4 3 (.array .int) true := ⟨R4, T4, 4, rfl, by decide, q166, by decide +kernel, rfl, rfl⟩
theorem q1018 : Cond.methodLink "DeskRings$Suspects" 73 ⟨"DeskRings$Lift", "asTold", "(LDeskRings$Office;II[I)V"⟩ ∈ GW := gw_of (gw_t (gw_5 (List.mem_of_getElem? (i := 58) (by decide +kernel)))) (by decide +kernel)
theorem q1012 : Cond.methodLink "DeskRings$Suspects" 66 ⟨"DeskRings$Office", "othersThan", "(I)I"⟩ ∈ GW := gw_of (gw_t (gw_5 (List.mem_of_getElem? (i := 52) (by decide +kernel)))) (by decide +kernel)
theorem q54 : Cond.fieldLink "DeskRings$Suspects" 52 "DeskRings$Office" "desks" "I" ∈ GW := gw_of (gw_t (gw_1 (List.mem_of_getElem? (i := 54) (by decide +kernel)))) (by decide +kernel)
theorem fl_8_52 : FL "DeskRings$Suspects" 52 5 0 .int false := ⟨R5, T5, 15, rfl, by decide, q54, by decide +kernel, rfl, rfl⟩
theorem q73 : Cond.fieldLink "DeskRings$Suspects" 55 "DeskRings$Office" "kind" "[I" ∈ GW := gw_of (gw_t (gw_1 (List.mem_of_getElem? (i := 73) (by decide +kernel)))) (by decide +kernel)
theorem fl_8_55 : FL "DeskRings$Suspects" 55 5 5 (.array .int) true := ⟨R5, T5, 15, rfl, by decide, q73, by decide +kernel, rfl, rfl⟩
theorem q406 : Cond.fieldLink "DeskRings$Suspects" 36 "DeskRings$Suspects" "found" "I" ∈ GW := gw_of (gw_t (gw_2 (List.mem_of_getElem? (i := 166) (by decide +kernel)))) (by decide +kernel)
theorem fl_8_36 : FL "DeskRings$Suspects" 36 8 0 .int false := ⟨R8, T8, 5, rfl, by decide, q406, by decide +kernel, rfl, rfl⟩
theorem q1007 : Cond.code ⟨"DeskRings$Suspects", "suppose", "(I)V"⟩ prog_10_method_3_code 3 (none : Option Jvm.ClassFile.FieldType) ∈ GW := gw_of (gw_t (gw_5 (List.mem_of_getElem? (i := 47) (by decide +kernel)))) (by decide +kernel)
theorem q11 : Cond.initialized "DeskRings$Suspects" ∈ GW := gw_of (gw_t (gw_1 (List.mem_of_getElem? (i := 11) (by decide +kernel)))) (by decide +kernel)
theorem zk_X8_suppose : ZK Y_X8_suppose 1 := ⟨q1007, q11, ⟨by decide, by decide⟩, by decide +kernel⟩
theorem q1006 : Cond.instanceMethod ⟨"DeskRings$Suspects", "suppose", "(I)V"⟩ ∈ GW := gw_of (gw_t (gw_5 (List.mem_of_getElem? (i := 46) (by decide +kernel)))) (by decide +kernel)
theorem qs34 : Cond.selects "DeskRings$Suspects" ⟨"DeskRings$Suspects", "suppose", "(I)V"⟩ ⟨"DeskRings$Suspects", "suppose", "(I)V"⟩ ∈ GW := gw_of (List.mem_append_left _ (List.mem_of_getElem? (i := 34) (by decide +kernel))) (by decide +kernel)
theorem zi_X8_suppose : Cond.instanceMethod Y_X8_suppose.1 ∈ GW ∧ Cond.selects Y_X8_suppose.1.cls Y_X8_suppose.1 Y_X8_suppose.1 ∈ GW := ⟨q1006, qs34⟩
theorem q1011 : Cond.code ⟨"DeskRings$Suspects", "agrees", "(LDeskRings$Log;)Z"⟩ prog_10_method_4_code 3 (some .boolean) ∈ GW := gw_of (gw_t (gw_5 (List.mem_of_getElem? (i := 51) (by decide +kernel)))) (by decide +kernel)
theorem zk_X8_agrees : ZK Y_X8_agrees 1 := ⟨q1011, q11, ⟨by decide, by decide⟩, by decide +kernel⟩
theorem q1010 : Cond.instanceMethod ⟨"DeskRings$Suspects", "agrees", "(LDeskRings$Log;)Z"⟩ ∈ GW := gw_of (gw_t (gw_5 (List.mem_of_getElem? (i := 50) (by decide +kernel)))) (by decide +kernel)
theorem qs35 : Cond.selects "DeskRings$Suspects" ⟨"DeskRings$Suspects", "agrees", "(LDeskRings$Log;)Z"⟩ ⟨"DeskRings$Suspects", "agrees", "(LDeskRings$Log;)Z"⟩ ∈ GW := gw_of (List.mem_append_left _ (List.mem_of_getElem? (i := 35) (by decide +kernel))) (by decide +kernel)
theorem zi_X8_agrees : Cond.instanceMethod Y_X8_agrees.1 ∈ GW ∧ Cond.selects Y_X8_agrees.1.cls Y_X8_agrees.1 Y_X8_agrees.1 ∈ GW := ⟨q1010, qs35⟩
theorem q407 : Cond.fieldLink "DeskRings$Suspects" 9 "DeskRings$Suspects" "sets" "[I" ∈ GW := gw_of (gw_t (gw_2 (List.mem_of_getElem? (i := 167) (by decide +kernel)))) (by decide +kernel)
theorem fl_8_9 : FL "DeskRings$Suspects" 9 8 1 (.array .int) true := ⟨R8, T8, 5, rfl, by decide, q407, by decide +kernel, rfl, rfl⟩
theorem q1008 : Cond.methodLink "DeskRings$Suspects" 48 ⟨"DeskRings$Suspects", "agrees", "(LDeskRings$Log;)Z"⟩ ∈ GW := gw_of (gw_t (gw_5 (List.mem_of_getElem? (i := 48) (by decide +kernel)))) (by decide +kernel)
theorem q1004 : Cond.methodLink "DeskRings$Suspects" 44 ⟨"DeskRings$Suspects", "suppose", "(I)V"⟩ ∈ GW := gw_of (gw_t (gw_5 (List.mem_of_getElem? (i := 44) (by decide +kernel)))) (by decide +kernel)
theorem q1003 : Cond.methodLink "DeskRings$Suspects" 40 ⟨"DeskRings$Office", "everybody", "()I"⟩ ∈ GW := gw_of (gw_t (gw_5 (List.mem_of_getElem? (i := 43) (by decide +kernel)))) (by decide +kernel)
theorem q1002 : Cond.methodLink "DeskRings$Suspects" 32 ⟨"DeskRings$Office", "copyFrom", "(LDeskRings$Office;)V"⟩ ∈ GW := gw_of (gw_t (gw_5 (List.mem_of_getElem? (i := 42) (by decide +kernel)))) (by decide +kernel)
theorem q1238 : Cond.methodLink "DeskRings$Suspects" 106 ⟨"java/lang/Integer", "bitCount", "(I)I"⟩ ∈ GW := gw_of (gw_t (gw_6 (List.mem_of_getElem? (i := 38) (by decide +kernel)))) (by decide +kernel)
theorem q984 : Cond.code ⟨"DeskRings$Told", "logAt", "(I)LDeskRings$Log;"⟩ prog_11_method_8_code 2 (some (.object "DeskRings$Log")) ∈ GW := gw_of (gw_t (gw_5 (List.mem_of_getElem? (i := 24) (by decide +kernel)))) (by decide +kernel)
theorem zk_X9_logAt : ZK Y_X9_logAt 1 := ⟨q984, q2, ⟨by decide, by decide⟩, by decide +kernel⟩
theorem q982 : Cond.instanceMethod ⟨"DeskRings$Told", "logAt", "(I)LDeskRings$Log;"⟩ ∈ GW := gw_of (gw_t (gw_5 (List.mem_of_getElem? (i := 22) (by decide +kernel)))) (by decide +kernel)
theorem q983 : Cond.selects "DeskRings$Told" ⟨"DeskRings$Told", "logAt", "(I)LDeskRings$Log;"⟩ ⟨"DeskRings$Told", "logAt", "(I)LDeskRings$Log;"⟩ ∈ GW := gw_of (gw_t (gw_5 (List.mem_of_getElem? (i := 23) (by decide +kernel)))) (by decide +kernel)
theorem zi_X9_logAt : Cond.instanceMethod Y_X9_logAt.1 ∈ GW ∧ Cond.selects Y_X9_logAt.1.cls Y_X9_logAt.1 Y_X9_logAt.1 ∈ GW := ⟨q982, q983⟩
theorem q996 : Cond.code ⟨"DeskRings$Log", "tellsOnlyOf", "(LDeskRings$Office;)Z"⟩ prog_6_method_5_code 3 (some .boolean) ∈ GW := gw_of (gw_t (gw_5 (List.mem_of_getElem? (i := 36) (by decide +kernel)))) (by decide +kernel)
theorem zk_X4_tellsOnlyOf : ZK Y_X4_tellsOnlyOf 1 := ⟨q996, q5, ⟨by decide, by decide⟩, by decide +kernel⟩
theorem q994 : Cond.instanceMethod ⟨"DeskRings$Log", "tellsOnlyOf", "(LDeskRings$Office;)Z"⟩ ∈ GW := gw_of (gw_t (gw_5 (List.mem_of_getElem? (i := 34) (by decide +kernel)))) (by decide +kernel)
theorem q995 : Cond.selects "DeskRings$Log" ⟨"DeskRings$Log", "tellsOnlyOf", "(LDeskRings$Office;)Z"⟩ ⟨"DeskRings$Log", "tellsOnlyOf", "(LDeskRings$Office;)Z"⟩ ∈ GW := gw_of (gw_t (gw_5 (List.mem_of_getElem? (i := 35) (by decide +kernel)))) (by decide +kernel)
theorem zi_X4_tellsOnlyOf : Cond.instanceMethod Y_X4_tellsOnlyOf.1 ∈ GW ∧ Cond.selects Y_X4_tellsOnlyOf.1.cls Y_X4_tellsOnlyOf.1 Y_X4_tellsOnlyOf.1 ∈ GW := ⟨q994, q995⟩
theorem q468 : Cond.fieldLink "DeskRings" 62 "DeskRings" "suspects" "LDeskRings$Suspects;" ∈ GW := gw_of (gw_t (gw_2 (List.mem_of_getElem? (i := 228) (by decide +kernel)))) (by decide +kernel)
theorem fl_11_62 : FL "DeskRings" 62 11 8 (.object "DeskRings$Suspects") true := ⟨R11, T11, 10, rfl, by decide, q468, by decide +kernel, rfl, rfl⟩
theorem q1001 : Cond.code ⟨"DeskRings$Suspects", "find", "(LDeskRings$Office;LDeskRings$Log;)V"⟩ prog_10_method_2_code 4 (none : Option Jvm.ClassFile.FieldType) ∈ GW := gw_of (gw_t (gw_5 (List.mem_of_getElem? (i := 41) (by decide +kernel)))) (by decide +kernel)
theorem zk_X8_find : ZK Y_X8_find 2 := ⟨q1001, q11, ⟨by decide, by decide⟩, by decide +kernel⟩
theorem q999 : Cond.instanceMethod ⟨"DeskRings$Suspects", "find", "(LDeskRings$Office;LDeskRings$Log;)V"⟩ ∈ GW := gw_of (gw_t (gw_5 (List.mem_of_getElem? (i := 39) (by decide +kernel)))) (by decide +kernel)
theorem q1000 : Cond.selects "DeskRings$Suspects" ⟨"DeskRings$Suspects", "find", "(LDeskRings$Office;LDeskRings$Log;)V"⟩ ⟨"DeskRings$Suspects", "find", "(LDeskRings$Office;LDeskRings$Log;)V"⟩ ∈ GW := gw_of (gw_t (gw_5 (List.mem_of_getElem? (i := 40) (by decide +kernel)))) (by decide +kernel)
theorem zi_X8_find : Cond.instanceMethod Y_X8_find.1 ∈ GW ∧ Cond.selects Y_X8_find.1.cls Y_X8_find.1 Y_X8_find.1 ∈ GW := ⟨q999, q1000⟩
theorem q1237 : Cond.code ⟨"DeskRings$Suspects", "smallest", "()I"⟩ prog_10_method_10_code 3 (some .int) ∈ GW := gw_of (gw_t (gw_6 (List.mem_of_getElem? (i := 37) (by decide +kernel)))) (by decide +kernel)
theorem zk_X8_smallest : ZK Y_X8_smallest 0 := ⟨q1237, q11, ⟨by decide, by decide⟩, by decide +kernel⟩
theorem q1235 : Cond.instanceMethod ⟨"DeskRings$Suspects", "smallest", "()I"⟩ ∈ GW := gw_of (gw_t (gw_6 (List.mem_of_getElem? (i := 35) (by decide +kernel)))) (by decide +kernel)
theorem q1236 : Cond.selects "DeskRings$Suspects" ⟨"DeskRings$Suspects", "smallest", "()I"⟩ ⟨"DeskRings$Suspects", "smallest", "()I"⟩ ∈ GW := gw_of (gw_t (gw_6 (List.mem_of_getElem? (i := 36) (by decide +kernel)))) (by decide +kernel)
theorem zi_X8_smallest : Cond.instanceMethod Y_X8_smallest.1 ∈ GW ∧ Cond.selects Y_X8_smallest.1.cls Y_X8_smallest.1 Y_X8_smallest.1 ∈ GW := ⟨q1235, q1236⟩
theorem q1093 : Cond.methodLink "DeskRings" 245 ⟨"java/lang/Integer", "bitCount", "(I)I"⟩ ∈ GW := gw_of (gw_t (gw_5 (List.mem_of_getElem? (i := 133) (by decide +kernel)))) (by decide +kernel)
theorem q1234 : Cond.methodLink "DeskRings" 297 ⟨"DeskRings$Suspects", "smallest", "()I"⟩ ∈ GW := gw_of (gw_t (gw_6 (List.mem_of_getElem? (i := 34) (by decide +kernel)))) (by decide +kernel)
theorem q998 : Cond.methodLink "DeskRings" 205 ⟨"DeskRings$Suspects", "find", "(LDeskRings$Office;LDeskRings$Log;)V"⟩ ∈ GW := gw_of (gw_t (gw_5 (List.mem_of_getElem? (i := 38) (by decide +kernel)))) (by decide +kernel)
theorem q993 : Cond.methodLink "DeskRings" 201 ⟨"DeskRings$Log", "tellsOnlyOf", "(LDeskRings$Office;)Z"⟩ ∈ GW := gw_of (gw_t (gw_5 (List.mem_of_getElem? (i := 33) (by decide +kernel)))) (by decide +kernel)
theorem q981 : Cond.methodLink "DeskRings" 193 ⟨"DeskRings$Told", "logAt", "(I)LDeskRings$Log;"⟩ ∈ GW := gw_of (gw_t (gw_5 (List.mem_of_getElem? (i := 21) (by decide +kernel)))) (by decide +kernel)
theorem q673 : Cond.methodLink "DeskRings$Office" 67 ⟨"java/lang/Math", "abs", "(I)I"⟩ ∈ GW := gw_of (gw_t (gw_3 (List.mem_of_getElem? (i := 193) (by decide +kernel)))) (by decide +kernel)
theorem q1105 : Cond.code ⟨"DeskRings$Office", "wayToCalls", "(I)I"⟩ prog_7_method_22_code 4 (some .int) ∈ GW := gw_of (gw_t (gw_5 (List.mem_of_getElem? (i := 145) (by decide +kernel)))) (by decide +kernel)
theorem zk_X5_wayToCalls : ZK Y_X5_wayToCalls 1 := ⟨q1105, q3, ⟨by decide, by decide⟩, by decide +kernel⟩
theorem q1103 : Cond.instanceMethod ⟨"DeskRings$Office", "wayToCalls", "(I)I"⟩ ∈ GW := gw_of (gw_t (gw_5 (List.mem_of_getElem? (i := 143) (by decide +kernel)))) (by decide +kernel)
theorem q1104 : Cond.selects "DeskRings$Office" ⟨"DeskRings$Office", "wayToCalls", "(I)I"⟩ ⟨"DeskRings$Office", "wayToCalls", "(I)I"⟩ ∈ GW := gw_of (gw_t (gw_5 (List.mem_of_getElem? (i := 144) (by decide +kernel)))) (by decide +kernel)
theorem zi_X5_wayToCalls : Cond.instanceMethod Y_X5_wayToCalls.1 ∈ GW ∧ Cond.selects Y_X5_wayToCalls.1.cls Y_X5_wayToCalls.1 Y_X5_wayToCalls.1 ∈ GW := ⟨q1103, q1104⟩
theorem q1102 : Cond.methodLink "DeskRings$Office" 104 ⟨"DeskRings$Office", "wayToCalls", "(I)I"⟩ ∈ GW := gw_of (gw_t (gw_5 (List.mem_of_getElem? (i := 142) (by decide +kernel)))) (by decide +kernel)
theorem q1101 : Cond.code ⟨"DeskRings$Office", "boardPlace", "()I"⟩ prog_7_method_23_code 3 (some .int) ∈ GW := gw_of (gw_t (gw_5 (List.mem_of_getElem? (i := 141) (by decide +kernel)))) (by decide +kernel)
theorem zk_X5_boardPlace : ZK Y_X5_boardPlace 0 := ⟨q1101, q3, ⟨by decide, by decide⟩, by decide +kernel⟩
theorem q1099 : Cond.instanceMethod ⟨"DeskRings$Office", "boardPlace", "()I"⟩ ∈ GW := gw_of (gw_t (gw_5 (List.mem_of_getElem? (i := 139) (by decide +kernel)))) (by decide +kernel)
theorem q1100 : Cond.selects "DeskRings$Office" ⟨"DeskRings$Office", "boardPlace", "()I"⟩ ⟨"DeskRings$Office", "boardPlace", "()I"⟩ ∈ GW := gw_of (gw_t (gw_5 (List.mem_of_getElem? (i := 140) (by decide +kernel)))) (by decide +kernel)
theorem zi_X5_boardPlace : Cond.instanceMethod Y_X5_boardPlace.1 ∈ GW ∧ Cond.selects Y_X5_boardPlace.1.cls Y_X5_boardPlace.1 Y_X5_boardPlace.1 ∈ GW := ⟨q1099, q1100⟩
theorem q1106 : Cond.methodLink "DeskRings" 253 ⟨"DeskRings$Office", "wayToCalls", "(I)I"⟩ ∈ GW := gw_of (gw_t (gw_5 (List.mem_of_getElem? (i := 146) (by decide +kernel)))) (by decide +kernel)
theorem q1098 : Cond.methodLink "DeskRings" 250 ⟨"DeskRings$Office", "boardPlace", "()I"⟩ ∈ GW := gw_of (gw_t (gw_5 (List.mem_of_getElem? (i := 138) (by decide +kernel)))) (by decide +kernel)
theorem q52 : Cond.fieldLink "DeskRings$Chances" 61 "DeskRings$Office" "desks" "I" ∈ GW := gw_of (gw_t (gw_1 (List.mem_of_getElem? (i := 52) (by decide +kernel)))) (by decide +kernel)
theorem fl_0_61 : FL "DeskRings$Chances" 61 5 0 .int false := ⟨R5, T5, 15, rfl, by decide, q52, by decide +kernel, rfl, rfl⟩
theorem q83 : Cond.fieldLink "DeskRings$Chances" 83 "DeskRings$Office" "presence" "[I" ∈ GW := gw_of (gw_t (gw_1 (List.mem_of_getElem? (i := 83) (by decide +kernel)))) (by decide +kernel)
theorem fl_0_83 : FL "DeskRings$Chances" 83 5 9 (.array .int) true := ⟨R5, T5, 15, rfl, by decide, q83, by decide +kernel, rfl, rfl⟩
theorem q356 : Cond.fieldLink "DeskRings$Chances" 15 "DeskRings$Chances" "row" "[I" ∈ GW := gw_of (gw_t (gw_2 (List.mem_of_getElem? (i := 116) (by decide +kernel)))) (by decide +kernel)
theorem fl_0_15 : FL "DeskRings$Chances" 15 0 2 (.array .int) true := ⟨R0, T0, 4, rfl, by decide, q356, by decide +kernel, rfl, rfl⟩
theorem q352 : Cond.fieldLink "DeskRings$Chances" 26 "DeskRings$Chances" "over" "J" ∈ GW := gw_of (gw_t (gw_2 (List.mem_of_getElem? (i := 112) (by decide +kernel)))) (by decide +kernel)
theorem fl_0_26 : FL "DeskRings$Chances" 26 0 0 .long false := ⟨R0, T0, 4, rfl, by decide, q352, by decide +kernel, rfl, rfl⟩
theorem q354 : Cond.fieldLink "DeskRings$Chances" 9 "DeskRings$Chances" "under" "J" ∈ GW := gw_of (gw_t (gw_2 (List.mem_of_getElem? (i := 114) (by decide +kernel)))) (by decide +kernel)
theorem fl_0_9 : FL "DeskRings$Chances" 9 0 1 .long false := ⟨R0, T0, 4, rfl, by decide, q354, by decide +kernel, rfl, rfl⟩
theorem q892 : Cond.constantLong "DeskRings$Chances" 81 (10 : Int64) ∈ GW := gw_of (gw_t (gw_4 (List.mem_of_getElem? (i := 172) (by decide +kernel)))) (by decide +kernel)
theorem q976 : Cond.code ⟨"DeskRings$Chances", "layRow", "(LDeskRings$Office;)V"⟩ prog_2_method_5_code 8 (none : Option Jvm.ClassFile.FieldType) ∈ GW := gw_of (gw_t (gw_5 (List.mem_of_getElem? (i := 16) (by decide +kernel)))) (by decide +kernel)
theorem q9 : Cond.initialized "DeskRings$Chances" ∈ GW := gw_of (gw_t (gw_1 (List.mem_of_getElem? (i := 9) (by decide +kernel)))) (by decide +kernel)
theorem zk_X0_layRow : ZK Y_X0_layRow 1 := ⟨q976, q9, ⟨by decide, by decide⟩, by decide +kernel⟩
theorem q975 : Cond.instanceMethod ⟨"DeskRings$Chances", "layRow", "(LDeskRings$Office;)V"⟩ ∈ GW := gw_of (gw_t (gw_5 (List.mem_of_getElem? (i := 15) (by decide +kernel)))) (by decide +kernel)
theorem qs33 : Cond.selects "DeskRings$Chances" ⟨"DeskRings$Chances", "layRow", "(LDeskRings$Office;)V"⟩ ⟨"DeskRings$Chances", "layRow", "(LDeskRings$Office;)V"⟩ ∈ GW := gw_of (List.mem_append_left _ (List.mem_of_getElem? (i := 33) (by decide +kernel))) (by decide +kernel)
theorem zi_X0_layRow : Cond.instanceMethod Y_X0_layRow.1 ∈ GW ∧ Cond.selects Y_X0_layRow.1.cls Y_X0_layRow.1 Y_X0_layRow.1 ∈ GW := ⟨q975, qs33⟩
theorem q891 : Cond.code ⟨"DeskRings$Chances", "tenTo", "(I)J"⟩ prog_2_method_7_code 4 (some .long) ∈ GW := gw_of (gw_t (gw_4 (List.mem_of_getElem? (i := 171) (by decide +kernel)))) (by decide +kernel)
theorem zk_X0_tenTo : ZK Y_X0_tenTo 1 := ⟨q891, q9, ⟨by decide, by decide⟩, by decide +kernel⟩
theorem q896 : Cond.code ⟨"DeskRings$Chances", "reduce", "()V"⟩ prog_2_method_8_code 8 (none : Option Jvm.ClassFile.FieldType) ∈ GW := gw_of (gw_t (gw_4 (List.mem_of_getElem? (i := 176) (by decide +kernel)))) (by decide +kernel)
theorem zk_X0_reduce : ZK Y_X0_reduce 0 := ⟨q896, q9, ⟨by decide, by decide⟩, by decide +kernel⟩
theorem q895 : Cond.instanceMethod ⟨"DeskRings$Chances", "reduce", "()V"⟩ ∈ GW := gw_of (gw_t (gw_4 (List.mem_of_getElem? (i := 175) (by decide +kernel)))) (by decide +kernel)
theorem qs23 : Cond.selects "DeskRings$Chances" ⟨"DeskRings$Chances", "reduce", "()V"⟩ ⟨"DeskRings$Chances", "reduce", "()V"⟩ ∈ GW := gw_of (List.mem_append_left _ (List.mem_of_getElem? (i := 23) (by decide +kernel))) (by decide +kernel)
theorem zi_X0_reduce : Cond.instanceMethod Y_X0_reduce.1 ∈ GW ∧ Cond.selects Y_X0_reduce.1.cls Y_X0_reduce.1 Y_X0_reduce.1 ∈ GW := ⟨q895, qs23⟩
theorem q893 : Cond.methodLink "DeskRings$Chances" 68 ⟨"DeskRings$Chances", "reduce", "()V"⟩ ∈ GW := gw_of (gw_t (gw_4 (List.mem_of_getElem? (i := 173) (by decide +kernel)))) (by decide +kernel)
theorem q889 : Cond.methodLink "DeskRings$Chances" 64 ⟨"DeskRings$Chances", "tenTo", "(I)J"⟩ ∈ GW := gw_of (gw_t (gw_4 (List.mem_of_getElem? (i := 169) (by decide +kernel)))) (by decide +kernel)
theorem q890 : Cond.static ⟨"DeskRings$Chances", "tenTo", "(I)J"⟩ ∈ GW := gw_of (gw_t (gw_4 (List.mem_of_getElem? (i := 170) (by decide +kernel)))) (by decide +kernel)
theorem q973 : Cond.methodLink "DeskRings$Chances" 77 ⟨"DeskRings$Chances", "layRow", "(LDeskRings$Office;)V"⟩ ∈ GW := gw_of (gw_t (gw_5 (List.mem_of_getElem? (i := 13) (by decide +kernel)))) (by decide +kernel)
theorem q871 : Cond.constantLong "DeskRings" 160 (-1 : Int64) ∈ GW := gw_of (gw_t (gw_4 (List.mem_of_getElem? (i := 151) (by decide +kernel)))) (by decide +kernel)
theorem q466 : Cond.fieldLink "DeskRings" 48 "DeskRings" "chances" "LDeskRings$Chances;" ∈ GW := gw_of (gw_t (gw_2 (List.mem_of_getElem? (i := 226) (by decide +kernel)))) (by decide +kernel)
theorem fl_11_48 : FL "DeskRings" 48 11 6 (.object "DeskRings$Chances") true := ⟨R11, T11, 10, rfl, by decide, q466, by decide +kernel, rfl, rfl⟩
theorem q972 : Cond.code ⟨"DeskRings$Chances", "reckonButton", "(LDeskRings$Office;)V"⟩ prog_2_method_4_code 5 (none : Option Jvm.ClassFile.FieldType) ∈ GW := gw_of (gw_t (gw_5 (List.mem_of_getElem? (i := 12) (by decide +kernel)))) (by decide +kernel)
theorem zk_X0_reckonButton : ZK Y_X0_reckonButton 1 := ⟨q972, q9, ⟨by decide, by decide⟩, by decide +kernel⟩
theorem q970 : Cond.instanceMethod ⟨"DeskRings$Chances", "reckonButton", "(LDeskRings$Office;)V"⟩ ∈ GW := gw_of (gw_t (gw_5 (List.mem_of_getElem? (i := 10) (by decide +kernel)))) (by decide +kernel)
theorem q971 : Cond.selects "DeskRings$Chances" ⟨"DeskRings$Chances", "reckonButton", "(LDeskRings$Office;)V"⟩ ⟨"DeskRings$Chances", "reckonButton", "(LDeskRings$Office;)V"⟩ ∈ GW := gw_of (gw_t (gw_5 (List.mem_of_getElem? (i := 11) (by decide +kernel)))) (by decide +kernel)
theorem zi_X0_reckonButton : Cond.instanceMethod Y_X0_reckonButton.1 ∈ GW ∧ Cond.selects Y_X0_reckonButton.1.cls Y_X0_reckonButton.1 Y_X0_reckonButton.1 ∈ GW := ⟨q970, q971⟩
theorem q353 : Cond.fieldLink "DeskRings" 170 "DeskRings$Chances" "over" "J" ∈ GW := gw_of (gw_t (gw_2 (List.mem_of_getElem? (i := 113) (by decide +kernel)))) (by decide +kernel)
theorem fl_11_170 : FL "DeskRings" 170 0 0 .long false := ⟨R0, T0, 4, rfl, by decide, q353, by decide +kernel, rfl, rfl⟩
theorem q355 : Cond.fieldLink "DeskRings" 166 "DeskRings$Chances" "under" "J" ∈ GW := gw_of (gw_t (gw_2 (List.mem_of_getElem? (i := 115) (by decide +kernel)))) (by decide +kernel)
theorem fl_11_166 : FL "DeskRings" 166 0 1 .long false := ⟨R0, T0, 4, rfl, by decide, q355, by decide +kernel, rfl, rfl⟩
theorem q357 : Cond.fieldLink "DeskRings" 190 "DeskRings$Chances" "row" "[I" ∈ GW := gw_of (gw_t (gw_2 (List.mem_of_getElem? (i := 117) (by decide +kernel)))) (by decide +kernel)
theorem fl_11_190 : FL "DeskRings" 190 0 2 (.array .int) true := ⟨R0, T0, 4, rfl, by decide, q357, by decide +kernel, rfl, rfl⟩
theorem q845 : Cond.methodLink "DeskRings" 131 ⟨"DeskRings$Office", "hasDesk", "(I)Z"⟩ ∈ GW := gw_of (gw_t (gw_4 (List.mem_of_getElem? (i := 125) (by decide +kernel)))) (by decide +kernel)
theorem q969 : Cond.methodLink "DeskRings" 186 ⟨"DeskRings$Chances", "reckonButton", "(LDeskRings$Office;)V"⟩ ∈ GW := gw_of (gw_t (gw_5 (List.mem_of_getElem? (i := 9) (by decide +kernel)))) (by decide +kernel)
theorem q185 : Cond.fieldLink "DeskRings" 324 "DeskRings$Told" "counts" "[I" ∈ GW := gw_of (gw_t (gw_1 (List.mem_of_getElem? (i := 185) (by decide +kernel)))) (by decide +kernel)
theorem fl_11_324 : FL "DeskRings" 324 9 4 (.array .int) true := ⟨R9, T9, 8, rfl, by decide, q185, by decide +kernel, rfl, rfl⟩
theorem q63 : Cond.fieldLink "DeskRings" 239 "DeskRings$Office" "calls" "I" ∈ GW := gw_of (gw_t (gw_1 (List.mem_of_getElem? (i := 63) (by decide +kernel)))) (by decide +kernel)
theorem fl_11_239 : FL "DeskRings" 239 5 1 .int false := ⟨R5, T5, 15, rfl, by decide, q63, by decide +kernel, rfl, rfl⟩
theorem q91 : Cond.fieldLink "DeskRings" 275 "DeskRings$Office" "worth" "[I" ∈ GW := gw_of (gw_t (gw_1 (List.mem_of_getElem? (i := 91) (by decide +kernel)))) (by decide +kernel)
theorem fl_11_275 : FL "DeskRings" 275 5 11 (.array .int) true := ⟨R5, T5, 15, rfl, by decide, q91, by decide +kernel, rfl, rfl⟩
theorem q1179 : Cond.methodLink "DeskRings" 278 ⟨"DeskRings$Office", "faded", "(II)I"⟩ ∈ GW := gw_of (gw_t (gw_5 (List.mem_of_getElem? (i := 219) (by decide +kernel)))) (by decide +kernel)
theorem q140 : Cond.fieldLink "DeskRings" 119 "DeskRings$Day" "count" "I" ∈ GW := gw_of (gw_t (gw_1 (List.mem_of_getElem? (i := 140) (by decide +kernel)))) (by decide +kernel)
theorem fl_11_119 : FL "DeskRings" 119 1 0 .int false := ⟨R1, T1, 3, rfl, by decide, q140, by decide +kernel, rfl, rfl⟩
theorem q751 : Cond.code ⟨"DeskRings$Day", "tell", "(II)I"⟩ prog_3_method_4_code 3 (some .int) ∈ GW := gw_of (gw_t (gw_4 (List.mem_of_getElem? (i := 31) (by decide +kernel)))) (by decide +kernel)
theorem zk_X1_tell : ZK Y_X1_tell 2 := ⟨q751, q4, ⟨by decide, by decide⟩, by decide +kernel⟩
theorem q749 : Cond.instanceMethod ⟨"DeskRings$Day", "tell", "(II)I"⟩ ∈ GW := gw_of (gw_t (gw_4 (List.mem_of_getElem? (i := 29) (by decide +kernel)))) (by decide +kernel)
theorem q750 : Cond.selects "DeskRings$Day" ⟨"DeskRings$Day", "tell", "(II)I"⟩ ⟨"DeskRings$Day", "tell", "(II)I"⟩ ∈ GW := gw_of (gw_t (gw_4 (List.mem_of_getElem? (i := 30) (by decide +kernel)))) (by decide +kernel)
theorem zi_X1_tell : Cond.instanceMethod Y_X1_tell.1 ∈ GW ∧ Cond.selects Y_X1_tell.1.cls Y_X1_tell.1 Y_X1_tell.1 ∈ GW := ⟨q749, q750⟩
theorem q748 : Cond.methodLink "DeskRings" 124 ⟨"DeskRings$Day", "tell", "(II)I"⟩ ∈ GW := gw_of (gw_t (gw_4 (List.mem_of_getElem? (i := 28) (by decide +kernel)))) (by decide +kernel)
theorem q312 : Cond.fieldLink "DeskRings$Floor" 86 "DeskRings$Floor" "seed" "I" ∈ GW := gw_of (gw_t (gw_2 (List.mem_of_getElem? (i := 72) (by decide +kernel)))) (by decide +kernel)
theorem fl_2_86 : FL "DeskRings$Floor" 86 2 8 .int false := ⟨R2, T2, 13, rfl, by decide, q312, by decide +kernel, rfl, rfl⟩
theorem q1052 : Cond.constant "DeskRings$Floor" 99 (1103515245 : Int32) ∈ GW := gw_of (gw_t (gw_5 (List.mem_of_getElem? (i := 92) (by decide +kernel)))) (by decide +kernel)
theorem q1051 : Cond.code ⟨"DeskRings$Floor", "drawBelow", "(I)I"⟩ prog_4_method_5_code 2 (some .int) ∈ GW := gw_of (gw_t (gw_5 (List.mem_of_getElem? (i := 91) (by decide +kernel)))) (by decide +kernel)
theorem zk_X2_drawBelow : ZK Y_X2_drawBelow 1 := ⟨q1051, q8, ⟨by decide, by decide⟩, by decide +kernel⟩
theorem q1050 : Cond.instanceMethod ⟨"DeskRings$Floor", "drawBelow", "(I)I"⟩ ∈ GW := gw_of (gw_t (gw_5 (List.mem_of_getElem? (i := 90) (by decide +kernel)))) (by decide +kernel)
theorem qs40 : Cond.selects "DeskRings$Floor" ⟨"DeskRings$Floor", "drawBelow", "(I)I"⟩ ⟨"DeskRings$Floor", "drawBelow", "(I)I"⟩ ∈ GW := gw_of (List.mem_append_left _ (List.mem_of_getElem? (i := 40) (by decide +kernel))) (by decide +kernel)
theorem zi_X2_drawBelow : Cond.instanceMethod Y_X2_drawBelow.1 ∈ GW ∧ Cond.selects Y_X2_drawBelow.1.cls Y_X2_drawBelow.1 Y_X2_drawBelow.1 ∈ GW := ⟨q1050, qs40⟩
theorem q56 : Cond.fieldLink "DeskRings$Floor" 96 "DeskRings$Office" "desks" "I" ∈ GW := gw_of (gw_t (gw_1 (List.mem_of_getElem? (i := 56) (by decide +kernel)))) (by decide +kernel)
theorem fl_2_96 : FL "DeskRings$Floor" 96 5 0 .int false := ⟨R5, T5, 15, rfl, by decide, q56, by decide +kernel, rfl, rfl⟩
theorem q1048 : Cond.methodLink "DeskRings$Floor" 89 ⟨"DeskRings$Floor", "drawBelow", "(I)I"⟩ ∈ GW := gw_of (gw_t (gw_5 (List.mem_of_getElem? (i := 88) (by decide +kernel)))) (by decide +kernel)
theorem q840 : Cond.code ⟨"DeskRings$Floor", "tellDesk", "(II)I"⟩ prog_4_method_14_code 3 (some .int) ∈ GW := gw_of (gw_t (gw_4 (List.mem_of_getElem? (i := 120) (by decide +kernel)))) (by decide +kernel)
theorem zk_X2_tellDesk : ZK Y_X2_tellDesk 2 := ⟨q840, q8, ⟨by decide, by decide⟩, by decide +kernel⟩
theorem q839 : Cond.instanceMethod ⟨"DeskRings$Floor", "tellDesk", "(II)I"⟩ ∈ GW := gw_of (gw_t (gw_4 (List.mem_of_getElem? (i := 119) (by decide +kernel)))) (by decide +kernel)
theorem qs21 : Cond.selects "DeskRings$Floor" ⟨"DeskRings$Floor", "tellDesk", "(II)I"⟩ ⟨"DeskRings$Floor", "tellDesk", "(II)I"⟩ ∈ GW := gw_of (List.mem_append_left _ (List.mem_of_getElem? (i := 21) (by decide +kernel))) (by decide +kernel)
theorem zi_X2_tellDesk : Cond.instanceMethod Y_X2_tellDesk.1 ∈ GW ∧ Cond.selects Y_X2_tellDesk.1.cls Y_X2_tellDesk.1 Y_X2_tellDesk.1 ∈ GW := ⟨q839, qs21⟩
theorem q837 : Cond.methodLink "DeskRings$Floor" 174 ⟨"DeskRings$Floor", "tellDesk", "(II)I"⟩ ∈ GW := gw_of (gw_t (gw_4 (List.mem_of_getElem? (i := 117) (by decide +kernel)))) (by decide +kernel)
theorem q1047 : Cond.code ⟨"DeskRings$Floor", "playDrawn", "(LDeskRings$Office;II)V"⟩ prog_4_method_4_code 8 (none : Option Jvm.ClassFile.FieldType) ∈ GW := gw_of (gw_t (gw_5 (List.mem_of_getElem? (i := 87) (by decide +kernel)))) (by decide +kernel)
theorem zk_X2_playDrawn : ZK Y_X2_playDrawn 3 := ⟨q1047, q8, ⟨by decide, by decide⟩, by decide +kernel⟩
theorem q1045 : Cond.instanceMethod ⟨"DeskRings$Floor", "playDrawn", "(LDeskRings$Office;II)V"⟩ ∈ GW := gw_of (gw_t (gw_5 (List.mem_of_getElem? (i := 85) (by decide +kernel)))) (by decide +kernel)
theorem q1046 : Cond.selects "DeskRings$Floor" ⟨"DeskRings$Floor", "playDrawn", "(LDeskRings$Office;II)V"⟩ ⟨"DeskRings$Floor", "playDrawn", "(LDeskRings$Office;II)V"⟩ ∈ GW := gw_of (gw_t (gw_5 (List.mem_of_getElem? (i := 86) (by decide +kernel)))) (by decide +kernel)
theorem zi_X2_playDrawn : Cond.instanceMethod Y_X2_playDrawn.1 ∈ GW ∧ Cond.selects Y_X2_playDrawn.1.cls Y_X2_playDrawn.1 Y_X2_playDrawn.1 ∈ GW := ⟨q1045, q1046⟩
theorem q836 : Cond.code ⟨"DeskRings$Floor", "tell", "(I)I"⟩ prog_4_method_13_code 2 (some .int) ∈ GW := gw_of (gw_t (gw_4 (List.mem_of_getElem? (i := 116) (by decide +kernel)))) (by decide +kernel)
theorem zk_X2_tell : ZK Y_X2_tell 1 := ⟨q836, q8, ⟨by decide, by decide⟩, by decide +kernel⟩
theorem q834 : Cond.instanceMethod ⟨"DeskRings$Floor", "tell", "(I)I"⟩ ∈ GW := gw_of (gw_t (gw_4 (List.mem_of_getElem? (i := 114) (by decide +kernel)))) (by decide +kernel)
theorem q835 : Cond.selects "DeskRings$Floor" ⟨"DeskRings$Floor", "tell", "(I)I"⟩ ⟨"DeskRings$Floor", "tell", "(I)I"⟩ ∈ GW := gw_of (gw_t (gw_4 (List.mem_of_getElem? (i := 115) (by decide +kernel)))) (by decide +kernel)
theorem zi_X2_tell : Cond.instanceMethod Y_X2_tell.1 ∈ GW ∧ Cond.selects Y_X2_tell.1.cls Y_X2_tell.1 Y_X2_tell.1 ∈ GW := ⟨q834, q835⟩
theorem q833 : Cond.methodLink "DeskRings" 130 ⟨"DeskRings$Floor", "tell", "(I)I"⟩ ∈ GW := gw_of (gw_t (gw_4 (List.mem_of_getElem? (i := 113) (by decide +kernel)))) (by decide +kernel)
theorem q1044 : Cond.methodLink "DeskRings" 210 ⟨"DeskRings$Floor", "playDrawn", "(LDeskRings$Office;II)V"⟩ ∈ GW := gw_of (gw_t (gw_5 (List.mem_of_getElem? (i := 84) (by decide +kernel)))) (by decide +kernel)
theorem q53 : Cond.fieldLink "DeskRings$Plans" 54 "DeskRings$Office" "desks" "I" ∈ GW := gw_of (gw_t (gw_1 (List.mem_of_getElem? (i := 53) (by decide +kernel)))) (by decide +kernel)
theorem fl_6_54 : FL "DeskRings$Plans" 54 5 0 .int false := ⟨R5, T5, 15, rfl, by decide, q53, by decide +kernel, rfl, rfl⟩
theorem q442 : Cond.fieldLink "DeskRings$Plans" 35 "DeskRings$Plans" "dutyCost" "[I" ∈ GW := gw_of (gw_t (gw_2 (List.mem_of_getElem? (i := 202) (by decide +kernel)))) (by decide +kernel)
theorem fl_6_35 : FL "DeskRings$Plans" 35 6 7 (.array .int) true := ⟨R6, T6, 8, rfl, by decide, q442, by decide +kernel, rfl, rfl⟩
theorem q1250 : Cond.code ⟨"DeskRings$Plans", "cheapest", "(LDeskRings$Office;II)I"⟩ prog_8_method_17_code 7 (some .int) ∈ GW := gw_of (gw_t (gw_6 (List.mem_of_getElem? (i := 50) (by decide +kernel)))) (by decide +kernel)
theorem zk_X6_cheapest : ZK Y_X6_cheapest 3 := ⟨q1250, q12, ⟨by decide, by decide⟩, by decide +kernel⟩
theorem q1249 : Cond.instanceMethod ⟨"DeskRings$Plans", "cheapest", "(LDeskRings$Office;II)I"⟩ ∈ GW := gw_of (gw_t (gw_6 (List.mem_of_getElem? (i := 49) (by decide +kernel)))) (by decide +kernel)
theorem qs50 : Cond.selects "DeskRings$Plans" ⟨"DeskRings$Plans", "cheapest", "(LDeskRings$Office;II)I"⟩ ⟨"DeskRings$Plans", "cheapest", "(LDeskRings$Office;II)I"⟩ ∈ GW := gw_of (List.mem_append_left _ (List.mem_of_getElem? (i := 50) (by decide +kernel))) (by decide +kernel)
theorem zi_X6_cheapest : Cond.instanceMethod Y_X6_cheapest.1 ∈ GW ∧ Cond.selects Y_X6_cheapest.1.cls Y_X6_cheapest.1 Y_X6_cheapest.1 ∈ GW := ⟨q1249, qs50⟩
theorem q81 : Cond.fieldLink "DeskRings$Plans" 154 "DeskRings$Office" "cost" "[I" ∈ GW := gw_of (gw_t (gw_1 (List.mem_of_getElem? (i := 81) (by decide +kernel)))) (by decide +kernel)
theorem fl_6_154 : FL "DeskRings$Plans" 154 5 8 (.array .int) true := ⟨R5, T5, 15, rfl, by decide, q81, by decide +kernel, rfl, rfl⟩
theorem q1247 : Cond.methodLink "DeskRings$Plans" 151 ⟨"DeskRings$Plans", "cheapest", "(LDeskRings$Office;II)I"⟩ ∈ GW := gw_of (gw_t (gw_6 (List.mem_of_getElem? (i := 47) (by decide +kernel)))) (by decide +kernel)
theorem q436 : Cond.fieldLink "DeskRings$Plans" 9 "DeskRings$Plans" "row" "[I" ∈ GW := gw_of (gw_t (gw_2 (List.mem_of_getElem? (i := 196) (by decide +kernel)))) (by decide +kernel)
theorem fl_6_9 : FL "DeskRings$Plans" 9 6 2 (.array .int) true := ⟨R6, T6, 8, rfl, by decide, q436, by decide +kernel, rfl, rfl⟩
theorem q432 : Cond.fieldLink "DeskRings$Plans" 68 "DeskRings$Plans" "most" "I" ∈ GW := gw_of (gw_t (gw_2 (List.mem_of_getElem? (i := 192) (by decide +kernel)))) (by decide +kernel)
theorem fl_6_68 : FL "DeskRings$Plans" 68 6 0 .int false := ⟨R6, T6, 8, rfl, by decide, q432, by decide +kernel, rfl, rfl⟩
theorem q1246 : Cond.code ⟨"DeskRings$Plans", "planDuty", "(LDeskRings$Office;I)V"⟩ prog_8_method_16_code 6 (none : Option Jvm.ClassFile.FieldType) ∈ GW := gw_of (gw_t (gw_6 (List.mem_of_getElem? (i := 46) (by decide +kernel)))) (by decide +kernel)
theorem zk_X6_planDuty : ZK Y_X6_planDuty 2 := ⟨q1246, q12, ⟨by decide, by decide⟩, by decide +kernel⟩
theorem q1244 : Cond.instanceMethod ⟨"DeskRings$Plans", "planDuty", "(LDeskRings$Office;I)V"⟩ ∈ GW := gw_of (gw_t (gw_6 (List.mem_of_getElem? (i := 44) (by decide +kernel)))) (by decide +kernel)
theorem q1245 : Cond.selects "DeskRings$Plans" ⟨"DeskRings$Plans", "planDuty", "(LDeskRings$Office;I)V"⟩ ⟨"DeskRings$Plans", "planDuty", "(LDeskRings$Office;I)V"⟩ ∈ GW := gw_of (gw_t (gw_6 (List.mem_of_getElem? (i := 45) (by decide +kernel)))) (by decide +kernel)
theorem zi_X6_planDuty : Cond.instanceMethod Y_X6_planDuty.1 ∈ GW ∧ Cond.selects Y_X6_planDuty.1.cls Y_X6_planDuty.1 Y_X6_planDuty.1 ∈ GW := ⟨q1244, q1245⟩
theorem q433 : Cond.fieldLink "DeskRings" 224 "DeskRings$Plans" "most" "I" ∈ GW := gw_of (gw_t (gw_2 (List.mem_of_getElem? (i := 193) (by decide +kernel)))) (by decide +kernel)
theorem fl_11_224 : FL "DeskRings" 224 6 0 .int false := ⟨R6, T6, 8, rfl, by decide, q433, by decide +kernel, rfl, rfl⟩
theorem q437 : Cond.fieldLink "DeskRings" 274 "DeskRings$Plans" "row" "[I" ∈ GW := gw_of (gw_t (gw_2 (List.mem_of_getElem? (i := 197) (by decide +kernel)))) (by decide +kernel)
theorem fl_11_274 : FL "DeskRings" 274 6 2 (.array .int) true := ⟨R6, T6, 8, rfl, by decide, q437, by decide +kernel, rfl, rfl⟩
theorem q1243 : Cond.methodLink "DeskRings" 300 ⟨"DeskRings$Plans", "planDuty", "(LDeskRings$Office;I)V"⟩ ∈ GW := gw_of (gw_t (gw_6 (List.mem_of_getElem? (i := 43) (by decide +kernel)))) (by decide +kernel)
theorem q58 : Cond.fieldLink "DeskRings" 214 "DeskRings$Office" "desks" "I" ∈ GW := gw_of (gw_t (gw_1 (List.mem_of_getElem? (i := 58) (by decide +kernel)))) (by decide +kernel)
theorem fl_11_214 : FL "DeskRings" 214 5 0 .int false := ⟨R5, T5, 15, rfl, by decide, q58, by decide +kernel, rfl, rfl⟩
theorem q1189 : Cond.methodLink "DeskRings$Office" 130 ⟨"DeskRings$Office", "nearestGap", "(II)I"⟩ ∈ GW := gw_of (gw_t (gw_5 (List.mem_of_getElem? (i := 229) (by decide +kernel)))) (by decide +kernel)
theorem q1188 : Cond.methodLink "DeskRings$Office" 127 ⟨"DeskRings$Office", "othersThan", "(I)I"⟩ ∈ GW := gw_of (gw_t (gw_5 (List.mem_of_getElem? (i := 228) (by decide +kernel)))) (by decide +kernel)
theorem q1187 : Cond.code ⟨"DeskRings$Office", "leastEar", "()I"⟩ prog_7_method_31_code 4 (some .int) ∈ GW := gw_of (gw_t (gw_5 (List.mem_of_getElem? (i := 227) (by decide +kernel)))) (by decide +kernel)
theorem zk_X5_leastEar : ZK Y_X5_leastEar 0 := ⟨q1187, q3, ⟨by decide, by decide⟩, by decide +kernel⟩
theorem q1185 : Cond.instanceMethod ⟨"DeskRings$Office", "leastEar", "()I"⟩ ∈ GW := gw_of (gw_t (gw_5 (List.mem_of_getElem? (i := 225) (by decide +kernel)))) (by decide +kernel)
theorem q1186 : Cond.selects "DeskRings$Office" ⟨"DeskRings$Office", "leastEar", "()I"⟩ ⟨"DeskRings$Office", "leastEar", "()I"⟩ ∈ GW := gw_of (gw_t (gw_5 (List.mem_of_getElem? (i := 226) (by decide +kernel)))) (by decide +kernel)
theorem zi_X5_leastEar : Cond.instanceMethod Y_X5_leastEar.1 ∈ GW ∧ Cond.selects Y_X5_leastEar.1.cls Y_X5_leastEar.1 Y_X5_leastEar.1 ∈ GW := ⟨q1185, q1186⟩
theorem q1184 : Cond.methodLink "DeskRings" 281 ⟨"DeskRings$Office", "leastEar", "()I"⟩ ∈ GW := gw_of (gw_t (gw_5 (List.mem_of_getElem? (i := 224) (by decide +kernel)))) (by decide +kernel)
theorem q879 : Cond.code ⟨"DeskRings$Chances", "weightOf", "(LDeskRings$Office;I)J"⟩ prog_2_method_6_code 5 (some .long) ∈ GW := gw_of (gw_t (gw_4 (List.mem_of_getElem? (i := 159) (by decide +kernel)))) (by decide +kernel)
theorem zk_X0_weightOf : ZK Y_X0_weightOf 2 := ⟨q879, q9, ⟨by decide, by decide⟩, by decide +kernel⟩
theorem q877 : Cond.methodLink "DeskRings$Chances" 35 ⟨"DeskRings$Chances", "weightOf", "(LDeskRings$Office;I)J"⟩ ∈ GW := gw_of (gw_t (gw_4 (List.mem_of_getElem? (i := 157) (by decide +kernel)))) (by decide +kernel)
theorem q878 : Cond.static ⟨"DeskRings$Chances", "weightOf", "(LDeskRings$Office;I)J"⟩ ∈ GW := gw_of (gw_t (gw_4 (List.mem_of_getElem? (i := 158) (by decide +kernel)))) (by decide +kernel)
theorem q1272 : Cond.methodLink "DeskRings$Chances" 71 ⟨"java/lang/Integer", "bitCount", "(I)I"⟩ ∈ GW := gw_of (gw_t (gw_6 (List.mem_of_getElem? (i := 72) (by decide +kernel)))) (by decide +kernel)
theorem q876 : Cond.methodLink "DeskRings$Chances" 29 ⟨"DeskRings$Office", "everybody", "()I"⟩ ∈ GW := gw_of (gw_t (gw_4 (List.mem_of_getElem? (i := 156) (by decide +kernel)))) (by decide +kernel)
theorem q1271 : Cond.code ⟨"DeskRings$Chances", "reckonHeads", "(LDeskRings$Office;I)V"⟩ prog_2_method_3_code 4 (none : Option Jvm.ClassFile.FieldType) ∈ GW := gw_of (gw_t (gw_6 (List.mem_of_getElem? (i := 71) (by decide +kernel)))) (by decide +kernel)
theorem zk_X0_reckonHeads : ZK Y_X0_reckonHeads 2 := ⟨q1271, q9, ⟨by decide, by decide⟩, by decide +kernel⟩
theorem q1269 : Cond.instanceMethod ⟨"DeskRings$Chances", "reckonHeads", "(LDeskRings$Office;I)V"⟩ ∈ GW := gw_of (gw_t (gw_6 (List.mem_of_getElem? (i := 69) (by decide +kernel)))) (by decide +kernel)
theorem q1270 : Cond.selects "DeskRings$Chances" ⟨"DeskRings$Chances", "reckonHeads", "(LDeskRings$Office;I)V"⟩ ⟨"DeskRings$Chances", "reckonHeads", "(LDeskRings$Office;I)V"⟩ ∈ GW := gw_of (gw_t (gw_6 (List.mem_of_getElem? (i := 70) (by decide +kernel)))) (by decide +kernel)
theorem zi_X0_reckonHeads : Cond.instanceMethod Y_X0_reckonHeads.1 ∈ GW ∧ Cond.selects Y_X0_reckonHeads.1.cls Y_X0_reckonHeads.1 Y_X0_reckonHeads.1 ∈ GW := ⟨q1269, q1270⟩
theorem q1268 : Cond.methodLink "DeskRings" 312 ⟨"DeskRings$Chances", "reckonHeads", "(LDeskRings$Office;I)V"⟩ ∈ GW := gw_of (gw_t (gw_6 (List.mem_of_getElem? (i := 68) (by decide +kernel)))) (by decide +kernel)
theorem q179 : Cond.fieldLink "DeskRings" 73 "DeskRings$Told" "length" "I" ∈ GW := gw_of (gw_t (gw_1 (List.mem_of_getElem? (i := 179) (by decide +kernel)))) (by decide +kernel)
theorem fl_11_73 : FL "DeskRings" 73 9 1 .int false := ⟨R9, T9, 8, rfl, by decide, q179, by decide +kernel, rfl, rfl⟩
theorem q439 : Cond.fieldLink "DeskRings$Plans" 25 "DeskRings$Plans" "lift" "LDeskRings$Lift;" ∈ GW := gw_of (gw_t (gw_2 (List.mem_of_getElem? (i := 199) (by decide +kernel)))) (by decide +kernel)
theorem fl_6_25 : FL "DeskRings$Plans" 25 6 4 (.object "DeskRings$Lift") true := ⟨R6, T6, 8, rfl, by decide, q439, by decide +kernel, rfl, rfl⟩
theorem q269 : Cond.fieldLink "DeskRings$Plans" 65 "DeskRings$Lift" "who" "I" ∈ GW := gw_of (gw_t (gw_2 (List.mem_of_getElem? (i := 29) (by decide +kernel)))) (by decide +kernel)
theorem fl_6_65 : FL "DeskRings$Plans" 65 3 0 .int false := ⟨R3, T3, 3, rfl, by decide, q269, by decide +kernel, rfl, rfl⟩
theorem q865 : Cond.methodLink "DeskRings$Plans" 61 ⟨"DeskRings$Lift", "asTold", "(LDeskRings$Office;II[I)V"⟩ ∈ GW := gw_of (gw_t (gw_4 (List.mem_of_getElem? (i := 145) (by decide +kernel)))) (by decide +kernel)
theorem q863 : Cond.code ⟨"DeskRings$Plans", "liftsAll", "(LDeskRings$Office;I)Z"⟩ prog_8_method_3_code 4 (some .boolean) ∈ GW := gw_of (gw_t (gw_4 (List.mem_of_getElem? (i := 143) (by decide +kernel)))) (by decide +kernel)
theorem zk_X6_liftsAll : ZK Y_X6_liftsAll 2 := ⟨q863, q12, ⟨by decide, by decide⟩, by decide +kernel⟩
theorem q862 : Cond.instanceMethod ⟨"DeskRings$Plans", "liftsAll", "(LDeskRings$Office;I)Z"⟩ ∈ GW := gw_of (gw_t (gw_4 (List.mem_of_getElem? (i := 142) (by decide +kernel)))) (by decide +kernel)
theorem qs22 : Cond.selects "DeskRings$Plans" ⟨"DeskRings$Plans", "liftsAll", "(LDeskRings$Office;I)Z"⟩ ⟨"DeskRings$Plans", "liftsAll", "(LDeskRings$Office;I)Z"⟩ ∈ GW := gw_of (List.mem_append_left _ (List.mem_of_getElem? (i := 22) (by decide +kernel))) (by decide +kernel)
theorem zi_X6_liftsAll : Cond.instanceMethod Y_X6_liftsAll.1 ∈ GW ∧ Cond.selects Y_X6_liftsAll.1.cls Y_X6_liftsAll.1 Y_X6_liftsAll.1 ∈ GW := ⟨q862, qs22⟩
theorem q860 : Cond.methodLink "DeskRings$Plans" 50 ⟨"DeskRings$Plans", "liftsAll", "(LDeskRings$Office;I)Z"⟩ ∈ GW := gw_of (gw_t (gw_4 (List.mem_of_getElem? (i := 140) (by decide +kernel)))) (by decide +kernel)
theorem q859 : Cond.methodLink "DeskRings$Plans" 44 ⟨"java/lang/Integer", "bitCount", "(I)I"⟩ ∈ GW := gw_of (gw_t (gw_4 (List.mem_of_getElem? (i := 139) (by decide +kernel)))) (by decide +kernel)
theorem q858 : Cond.methodLink "DeskRings$Plans" 38 ⟨"DeskRings$Office", "everybody", "()I"⟩ ∈ GW := gw_of (gw_t (gw_4 (List.mem_of_getElem? (i := 138) (by decide +kernel)))) (by decide +kernel)
theorem q857 : Cond.code ⟨"DeskRings$Plans", "fewestThere", "(LDeskRings$Office;)I"⟩ prog_8_method_2_code 5 (some .int) ∈ GW := gw_of (gw_t (gw_4 (List.mem_of_getElem? (i := 137) (by decide +kernel)))) (by decide +kernel)
theorem zk_X6_fewestThere : ZK Y_X6_fewestThere 1 := ⟨q857, q12, ⟨by decide, by decide⟩, by decide +kernel⟩
theorem q855 : Cond.instanceMethod ⟨"DeskRings$Plans", "fewestThere", "(LDeskRings$Office;)I"⟩ ∈ GW := gw_of (gw_t (gw_4 (List.mem_of_getElem? (i := 135) (by decide +kernel)))) (by decide +kernel)
theorem q856 : Cond.selects "DeskRings$Plans" ⟨"DeskRings$Plans", "fewestThere", "(LDeskRings$Office;)I"⟩ ⟨"DeskRings$Plans", "fewestThere", "(LDeskRings$Office;)I"⟩ ∈ GW := gw_of (gw_t (gw_4 (List.mem_of_getElem? (i := 136) (by decide +kernel)))) (by decide +kernel)
theorem zi_X6_fewestThere : Cond.instanceMethod Y_X6_fewestThere.1 ∈ GW ∧ Cond.selects Y_X6_fewestThere.1.cls Y_X6_fewestThere.1 Y_X6_fewestThere.1 ∈ GW := ⟨q855, q856⟩
theorem q854 : Cond.methodLink "DeskRings" 153 ⟨"DeskRings$Plans", "fewestThere", "(LDeskRings$Office;)I"⟩ ∈ GW := gw_of (gw_t (gw_4 (List.mem_of_getElem? (i := 134) (by decide +kernel)))) (by decide +kernel)
theorem q160 : Cond.fieldLink "DeskRings" 197 "DeskRings$Log" "count" "I" ∈ GW := gw_of (gw_t (gw_1 (List.mem_of_getElem? (i := 160) (by decide +kernel)))) (by decide +kernel)
theorem fl_11_197 : FL "DeskRings" 197 4 0 .int false := ⟨R4, T4, 4, rfl, by decide, q160, by decide +kernel, rfl, rfl⟩
theorem q988 : Cond.code ⟨"DeskRings$Log", "tell", "(II)I"⟩ prog_6_method_4_code 3 (some .int) ∈ GW := gw_of (gw_t (gw_5 (List.mem_of_getElem? (i := 28) (by decide +kernel)))) (by decide +kernel)
theorem zk_X4_tell : ZK Y_X4_tell 2 := ⟨q988, q5, ⟨by decide, by decide⟩, by decide +kernel⟩
theorem q986 : Cond.instanceMethod ⟨"DeskRings$Log", "tell", "(II)I"⟩ ∈ GW := gw_of (gw_t (gw_5 (List.mem_of_getElem? (i := 26) (by decide +kernel)))) (by decide +kernel)
theorem q987 : Cond.selects "DeskRings$Log" ⟨"DeskRings$Log", "tell", "(II)I"⟩ ⟨"DeskRings$Log", "tell", "(II)I"⟩ ∈ GW := gw_of (gw_t (gw_5 (List.mem_of_getElem? (i := 27) (by decide +kernel)))) (by decide +kernel)
theorem zi_X4_tell : Cond.instanceMethod Y_X4_tell.1 ∈ GW ∧ Cond.selects Y_X4_tell.1.cls Y_X4_tell.1 Y_X4_tell.1 ∈ GW := ⟨q986, q987⟩
theorem q985 : Cond.methodLink "DeskRings" 200 ⟨"DeskRings$Log", "tell", "(II)I"⟩ ∈ GW := gw_of (gw_t (gw_5 (List.mem_of_getElem? (i := 25) (by decide +kernel)))) (by decide +kernel)
theorem q181 : Cond.fieldLink "DeskRings" 81 "DeskRings$Told" "fault" "I" ∈ GW := gw_of (gw_t (gw_1 (List.mem_of_getElem? (i := 181) (by decide +kernel)))) (by decide +kernel)
theorem fl_11_81 : FL "DeskRings" 81 9 2 .int false := ⟨R9, T9, 8, rfl, by decide, q181, by decide +kernel, rfl, rfl⟩
theorem q183 : Cond.fieldLink "DeskRings" 84 "DeskRings$Told" "faultPlace" "I" ∈ GW := gw_of (gw_t (gw_1 (List.mem_of_getElem? (i := 183) (by decide +kernel)))) (by decide +kernel)
theorem fl_11_84 : FL "DeskRings" 84 9 3 .int false := ⟨R9, T9, 8, rfl, by decide, q183, by decide +kernel, rfl, rfl⟩
theorem q498 : Cond.code ⟨"DeskRings$Told", "putNumber", "(I)V"⟩ prog_11_method_3_code 3 (none : Option Jvm.ClassFile.FieldType) ∈ GW := gw_of (gw_t (gw_3 (List.mem_of_getElem? (i := 18) (by decide +kernel)))) (by decide +kernel)
theorem zk_X9_putNumber : ZK Y_X9_putNumber 1 := ⟨q498, q2, ⟨by decide, by decide⟩, by decide +kernel⟩
theorem q496 : Cond.instanceMethod ⟨"DeskRings$Told", "putNumber", "(I)V"⟩ ∈ GW := gw_of (gw_t (gw_3 (List.mem_of_getElem? (i := 16) (by decide +kernel)))) (by decide +kernel)
theorem q497 : Cond.selects "DeskRings$Told" ⟨"DeskRings$Told", "putNumber", "(I)V"⟩ ⟨"DeskRings$Told", "putNumber", "(I)V"⟩ ∈ GW := gw_of (gw_t (gw_3 (List.mem_of_getElem? (i := 17) (by decide +kernel)))) (by decide +kernel)
theorem zi_X9_putNumber : Cond.instanceMethod Y_X9_putNumber.1 ∈ GW ∧ Cond.selects Y_X9_putNumber.1.cls Y_X9_putNumber.1 Y_X9_putNumber.1 ∈ GW := ⟨q496, q497⟩
theorem q495 : Cond.methodLink "DeskRings" 77 ⟨"DeskRings$Told", "putNumber", "(I)V"⟩ ∈ GW := gw_of (gw_t (gw_3 (List.mem_of_getElem? (i := 15) (by decide +kernel)))) (by decide +kernel)
theorem q375 : Cond.fieldLink "DeskRings$Waiting" 11 "DeskRings$Waiting" "gaps" "[I" ∈ GW := gw_of (gw_t (gw_2 (List.mem_of_getElem? (i := 135) (by decide +kernel)))) (by decide +kernel)
theorem fl_10_11 : FL "DeskRings$Waiting" 11 10 1 (.array .int) true := ⟨R10, T10, 7, rfl, by decide, q375, by decide +kernel, rfl, rfl⟩
theorem q377 : Cond.fieldLink "DeskRings$Waiting" 18 "DeskRings$Waiting" "wins" "[I" ∈ GW := gw_of (gw_t (gw_2 (List.mem_of_getElem? (i := 137) (by decide +kernel)))) (by decide +kernel)
theorem fl_10_18 : FL "DeskRings$Waiting" 18 10 3 (.array .int) true := ⟨R10, T10, 7, rfl, by decide, q377, by decide +kernel, rfl, rfl⟩
theorem q376 : Cond.fieldLink "DeskRings$Waiting" 15 "DeskRings$Waiting" "costs" "[I" ∈ GW := gw_of (gw_t (gw_2 (List.mem_of_getElem? (i := 136) (by decide +kernel)))) (by decide +kernel)
theorem fl_10_15 : FL "DeskRings$Waiting" 15 10 2 (.array .int) true := ⟨R10, T10, 7, rfl, by decide, q376, by decide +kernel, rfl, rfl⟩
theorem q938 : Cond.code ⟨"DeskRings$Waiting", "isBehind", "(II)Z"⟩ prog_12_method_8_code 3 (some .boolean) ∈ GW := gw_of (gw_t (gw_4 (List.mem_of_getElem? (i := 218) (by decide +kernel)))) (by decide +kernel)
theorem q10 : Cond.initialized "DeskRings$Waiting" ∈ GW := gw_of (gw_t (gw_1 (List.mem_of_getElem? (i := 10) (by decide +kernel)))) (by decide +kernel)
theorem zk_X10_isBehind : ZK Y_X10_isBehind 2 := ⟨q938, q10, ⟨by decide, by decide⟩, by decide +kernel⟩
theorem q937 : Cond.instanceMethod ⟨"DeskRings$Waiting", "isBehind", "(II)Z"⟩ ∈ GW := gw_of (gw_t (gw_4 (List.mem_of_getElem? (i := 217) (by decide +kernel)))) (by decide +kernel)
theorem qs29 : Cond.selects "DeskRings$Waiting" ⟨"DeskRings$Waiting", "isBehind", "(II)Z"⟩ ⟨"DeskRings$Waiting", "isBehind", "(II)Z"⟩ ∈ GW := gw_of (List.mem_append_left _ (List.mem_of_getElem? (i := 29) (by decide +kernel))) (by decide +kernel)
theorem zi_X10_isBehind : Cond.instanceMethod Y_X10_isBehind.1 ∈ GW ∧ Cond.selects Y_X10_isBehind.1.cls Y_X10_isBehind.1 Y_X10_isBehind.1 ∈ GW := ⟨q937, qs29⟩
theorem q935 : Cond.methodLink "DeskRings$Waiting" 75 ⟨"DeskRings$Waiting", "isBehind", "(II)Z"⟩ ∈ GW := gw_of (gw_t (gw_4 (List.mem_of_getElem? (i := 215) (by decide +kernel)))) (by decide +kernel)
theorem q374 : Cond.fieldLink "DeskRings$Waiting" 24 "DeskRings$Waiting" "players" "I" ∈ GW := gw_of (gw_t (gw_2 (List.mem_of_getElem? (i := 134) (by decide +kernel)))) (by decide +kernel)
theorem fl_10_24 : FL "DeskRings$Waiting" 24 10 0 .int false := ⟨R10, T10, 7, rfl, by decide, q374, by decide +kernel, rfl, rfl⟩
theorem q379 : Cond.fieldLink "DeskRings$Waiting" 21 "DeskRings$Waiting" "choices" "[I" ∈ GW := gw_of (gw_t (gw_2 (List.mem_of_getElem? (i := 139) (by decide +kernel)))) (by decide +kernel)
theorem fl_10_21 : FL "DeskRings$Waiting" 21 10 5 (.array .int) true := ⟨R10, T10, 7, rfl, by decide, q379, by decide +kernel, rfl, rfl⟩
theorem q378 : Cond.fieldLink "DeskRings$Waiting" 53 "DeskRings$Waiting" "families" "I" ∈ GW := gw_of (gw_t (gw_2 (List.mem_of_getElem? (i := 138) (by decide +kernel)))) (by decide +kernel)
theorem fl_10_53 : FL "DeskRings$Waiting" 53 10 4 .int false := ⟨R10, T10, 7, rfl, by decide, q378, by decide +kernel, rfl, rfl⟩
theorem q934 : Cond.code ⟨"DeskRings$Waiting", "choicesBeside", "(III)I"⟩ prog_12_method_7_code 7 (some .int) ∈ GW := gw_of (gw_t (gw_4 (List.mem_of_getElem? (i := 214) (by decide +kernel)))) (by decide +kernel)
theorem zk_X10_choicesBeside : ZK Y_X10_choicesBeside 3 := ⟨q934, q10, ⟨by decide, by decide⟩, by decide +kernel⟩
theorem q933 : Cond.instanceMethod ⟨"DeskRings$Waiting", "choicesBeside", "(III)I"⟩ ∈ GW := gw_of (gw_t (gw_4 (List.mem_of_getElem? (i := 213) (by decide +kernel)))) (by decide +kernel)
theorem qs28 : Cond.selects "DeskRings$Waiting" ⟨"DeskRings$Waiting", "choicesBeside", "(III)I"⟩ ⟨"DeskRings$Waiting", "choicesBeside", "(III)I"⟩ ∈ GW := gw_of (List.mem_append_left _ (List.mem_of_getElem? (i := 28) (by decide +kernel))) (by decide +kernel)
theorem zi_X10_choicesBeside : Cond.instanceMethod Y_X10_choicesBeside.1 ∈ GW ∧ Cond.selects Y_X10_choicesBeside.1.cls Y_X10_choicesBeside.1 Y_X10_choicesBeside.1 ∈ GW := ⟨q933, qs28⟩
theorem q931 : Cond.methodLink "DeskRings$Waiting" 71 ⟨"DeskRings$Waiting", "choicesBeside", "(III)I"⟩ ∈ GW := gw_of (gw_t (gw_4 (List.mem_of_getElem? (i := 211) (by decide +kernel)))) (by decide +kernel)
theorem q380 : Cond.fieldLink "DeskRings$Waiting" 56 "DeskRings$Waiting" "lifted" "Z" ∈ GW := gw_of (gw_t (gw_2 (List.mem_of_getElem? (i := 140) (by decide +kernel)))) (by decide +kernel)
theorem fl_10_56 : FL "DeskRings$Waiting" 56 10 6 .boolean false := ⟨R10, T10, 7, rfl, by decide, q380, by decide +kernel, rfl, rfl⟩
theorem q922 : Cond.code ⟨"DeskRings$Waiting", "nobodyWouldLift", "()Z"⟩ prog_12_method_4_code 2 (some .boolean) ∈ GW := gw_of (gw_t (gw_4 (List.mem_of_getElem? (i := 202) (by decide +kernel)))) (by decide +kernel)
theorem zk_X10_nobodyWouldLift : ZK Y_X10_nobodyWouldLift 0 := ⟨q922, q10, ⟨by decide, by decide⟩, by decide +kernel⟩
theorem q921 : Cond.instanceMethod ⟨"DeskRings$Waiting", "nobodyWouldLift", "()Z"⟩ ∈ GW := gw_of (gw_t (gw_4 (List.mem_of_getElem? (i := 201) (by decide +kernel)))) (by decide +kernel)
theorem qs25 : Cond.selects "DeskRings$Waiting" ⟨"DeskRings$Waiting", "nobodyWouldLift", "()Z"⟩ ⟨"DeskRings$Waiting", "nobodyWouldLift", "()Z"⟩ ∈ GW := gw_of (List.mem_append_left _ (List.mem_of_getElem? (i := 25) (by decide +kernel))) (by decide +kernel)
theorem zi_X10_nobodyWouldLift : Cond.instanceMethod Y_X10_nobodyWouldLift.1 ∈ GW ∧ Cond.selects Y_X10_nobodyWouldLift.1.cls Y_X10_nobodyWouldLift.1 Y_X10_nobodyWouldLift.1 ∈ GW := ⟨q921, qs25⟩
theorem q930 : Cond.code ⟨"DeskRings$Waiting", "addFamily", "(II)V"⟩ prog_12_method_6_code 4 (none : Option Jvm.ClassFile.FieldType) ∈ GW := gw_of (gw_t (gw_4 (List.mem_of_getElem? (i := 210) (by decide +kernel)))) (by decide +kernel)
theorem zk_X10_addFamily : ZK Y_X10_addFamily 2 := ⟨q930, q10, ⟨by decide, by decide⟩, by decide +kernel⟩
theorem q929 : Cond.instanceMethod ⟨"DeskRings$Waiting", "addFamily", "(II)V"⟩ ∈ GW := gw_of (gw_t (gw_4 (List.mem_of_getElem? (i := 209) (by decide +kernel)))) (by decide +kernel)
theorem qs27 : Cond.selects "DeskRings$Waiting" ⟨"DeskRings$Waiting", "addFamily", "(II)V"⟩ ⟨"DeskRings$Waiting", "addFamily", "(II)V"⟩ ∈ GW := gw_of (List.mem_append_left _ (List.mem_of_getElem? (i := 27) (by decide +kernel))) (by decide +kernel)
theorem zi_X10_addFamily : Cond.instanceMethod Y_X10_addFamily.1 ∈ GW ∧ Cond.selects Y_X10_addFamily.1.cls Y_X10_addFamily.1 Y_X10_addFamily.1 ∈ GW := ⟨q929, qs27⟩
theorem q927 : Cond.methodLink "DeskRings$Waiting" 67 ⟨"DeskRings$Waiting", "addFamily", "(II)V"⟩ ∈ GW := gw_of (gw_t (gw_4 (List.mem_of_getElem? (i := 207) (by decide +kernel)))) (by decide +kernel)
theorem q926 : Cond.code ⟨"DeskRings$Waiting", "addSilence", "()V"⟩ prog_12_method_5_code 2 (none : Option Jvm.ClassFile.FieldType) ∈ GW := gw_of (gw_t (gw_4 (List.mem_of_getElem? (i := 206) (by decide +kernel)))) (by decide +kernel)
theorem zk_X10_addSilence : ZK Y_X10_addSilence 0 := ⟨q926, q10, ⟨by decide, by decide⟩, by decide +kernel⟩
theorem q925 : Cond.instanceMethod ⟨"DeskRings$Waiting", "addSilence", "()V"⟩ ∈ GW := gw_of (gw_t (gw_4 (List.mem_of_getElem? (i := 205) (by decide +kernel)))) (by decide +kernel)
theorem qs26 : Cond.selects "DeskRings$Waiting" ⟨"DeskRings$Waiting", "addSilence", "()V"⟩ ⟨"DeskRings$Waiting", "addSilence", "()V"⟩ ∈ GW := gw_of (List.mem_append_left _ (List.mem_of_getElem? (i := 26) (by decide +kernel))) (by decide +kernel)
theorem zi_X10_addSilence : Cond.instanceMethod Y_X10_addSilence.1 ∈ GW ∧ Cond.selects Y_X10_addSilence.1.cls Y_X10_addSilence.1 Y_X10_addSilence.1 ∈ GW := ⟨q925, qs26⟩
theorem q923 : Cond.methodLink "DeskRings$Waiting" 64 ⟨"DeskRings$Waiting", "addSilence", "()V"⟩ ∈ GW := gw_of (gw_t (gw_4 (List.mem_of_getElem? (i := 203) (by decide +kernel)))) (by decide +kernel)
theorem q919 : Cond.methodLink "DeskRings$Waiting" 60 ⟨"DeskRings$Waiting", "nobodyWouldLift", "()Z"⟩ ∈ GW := gw_of (gw_t (gw_4 (List.mem_of_getElem? (i := 199) (by decide +kernel)))) (by decide +kernel)
theorem q51 : Cond.fieldLink "DeskRings$Waiting" 28 "DeskRings$Office" "desks" "I" ∈ GW := gw_of (gw_t (gw_1 (List.mem_of_getElem? (i := 51) (by decide +kernel)))) (by decide +kernel)
theorem fl_10_28 : FL "DeskRings$Waiting" 28 5 0 .int false := ⟨R5, T5, 15, rfl, by decide, q51, by decide +kernel, rfl, rfl⟩
theorem q72 : Cond.fieldLink "DeskRings$Waiting" 37 "DeskRings$Office" "kind" "[I" ∈ GW := gw_of (gw_t (gw_1 (List.mem_of_getElem? (i := 72) (by decide +kernel)))) (by decide +kernel)
theorem fl_10_37 : FL "DeskRings$Waiting" 37 5 5 (.array .int) true := ⟨R5, T5, 15, rfl, by decide, q72, by decide +kernel, rfl, rfl⟩
theorem q79 : Cond.fieldLink "DeskRings$Waiting" 44 "DeskRings$Office" "cost" "[I" ∈ GW := gw_of (gw_t (gw_1 (List.mem_of_getElem? (i := 79) (by decide +kernel)))) (by decide +kernel)
theorem fl_10_44 : FL "DeskRings$Waiting" 44 5 8 (.array .int) true := ⟨R5, T5, 15, rfl, by decide, q79, by decide +kernel, rfl, rfl⟩
theorem q913 : Cond.methodLink "DeskRings$Waiting" 40 ⟨"DeskRings$Office", "gap", "(II)I"⟩ ∈ GW := gw_of (gw_t (gw_4 (List.mem_of_getElem? (i := 193) (by decide +kernel)))) (by decide +kernel)
theorem q909 : Cond.methodLink "DeskRings$Waiting" 33 ⟨"DeskRings$Office", "hears", "(II)Z"⟩ ∈ GW := gw_of (gw_t (gw_4 (List.mem_of_getElem? (i := 189) (by decide +kernel)))) (by decide +kernel)
theorem q914 : Cond.methodLink "DeskRings$Waiting" 47 ⟨"DeskRings$Office", "faded", "(II)I"⟩ ∈ GW := gw_of (gw_t (gw_4 (List.mem_of_getElem? (i := 194) (by decide +kernel)))) (by decide +kernel)
theorem q918 : Cond.code ⟨"DeskRings$Waiting", "findFamilies", "()V"⟩ prog_12_method_3_code 3 (none : Option Jvm.ClassFile.FieldType) ∈ GW := gw_of (gw_t (gw_4 (List.mem_of_getElem? (i := 198) (by decide +kernel)))) (by decide +kernel)
theorem zk_X10_findFamilies : ZK Y_X10_findFamilies 0 := ⟨q918, q10, ⟨by decide, by decide⟩, by decide +kernel⟩
theorem q917 : Cond.instanceMethod ⟨"DeskRings$Waiting", "findFamilies", "()V"⟩ ∈ GW := gw_of (gw_t (gw_4 (List.mem_of_getElem? (i := 197) (by decide +kernel)))) (by decide +kernel)
theorem qs24 : Cond.selects "DeskRings$Waiting" ⟨"DeskRings$Waiting", "findFamilies", "()V"⟩ ⟨"DeskRings$Waiting", "findFamilies", "()V"⟩ ∈ GW := gw_of (List.mem_append_left _ (List.mem_of_getElem? (i := 24) (by decide +kernel))) (by decide +kernel)
theorem zi_X10_findFamilies : Cond.instanceMethod Y_X10_findFamilies.1 ∈ GW ∧ Cond.selects Y_X10_findFamilies.1.cls Y_X10_findFamilies.1 Y_X10_findFamilies.1 ∈ GW := ⟨q917, qs24⟩
theorem q915 : Cond.methodLink "DeskRings$Waiting" 50 ⟨"DeskRings$Waiting", "findFamilies", "()V"⟩ ∈ GW := gw_of (gw_t (gw_4 (List.mem_of_getElem? (i := 195) (by decide +kernel)))) (by decide +kernel)
theorem q467 : Cond.fieldLink "DeskRings" 55 "DeskRings" "waiting" "LDeskRings$Waiting;" ∈ GW := gw_of (gw_t (gw_2 (List.mem_of_getElem? (i := 227) (by decide +kernel)))) (by decide +kernel)
theorem fl_11_55 : FL "DeskRings" 55 11 7 (.object "DeskRings$Waiting") true := ⟨R11, T11, 10, rfl, by decide, q467, by decide +kernel, rfl, rfl⟩
theorem q908 : Cond.code ⟨"DeskRings$Waiting", "begin", "(LDeskRings$Office;III)V"⟩ prog_12_method_2_code 6 (none : Option Jvm.ClassFile.FieldType) ∈ GW := gw_of (gw_t (gw_4 (List.mem_of_getElem? (i := 188) (by decide +kernel)))) (by decide +kernel)
theorem zk_X10_begin : ZK Y_X10_begin 4 := ⟨q908, q10, ⟨by decide, by decide⟩, by decide +kernel⟩
theorem q906 : Cond.instanceMethod ⟨"DeskRings$Waiting", "begin", "(LDeskRings$Office;III)V"⟩ ∈ GW := gw_of (gw_t (gw_4 (List.mem_of_getElem? (i := 186) (by decide +kernel)))) (by decide +kernel)
theorem q907 : Cond.selects "DeskRings$Waiting" ⟨"DeskRings$Waiting", "begin", "(LDeskRings$Office;III)V"⟩ ⟨"DeskRings$Waiting", "begin", "(LDeskRings$Office;III)V"⟩ ∈ GW := gw_of (gw_t (gw_4 (List.mem_of_getElem? (i := 187) (by decide +kernel)))) (by decide +kernel)
theorem zi_X10_begin : Cond.instanceMethod Y_X10_begin.1 ∈ GW ∧ Cond.selects Y_X10_begin.1.cls Y_X10_begin.1 Y_X10_begin.1 ∈ GW := ⟨q906, q907⟩
theorem q951 : Cond.code ⟨"DeskRings$Waiting", "quickest", "()I"⟩ prog_12_method_14_code 1 (some .int) ∈ GW := gw_of (gw_t (gw_4 (List.mem_of_getElem? (i := 231) (by decide +kernel)))) (by decide +kernel)
theorem zk_X10_quickest : ZK Y_X10_quickest 0 := ⟨q951, q10, ⟨by decide, by decide⟩, by decide +kernel⟩
