theorem q949 : Cond.instanceMethod ⟨"DeskRings$Waiting", "quickest", "()I"⟩ ∈ GW := gw_of (gw_t (gw_4 (List.mem_of_getElem? (i := 229) (by decide +kernel)))) (by decide +kernel)
theorem q950 : Cond.selects "DeskRings$Waiting" ⟨"DeskRings$Waiting", "quickest", "()I"⟩ ⟨"DeskRings$Waiting", "quickest", "()I"⟩ ∈ GW := gw_of (gw_t (gw_4 (List.mem_of_getElem? (i := 230) (by decide +kernel)))) (by decide +kernel)
theorem zi_X10_quickest : Cond.instanceMethod Y_X10_quickest.1 ∈ GW ∧ Cond.selects Y_X10_quickest.1.cls Y_X10_quickest.1 Y_X10_quickest.1 ∈ GW := ⟨q949, q950⟩
theorem q948 : Cond.methodLink "DeskRings" 180 ⟨"DeskRings$Waiting", "quickest", "()I"⟩ ∈ GW := gw_of (gw_t (gw_4 (List.mem_of_getElem? (i := 228) (by decide +kernel)))) (by decide +kernel)
theorem q905 : Cond.methodLink "DeskRings" 173 ⟨"DeskRings$Waiting", "begin", "(LDeskRings$Office;III)V"⟩ ∈ GW := gw_of (gw_t (gw_4 (List.mem_of_getElem? (i := 185) (by decide +kernel)))) (by decide +kernel)
theorem q410 : Cond.fieldLink "DeskRings$Suspects" 29 "DeskRings$Suspects" "tally" "[I" ∈ GW := gw_of (gw_t (gw_2 (List.mem_of_getElem? (i := 170) (by decide +kernel)))) (by decide +kernel)
theorem fl_8_29 : FL "DeskRings$Suspects" 29 8 4 (.array .int) true := ⟨R8, T8, 5, rfl, by decide, q410, by decide +kernel, rfl, rfl⟩
theorem q1039 : Cond.methodLink "DeskRings$Suspects" 100 ⟨"java/lang/Math", "max", "(II)I"⟩ ∈ GW := gw_of (gw_t (gw_5 (List.mem_of_getElem? (i := 79) (by decide +kernel)))) (by decide +kernel)
theorem q1038 : Cond.code ⟨"DeskRings$Suspects", "mostAlike", "(I)I"⟩ prog_10_method_9_code 5 (some .int) ∈ GW := gw_of (gw_t (gw_5 (List.mem_of_getElem? (i := 78) (by decide +kernel)))) (by decide +kernel)
theorem zk_X8_mostAlike : ZK Y_X8_mostAlike 1 := ⟨q1038, q11, ⟨by decide, by decide⟩, by decide +kernel⟩
theorem q1037 : Cond.instanceMethod ⟨"DeskRings$Suspects", "mostAlike", "(I)I"⟩ ∈ GW := gw_of (gw_t (gw_5 (List.mem_of_getElem? (i := 77) (by decide +kernel)))) (by decide +kernel)
theorem qs39 : Cond.selects "DeskRings$Suspects" ⟨"DeskRings$Suspects", "mostAlike", "(I)I"⟩ ⟨"DeskRings$Suspects", "mostAlike", "(I)I"⟩ ∈ GW := gw_of (List.mem_append_left _ (List.mem_of_getElem? (i := 39) (by decide +kernel))) (by decide +kernel)
theorem zi_X8_mostAlike : Cond.instanceMethod Y_X8_mostAlike.1 ∈ GW ∧ Cond.selects Y_X8_mostAlike.1.cls Y_X8_mostAlike.1 Y_X8_mostAlike.1 ∈ GW := ⟨q1037, qs39⟩
theorem q1035 : Cond.methodLink "DeskRings$Suspects" 97 ⟨"DeskRings$Suspects", "mostAlike", "(I)I"⟩ ∈ GW := gw_of (gw_t (gw_5 (List.mem_of_getElem? (i := 75) (by decide +kernel)))) (by decide +kernel)
theorem q1026 : Cond.code ⟨"DeskRings$Suspects", "inAll", "()I"⟩ prog_10_method_6_code 3 (some .int) ∈ GW := gw_of (gw_t (gw_5 (List.mem_of_getElem? (i := 66) (by decide +kernel)))) (by decide +kernel)
theorem zk_X8_inAll : ZK Y_X8_inAll 0 := ⟨q1026, q11, ⟨by decide, by decide⟩, by decide +kernel⟩
theorem q1025 : Cond.instanceMethod ⟨"DeskRings$Suspects", "inAll", "()I"⟩ ∈ GW := gw_of (gw_t (gw_5 (List.mem_of_getElem? (i := 65) (by decide +kernel)))) (by decide +kernel)
theorem qs36 : Cond.selects "DeskRings$Suspects" ⟨"DeskRings$Suspects", "inAll", "()I"⟩ ⟨"DeskRings$Suspects", "inAll", "()I"⟩ ∈ GW := gw_of (List.mem_append_left _ (List.mem_of_getElem? (i := 36) (by decide +kernel))) (by decide +kernel)
theorem zi_X8_inAll : Cond.instanceMethod Y_X8_inAll.1 ∈ GW ∧ Cond.selects Y_X8_inAll.1.cls Y_X8_inAll.1 Y_X8_inAll.1 ∈ GW := ⟨q1025, qs36⟩
theorem q1023 : Cond.methodLink "DeskRings$Suspects" 88 ⟨"DeskRings$Suspects", "inAll", "()I"⟩ ∈ GW := gw_of (gw_t (gw_5 (List.mem_of_getElem? (i := 63) (by decide +kernel)))) (by decide +kernel)
theorem q1030 : Cond.code ⟨"DeskRings$Suspects", "inNone", "()I"⟩ prog_10_method_7_code 3 (some .int) ∈ GW := gw_of (gw_t (gw_5 (List.mem_of_getElem? (i := 70) (by decide +kernel)))) (by decide +kernel)
theorem zk_X8_inNone : ZK Y_X8_inNone 0 := ⟨q1030, q11, ⟨by decide, by decide⟩, by decide +kernel⟩
theorem q1029 : Cond.instanceMethod ⟨"DeskRings$Suspects", "inNone", "()I"⟩ ∈ GW := gw_of (gw_t (gw_5 (List.mem_of_getElem? (i := 69) (by decide +kernel)))) (by decide +kernel)
theorem qs37 : Cond.selects "DeskRings$Suspects" ⟨"DeskRings$Suspects", "inNone", "()I"⟩ ⟨"DeskRings$Suspects", "inNone", "()I"⟩ ∈ GW := gw_of (List.mem_append_left _ (List.mem_of_getElem? (i := 37) (by decide +kernel))) (by decide +kernel)
theorem zi_X8_inNone : Cond.instanceMethod Y_X8_inNone.1 ∈ GW ∧ Cond.selects Y_X8_inNone.1.cls Y_X8_inNone.1 Y_X8_inNone.1 ∈ GW := ⟨q1029, qs37⟩
theorem q1027 : Cond.methodLink "DeskRings$Suspects" 91 ⟨"DeskRings$Suspects", "inNone", "()I"⟩ ∈ GW := gw_of (gw_t (gw_5 (List.mem_of_getElem? (i := 67) (by decide +kernel)))) (by decide +kernel)
theorem q1034 : Cond.code ⟨"DeskRings$Suspects", "deskToTry", "()I"⟩ prog_10_method_8_code 5 (some .int) ∈ GW := gw_of (gw_t (gw_5 (List.mem_of_getElem? (i := 74) (by decide +kernel)))) (by decide +kernel)
theorem zk_X8_deskToTry : ZK Y_X8_deskToTry 0 := ⟨q1034, q11, ⟨by decide, by decide⟩, by decide +kernel⟩
theorem q1033 : Cond.instanceMethod ⟨"DeskRings$Suspects", "deskToTry", "()I"⟩ ∈ GW := gw_of (gw_t (gw_5 (List.mem_of_getElem? (i := 73) (by decide +kernel)))) (by decide +kernel)
theorem qs38 : Cond.selects "DeskRings$Suspects" ⟨"DeskRings$Suspects", "deskToTry", "()I"⟩ ⟨"DeskRings$Suspects", "deskToTry", "()I"⟩ ∈ GW := gw_of (List.mem_append_left _ (List.mem_of_getElem? (i := 38) (by decide +kernel))) (by decide +kernel)
theorem zi_X8_deskToTry : Cond.instanceMethod Y_X8_deskToTry.1 ∈ GW ∧ Cond.selects Y_X8_deskToTry.1.cls Y_X8_deskToTry.1 Y_X8_deskToTry.1 ∈ GW := ⟨q1033, qs38⟩
theorem q1031 : Cond.methodLink "DeskRings$Suspects" 94 ⟨"DeskRings$Suspects", "deskToTry", "()I"⟩ ∈ GW := gw_of (gw_t (gw_5 (List.mem_of_getElem? (i := 71) (by decide +kernel)))) (by decide +kernel)
theorem q1022 : Cond.code ⟨"DeskRings$Suspects", "tell", "(I)I"⟩ prog_10_method_5_code 2 (some .int) ∈ GW := gw_of (gw_t (gw_5 (List.mem_of_getElem? (i := 62) (by decide +kernel)))) (by decide +kernel)
theorem zk_X8_tell : ZK Y_X8_tell 1 := ⟨q1022, q11, ⟨by decide, by decide⟩, by decide +kernel⟩
theorem q1020 : Cond.instanceMethod ⟨"DeskRings$Suspects", "tell", "(I)I"⟩ ∈ GW := gw_of (gw_t (gw_5 (List.mem_of_getElem? (i := 60) (by decide +kernel)))) (by decide +kernel)
theorem q1021 : Cond.selects "DeskRings$Suspects" ⟨"DeskRings$Suspects", "tell", "(I)I"⟩ ⟨"DeskRings$Suspects", "tell", "(I)I"⟩ ∈ GW := gw_of (gw_t (gw_5 (List.mem_of_getElem? (i := 61) (by decide +kernel)))) (by decide +kernel)
theorem zi_X8_tell : Cond.instanceMethod Y_X8_tell.1 ∈ GW ∧ Cond.selects Y_X8_tell.1.cls Y_X8_tell.1 Y_X8_tell.1 ∈ GW := ⟨q1020, q1021⟩
theorem q1019 : Cond.methodLink "DeskRings" 209 ⟨"DeskRings$Suspects", "tell", "(I)I"⟩ ∈ GW := gw_of (gw_t (gw_5 (List.mem_of_getElem? (i := 59) (by decide +kernel)))) (by decide +kernel)
theorem q89 : Cond.fieldLink "DeskRings$Plans" 111 "DeskRings$Office" "worth" "[I" ∈ GW := gw_of (gw_t (gw_1 (List.mem_of_getElem? (i := 89) (by decide +kernel)))) (by decide +kernel)
theorem fl_6_111 : FL "DeskRings$Plans" 111 5 11 (.array .int) true := ⟨R5, T5, 15, rfl, by decide, q89, by decide +kernel, rfl, rfl⟩
theorem q441 : Cond.fieldLink "DeskRings$Plans" 32 "DeskRings$Plans" "toGive" "[I" ∈ GW := gw_of (gw_t (gw_2 (List.mem_of_getElem? (i := 201) (by decide +kernel)))) (by decide +kernel)
theorem fl_6_32 : FL "DeskRings$Plans" 32 6 6 (.array .int) true := ⟨R6, T6, 8, rfl, by decide, q441, by decide +kernel, rfl, rfl⟩
theorem q86 : Cond.fieldLink "DeskRings$Plans" 81 "DeskRings$Office" "callDesk" "[I" ∈ GW := gw_of (gw_t (gw_1 (List.mem_of_getElem? (i := 86) (by decide +kernel)))) (by decide +kernel)
theorem fl_6_81 : FL "DeskRings$Plans" 81 5 10 (.array .int) true := ⟨R5, T5, 15, rfl, by decide, q86, by decide +kernel, rfl, rfl⟩
theorem q96 : Cond.fieldLink "DeskRings$Plans" 108 "DeskRings$Office" "hearers" "[I" ∈ GW := gw_of (gw_t (gw_1 (List.mem_of_getElem? (i := 96) (by decide +kernel)))) (by decide +kernel)
theorem fl_6_108 : FL "DeskRings$Plans" 108 5 13 (.array .int) true := ⟨R5, T5, 15, rfl, by decide, q96, by decide +kernel, rfl, rfl⟩
theorem q1165 : Cond.code ⟨"DeskRings$Plans", "takers", "(LDeskRings$Office;II)I"⟩ prog_8_method_8_code 4 (some .int) ∈ GW := gw_of (gw_t (gw_5 (List.mem_of_getElem? (i := 205) (by decide +kernel)))) (by decide +kernel)
theorem zk_X6_takers : ZK Y_X6_takers 3 := ⟨q1165, q12, ⟨by decide, by decide⟩, by decide +kernel⟩
theorem q1169 : Cond.code ⟨"DeskRings$Plans", "giftTo", "(LDeskRings$Office;III)I"⟩ prog_8_method_9_code 5 (some .int) ∈ GW := gw_of (gw_t (gw_5 (List.mem_of_getElem? (i := 209) (by decide +kernel)))) (by decide +kernel)
theorem zk_X6_giftTo : ZK Y_X6_giftTo 4 := ⟨q1169, q12, ⟨by decide, by decide⟩, by decide +kernel⟩
theorem q1168 : Cond.instanceMethod ⟨"DeskRings$Plans", "giftTo", "(LDeskRings$Office;III)I"⟩ ∈ GW := gw_of (gw_t (gw_5 (List.mem_of_getElem? (i := 208) (by decide +kernel)))) (by decide +kernel)
theorem qs45 : Cond.selects "DeskRings$Plans" ⟨"DeskRings$Plans", "giftTo", "(LDeskRings$Office;III)I"⟩ ⟨"DeskRings$Plans", "giftTo", "(LDeskRings$Office;III)I"⟩ ∈ GW := gw_of (List.mem_append_left _ (List.mem_of_getElem? (i := 45) (by decide +kernel))) (by decide +kernel)
theorem zi_X6_giftTo : Cond.instanceMethod Y_X6_giftTo.1 ∈ GW ∧ Cond.selects Y_X6_giftTo.1.cls Y_X6_giftTo.1 Y_X6_giftTo.1 ∈ GW := ⟨q1168, qs45⟩
theorem q1170 : Cond.methodLink "DeskRings$Plans" 121 ⟨"java/lang/Math", "max", "(II)I"⟩ ∈ GW := gw_of (gw_t (gw_5 (List.mem_of_getElem? (i := 210) (by decide +kernel)))) (by decide +kernel)
theorem q1166 : Cond.methodLink "DeskRings$Plans" 117 ⟨"DeskRings$Plans", "giftTo", "(LDeskRings$Office;III)I"⟩ ∈ GW := gw_of (gw_t (gw_5 (List.mem_of_getElem? (i := 206) (by decide +kernel)))) (by decide +kernel)
theorem q1163 : Cond.methodLink "DeskRings$Plans" 114 ⟨"DeskRings$Plans", "takers", "(LDeskRings$Office;II)I"⟩ ∈ GW := gw_of (gw_t (gw_5 (List.mem_of_getElem? (i := 203) (by decide +kernel)))) (by decide +kernel)
theorem q1164 : Cond.static ⟨"DeskRings$Plans", "takers", "(LDeskRings$Office;II)I"⟩ ∈ GW := gw_of (gw_t (gw_5 (List.mem_of_getElem? (i := 204) (by decide +kernel)))) (by decide +kernel)
theorem q61 : Cond.fieldLink "DeskRings$Plans" 78 "DeskRings$Office" "calls" "I" ∈ GW := gw_of (gw_t (gw_1 (List.mem_of_getElem? (i := 61) (by decide +kernel)))) (by decide +kernel)
theorem fl_6_78 : FL "DeskRings$Plans" 78 5 1 .int false := ⟨R5, T5, 15, rfl, by decide, q61, by decide +kernel, rfl, rfl⟩
theorem q1162 : Cond.code ⟨"DeskRings$Plans", "bestGift", "(LDeskRings$Office;II)I"⟩ prog_8_method_10_code 7 (some .int) ∈ GW := gw_of (gw_t (gw_5 (List.mem_of_getElem? (i := 202) (by decide +kernel)))) (by decide +kernel)
theorem zk_X6_bestGift : ZK Y_X6_bestGift 3 := ⟨q1162, q12, ⟨by decide, by decide⟩, by decide +kernel⟩
theorem q1161 : Cond.instanceMethod ⟨"DeskRings$Plans", "bestGift", "(LDeskRings$Office;II)I"⟩ ∈ GW := gw_of (gw_t (gw_5 (List.mem_of_getElem? (i := 201) (by decide +kernel)))) (by decide +kernel)
theorem qs44 : Cond.selects "DeskRings$Plans" ⟨"DeskRings$Plans", "bestGift", "(LDeskRings$Office;II)I"⟩ ⟨"DeskRings$Plans", "bestGift", "(LDeskRings$Office;II)I"⟩ ∈ GW := gw_of (List.mem_append_left _ (List.mem_of_getElem? (i := 44) (by decide +kernel))) (by decide +kernel)
theorem zi_X6_bestGift : Cond.instanceMethod Y_X6_bestGift.1 ∈ GW ∧ Cond.selects Y_X6_bestGift.1.cls Y_X6_bestGift.1 Y_X6_bestGift.1 ∈ GW := ⟨q1161, qs44⟩
theorem q1159 : Cond.methodLink "DeskRings$Plans" 101 ⟨"DeskRings$Plans", "bestGift", "(LDeskRings$Office;II)I"⟩ ∈ GW := gw_of (gw_t (gw_5 (List.mem_of_getElem? (i := 199) (by decide +kernel)))) (by decide +kernel)
theorem q1174 : Cond.code ⟨"DeskRings$Plans", "firstTaker", "(LDeskRings$Office;II)I"⟩ prog_8_method_11_code 6 (some .int) ∈ GW := gw_of (gw_t (gw_5 (List.mem_of_getElem? (i := 214) (by decide +kernel)))) (by decide +kernel)
theorem zk_X6_firstTaker : ZK Y_X6_firstTaker 3 := ⟨q1174, q12, ⟨by decide, by decide⟩, by decide +kernel⟩
theorem q1173 : Cond.instanceMethod ⟨"DeskRings$Plans", "firstTaker", "(LDeskRings$Office;II)I"⟩ ∈ GW := gw_of (gw_t (gw_5 (List.mem_of_getElem? (i := 213) (by decide +kernel)))) (by decide +kernel)
theorem qs46 : Cond.selects "DeskRings$Plans" ⟨"DeskRings$Plans", "firstTaker", "(LDeskRings$Office;II)I"⟩ ⟨"DeskRings$Plans", "firstTaker", "(LDeskRings$Office;II)I"⟩ ∈ GW := gw_of (List.mem_append_left _ (List.mem_of_getElem? (i := 46) (by decide +kernel))) (by decide +kernel)
theorem zi_X6_firstTaker : Cond.instanceMethod Y_X6_firstTaker.1 ∈ GW ∧ Cond.selects Y_X6_firstTaker.1.cls Y_X6_firstTaker.1 Y_X6_firstTaker.1 ∈ GW := ⟨q1173, qs46⟩
theorem q1171 : Cond.methodLink "DeskRings$Plans" 105 ⟨"DeskRings$Plans", "firstTaker", "(LDeskRings$Office;II)I"⟩ ∈ GW := gw_of (gw_t (gw_5 (List.mem_of_getElem? (i := 211) (by decide +kernel)))) (by decide +kernel)
theorem q1158 : Cond.code ⟨"DeskRings$Plans", "giveCalls", "(LDeskRings$Office;)V"⟩ prog_8_method_7_code 4 (none : Option Jvm.ClassFile.FieldType) ∈ GW := gw_of (gw_t (gw_5 (List.mem_of_getElem? (i := 198) (by decide +kernel)))) (by decide +kernel)
theorem zk_X6_giveCalls : ZK Y_X6_giveCalls 1 := ⟨q1158, q12, ⟨by decide, by decide⟩, by decide +kernel⟩
theorem q1156 : Cond.instanceMethod ⟨"DeskRings$Plans", "giveCalls", "(LDeskRings$Office;)V"⟩ ∈ GW := gw_of (gw_t (gw_5 (List.mem_of_getElem? (i := 196) (by decide +kernel)))) (by decide +kernel)
theorem q1157 : Cond.selects "DeskRings$Plans" ⟨"DeskRings$Plans", "giveCalls", "(LDeskRings$Office;)V"⟩ ⟨"DeskRings$Plans", "giveCalls", "(LDeskRings$Office;)V"⟩ ∈ GW := gw_of (gw_t (gw_5 (List.mem_of_getElem? (i := 197) (by decide +kernel)))) (by decide +kernel)
theorem zi_X6_giveCalls : Cond.instanceMethod Y_X6_giveCalls.1 ∈ GW ∧ Cond.selects Y_X6_giveCalls.1.cls Y_X6_giveCalls.1 Y_X6_giveCalls.1 ∈ GW := ⟨q1156, q1157⟩
theorem q1155 : Cond.methodLink "DeskRings" 271 ⟨"DeskRings$Plans", "giveCalls", "(LDeskRings$Office;)V"⟩ ∈ GW := gw_of (gw_t (gw_5 (List.mem_of_getElem? (i := 195) (by decide +kernel)))) (by decide +kernel)
theorem q870 : Cond.methodLink "DeskRings" 157 ⟨"DeskRings$Office", "hasCall", "(I)Z"⟩ ∈ GW := gw_of (gw_t (gw_4 (List.mem_of_getElem? (i := 150) (by decide +kernel)))) (by decide +kernel)
theorem q267 : Cond.methodLink "DeskRings$Lift" 3 ⟨"java/lang/Object", "<init>", "()V"⟩ ∈ GW := gw_of (gw_t (gw_2 (List.mem_of_getElem? (i := 27) (by decide +kernel)))) (by decide +kernel)
theorem q27 : Cond.instanceMethod ⟨"java/lang/Object", "<init>", "()V"⟩ ∈ GW := gw_of (gw_t (gw_1 (List.mem_of_getElem? (i := 27) (by decide +kernel)))) (by decide +kernel)
theorem q28 : Cond.code ⟨"java/lang/Object", "<init>", "()V"⟩ object_method_1_code 1 (none : Option Jvm.ClassFile.FieldType) ∈ GW := gw_of (gw_t (gw_1 (List.mem_of_getElem? (i := 28) (by decide +kernel)))) (by decide +kernel)
theorem q131 : Cond.arrayClass Jvm.ClassFile.FieldType.int ∈ GW := gw_of (gw_t (gw_1 (List.mem_of_getElem? (i := 131) (by decide +kernel)))) (by decide +kernel)
theorem q266 : Cond.code ⟨"DeskRings$Lift", "<init>", "()V"⟩ prog_5_method_1_code 1 (none : Option Jvm.ClassFile.FieldType) ∈ GW := gw_of (gw_t (gw_2 (List.mem_of_getElem? (i := 26) (by decide +kernel)))) (by decide +kernel)
theorem zk_X3_init : ZK Y_X3_init 0 := ⟨q266, q7, ⟨by decide, by decide⟩, by decide +kernel⟩
theorem q358 : Cond.fieldLink "DeskRings$Chances" 22 "DeskRings$Chances" "lift" "LDeskRings$Lift;" ∈ GW := gw_of (gw_t (gw_2 (List.mem_of_getElem? (i := 118) (by decide +kernel)))) (by decide +kernel)
theorem fl_0_22 : FL "DeskRings$Chances" 22 0 3 (.object "DeskRings$Lift") true := ⟨R0, T0, 4, rfl, by decide, q358, by decide +kernel, rfl, rfl⟩
theorem q265 : Cond.instanceMethod ⟨"DeskRings$Lift", "<init>", "()V"⟩ ∈ GW := gw_of (gw_t (gw_2 (List.mem_of_getElem? (i := 25) (by decide +kernel)))) (by decide +kernel)
theorem q350 : Cond.classLink "DeskRings$Chances" 19 "DeskRings$Lift" ∈ GW := gw_of (gw_t (gw_2 (List.mem_of_getElem? (i := 110) (by decide +kernel)))) (by decide +kernel)
theorem q263 : Cond.instantiable "DeskRings$Lift" 3 ∈ GW := gw_of (gw_t (gw_2 (List.mem_of_getElem? (i := 23) (by decide +kernel)))) (by decide +kernel)
theorem q349 : Cond.methodLink "DeskRings$Chances" 3 ⟨"java/lang/Object", "<init>", "()V"⟩ ∈ GW := gw_of (gw_t (gw_2 (List.mem_of_getElem? (i := 109) (by decide +kernel)))) (by decide +kernel)
theorem q373 : Cond.methodLink "DeskRings$Waiting" 5 ⟨"java/lang/Object", "<init>", "()V"⟩ ∈ GW := gw_of (gw_t (gw_2 (List.mem_of_getElem? (i := 133) (by decide +kernel)))) (by decide +kernel)
theorem q49 : Cond.code ⟨"DeskRings$Office", "clear", "()V"⟩ prog_7_method_2_code 1 (none : Option Jvm.ClassFile.FieldType) ∈ GW := gw_of (gw_t (gw_1 (List.mem_of_getElem? (i := 49) (by decide +kernel)))) (by decide +kernel)
theorem zk_X5_clear : ZK Y_X5_clear 0 := ⟨q49, q3, ⟨by decide, by decide⟩, by decide +kernel⟩
theorem q47 : Cond.instanceMethod ⟨"DeskRings$Office", "clear", "()V"⟩ ∈ GW := gw_of (gw_t (gw_1 (List.mem_of_getElem? (i := 47) (by decide +kernel)))) (by decide +kernel)
theorem q48 : Cond.selects "DeskRings$Office" ⟨"DeskRings$Office", "clear", "()V"⟩ ⟨"DeskRings$Office", "clear", "()V"⟩ ∈ GW := gw_of (gw_t (gw_1 (List.mem_of_getElem? (i := 48) (by decide +kernel)))) (by decide +kernel)
theorem zi_X5_clear : Cond.instanceMethod Y_X5_clear.1 ∈ GW ∧ Cond.selects Y_X5_clear.1.cls Y_X5_clear.1 Y_X5_clear.1 ∈ GW := ⟨q47, q48⟩
theorem q46 : Cond.methodLink "DeskRings$Office" 42 ⟨"DeskRings$Office", "clear", "()V"⟩ ∈ GW := gw_of (gw_t (gw_1 (List.mem_of_getElem? (i := 46) (by decide +kernel)))) (by decide +kernel)
theorem q45 : Cond.methodLink "DeskRings$Office" 3 ⟨"java/lang/Object", "<init>", "()V"⟩ ∈ GW := gw_of (gw_t (gw_1 (List.mem_of_getElem? (i := 45) (by decide +kernel)))) (by decide +kernel)
theorem q44 : Cond.code ⟨"DeskRings$Office", "<init>", "()V"⟩ prog_7_method_1_code 1 (none : Option Jvm.ClassFile.FieldType) ∈ GW := gw_of (gw_t (gw_1 (List.mem_of_getElem? (i := 44) (by decide +kernel)))) (by decide +kernel)
theorem zk_X5_init : ZK Y_X5_init 0 := ⟨q44, q3, ⟨by decide, by decide⟩, by decide +kernel⟩
theorem q297 : Cond.classLink "DeskRings$Floor" 28 "DeskRings$Lift" ∈ GW := gw_of (gw_t (gw_2 (List.mem_of_getElem? (i := 57) (by decide +kernel)))) (by decide +kernel)
theorem q296 : Cond.methodLink "DeskRings$Floor" 11 ⟨"DeskRings$Office", "<init>", "()V"⟩ ∈ GW := gw_of (gw_t (gw_2 (List.mem_of_getElem? (i := 56) (by decide +kernel)))) (by decide +kernel)
theorem q43 : Cond.instanceMethod ⟨"DeskRings$Office", "<init>", "()V"⟩ ∈ GW := gw_of (gw_t (gw_1 (List.mem_of_getElem? (i := 43) (by decide +kernel)))) (by decide +kernel)
theorem q295 : Cond.classLink "DeskRings$Floor" 9 "DeskRings$Office" ∈ GW := gw_of (gw_t (gw_2 (List.mem_of_getElem? (i := 55) (by decide +kernel)))) (by decide +kernel)
theorem q41 : Cond.instantiable "DeskRings$Office" 15 ∈ GW := gw_of (gw_t (gw_1 (List.mem_of_getElem? (i := 41) (by decide +kernel)))) (by decide +kernel)
theorem q294 : Cond.methodLink "DeskRings$Floor" 3 ⟨"java/lang/Object", "<init>", "()V"⟩ ∈ GW := gw_of (gw_t (gw_2 (List.mem_of_getElem? (i := 54) (by decide +kernel)))) (by decide +kernel)
theorem q293 : Cond.code ⟨"DeskRings$Floor", "<init>", "()V"⟩ prog_4_method_1_code 1 (none : Option Jvm.ClassFile.FieldType) ∈ GW := gw_of (gw_t (gw_2 (List.mem_of_getElem? (i := 53) (by decide +kernel)))) (by decide +kernel)
theorem zk_X2_init : ZK Y_X2_init 0 := ⟨q293, q8, ⟨by decide, by decide⟩, by decide +kernel⟩
theorem q440 : Cond.fieldLink "DeskRings$Plans" 29 "DeskRings$Plans" "trial" "[I" ∈ GW := gw_of (gw_t (gw_2 (List.mem_of_getElem? (i := 200) (by decide +kernel)))) (by decide +kernel)
theorem fl_6_29 : FL "DeskRings$Plans" 29 6 5 (.array .int) true := ⟨R6, T6, 8, rfl, by decide, q440, by decide +kernel, rfl, rfl⟩
theorem q430 : Cond.classLink "DeskRings$Plans" 22 "DeskRings$Lift" ∈ GW := gw_of (gw_t (gw_2 (List.mem_of_getElem? (i := 190) (by decide +kernel)))) (by decide +kernel)
theorem q292 : Cond.instanceMethod ⟨"DeskRings$Floor", "<init>", "()V"⟩ ∈ GW := gw_of (gw_t (gw_2 (List.mem_of_getElem? (i := 52) (by decide +kernel)))) (by decide +kernel)
theorem q428 : Cond.classLink "DeskRings$Plans" 15 "DeskRings$Floor" ∈ GW := gw_of (gw_t (gw_2 (List.mem_of_getElem? (i := 188) (by decide +kernel)))) (by decide +kernel)
theorem q290 : Cond.instantiable "DeskRings$Floor" 13 ∈ GW := gw_of (gw_t (gw_2 (List.mem_of_getElem? (i := 50) (by decide +kernel)))) (by decide +kernel)
theorem q427 : Cond.methodLink "DeskRings$Plans" 3 ⟨"java/lang/Object", "<init>", "()V"⟩ ∈ GW := gw_of (gw_t (gw_2 (List.mem_of_getElem? (i := 187) (by decide +kernel)))) (by decide +kernel)
theorem q136 : Cond.methodLink "DeskRings$Day" 3 ⟨"java/lang/Object", "<init>", "()V"⟩ ∈ GW := gw_of (gw_t (gw_1 (List.mem_of_getElem? (i := 136) (by decide +kernel)))) (by decide +kernel)
theorem q156 : Cond.methodLink "DeskRings$Log" 3 ⟨"java/lang/Object", "<init>", "()V"⟩ ∈ GW := gw_of (gw_t (gw_1 (List.mem_of_getElem? (i := 156) (by decide +kernel)))) (by decide +kernel)
theorem q219 : Cond.fieldLink "DeskRings$Reader" 12 "DeskRings$Reader" "office" "LDeskRings$Office;" ∈ GW := gw_of (gw_t (gw_1 (List.mem_of_getElem? (i := 219) (by decide +kernel)))) (by decide +kernel)
theorem fl_7_12 : FL "DeskRings$Reader" 12 7 0 (.object "DeskRings$Office") true := ⟨R7, T7, 12, rfl, by decide, q219, by decide +kernel, rfl, rfl⟩
theorem q135 : Cond.code ⟨"DeskRings$Day", "<init>", "()V"⟩ prog_3_method_1_code 1 (none : Option Jvm.ClassFile.FieldType) ∈ GW := gw_of (gw_t (gw_1 (List.mem_of_getElem? (i := 135) (by decide +kernel)))) (by decide +kernel)
theorem zk_X1_init : ZK Y_X1_init 0 := ⟨q135, q4, ⟨by decide, by decide⟩, by decide +kernel⟩
theorem q221 : Cond.fieldLink "DeskRings$Reader" 21 "DeskRings$Reader" "day" "LDeskRings$Day;" ∈ GW := gw_of (gw_t (gw_1 (List.mem_of_getElem? (i := 221) (by decide +kernel)))) (by decide +kernel)
theorem fl_7_21 : FL "DeskRings$Reader" 21 7 1 (.object "DeskRings$Day") true := ⟨R7, T7, 12, rfl, by decide, q221, by decide +kernel, rfl, rfl⟩
theorem q155 : Cond.code ⟨"DeskRings$Log", "<init>", "()V"⟩ prog_6_method_1_code 1 (none : Option Jvm.ClassFile.FieldType) ∈ GW := gw_of (gw_t (gw_1 (List.mem_of_getElem? (i := 155) (by decide +kernel)))) (by decide +kernel)
theorem zk_X4_init : ZK Y_X4_init 0 := ⟨q155, q5, ⟨by decide, by decide⟩, by decide +kernel⟩
theorem q223 : Cond.fieldLink "DeskRings$Reader" 28 "DeskRings$Reader" "log" "LDeskRings$Log;" ∈ GW := gw_of (gw_t (gw_1 (List.mem_of_getElem? (i := 223) (by decide +kernel)))) (by decide +kernel)
theorem fl_7_28 : FL "DeskRings$Reader" 28 7 2 (.object "DeskRings$Log") true := ⟨R7, T7, 12, rfl, by decide, q223, by decide +kernel, rfl, rfl⟩
theorem q227 : Cond.fieldLink "DeskRings$Reader" 32 "DeskRings$Reader" "faultPlace" "I" ∈ GW := gw_of (gw_t (gw_1 (List.mem_of_getElem? (i := 227) (by decide +kernel)))) (by decide +kernel)
theorem fl_7_32 : FL "DeskRings$Reader" 32 7 4 .int false := ⟨R7, T7, 12, rfl, by decide, q227, by decide +kernel, rfl, rfl⟩
theorem q130 : Cond.arrayClass Jvm.ClassFile.FieldType.byte ∈ GW := gw_of (gw_t (gw_1 (List.mem_of_getElem? (i := 130) (by decide +kernel)))) (by decide +kernel)
theorem q229 : Cond.fieldLink "DeskRings$Reader" 36 "DeskRings$Reader" "tape" "[B" ∈ GW := gw_of (gw_t (gw_1 (List.mem_of_getElem? (i := 229) (by decide +kernel)))) (by decide +kernel)
theorem fl_7_36 : FL "DeskRings$Reader" 36 7 5 (.array .byte) false := ⟨R7, T7, 12, rfl, by decide, q229, by decide +kernel, rfl, rfl⟩
theorem q230 : Cond.fieldLink "DeskRings$Reader" 40 "DeskRings$Reader" "line" "[I" ∈ GW := gw_of (gw_t (gw_1 (List.mem_of_getElem? (i := 230) (by decide +kernel)))) (by decide +kernel)
theorem fl_7_40 : FL "DeskRings$Reader" 40 7 6 (.array .int) true := ⟨R7, T7, 12, rfl, by decide, q230, by decide +kernel, rfl, rfl⟩
theorem q154 : Cond.instanceMethod ⟨"DeskRings$Log", "<init>", "()V"⟩ ∈ GW := gw_of (gw_t (gw_1 (List.mem_of_getElem? (i := 154) (by decide +kernel)))) (by decide +kernel)
theorem q217 : Cond.classLink "DeskRings$Reader" 25 "DeskRings$Log" ∈ GW := gw_of (gw_t (gw_1 (List.mem_of_getElem? (i := 217) (by decide +kernel)))) (by decide +kernel)
theorem q152 : Cond.instantiable "DeskRings$Log" 4 ∈ GW := gw_of (gw_t (gw_1 (List.mem_of_getElem? (i := 152) (by decide +kernel)))) (by decide +kernel)
theorem q134 : Cond.instanceMethod ⟨"DeskRings$Day", "<init>", "()V"⟩ ∈ GW := gw_of (gw_t (gw_1 (List.mem_of_getElem? (i := 134) (by decide +kernel)))) (by decide +kernel)
theorem q215 : Cond.classLink "DeskRings$Reader" 18 "DeskRings$Day" ∈ GW := gw_of (gw_t (gw_1 (List.mem_of_getElem? (i := 215) (by decide +kernel)))) (by decide +kernel)
theorem q132 : Cond.instantiable "DeskRings$Day" 3 ∈ GW := gw_of (gw_t (gw_1 (List.mem_of_getElem? (i := 132) (by decide +kernel)))) (by decide +kernel)
theorem q214 : Cond.methodLink "DeskRings$Reader" 11 ⟨"DeskRings$Office", "<init>", "()V"⟩ ∈ GW := gw_of (gw_t (gw_1 (List.mem_of_getElem? (i := 214) (by decide +kernel)))) (by decide +kernel)
theorem q213 : Cond.classLink "DeskRings$Reader" 9 "DeskRings$Office" ∈ GW := gw_of (gw_t (gw_1 (List.mem_of_getElem? (i := 213) (by decide +kernel)))) (by decide +kernel)
theorem q212 : Cond.methodLink "DeskRings$Reader" 3 ⟨"java/lang/Object", "<init>", "()V"⟩ ∈ GW := gw_of (gw_t (gw_1 (List.mem_of_getElem? (i := 212) (by decide +kernel)))) (by decide +kernel)
theorem q404 : Cond.classLink "DeskRings$Suspects" 22 "DeskRings$Lift" ∈ GW := gw_of (gw_t (gw_2 (List.mem_of_getElem? (i := 164) (by decide +kernel)))) (by decide +kernel)
theorem q403 : Cond.methodLink "DeskRings$Suspects" 17 ⟨"DeskRings$Office", "<init>", "()V"⟩ ∈ GW := gw_of (gw_t (gw_2 (List.mem_of_getElem? (i := 163) (by decide +kernel)))) (by decide +kernel)
theorem q402 : Cond.classLink "DeskRings$Suspects" 15 "DeskRings$Office" ∈ GW := gw_of (gw_t (gw_2 (List.mem_of_getElem? (i := 162) (by decide +kernel)))) (by decide +kernel)
theorem q401 : Cond.methodLink "DeskRings$Suspects" 3 ⟨"java/lang/Object", "<init>", "()V"⟩ ∈ GW := gw_of (gw_t (gw_2 (List.mem_of_getElem? (i := 161) (by decide +kernel)))) (by decide +kernel)
theorem q35 : Cond.classLink "DeskRings$Told" 23 "DeskRings$Office" ∈ GW := gw_of (gw_t (gw_1 (List.mem_of_getElem? (i := 35) (by decide +kernel)))) (by decide +kernel)
theorem q37 : Cond.classLink "DeskRings$Told" 29 "DeskRings$Day" ∈ GW := gw_of (gw_t (gw_1 (List.mem_of_getElem? (i := 37) (by decide +kernel)))) (by decide +kernel)
theorem q39 : Cond.classLink "DeskRings$Told" 35 "DeskRings$Log" ∈ GW := gw_of (gw_t (gw_1 (List.mem_of_getElem? (i := 39) (by decide +kernel)))) (by decide +kernel)
theorem q42 : Cond.methodLink "DeskRings$Told" 41 ⟨"DeskRings$Office", "<init>", "()V"⟩ ∈ GW := gw_of (gw_t (gw_1 (List.mem_of_getElem? (i := 42) (by decide +kernel)))) (by decide +kernel)
theorem q34 : Cond.methodLink "DeskRings$Told" 3 ⟨"java/lang/Object", "<init>", "()V"⟩ ∈ GW := gw_of (gw_t (gw_1 (List.mem_of_getElem? (i := 34) (by decide +kernel)))) (by decide +kernel)
theorem q33 : Cond.code ⟨"DeskRings$Told", "<init>", "()V"⟩ prog_11_method_1_code 2 (none : Option Jvm.ClassFile.FieldType) ∈ GW := gw_of (gw_t (gw_1 (List.mem_of_getElem? (i := 33) (by decide +kernel)))) (by decide +kernel)
theorem zk_X9_init : ZK Y_X9_init 0 := ⟨q33, q2, ⟨by decide, by decide⟩, by decide +kernel⟩
theorem q29 : Cond.classLink "DeskRings" 7 "DeskRings$Told" ∈ GW := gw_of (gw_t (gw_1 (List.mem_of_getElem? (i := 29) (by decide +kernel)))) (by decide +kernel)
theorem q261 : Cond.arrayClass Jvm.ClassFile.FieldType.boolean ∈ GW := gw_of (gw_t (gw_2 (List.mem_of_getElem? (i := 21) (by decide +kernel)))) (by decide +kernel)
theorem q211 : Cond.code ⟨"DeskRings$Reader", "<init>", "()V"⟩ prog_9_method_1_code 1 (none : Option Jvm.ClassFile.FieldType) ∈ GW := gw_of (gw_t (gw_1 (List.mem_of_getElem? (i := 211) (by decide +kernel)))) (by decide +kernel)
theorem q6 : Cond.initialized "DeskRings$Reader" ∈ GW := gw_of (gw_t (gw_1 (List.mem_of_getElem? (i := 6) (by decide +kernel)))) (by decide +kernel)
theorem zk_X7_init : ZK Y_X7_init 0 := ⟨q211, q6, ⟨by decide, by decide⟩, by decide +kernel⟩
theorem q463 : Cond.fieldLink "DeskRings" 27 "DeskRings" "reader" "LDeskRings$Reader;" ∈ GW := gw_of (gw_t (gw_2 (List.mem_of_getElem? (i := 223) (by decide +kernel)))) (by decide +kernel)
theorem fl_11_27 : FL "DeskRings" 27 11 3 (.object "DeskRings$Reader") true := ⟨R11, T11, 10, rfl, by decide, q463, by decide +kernel, rfl, rfl⟩
theorem q464 : Cond.fieldLink "DeskRings" 34 "DeskRings" "lift" "LDeskRings$Lift;" ∈ GW := gw_of (gw_t (gw_2 (List.mem_of_getElem? (i := 224) (by decide +kernel)))) (by decide +kernel)
theorem fl_11_34 : FL "DeskRings" 34 11 4 (.object "DeskRings$Lift") true := ⟨R11, T11, 10, rfl, by decide, q464, by decide +kernel, rfl, rfl⟩
theorem q348 : Cond.code ⟨"DeskRings$Chances", "<init>", "()V"⟩ prog_2_method_1_code 1 (none : Option Jvm.ClassFile.FieldType) ∈ GW := gw_of (gw_t (gw_2 (List.mem_of_getElem? (i := 108) (by decide +kernel)))) (by decide +kernel)
theorem zk_X0_init : ZK Y_X0_init 0 := ⟨q348, q9, ⟨by decide, by decide⟩, by decide +kernel⟩
theorem q372 : Cond.code ⟨"DeskRings$Waiting", "<init>", "()V"⟩ prog_12_method_1_code 1 (none : Option Jvm.ClassFile.FieldType) ∈ GW := gw_of (gw_t (gw_2 (List.mem_of_getElem? (i := 132) (by decide +kernel)))) (by decide +kernel)
theorem zk_X10_init : ZK Y_X10_init 0 := ⟨q372, q10, ⟨by decide, by decide⟩, by decide +kernel⟩
theorem q400 : Cond.code ⟨"DeskRings$Suspects", "<init>", "()V"⟩ prog_10_method_1_code 1 (none : Option Jvm.ClassFile.FieldType) ∈ GW := gw_of (gw_t (gw_2 (List.mem_of_getElem? (i := 160) (by decide +kernel)))) (by decide +kernel)
theorem zk_X8_init : ZK Y_X8_init 0 := ⟨q400, q11, ⟨by decide, by decide⟩, by decide +kernel⟩
theorem q426 : Cond.code ⟨"DeskRings$Plans", "<init>", "()V"⟩ prog_8_method_1_code 1 (none : Option Jvm.ClassFile.FieldType) ∈ GW := gw_of (gw_t (gw_2 (List.mem_of_getElem? (i := 186) (by decide +kernel)))) (by decide +kernel)
theorem zk_X6_init : ZK Y_X6_init 0 := ⟨q426, q12, ⟨by decide, by decide⟩, by decide +kernel⟩
theorem q31 : Cond.methodLink "DeskRings" 9 ⟨"DeskRings$Told", "<init>", "()V"⟩ ∈ GW := gw_of (gw_t (gw_1 (List.mem_of_getElem? (i := 31) (by decide +kernel)))) (by decide +kernel)
theorem q32 : Cond.instanceMethod ⟨"DeskRings$Told", "<init>", "()V"⟩ ∈ GW := gw_of (gw_t (gw_1 (List.mem_of_getElem? (i := 32) (by decide +kernel)))) (by decide +kernel)
theorem q30 : Cond.instantiable "DeskRings$Told" 8 ∈ GW := gw_of (gw_t (gw_1 (List.mem_of_getElem? (i := 30) (by decide +kernel)))) (by decide +kernel)
theorem q425 : Cond.instanceMethod ⟨"DeskRings$Plans", "<init>", "()V"⟩ ∈ GW := gw_of (gw_t (gw_2 (List.mem_of_getElem? (i := 185) (by decide +kernel)))) (by decide +kernel)
theorem q422 : Cond.classLink "DeskRings" 66 "DeskRings$Plans" ∈ GW := gw_of (gw_t (gw_2 (List.mem_of_getElem? (i := 182) (by decide +kernel)))) (by decide +kernel)
theorem q423 : Cond.instantiable "DeskRings$Plans" 8 ∈ GW := gw_of (gw_t (gw_2 (List.mem_of_getElem? (i := 183) (by decide +kernel)))) (by decide +kernel)
theorem q399 : Cond.instanceMethod ⟨"DeskRings$Suspects", "<init>", "()V"⟩ ∈ GW := gw_of (gw_t (gw_2 (List.mem_of_getElem? (i := 159) (by decide +kernel)))) (by decide +kernel)
theorem q396 : Cond.classLink "DeskRings" 59 "DeskRings$Suspects" ∈ GW := gw_of (gw_t (gw_2 (List.mem_of_getElem? (i := 156) (by decide +kernel)))) (by decide +kernel)
theorem q397 : Cond.instantiable "DeskRings$Suspects" 5 ∈ GW := gw_of (gw_t (gw_2 (List.mem_of_getElem? (i := 157) (by decide +kernel)))) (by decide +kernel)
theorem q371 : Cond.instanceMethod ⟨"DeskRings$Waiting", "<init>", "()V"⟩ ∈ GW := gw_of (gw_t (gw_2 (List.mem_of_getElem? (i := 131) (by decide +kernel)))) (by decide +kernel)
theorem q368 : Cond.classLink "DeskRings" 52 "DeskRings$Waiting" ∈ GW := gw_of (gw_t (gw_2 (List.mem_of_getElem? (i := 128) (by decide +kernel)))) (by decide +kernel)
theorem q369 : Cond.instantiable "DeskRings$Waiting" 7 ∈ GW := gw_of (gw_t (gw_2 (List.mem_of_getElem? (i := 129) (by decide +kernel)))) (by decide +kernel)
theorem q347 : Cond.instanceMethod ⟨"DeskRings$Chances", "<init>", "()V"⟩ ∈ GW := gw_of (gw_t (gw_2 (List.mem_of_getElem? (i := 107) (by decide +kernel)))) (by decide +kernel)
theorem q344 : Cond.classLink "DeskRings" 45 "DeskRings$Chances" ∈ GW := gw_of (gw_t (gw_2 (List.mem_of_getElem? (i := 104) (by decide +kernel)))) (by decide +kernel)
theorem q345 : Cond.instantiable "DeskRings$Chances" 4 ∈ GW := gw_of (gw_t (gw_2 (List.mem_of_getElem? (i := 105) (by decide +kernel)))) (by decide +kernel)
theorem q289 : Cond.classLink "DeskRings" 38 "DeskRings$Floor" ∈ GW := gw_of (gw_t (gw_2 (List.mem_of_getElem? (i := 49) (by decide +kernel)))) (by decide +kernel)
theorem q262 : Cond.classLink "DeskRings" 31 "DeskRings$Lift" ∈ GW := gw_of (gw_t (gw_2 (List.mem_of_getElem? (i := 22) (by decide +kernel)))) (by decide +kernel)
theorem q210 : Cond.instanceMethod ⟨"DeskRings$Reader", "<init>", "()V"⟩ ∈ GW := gw_of (gw_t (gw_1 (List.mem_of_getElem? (i := 210) (by decide +kernel)))) (by decide +kernel)
theorem q207 : Cond.classLink "DeskRings" 24 "DeskRings$Reader" ∈ GW := gw_of (gw_t (gw_1 (List.mem_of_getElem? (i := 207) (by decide +kernel)))) (by decide +kernel)
theorem q208 : Cond.instantiable "DeskRings$Reader" 12 ∈ GW := gw_of (gw_t (gw_1 (List.mem_of_getElem? (i := 208) (by decide +kernel)))) (by decide +kernel)
theorem q26 : Cond.methodLink "DeskRings" 1 ⟨"java/lang/Object", "<init>", "()V"⟩ ∈ GW := gw_of (gw_t (gw_1 (List.mem_of_getElem? (i := 26) (by decide +kernel)))) (by decide +kernel)
theorem q1123 : Cond.methodLink "DeskRings$Office" 113 ⟨"java/lang/Integer", "bitCount", "(I)I"⟩ ∈ GW := gw_of (gw_t (gw_5 (List.mem_of_getElem? (i := 163) (by decide +kernel)))) (by decide +kernel)
theorem q1293 : Cond.code ⟨"DeskRings$Office", "loudestDesk", "()I"⟩ prog_7_method_33_code 3 (some .int) ∈ GW := gw_of (gw_t (gw_6 (List.mem_of_getElem? (i := 93) (by decide +kernel)))) (by decide +kernel)
theorem zk_X5_loudestDesk : ZK Y_X5_loudestDesk 0 := ⟨q1293, q3, ⟨by decide, by decide⟩, by decide +kernel⟩
theorem q1291 : Cond.instanceMethod ⟨"DeskRings$Office", "loudestDesk", "()I"⟩ ∈ GW := gw_of (gw_t (gw_6 (List.mem_of_getElem? (i := 91) (by decide +kernel)))) (by decide +kernel)
theorem q1292 : Cond.selects "DeskRings$Office" ⟨"DeskRings$Office", "loudestDesk", "()I"⟩ ⟨"DeskRings$Office", "loudestDesk", "()I"⟩ ∈ GW := gw_of (gw_t (gw_6 (List.mem_of_getElem? (i := 92) (by decide +kernel)))) (by decide +kernel)
theorem zi_X5_loudestDesk : Cond.instanceMethod Y_X5_loudestDesk.1 ∈ GW ∧ Cond.selects Y_X5_loudestDesk.1.cls Y_X5_loudestDesk.1 Y_X5_loudestDesk.1 ∈ GW := ⟨q1291, q1292⟩
theorem q97 : Cond.fieldLink "DeskRings" 321 "DeskRings$Office" "hearers" "[I" ∈ GW := gw_of (gw_t (gw_1 (List.mem_of_getElem? (i := 97) (by decide +kernel)))) (by decide +kernel)
theorem fl_11_321 : FL "DeskRings" 321 5 13 (.array .int) true := ⟨R5, T5, 15, rfl, by decide, q97, by decide +kernel, rfl, rfl⟩
theorem q1290 : Cond.methodLink "DeskRings" 318 ⟨"DeskRings$Office", "loudestDesk", "()I"⟩ ∈ GW := gw_of (gw_t (gw_6 (List.mem_of_getElem? (i := 90) (by decide +kernel)))) (by decide +kernel)
theorem q887 : Cond.methodLink "DeskRings$Office" 101 ⟨"DeskRings$Office", "faded", "(II)I"⟩ ∈ GW := gw_of (gw_t (gw_4 (List.mem_of_getElem? (i := 167) (by decide +kernel)))) (by decide +kernel)
theorem q886 : Cond.methodLink "DeskRings$Office" 97 ⟨"DeskRings$Office", "inTime", "(II)Z"⟩ ∈ GW := gw_of (gw_t (gw_4 (List.mem_of_getElem? (i := 166) (by decide +kernel)))) (by decide +kernel)
theorem q276 : Cond.fieldLink "DeskRings$Plans" 84 "DeskRings$Lift" "ring" "I" ∈ GW := gw_of (gw_t (gw_2 (List.mem_of_getElem? (i := 36) (by decide +kernel)))) (by decide +kernel)
theorem fl_6_84 : FL "DeskRings$Plans" 84 3 1 .int false := ⟨R3, T3, 3, rfl, by decide, q276, by decide +kernel, rfl, rfl⟩
theorem q885 : Cond.code ⟨"DeskRings$Office", "gotAt", "(II)I"⟩ prog_7_method_21_code 3 (some .int) ∈ GW := gw_of (gw_t (gw_4 (List.mem_of_getElem? (i := 165) (by decide +kernel)))) (by decide +kernel)
theorem zk_X5_gotAt : ZK Y_X5_gotAt 2 := ⟨q885, q3, ⟨by decide, by decide⟩, by decide +kernel⟩
theorem q883 : Cond.instanceMethod ⟨"DeskRings$Office", "gotAt", "(II)I"⟩ ∈ GW := gw_of (gw_t (gw_4 (List.mem_of_getElem? (i := 163) (by decide +kernel)))) (by decide +kernel)
theorem q884 : Cond.selects "DeskRings$Office" ⟨"DeskRings$Office", "gotAt", "(II)I"⟩ ⟨"DeskRings$Office", "gotAt", "(II)I"⟩ ∈ GW := gw_of (gw_t (gw_4 (List.mem_of_getElem? (i := 164) (by decide +kernel)))) (by decide +kernel)
theorem zi_X5_gotAt : Cond.instanceMethod Y_X5_gotAt.1 ∈ GW ∧ Cond.selects Y_X5_gotAt.1.cls Y_X5_gotAt.1 Y_X5_gotAt.1 ∈ GW := ⟨q883, q884⟩
theorem q1065 : Cond.methodLink "DeskRings$Plans" 87 ⟨"DeskRings$Office", "gotAt", "(II)I"⟩ ∈ GW := gw_of (gw_t (gw_5 (List.mem_of_getElem? (i := 105) (by decide +kernel)))) (by decide +kernel)
theorem q434 : Cond.fieldLink "DeskRings$Plans" 71 "DeskRings$Plans" "awaySet" "I" ∈ GW := gw_of (gw_t (gw_2 (List.mem_of_getElem? (i := 194) (by decide +kernel)))) (by decide +kernel)
theorem fl_6_71 : FL "DeskRings$Plans" 71 6 1 .int false := ⟨R6, T6, 8, rfl, by decide, q434, by decide +kernel, rfl, rfl⟩
theorem q1064 : Cond.code ⟨"DeskRings$Plans", "gotWithout", "(LDeskRings$Office;I)I"⟩ prog_8_method_5_code 5 (some .int) ∈ GW := gw_of (gw_t (gw_5 (List.mem_of_getElem? (i := 104) (by decide +kernel)))) (by decide +kernel)
theorem zk_X6_gotWithout : ZK Y_X6_gotWithout 2 := ⟨q1064, q12, ⟨by decide, by decide⟩, by decide +kernel⟩
theorem q1063 : Cond.instanceMethod ⟨"DeskRings$Plans", "gotWithout", "(LDeskRings$Office;I)I"⟩ ∈ GW := gw_of (gw_t (gw_5 (List.mem_of_getElem? (i := 103) (by decide +kernel)))) (by decide +kernel)
theorem qs41 : Cond.selects "DeskRings$Plans" ⟨"DeskRings$Plans", "gotWithout", "(LDeskRings$Office;I)I"⟩ ⟨"DeskRings$Plans", "gotWithout", "(LDeskRings$Office;I)I"⟩ ∈ GW := gw_of (List.mem_append_left _ (List.mem_of_getElem? (i := 41) (by decide +kernel))) (by decide +kernel)
theorem zi_X6_gotWithout : Cond.instanceMethod Y_X6_gotWithout.1 ∈ GW ∧ Cond.selects Y_X6_gotWithout.1.cls Y_X6_gotWithout.1 Y_X6_gotWithout.1 ∈ GW := ⟨q1063, qs41⟩
theorem q1061 : Cond.methodLink "DeskRings$Plans" 74 ⟨"DeskRings$Plans", "gotWithout", "(LDeskRings$Office;I)I"⟩ ∈ GW := gw_of (gw_t (gw_5 (List.mem_of_getElem? (i := 101) (by decide +kernel)))) (by decide +kernel)
theorem q1060 : Cond.code ⟨"DeskRings$Plans", "planLunch", "(LDeskRings$Office;I)V"⟩ prog_8_method_4_code 5 (none : Option Jvm.ClassFile.FieldType) ∈ GW := gw_of (gw_t (gw_5 (List.mem_of_getElem? (i := 100) (by decide +kernel)))) (by decide +kernel)
theorem zk_X6_planLunch : ZK Y_X6_planLunch 2 := ⟨q1060, q12, ⟨by decide, by decide⟩, by decide +kernel⟩
theorem q1058 : Cond.instanceMethod ⟨"DeskRings$Plans", "planLunch", "(LDeskRings$Office;I)V"⟩ ∈ GW := gw_of (gw_t (gw_5 (List.mem_of_getElem? (i := 98) (by decide +kernel)))) (by decide +kernel)
theorem q1059 : Cond.selects "DeskRings$Plans" ⟨"DeskRings$Plans", "planLunch", "(LDeskRings$Office;I)V"⟩ ⟨"DeskRings$Plans", "planLunch", "(LDeskRings$Office;I)V"⟩ ∈ GW := gw_of (gw_t (gw_5 (List.mem_of_getElem? (i := 99) (by decide +kernel)))) (by decide +kernel)
theorem zi_X6_planLunch : Cond.instanceMethod Y_X6_planLunch.1 ∈ GW ∧ Cond.selects Y_X6_planLunch.1.cls Y_X6_planLunch.1 Y_X6_planLunch.1 ∈ GW := ⟨q1058, q1059⟩
theorem q435 : Cond.fieldLink "DeskRings" 221 "DeskRings$Plans" "awaySet" "I" ∈ GW := gw_of (gw_t (gw_2 (List.mem_of_getElem? (i := 195) (by decide +kernel)))) (by decide +kernel)
theorem fl_11_221 : FL "DeskRings" 221 6 1 .int false := ⟨R6, T6, 8, rfl, by decide, q435, by decide +kernel, rfl, rfl⟩
theorem q1057 : Cond.methodLink "DeskRings" 217 ⟨"DeskRings$Plans", "planLunch", "(LDeskRings$Office;I)V"⟩ ∈ GW := gw_of (gw_t (gw_5 (List.mem_of_getElem? (i := 97) (by decide +kernel)))) (by decide +kernel)
theorem q85 : Cond.fieldLink "DeskRings$Chances" 39 "DeskRings$Office" "callDesk" "[I" ∈ GW := gw_of (gw_t (gw_1 (List.mem_of_getElem? (i := 85) (by decide +kernel)))) (by decide +kernel)
theorem fl_0_39 : FL "DeskRings$Chances" 39 5 10 (.array .int) true := ⟨R5, T5, 15, rfl, by decide, q85, by decide +kernel, rfl, rfl⟩
theorem q274 : Cond.fieldLink "DeskRings$Chances" 49 "DeskRings$Lift" "ring" "I" ∈ GW := gw_of (gw_t (gw_2 (List.mem_of_getElem? (i := 34) (by decide +kernel)))) (by decide +kernel)
theorem fl_0_49 : FL "DeskRings$Chances" 49 3 1 .int false := ⟨R3, T3, 3, rfl, by decide, q274, by decide +kernel, rfl, rfl⟩
theorem q888 : Cond.methodLink "DeskRings$Chances" 57 ⟨"DeskRings$Office", "inTime", "(II)Z"⟩ ∈ GW := gw_of (gw_t (gw_4 (List.mem_of_getElem? (i := 168) (by decide +kernel)))) (by decide +kernel)
theorem q882 : Cond.methodLink "DeskRings$Chances" 53 ⟨"DeskRings$Office", "gotAt", "(II)I"⟩ ∈ GW := gw_of (gw_t (gw_4 (List.mem_of_getElem? (i := 162) (by decide +kernel)))) (by decide +kernel)
theorem q881 : Cond.methodLink "DeskRings$Chances" 45 ⟨"DeskRings$Lift", "asTold", "(LDeskRings$Office;II[I)V"⟩ ∈ GW := gw_of (gw_t (gw_4 (List.mem_of_getElem? (i := 161) (by decide +kernel)))) (by decide +kernel)
theorem q875 : Cond.code ⟨"DeskRings$Chances", "reckonCall", "(LDeskRings$Office;IZ)V"⟩ prog_2_method_2_code 8 (none : Option Jvm.ClassFile.FieldType) ∈ GW := gw_of (gw_t (gw_4 (List.mem_of_getElem? (i := 155) (by decide +kernel)))) (by decide +kernel)
theorem zk_X0_reckonCall : ZK Y_X0_reckonCall 3 := ⟨q875, q9, ⟨by decide, by decide⟩, by decide +kernel⟩
theorem q873 : Cond.instanceMethod ⟨"DeskRings$Chances", "reckonCall", "(LDeskRings$Office;IZ)V"⟩ ∈ GW := gw_of (gw_t (gw_4 (List.mem_of_getElem? (i := 153) (by decide +kernel)))) (by decide +kernel)
theorem q874 : Cond.selects "DeskRings$Chances" ⟨"DeskRings$Chances", "reckonCall", "(LDeskRings$Office;IZ)V"⟩ ⟨"DeskRings$Chances", "reckonCall", "(LDeskRings$Office;IZ)V"⟩ ∈ GW := gw_of (gw_t (gw_4 (List.mem_of_getElem? (i := 154) (by decide +kernel)))) (by decide +kernel)
theorem zi_X0_reckonCall : Cond.instanceMethod Y_X0_reckonCall.1 ∈ GW ∧ Cond.selects Y_X0_reckonCall.1.cls Y_X0_reckonCall.1 Y_X0_reckonCall.1 ∈ GW := ⟨q873, q874⟩
theorem q872 : Cond.methodLink "DeskRings" 162 ⟨"DeskRings$Chances", "reckonCall", "(LDeskRings$Office;IZ)V"⟩ ∈ GW := gw_of (gw_t (gw_4 (List.mem_of_getElem? (i := 152) (by decide +kernel)))) (by decide +kernel)
theorem q739 : Cond.code ⟨"DeskRings$Office", "tellCall", "(II)I"⟩ prog_7_method_11_code 3 (some .int) ∈ GW := gw_of (gw_t (gw_4 (List.mem_of_getElem? (i := 19) (by decide +kernel)))) (by decide +kernel)
theorem zk_X5_tellCall : ZK Y_X5_tellCall 2 := ⟨q739, q3, ⟨by decide, by decide⟩, by decide +kernel⟩
theorem q738 : Cond.instanceMethod ⟨"DeskRings$Office", "tellCall", "(II)I"⟩ ∈ GW := gw_of (gw_t (gw_4 (List.mem_of_getElem? (i := 18) (by decide +kernel)))) (by decide +kernel)
theorem qs13 : Cond.selects "DeskRings$Office" ⟨"DeskRings$Office", "tellCall", "(II)I"⟩ ⟨"DeskRings$Office", "tellCall", "(II)I"⟩ ∈ GW := gw_of (List.mem_append_left _ (List.mem_of_getElem? (i := 13) (by decide +kernel))) (by decide +kernel)
theorem zi_X5_tellCall : Cond.instanceMethod Y_X5_tellCall.1 ∈ GW ∧ Cond.selects Y_X5_tellCall.1.cls Y_X5_tellCall.1 Y_X5_tellCall.1 ∈ GW := ⟨q738, qs13⟩
theorem q736 : Cond.methodLink "DeskRings$Office" 87 ⟨"DeskRings$Office", "tellCall", "(II)I"⟩ ∈ GW := gw_of (gw_t (gw_4 (List.mem_of_getElem? (i := 16) (by decide +kernel)))) (by decide +kernel)
theorem q732 : Cond.methodLink "DeskRings$Office" 84 ⟨"DeskRings$Office", "hasCall", "(I)Z"⟩ ∈ GW := gw_of (gw_t (gw_4 (List.mem_of_getElem? (i := 12) (by decide +kernel)))) (by decide +kernel)
theorem q731 : Cond.code ⟨"DeskRings$Office", "tellDesk", "(II)I"⟩ prog_7_method_10_code 3 (some .int) ∈ GW := gw_of (gw_t (gw_4 (List.mem_of_getElem? (i := 11) (by decide +kernel)))) (by decide +kernel)
theorem zk_X5_tellDesk : ZK Y_X5_tellDesk 2 := ⟨q731, q3, ⟨by decide, by decide⟩, by decide +kernel⟩
theorem q730 : Cond.instanceMethod ⟨"DeskRings$Office", "tellDesk", "(II)I"⟩ ∈ GW := gw_of (gw_t (gw_4 (List.mem_of_getElem? (i := 10) (by decide +kernel)))) (by decide +kernel)
theorem qs12 : Cond.selects "DeskRings$Office" ⟨"DeskRings$Office", "tellDesk", "(II)I"⟩ ⟨"DeskRings$Office", "tellDesk", "(II)I"⟩ ∈ GW := gw_of (List.mem_append_left _ (List.mem_of_getElem? (i := 12) (by decide +kernel))) (by decide +kernel)
theorem zi_X5_tellDesk : Cond.instanceMethod Y_X5_tellDesk.1 ∈ GW ∧ Cond.selects Y_X5_tellDesk.1.cls Y_X5_tellDesk.1 Y_X5_tellDesk.1 ∈ GW := ⟨q730, qs12⟩
theorem q728 : Cond.methodLink "DeskRings$Office" 81 ⟨"DeskRings$Office", "tellDesk", "(II)I"⟩ ∈ GW := gw_of (gw_t (gw_4 (List.mem_of_getElem? (i := 8) (by decide +kernel)))) (by decide +kernel)
theorem q680 : Cond.methodLink "DeskRings$Office" 73 ⟨"DeskRings$Office", "hasDesk", "(I)Z"⟩ ∈ GW := gw_of (gw_t (gw_3 (List.mem_of_getElem? (i := 200) (by decide +kernel)))) (by decide +kernel)
theorem q727 : Cond.code ⟨"DeskRings$Office", "tellRow", "(II)I"⟩ prog_7_method_9_code 3 (some .int) ∈ GW := gw_of (gw_t (gw_4 (List.mem_of_getElem? (i := 7) (by decide +kernel)))) (by decide +kernel)
theorem zk_X5_tellRow : ZK Y_X5_tellRow 2 := ⟨q727, q3, ⟨by decide, by decide⟩, by decide +kernel⟩
theorem q726 : Cond.instanceMethod ⟨"DeskRings$Office", "tellRow", "(II)I"⟩ ∈ GW := gw_of (gw_t (gw_4 (List.mem_of_getElem? (i := 6) (by decide +kernel)))) (by decide +kernel)
theorem qs11 : Cond.selects "DeskRings$Office" ⟨"DeskRings$Office", "tellRow", "(II)I"⟩ ⟨"DeskRings$Office", "tellRow", "(II)I"⟩ ∈ GW := gw_of (List.mem_append_left _ (List.mem_of_getElem? (i := 11) (by decide +kernel))) (by decide +kernel)
theorem zi_X5_tellRow : Cond.instanceMethod Y_X5_tellRow.1 ∈ GW ∧ Cond.selects Y_X5_tellRow.1.cls Y_X5_tellRow.1 Y_X5_tellRow.1 ∈ GW := ⟨q726, qs11⟩
theorem q724 : Cond.methodLink "DeskRings$Office" 77 ⟨"DeskRings$Office", "tellRow", "(II)I"⟩ ∈ GW := gw_of (gw_t (gw_4 (List.mem_of_getElem? (i := 4) (by decide +kernel)))) (by decide +kernel)
theorem q723 : Cond.code ⟨"DeskRings$Office", "tell", "(I)I"⟩ prog_7_method_8_code 2 (some .int) ∈ GW := gw_of (gw_t (gw_4 (List.mem_of_getElem? (i := 3) (by decide +kernel)))) (by decide +kernel)
theorem zk_X5_tell : ZK Y_X5_tell 1 := ⟨q723, q3, ⟨by decide, by decide⟩, by decide +kernel⟩
theorem q721 : Cond.instanceMethod ⟨"DeskRings$Office", "tell", "(I)I"⟩ ∈ GW := gw_of (gw_t (gw_4 (List.mem_of_getElem? (i := 1) (by decide +kernel)))) (by decide +kernel)
theorem q722 : Cond.selects "DeskRings$Office" ⟨"DeskRings$Office", "tell", "(I)I"⟩ ⟨"DeskRings$Office", "tell", "(I)I"⟩ ∈ GW := gw_of (gw_t (gw_4 (List.mem_of_getElem? (i := 2) (by decide +kernel)))) (by decide +kernel)
theorem zi_X5_tell : Cond.instanceMethod Y_X5_tell.1 ∈ GW ∧ Cond.selects Y_X5_tell.1.cls Y_X5_tell.1 Y_X5_tell.1 ∈ GW := ⟨q721, q722⟩
theorem q720 : Cond.methodLink "DeskRings" 109 ⟨"DeskRings$Office", "tell", "(I)I"⟩ ∈ GW := gw_of (gw_t (gw_4 (List.mem_of_getElem? (i := 0) (by decide +kernel)))) (by decide +kernel)
theorem q1203 : Cond.methodLink "DeskRings$Plans" 143 ⟨"DeskRings$Floor", "ringEmptyDesk", "(III)V"⟩ ∈ GW := gw_of (gw_t (gw_6 (List.mem_of_getElem? (i := 3) (by decide +kernel)))) (by decide +kernel)
theorem q1202 : Cond.methodLink "DeskRings$Plans" 139 ⟨"DeskRings$Floor", "begin", "(LDeskRings$Office;)V"⟩ ∈ GW := gw_of (gw_t (gw_6 (List.mem_of_getElem? (i := 2) (by decide +kernel)))) (by decide +kernel)
theorem q1212 : Cond.code ⟨"DeskRings$Plans", "swapTrial", "(II)V"⟩ prog_8_method_15_code 4 (none : Option Jvm.ClassFile.FieldType) ∈ GW := gw_of (gw_t (gw_6 (List.mem_of_getElem? (i := 12) (by decide +kernel)))) (by decide +kernel)
theorem zk_X6_swapTrial : ZK Y_X6_swapTrial 2 := ⟨q1212, q12, ⟨by decide, by decide⟩, by decide +kernel⟩
theorem q1211 : Cond.instanceMethod ⟨"DeskRings$Plans", "swapTrial", "(II)V"⟩ ∈ GW := gw_of (gw_t (gw_6 (List.mem_of_getElem? (i := 11) (by decide +kernel)))) (by decide +kernel)
theorem qs49 : Cond.selects "DeskRings$Plans" ⟨"DeskRings$Plans", "swapTrial", "(II)V"⟩ ⟨"DeskRings$Plans", "swapTrial", "(II)V"⟩ ∈ GW := gw_of (List.mem_append_left _ (List.mem_of_getElem? (i := 49) (by decide +kernel))) (by decide +kernel)
theorem zi_X6_swapTrial : Cond.instanceMethod Y_X6_swapTrial.1 ∈ GW ∧ Cond.selects Y_X6_swapTrial.1.cls Y_X6_swapTrial.1 Y_X6_swapTrial.1 ∈ GW := ⟨q1211, qs49⟩
theorem q1209 : Cond.methodLink "DeskRings$Plans" 147 ⟨"DeskRings$Plans", "swapTrial", "(II)V"⟩ ∈ GW := gw_of (gw_t (gw_6 (List.mem_of_getElem? (i := 9) (by decide +kernel)))) (by decide +kernel)
theorem q1201 : Cond.code ⟨"DeskRings$Plans", "gotInOrder", "(LDeskRings$Office;I)I"⟩ prog_8_method_13_code 4 (some .int) ∈ GW := gw_of (gw_t (gw_6 (List.mem_of_getElem? (i := 1) (by decide +kernel)))) (by decide +kernel)
theorem zk_X6_gotInOrder : ZK Y_X6_gotInOrder 2 := ⟨q1201, q12, ⟨by decide, by decide⟩, by decide +kernel⟩
theorem q1200 : Cond.instanceMethod ⟨"DeskRings$Plans", "gotInOrder", "(LDeskRings$Office;I)I"⟩ ∈ GW := gw_of (gw_t (gw_6 (List.mem_of_getElem? (i := 0) (by decide +kernel)))) (by decide +kernel)
theorem qs47 : Cond.selects "DeskRings$Plans" ⟨"DeskRings$Plans", "gotInOrder", "(LDeskRings$Office;I)I"⟩ ⟨"DeskRings$Plans", "gotInOrder", "(LDeskRings$Office;I)I"⟩ ∈ GW := gw_of (List.mem_append_left _ (List.mem_of_getElem? (i := 47) (by decide +kernel))) (by decide +kernel)
theorem zi_X6_gotInOrder : Cond.instanceMethod Y_X6_gotInOrder.1 ∈ GW ∧ Cond.selects Y_X6_gotInOrder.1.cls Y_X6_gotInOrder.1 Y_X6_gotInOrder.1 ∈ GW := ⟨q1200, qs47⟩
theorem q1208 : Cond.code ⟨"DeskRings$Plans", "nextTrial", "(I)Z"⟩ prog_8_method_14_code 6 (some .boolean) ∈ GW := gw_of (gw_t (gw_6 (List.mem_of_getElem? (i := 8) (by decide +kernel)))) (by decide +kernel)
theorem zk_X6_nextTrial : ZK Y_X6_nextTrial 1 := ⟨q1208, q12, ⟨by decide, by decide⟩, by decide +kernel⟩
theorem q1207 : Cond.instanceMethod ⟨"DeskRings$Plans", "nextTrial", "(I)Z"⟩ ∈ GW := gw_of (gw_t (gw_6 (List.mem_of_getElem? (i := 7) (by decide +kernel)))) (by decide +kernel)
theorem qs48 : Cond.selects "DeskRings$Plans" ⟨"DeskRings$Plans", "nextTrial", "(I)Z"⟩ ⟨"DeskRings$Plans", "nextTrial", "(I)Z"⟩ ∈ GW := gw_of (List.mem_append_left _ (List.mem_of_getElem? (i := 48) (by decide +kernel))) (by decide +kernel)
theorem zi_X6_nextTrial : Cond.instanceMethod Y_X6_nextTrial.1 ∈ GW ∧ Cond.selects Y_X6_nextTrial.1.cls Y_X6_nextTrial.1 Y_X6_nextTrial.1 ∈ GW := ⟨q1207, qs48⟩
theorem q1205 : Cond.methodLink "DeskRings$Plans" 135 ⟨"DeskRings$Plans", "nextTrial", "(I)Z"⟩ ∈ GW := gw_of (gw_t (gw_6 (List.mem_of_getElem? (i := 5) (by decide +kernel)))) (by decide +kernel)
theorem q1204 : Cond.methodLink "DeskRings$Plans" 129 ⟨"java/lang/System", "arraycopy", "(Ljava/lang/Object;ILjava/lang/Object;II)V"⟩ ∈ GW := gw_of (gw_t (gw_6 (List.mem_of_getElem? (i := 4) (by decide +kernel)))) (by decide +kernel)
theorem q1198 : Cond.methodLink "DeskRings$Plans" 126 ⟨"DeskRings$Plans", "gotInOrder", "(LDeskRings$Office;I)I"⟩ ∈ GW := gw_of (gw_t (gw_5 (List.mem_of_getElem? (i := 238) (by decide +kernel)))) (by decide +kernel)
theorem q1197 : Cond.code ⟨"DeskRings$Plans", "orderCalls", "(LDeskRings$Office;I)V"⟩ prog_8_method_12_code 5 (none : Option Jvm.ClassFile.FieldType) ∈ GW := gw_of (gw_t (gw_5 (List.mem_of_getElem? (i := 237) (by decide +kernel)))) (by decide +kernel)
theorem zk_X6_orderCalls : ZK Y_X6_orderCalls 2 := ⟨q1197, q12, ⟨by decide, by decide⟩, by decide +kernel⟩
theorem q1195 : Cond.instanceMethod ⟨"DeskRings$Plans", "orderCalls", "(LDeskRings$Office;I)V"⟩ ∈ GW := gw_of (gw_t (gw_5 (List.mem_of_getElem? (i := 235) (by decide +kernel)))) (by decide +kernel)
theorem q1196 : Cond.selects "DeskRings$Plans" ⟨"DeskRings$Plans", "orderCalls", "(LDeskRings$Office;I)V"⟩ ⟨"DeskRings$Plans", "orderCalls", "(LDeskRings$Office;I)V"⟩ ∈ GW := gw_of (gw_t (gw_5 (List.mem_of_getElem? (i := 236) (by decide +kernel)))) (by decide +kernel)
theorem zi_X6_orderCalls : Cond.instanceMethod Y_X6_orderCalls.1 ∈ GW ∧ Cond.selects Y_X6_orderCalls.1.cls Y_X6_orderCalls.1 Y_X6_orderCalls.1 ∈ GW := ⟨q1195, q1196⟩
theorem q1194 : Cond.methodLink "DeskRings" 284 ⟨"DeskRings$Plans", "orderCalls", "(LDeskRings$Office;I)V"⟩ ∈ GW := gw_of (gw_t (gw_5 (List.mem_of_getElem? (i := 234) (by decide +kernel)))) (by decide +kernel)
theorem q1122 : Cond.code ⟨"DeskRings$Office", "withHearers", "(I)I"⟩ prog_7_method_25_code 4 (some .int) ∈ GW := gw_of (gw_t (gw_5 (List.mem_of_getElem? (i := 162) (by decide +kernel)))) (by decide +kernel)
theorem zk_X5_withHearers : ZK Y_X5_withHearers 1 := ⟨q1122, q3, ⟨by decide, by decide⟩, by decide +kernel⟩
theorem q1121 : Cond.instanceMethod ⟨"DeskRings$Office", "withHearers", "(I)I"⟩ ∈ GW := gw_of (gw_t (gw_5 (List.mem_of_getElem? (i := 161) (by decide +kernel)))) (by decide +kernel)
theorem qs43 : Cond.selects "DeskRings$Office" ⟨"DeskRings$Office", "withHearers", "(I)I"⟩ ⟨"DeskRings$Office", "withHearers", "(I)I"⟩ ∈ GW := gw_of (List.mem_append_left _ (List.mem_of_getElem? (i := 43) (by decide +kernel))) (by decide +kernel)
theorem zi_X5_withHearers : Cond.instanceMethod Y_X5_withHearers.1 ∈ GW ∧ Cond.selects Y_X5_withHearers.1.cls Y_X5_withHearers.1 Y_X5_withHearers.1 ∈ GW := ⟨q1121, qs43⟩
theorem q1119 : Cond.methodLink "DeskRings$Office" 107 ⟨"DeskRings$Office", "withHearers", "(I)I"⟩ ∈ GW := gw_of (gw_t (gw_5 (List.mem_of_getElem? (i := 159) (by decide +kernel)))) (by decide +kernel)
theorem q1258 : Cond.code ⟨"DeskRings$Office", "passesBetween", "(II)I"⟩ prog_7_method_32_code 5 (some .int) ∈ GW := gw_of (gw_t (gw_6 (List.mem_of_getElem? (i := 58) (by decide +kernel)))) (by decide +kernel)
theorem zk_X5_passesBetween : ZK Y_X5_passesBetween 2 := ⟨q1258, q3, ⟨by decide, by decide⟩, by decide +kernel⟩
theorem q1256 : Cond.instanceMethod ⟨"DeskRings$Office", "passesBetween", "(II)I"⟩ ∈ GW := gw_of (gw_t (gw_6 (List.mem_of_getElem? (i := 56) (by decide +kernel)))) (by decide +kernel)
theorem q1257 : Cond.selects "DeskRings$Office" ⟨"DeskRings$Office", "passesBetween", "(II)I"⟩ ⟨"DeskRings$Office", "passesBetween", "(II)I"⟩ ∈ GW := gw_of (gw_t (gw_6 (List.mem_of_getElem? (i := 57) (by decide +kernel)))) (by decide +kernel)
theorem zi_X5_passesBetween : Cond.instanceMethod Y_X5_passesBetween.1 ∈ GW ∧ Cond.selects Y_X5_passesBetween.1.cls Y_X5_passesBetween.1 Y_X5_passesBetween.1 ∈ GW := ⟨q1256, q1257⟩
theorem q1255 : Cond.methodLink "DeskRings" 303 ⟨"DeskRings$Office", "passesBetween", "(II)I"⟩ ∈ GW := gw_of (gw_t (gw_6 (List.mem_of_getElem? (i := 55) (by decide +kernel)))) (by decide +kernel)
theorem q1150 : Cond.methodLink "DeskRings$Office" 124 ⟨"java/lang/Math", "min", "(II)I"⟩ ∈ GW := gw_of (gw_t (gw_5 (List.mem_of_getElem? (i := 190) (by decide +kernel)))) (by decide +kernel)
theorem q1149 : Cond.methodLink "DeskRings$Office" 121 ⟨"DeskRings$Office", "hears", "(II)Z"⟩ ∈ GW := gw_of (gw_t (gw_5 (List.mem_of_getElem? (i := 189) (by decide +kernel)))) (by decide +kernel)
theorem q1148 : Cond.code ⟨"DeskRings$Office", "ringsHeard", "(I)I"⟩ prog_7_method_30_code 4 (some .int) ∈ GW := gw_of (gw_t (gw_5 (List.mem_of_getElem? (i := 188) (by decide +kernel)))) (by decide +kernel)
theorem zk_X5_ringsHeard : ZK Y_X5_ringsHeard 1 := ⟨q1148, q3, ⟨by decide, by decide⟩, by decide +kernel⟩
theorem q1146 : Cond.instanceMethod ⟨"DeskRings$Office", "ringsHeard", "(I)I"⟩ ∈ GW := gw_of (gw_t (gw_5 (List.mem_of_getElem? (i := 186) (by decide +kernel)))) (by decide +kernel)
theorem q1147 : Cond.selects "DeskRings$Office" ⟨"DeskRings$Office", "ringsHeard", "(I)I"⟩ ⟨"DeskRings$Office", "ringsHeard", "(I)I"⟩ ∈ GW := gw_of (gw_t (gw_5 (List.mem_of_getElem? (i := 187) (by decide +kernel)))) (by decide +kernel)
theorem zi_X5_ringsHeard : Cond.instanceMethod Y_X5_ringsHeard.1 ∈ GW ∧ Cond.selects Y_X5_ringsHeard.1.cls Y_X5_ringsHeard.1 Y_X5_ringsHeard.1 ∈ GW := ⟨q1146, q1147⟩
theorem q1145 : Cond.methodLink "DeskRings" 268 ⟨"DeskRings$Office", "ringsHeard", "(I)I"⟩ ∈ GW := gw_of (gw_t (gw_5 (List.mem_of_getElem? (i := 185) (by decide +kernel)))) (by decide +kernel)
theorem q947 : Cond.methodLink "DeskRings$Waiting" 81 ⟨"java/lang/Integer", "bitCount", "(I)I"⟩ ∈ GW := gw_of (gw_t (gw_4 (List.mem_of_getElem? (i := 227) (by decide +kernel)))) (by decide +kernel)
theorem q946 : Cond.code ⟨"DeskRings$Waiting", "rowsFrom", "(II)I"⟩ prog_12_method_10_code 5 (some .int) ∈ GW := gw_of (gw_t (gw_4 (List.mem_of_getElem? (i := 226) (by decide +kernel)))) (by decide +kernel)
theorem zk_X10_rowsFrom : ZK Y_X10_rowsFrom 2 := ⟨q946, q10, ⟨by decide, by decide⟩, by decide +kernel⟩
theorem q945 : Cond.instanceMethod ⟨"DeskRings$Waiting", "rowsFrom", "(II)I"⟩ ∈ GW := gw_of (gw_t (gw_4 (List.mem_of_getElem? (i := 225) (by decide +kernel)))) (by decide +kernel)
theorem qs30 : Cond.selects "DeskRings$Waiting" ⟨"DeskRings$Waiting", "rowsFrom", "(II)I"⟩ ⟨"DeskRings$Waiting", "rowsFrom", "(II)I"⟩ ∈ GW := gw_of (List.mem_append_left _ (List.mem_of_getElem? (i := 30) (by decide +kernel))) (by decide +kernel)
theorem zi_X10_rowsFrom : Cond.instanceMethod Y_X10_rowsFrom.1 ∈ GW ∧ Cond.selects Y_X10_rowsFrom.1.cls Y_X10_rowsFrom.1 Y_X10_rowsFrom.1 ∈ GW := ⟨q945, qs30⟩
theorem q943 : Cond.methodLink "DeskRings$Waiting" 78 ⟨"DeskRings$Waiting", "rowsFrom", "(II)I"⟩ ∈ GW := gw_of (gw_t (gw_4 (List.mem_of_getElem? (i := 223) (by decide +kernel)))) (by decide +kernel)
theorem q964 : Cond.code ⟨"DeskRings$Waiting", "familiesSaying", "(III)I"⟩ prog_12_method_12_code 7 (some .int) ∈ GW := gw_of (gw_t (gw_5 (List.mem_of_getElem? (i := 4) (by decide +kernel)))) (by decide +kernel)
theorem zk_X10_familiesSaying : ZK Y_X10_familiesSaying 3 := ⟨q964, q10, ⟨by decide, by decide⟩, by decide +kernel⟩
theorem q963 : Cond.instanceMethod ⟨"DeskRings$Waiting", "familiesSaying", "(III)I"⟩ ∈ GW := gw_of (gw_t (gw_5 (List.mem_of_getElem? (i := 3) (by decide +kernel)))) (by decide +kernel)
theorem qs32 : Cond.selects "DeskRings$Waiting" ⟨"DeskRings$Waiting", "familiesSaying", "(III)I"⟩ ⟨"DeskRings$Waiting", "familiesSaying", "(III)I"⟩ ∈ GW := gw_of (List.mem_append_left _ (List.mem_of_getElem? (i := 32) (by decide +kernel))) (by decide +kernel)
theorem zi_X10_familiesSaying : Cond.instanceMethod Y_X10_familiesSaying.1 ∈ GW ∧ Cond.selects Y_X10_familiesSaying.1.cls Y_X10_familiesSaying.1 Y_X10_familiesSaying.1 ∈ GW := ⟨q963, qs32⟩
theorem q961 : Cond.methodLink "DeskRings$Waiting" 94 ⟨"DeskRings$Waiting", "familiesSaying", "(III)I"⟩ ∈ GW := gw_of (gw_t (gw_5 (List.mem_of_getElem? (i := 1) (by decide +kernel)))) (by decide +kernel)
theorem q942 : Cond.code ⟨"DeskRings$Waiting", "howMany", "()I"⟩ prog_12_method_9_code 3 (some .int) ∈ GW := gw_of (gw_t (gw_4 (List.mem_of_getElem? (i := 222) (by decide +kernel)))) (by decide +kernel)
theorem zk_X10_howMany : ZK Y_X10_howMany 0 := ⟨q942, q10, ⟨by decide, by decide⟩, by decide +kernel⟩
theorem q940 : Cond.instanceMethod ⟨"DeskRings$Waiting", "howMany", "()I"⟩ ∈ GW := gw_of (gw_t (gw_4 (List.mem_of_getElem? (i := 220) (by decide +kernel)))) (by decide +kernel)
theorem q941 : Cond.selects "DeskRings$Waiting" ⟨"DeskRings$Waiting", "howMany", "()I"⟩ ⟨"DeskRings$Waiting", "howMany", "()I"⟩ ∈ GW := gw_of (gw_t (gw_4 (List.mem_of_getElem? (i := 221) (by decide +kernel)))) (by decide +kernel)
theorem zi_X10_howMany : Cond.instanceMethod Y_X10_howMany.1 ∈ GW ∧ Cond.selects Y_X10_howMany.1.cls Y_X10_howMany.1 Y_X10_howMany.1 ∈ GW := ⟨q940, q941⟩
theorem q960 : Cond.code ⟨"DeskRings$Waiting", "rowsSaying", "(III)I"⟩ prog_12_method_13_code 7 (some .int) ∈ GW := gw_of (gw_t (gw_5 (List.mem_of_getElem? (i := 0) (by decide +kernel)))) (by decide +kernel)
theorem zk_X10_rowsSaying : ZK Y_X10_rowsSaying 3 := ⟨q960, q10, ⟨by decide, by decide⟩, by decide +kernel⟩
theorem q959 : Cond.instanceMethod ⟨"DeskRings$Waiting", "rowsSaying", "(III)I"⟩ ∈ GW := gw_of (gw_t (gw_4 (List.mem_of_getElem? (i := 239) (by decide +kernel)))) (by decide +kernel)
theorem qs31 : Cond.selects "DeskRings$Waiting" ⟨"DeskRings$Waiting", "rowsSaying", "(III)I"⟩ ⟨"DeskRings$Waiting", "rowsSaying", "(III)I"⟩ ∈ GW := gw_of (List.mem_append_left _ (List.mem_of_getElem? (i := 31) (by decide +kernel))) (by decide +kernel)
theorem zi_X10_rowsSaying : Cond.instanceMethod Y_X10_rowsSaying.1 ∈ GW ∧ Cond.selects Y_X10_rowsSaying.1.cls Y_X10_rowsSaying.1 Y_X10_rowsSaying.1 ∈ GW := ⟨q959, qs31⟩
theorem q957 : Cond.methodLink "DeskRings$Waiting" 91 ⟨"DeskRings$Waiting", "rowsSaying", "(III)I"⟩ ∈ GW := gw_of (gw_t (gw_4 (List.mem_of_getElem? (i := 237) (by decide +kernel)))) (by decide +kernel)
theorem q956 : Cond.methodLink "DeskRings$Waiting" 87 ⟨"DeskRings$Waiting", "howMany", "()I"⟩ ∈ GW := gw_of (gw_t (gw_4 (List.mem_of_getElem? (i := 236) (by decide +kernel)))) (by decide +kernel)
theorem q939 : Cond.methodLink "DeskRings" 177 ⟨"DeskRings$Waiting", "howMany", "()I"⟩ ∈ GW := gw_of (gw_t (gw_4 (List.mem_of_getElem? (i := 219) (by decide +kernel)))) (by decide +kernel)
theorem q955 : Cond.code ⟨"DeskRings$Waiting", "restAt", "(I)I"⟩ prog_12_method_11_code 8 (some .int) ∈ GW := gw_of (gw_t (gw_4 (List.mem_of_getElem? (i := 235) (by decide +kernel)))) (by decide +kernel)
theorem zk_X10_restAt : ZK Y_X10_restAt 1 := ⟨q955, q10, ⟨by decide, by decide⟩, by decide +kernel⟩
theorem q953 : Cond.instanceMethod ⟨"DeskRings$Waiting", "restAt", "(I)I"⟩ ∈ GW := gw_of (gw_t (gw_4 (List.mem_of_getElem? (i := 233) (by decide +kernel)))) (by decide +kernel)
theorem q954 : Cond.selects "DeskRings$Waiting" ⟨"DeskRings$Waiting", "restAt", "(I)I"⟩ ⟨"DeskRings$Waiting", "restAt", "(I)I"⟩ ∈ GW := gw_of (gw_t (gw_4 (List.mem_of_getElem? (i := 234) (by decide +kernel)))) (by decide +kernel)
theorem zi_X10_restAt : Cond.instanceMethod Y_X10_restAt.1 ∈ GW ∧ Cond.selects Y_X10_restAt.1.cls Y_X10_restAt.1 Y_X10_restAt.1 ∈ GW := ⟨q953, q954⟩
theorem q952 : Cond.methodLink "DeskRings" 183 ⟨"DeskRings$Waiting", "restAt", "(I)I"⟩ ∈ GW := gw_of (gw_t (gw_4 (List.mem_of_getElem? (i := 232) (by decide +kernel)))) (by decide +kernel)
theorem q1118 : Cond.code ⟨"DeskRings$Office", "roomOf", "(I)I"⟩ prog_7_method_24_code 4 (some .int) ∈ GW := gw_of (gw_t (gw_5 (List.mem_of_getElem? (i := 158) (by decide +kernel)))) (by decide +kernel)
theorem zk_X5_roomOf : ZK Y_X5_roomOf 1 := ⟨q1118, q3, ⟨by decide, by decide⟩, by decide +kernel⟩
theorem q1117 : Cond.instanceMethod ⟨"DeskRings$Office", "roomOf", "(I)I"⟩ ∈ GW := gw_of (gw_t (gw_5 (List.mem_of_getElem? (i := 157) (by decide +kernel)))) (by decide +kernel)
theorem qs42 : Cond.selects "DeskRings$Office" ⟨"DeskRings$Office", "roomOf", "(I)I"⟩ ⟨"DeskRings$Office", "roomOf", "(I)I"⟩ ∈ GW := gw_of (List.mem_append_left _ (List.mem_of_getElem? (i := 42) (by decide +kernel))) (by decide +kernel)
theorem zi_X5_roomOf : Cond.instanceMethod Y_X5_roomOf.1 ∈ GW ∧ Cond.selects Y_X5_roomOf.1.cls Y_X5_roomOf.1 Y_X5_roomOf.1 ∈ GW := ⟨q1117, qs42⟩
theorem q1115 : Cond.methodLink "DeskRings$Office" 110 ⟨"DeskRings$Office", "roomOf", "(I)I"⟩ ∈ GW := gw_of (gw_t (gw_5 (List.mem_of_getElem? (i := 155) (by decide +kernel)))) (by decide +kernel)
theorem q1127 : Cond.code ⟨"DeskRings$Office", "roomCount", "()I"⟩ prog_7_method_26_code 4 (some .int) ∈ GW := gw_of (gw_t (gw_5 (List.mem_of_getElem? (i := 167) (by decide +kernel)))) (by decide +kernel)
theorem zk_X5_roomCount : ZK Y_X5_roomCount 0 := ⟨q1127, q3, ⟨by decide, by decide⟩, by decide +kernel⟩
theorem q1125 : Cond.instanceMethod ⟨"DeskRings$Office", "roomCount", "()I"⟩ ∈ GW := gw_of (gw_t (gw_5 (List.mem_of_getElem? (i := 165) (by decide +kernel)))) (by decide +kernel)
theorem q1126 : Cond.selects "DeskRings$Office" ⟨"DeskRings$Office", "roomCount", "()I"⟩ ⟨"DeskRings$Office", "roomCount", "()I"⟩ ∈ GW := gw_of (gw_t (gw_5 (List.mem_of_getElem? (i := 166) (by decide +kernel)))) (by decide +kernel)
theorem zi_X5_roomCount : Cond.instanceMethod Y_X5_roomCount.1 ∈ GW ∧ Cond.selects Y_X5_roomCount.1.cls Y_X5_roomCount.1 Y_X5_roomCount.1 ∈ GW := ⟨q1125, q1126⟩
theorem q1124 : Cond.methodLink "DeskRings" 259 ⟨"DeskRings$Office", "roomCount", "()I"⟩ ∈ GW := gw_of (gw_t (gw_5 (List.mem_of_getElem? (i := 164) (by decide +kernel)))) (by decide +kernel)
theorem q1114 : Cond.code ⟨"DeskRings$Office", "largestRoom", "()I"⟩ prog_7_method_27_code 3 (some .int) ∈ GW := gw_of (gw_t (gw_5 (List.mem_of_getElem? (i := 154) (by decide +kernel)))) (by decide +kernel)
theorem zk_X5_largestRoom : ZK Y_X5_largestRoom 0 := ⟨q1114, q3, ⟨by decide, by decide⟩, by decide +kernel⟩
theorem q1112 : Cond.instanceMethod ⟨"DeskRings$Office", "largestRoom", "()I"⟩ ∈ GW := gw_of (gw_t (gw_5 (List.mem_of_getElem? (i := 152) (by decide +kernel)))) (by decide +kernel)
theorem q1113 : Cond.selects "DeskRings$Office" ⟨"DeskRings$Office", "largestRoom", "()I"⟩ ⟨"DeskRings$Office", "largestRoom", "()I"⟩ ∈ GW := gw_of (gw_t (gw_5 (List.mem_of_getElem? (i := 153) (by decide +kernel)))) (by decide +kernel)
theorem zi_X5_largestRoom : Cond.instanceMethod Y_X5_largestRoom.1 ∈ GW ∧ Cond.selects Y_X5_largestRoom.1.cls Y_X5_largestRoom.1 Y_X5_largestRoom.1 ∈ GW := ⟨q1112, q1113⟩
theorem q1111 : Cond.methodLink "DeskRings" 256 ⟨"DeskRings$Office", "largestRoom", "()I"⟩ ∈ GW := gw_of (gw_t (gw_5 (List.mem_of_getElem? (i := 151) (by decide +kernel)))) (by decide +kernel)
theorem q303 : Cond.fieldLink "DeskRings" 230 "DeskRings$Floor" "got" "I" ∈ GW := gw_of (gw_t (gw_2 (List.mem_of_getElem? (i := 63) (by decide +kernel)))) (by decide +kernel)
theorem fl_11_230 : FL "DeskRings" 230 2 1 .int false := ⟨R2, T2, 13, rfl, by decide, q303, by decide +kernel, rfl, rfl⟩
theorem q306 : Cond.fieldLink "DeskRings" 233 "DeskRings$Floor" "paid" "I" ∈ GW := gw_of (gw_t (gw_2 (List.mem_of_getElem? (i := 66) (by decide +kernel)))) (by decide +kernel)
theorem fl_11_233 : FL "DeskRings" 233 2 2 .int false := ⟨R2, T2, 13, rfl, by decide, q306, by decide +kernel, rfl, rfl⟩
theorem q1088 : Cond.methodLink "DeskRings" 236 ⟨"DeskRings$Floor", "mostHelped", "()I"⟩ ∈ GW := gw_of (gw_t (gw_5 (List.mem_of_getElem? (i := 128) (by decide +kernel)))) (by decide +kernel)
theorem q300 : Cond.fieldLink "DeskRings" 242 "DeskRings$Floor" "answered" "I" ∈ GW := gw_of (gw_t (gw_2 (List.mem_of_getElem? (i := 60) (by decide +kernel)))) (by decide +kernel)
theorem fl_11_242 : FL "DeskRings" 242 2 0 .int false := ⟨R2, T2, 13, rfl, by decide, q300, by decide +kernel, rfl, rfl⟩
theorem q1070 : Cond.methodLink "DeskRings" 227 ⟨"DeskRings$Floor", "playRule", "(LDeskRings$Office;I)V"⟩ ∈ GW := gw_of (gw_t (gw_5 (List.mem_of_getElem? (i := 110) (by decide +kernel)))) (by decide +kernel)
theorem q1139 : Cond.code ⟨"DeskRings$Office", "hearersAt", "(II)I"⟩ prog_7_method_28_code 5 (some .int) ∈ GW := gw_of (gw_t (gw_5 (List.mem_of_getElem? (i := 179) (by decide +kernel)))) (by decide +kernel)
theorem zk_X5_hearersAt : ZK Y_X5_hearersAt 2 := ⟨q1139, q3, ⟨by decide, by decide⟩, by decide +kernel⟩
theorem q1137 : Cond.instanceMethod ⟨"DeskRings$Office", "hearersAt", "(II)I"⟩ ∈ GW := gw_of (gw_t (gw_5 (List.mem_of_getElem? (i := 177) (by decide +kernel)))) (by decide +kernel)
theorem q1138 : Cond.selects "DeskRings$Office" ⟨"DeskRings$Office", "hearersAt", "(II)I"⟩ ⟨"DeskRings$Office", "hearersAt", "(II)I"⟩ ∈ GW := gw_of (gw_t (gw_5 (List.mem_of_getElem? (i := 178) (by decide +kernel)))) (by decide +kernel)
theorem zi_X5_hearersAt : Cond.instanceMethod Y_X5_hearersAt.1 ∈ GW ∧ Cond.selects Y_X5_hearersAt.1.cls Y_X5_hearersAt.1 Y_X5_hearersAt.1 ∈ GW := ⟨q1137, q1138⟩
theorem q1136 : Cond.methodLink "DeskRings$Office" 118 ⟨"DeskRings$Office", "hearersAt", "(II)I"⟩ ∈ GW := gw_of (gw_t (gw_5 (List.mem_of_getElem? (i := 176) (by decide +kernel)))) (by decide +kernel)
theorem q1135 : Cond.code ⟨"DeskRings$Office", "quietestPlace", "(I)I"⟩ prog_7_method_29_code 4 (some .int) ∈ GW := gw_of (gw_t (gw_5 (List.mem_of_getElem? (i := 175) (by decide +kernel)))) (by decide +kernel)
theorem zk_X5_quietestPlace : ZK Y_X5_quietestPlace 1 := ⟨q1135, q3, ⟨by decide, by decide⟩, by decide +kernel⟩
theorem q1133 : Cond.instanceMethod ⟨"DeskRings$Office", "quietestPlace", "(I)I"⟩ ∈ GW := gw_of (gw_t (gw_5 (List.mem_of_getElem? (i := 173) (by decide +kernel)))) (by decide +kernel)
theorem q1134 : Cond.selects "DeskRings$Office" ⟨"DeskRings$Office", "quietestPlace", "(I)I"⟩ ⟨"DeskRings$Office", "quietestPlace", "(I)I"⟩ ∈ GW := gw_of (gw_t (gw_5 (List.mem_of_getElem? (i := 174) (by decide +kernel)))) (by decide +kernel)
theorem zi_X5_quietestPlace : Cond.instanceMethod Y_X5_quietestPlace.1 ∈ GW ∧ Cond.selects Y_X5_quietestPlace.1.cls Y_X5_quietestPlace.1 Y_X5_quietestPlace.1 ∈ GW := ⟨q1133, q1134⟩
theorem q1140 : Cond.methodLink "DeskRings" 265 ⟨"DeskRings$Office", "hearersAt", "(II)I"⟩ ∈ GW := gw_of (gw_t (gw_5 (List.mem_of_getElem? (i := 180) (by decide +kernel)))) (by decide +kernel)
theorem q1132 : Cond.methodLink "DeskRings" 262 ⟨"DeskRings$Office", "quietestPlace", "(I)I"⟩ ∈ GW := gw_of (gw_t (gw_5 (List.mem_of_getElem? (i := 172) (by decide +kernel)))) (by decide +kernel)
theorem q225 : Cond.fieldLink "DeskRings$Reader" 56 "DeskRings$Reader" "fault" "I" ∈ GW := gw_of (gw_t (gw_1 (List.mem_of_getElem? (i := 225) (by decide +kernel)))) (by decide +kernel)
theorem fl_7_56 : FL "DeskRings$Reader" 56 7 3 .int false := ⟨R7, T7, 12, rfl, by decide, q225, by decide +kernel, rfl, rfl⟩
theorem q635 : Cond.fieldLink "DeskRings$Reader" 125 "DeskRings$Reader" "CALL_LEAST" "[I" ∈ GW := gw_of (gw_t (gw_3 (List.mem_of_getElem? (i := 155) (by decide +kernel)))) (by decide +kernel)
theorem q637 : Cond.fieldLink "DeskRings$Reader" 128 "DeskRings$Reader" "CALL_MOST" "[I" ∈ GW := gw_of (gw_t (gw_3 (List.mem_of_getElem? (i := 157) (by decide +kernel)))) (by decide +kernel)
theorem q639 : Cond.fieldLink "DeskRings$Reader" 131 "DeskRings$Reader" "LIFTED_LEAST" "[I" ∈ GW := gw_of (gw_t (gw_3 (List.mem_of_getElem? (i := 159) (by decide +kernel)))) (by decide +kernel)
theorem q641 : Cond.fieldLink "DeskRings$Reader" 134 "DeskRings$Reader" "LIFTED_MOST" "[I" ∈ GW := gw_of (gw_t (gw_3 (List.mem_of_getElem? (i := 161) (by decide +kernel)))) (by decide +kernel)
theorem q643 : Cond.fieldLink "DeskRings$Reader" 137 "DeskRings$Reader" "ONLY_MOST" "[I" ∈ GW := gw_of (gw_t (gw_3 (List.mem_of_getElem? (i := 163) (by decide +kernel)))) (by decide +kernel)
theorem q631 : Cond.fieldLink "DeskRings$Reader" 119 "DeskRings$Reader" "DESK_LEAST" "[I" ∈ GW := gw_of (gw_t (gw_3 (List.mem_of_getElem? (i := 151) (by decide +kernel)))) (by decide +kernel)
theorem q633 : Cond.fieldLink "DeskRings$Reader" 122 "DeskRings$Reader" "DESK_MOST" "[I" ∈ GW := gw_of (gw_t (gw_3 (List.mem_of_getElem? (i := 153) (by decide +kernel)))) (by decide +kernel)
theorem q62 : Cond.fieldLink "DeskRings$Reader" 113 "DeskRings$Office" "calls" "I" ∈ GW := gw_of (gw_t (gw_1 (List.mem_of_getElem? (i := 62) (by decide +kernel)))) (by decide +kernel)
theorem fl_7_113 : FL "DeskRings$Reader" 113 5 1 .int false := ⟨R5, T5, 15, rfl, by decide, q62, by decide +kernel, rfl, rfl⟩
theorem q545 : Cond.fieldLink "DeskRings$Reader" 116 "DeskRings$Reader" "FIRST_WORD" "[I" ∈ GW := gw_of (gw_t (gw_3 (List.mem_of_getElem? (i := 65) (by decide +kernel)))) (by decide +kernel)
theorem q158 : Cond.fieldLink "DeskRings$Reader" 65 "DeskRings$Log" "count" "I" ∈ GW := gw_of (gw_t (gw_1 (List.mem_of_getElem? (i := 158) (by decide +kernel)))) (by decide +kernel)
theorem fl_7_65 : FL "DeskRings$Reader" 65 4 0 .int false := ⟨R4, T4, 4, rfl, by decide, q158, by decide +kernel, rfl, rfl⟩
theorem q138 : Cond.fieldLink "DeskRings$Reader" 62 "DeskRings$Day" "count" "I" ∈ GW := gw_of (gw_t (gw_1 (List.mem_of_getElem? (i := 138) (by decide +kernel)))) (by decide +kernel)
theorem fl_7_62 : FL "DeskRings$Reader" 62 1 0 .int false := ⟨R1, T1, 3, rfl, by decide, q138, by decide +kernel, rfl, rfl⟩
theorem q57 : Cond.fieldLink "DeskRings$Reader" 110 "DeskRings$Office" "desks" "I" ∈ GW := gw_of (gw_t (gw_1 (List.mem_of_getElem? (i := 57) (by decide +kernel)))) (by decide +kernel)
theorem fl_7_110 : FL "DeskRings$Reader" 110 5 0 .int false := ⟨R5, T5, 15, rfl, by decide, q57, by decide +kernel, rfl, rfl⟩
theorem q664 : Cond.code ⟨"DeskRings$Office", "addCall", "([I)V"⟩ prog_7_method_6_code 2 (none : Option Jvm.ClassFile.FieldType) ∈ GW := gw_of (gw_t (gw_3 (List.mem_of_getElem? (i := 184) (by decide +kernel)))) (by decide +kernel)
theorem zk_X5_addCall : ZK Y_X5_addCall 1 := ⟨q664, q3, ⟨by decide, by decide⟩, by decide +kernel⟩
theorem q662 : Cond.instanceMethod ⟨"DeskRings$Office", "addCall", "([I)V"⟩ ∈ GW := gw_of (gw_t (gw_3 (List.mem_of_getElem? (i := 182) (by decide +kernel)))) (by decide +kernel)
theorem q663 : Cond.selects "DeskRings$Office" ⟨"DeskRings$Office", "addCall", "([I)V"⟩ ⟨"DeskRings$Office", "addCall", "([I)V"⟩ ∈ GW := gw_of (gw_t (gw_3 (List.mem_of_getElem? (i := 183) (by decide +kernel)))) (by decide +kernel)
theorem zi_X5_addCall : Cond.instanceMethod Y_X5_addCall.1 ∈ GW ∧ Cond.selects Y_X5_addCall.1.cls Y_X5_addCall.1 Y_X5_addCall.1 ∈ GW := ⟨q662, q663⟩
theorem q661 : Cond.methodLink "DeskRings$Reader" 150 ⟨"DeskRings$Office", "addCall", "([I)V"⟩ ∈ GW := gw_of (gw_t (gw_3 (List.mem_of_getElem? (i := 181) (by decide +kernel)))) (by decide +kernel)
theorem q65 : Cond.fieldLink "DeskRings$Reader" 154 "DeskRings$Office" "ear" "I" ∈ GW := gw_of (gw_t (gw_1 (List.mem_of_getElem? (i := 65) (by decide +kernel)))) (by decide +kernel)
theorem fl_7_154 : FL "DeskRings$Reader" 154 5 2 .int false := ⟨R5, T5, 15, rfl, by decide, q65, by decide +kernel, rfl, rfl⟩
theorem q67 : Cond.fieldLink "DeskRings$Reader" 157 "DeskRings$Office" "machine" "I" ∈ GW := gw_of (gw_t (gw_1 (List.mem_of_getElem? (i := 67) (by decide +kernel)))) (by decide +kernel)
theorem fl_7_157 : FL "DeskRings$Reader" 157 5 3 .int false := ⟨R5, T5, 15, rfl, by decide, q67, by decide +kernel, rfl, rfl⟩
theorem q70 : Cond.fieldLink "DeskRings$Reader" 160 "DeskRings$Office" "fade" "I" ∈ GW := gw_of (gw_t (gw_1 (List.mem_of_getElem? (i := 70) (by decide +kernel)))) (by decide +kernel)
theorem fl_7_160 : FL "DeskRings$Reader" 160 5 4 .int false := ⟨R5, T5, 15, rfl, by decide, q70, by decide +kernel, rfl, rfl⟩
theorem q668 : Cond.code ⟨"DeskRings$Office", "addDesk", "(I[I)V"⟩ prog_7_method_5_code 3 (none : Option Jvm.ClassFile.FieldType) ∈ GW := gw_of (gw_t (gw_3 (List.mem_of_getElem? (i := 188) (by decide +kernel)))) (by decide +kernel)
theorem zk_X5_addDesk : ZK Y_X5_addDesk 2 := ⟨q668, q3, ⟨by decide, by decide⟩, by decide +kernel⟩
theorem q666 : Cond.instanceMethod ⟨"DeskRings$Office", "addDesk", "(I[I)V"⟩ ∈ GW := gw_of (gw_t (gw_3 (List.mem_of_getElem? (i := 186) (by decide +kernel)))) (by decide +kernel)
theorem q667 : Cond.selects "DeskRings$Office" ⟨"DeskRings$Office", "addDesk", "(I[I)V"⟩ ⟨"DeskRings$Office", "addDesk", "(I[I)V"⟩ ∈ GW := gw_of (gw_t (gw_3 (List.mem_of_getElem? (i := 187) (by decide +kernel)))) (by decide +kernel)
theorem zi_X5_addDesk : Cond.instanceMethod Y_X5_addDesk.1 ∈ GW ∧ Cond.selects Y_X5_addDesk.1.cls Y_X5_addDesk.1 Y_X5_addDesk.1 ∈ GW := ⟨q666, q667⟩
theorem q665 : Cond.methodLink "DeskRings$Reader" 163 ⟨"DeskRings$Office", "addDesk", "(I[I)V"⟩ ∈ GW := gw_of (gw_t (gw_3 (List.mem_of_getElem? (i := 185) (by decide +kernel)))) (by decide +kernel)
theorem q652 : Cond.code ⟨"DeskRings$Day", "add", "(II)V"⟩ prog_3_method_3_code 3 (none : Option Jvm.ClassFile.FieldType) ∈ GW := gw_of (gw_t (gw_3 (List.mem_of_getElem? (i := 172) (by decide +kernel)))) (by decide +kernel)
theorem zk_X1_add : ZK Y_X1_add 2 := ⟨q652, q4, ⟨by decide, by decide⟩, by decide +kernel⟩
theorem q650 : Cond.instanceMethod ⟨"DeskRings$Day", "add", "(II)V"⟩ ∈ GW := gw_of (gw_t (gw_3 (List.mem_of_getElem? (i := 170) (by decide +kernel)))) (by decide +kernel)
theorem q651 : Cond.selects "DeskRings$Day" ⟨"DeskRings$Day", "add", "(II)V"⟩ ⟨"DeskRings$Day", "add", "(II)V"⟩ ∈ GW := gw_of (gw_t (gw_3 (List.mem_of_getElem? (i := 171) (by decide +kernel)))) (by decide +kernel)
theorem zi_X1_add : Cond.instanceMethod Y_X1_add.1 ∈ GW ∧ Cond.selects Y_X1_add.1.cls Y_X1_add.1 Y_X1_add.1 ∈ GW := ⟨q650, q651⟩
theorem q649 : Cond.methodLink "DeskRings$Reader" 140 ⟨"DeskRings$Day", "add", "(II)V"⟩ ∈ GW := gw_of (gw_t (gw_3 (List.mem_of_getElem? (i := 169) (by decide +kernel)))) (by decide +kernel)
theorem q656 : Cond.code ⟨"DeskRings$Log", "add", "(III)V"⟩ prog_6_method_3_code 4 (none : Option Jvm.ClassFile.FieldType) ∈ GW := gw_of (gw_t (gw_3 (List.mem_of_getElem? (i := 176) (by decide +kernel)))) (by decide +kernel)
theorem zk_X4_add : ZK Y_X4_add 3 := ⟨q656, q5, ⟨by decide, by decide⟩, by decide +kernel⟩
theorem q654 : Cond.instanceMethod ⟨"DeskRings$Log", "add", "(III)V"⟩ ∈ GW := gw_of (gw_t (gw_3 (List.mem_of_getElem? (i := 174) (by decide +kernel)))) (by decide +kernel)
theorem q655 : Cond.selects "DeskRings$Log" ⟨"DeskRings$Log", "add", "(III)V"⟩ ⟨"DeskRings$Log", "add", "(III)V"⟩ ∈ GW := gw_of (gw_t (gw_3 (List.mem_of_getElem? (i := 175) (by decide +kernel)))) (by decide +kernel)
theorem zi_X4_add : Cond.instanceMethod Y_X4_add.1 ∈ GW ∧ Cond.selects Y_X4_add.1.cls Y_X4_add.1 Y_X4_add.1 ∈ GW := ⟨q654, q655⟩
theorem q653 : Cond.methodLink "DeskRings$Reader" 143 ⟨"DeskRings$Log", "add", "(III)V"⟩ ∈ GW := gw_of (gw_t (gw_3 (List.mem_of_getElem? (i := 173) (by decide +kernel)))) (by decide +kernel)
theorem q660 : Cond.code ⟨"DeskRings$Reader", "storeOffice", "(I)V"⟩ prog_9_method_8_code 2 (none : Option Jvm.ClassFile.FieldType) ∈ GW := gw_of (gw_t (gw_3 (List.mem_of_getElem? (i := 180) (by decide +kernel)))) (by decide +kernel)
theorem zk_X7_storeOffice : ZK Y_X7_storeOffice 1 := ⟨q660, q6, ⟨by decide, by decide⟩, by decide +kernel⟩
theorem q659 : Cond.instanceMethod ⟨"DeskRings$Reader", "storeOffice", "(I)V"⟩ ∈ GW := gw_of (gw_t (gw_3 (List.mem_of_getElem? (i := 179) (by decide +kernel)))) (by decide +kernel)
theorem qs10 : Cond.selects "DeskRings$Reader" ⟨"DeskRings$Reader", "storeOffice", "(I)V"⟩ ⟨"DeskRings$Reader", "storeOffice", "(I)V"⟩ ∈ GW := gw_of (List.mem_append_left _ (List.mem_of_getElem? (i := 10) (by decide +kernel))) (by decide +kernel)
theorem zi_X7_storeOffice : Cond.instanceMethod Y_X7_storeOffice.1 ∈ GW ∧ Cond.selects Y_X7_storeOffice.1.cls Y_X7_storeOffice.1 Y_X7_storeOffice.1 ∈ GW := ⟨q659, qs10⟩
theorem q657 : Cond.methodLink "DeskRings$Reader" 146 ⟨"DeskRings$Reader", "storeOffice", "(I)V"⟩ ∈ GW := gw_of (gw_t (gw_3 (List.mem_of_getElem? (i := 177) (by decide +kernel)))) (by decide +kernel)
theorem q235 : Cond.fieldLink "DeskRings$Reader" 100 "DeskRings$Reader" "value" "I" ∈ GW := gw_of (gw_t (gw_1 (List.mem_of_getElem? (i := 235) (by decide +kernel)))) (by decide +kernel)
theorem fl_7_100 : FL "DeskRings$Reader" 100 7 11 .int false := ⟨R7, T7, 12, rfl, by decide, q235, by decide +kernel, rfl, rfl⟩
theorem q234 : Cond.fieldLink "DeskRings$Reader" 53 "DeskRings$Reader" "next" "I" ∈ GW := gw_of (gw_t (gw_1 (List.mem_of_getElem? (i := 234) (by decide +kernel)))) (by decide +kernel)
theorem fl_7_53 : FL "DeskRings$Reader" 53 7 10 .int false := ⟨R7, T7, 12, rfl, by decide, q234, by decide +kernel, rfl, rfl⟩
theorem q231 : Cond.fieldLink "DeskRings$Reader" 50 "DeskRings$Reader" "length" "I" ∈ GW := gw_of (gw_t (gw_1 (List.mem_of_getElem? (i := 231) (by decide +kernel)))) (by decide +kernel)
theorem fl_7_50 : FL "DeskRings$Reader" 50 7 7 .int false := ⟨R7, T7, 12, rfl, by decide, q231, by decide +kernel, rfl, rfl⟩
theorem q532 : Cond.code ⟨"DeskRings$Reader", "isDigit", "(B)Z"⟩ prog_9_method_13_code 1 (some .boolean) ∈ GW := gw_of (gw_t (gw_3 (List.mem_of_getElem? (i := 52) (by decide +kernel)))) (by decide +kernel)
theorem zk_X7_isDigit : ZK Y_X7_isDigit 1 := ⟨q532, q6, ⟨by decide, by decide⟩, by decide +kernel⟩
theorem q530 : Cond.methodLink "DeskRings$Reader" 174 ⟨"DeskRings$Reader", "isDigit", "(B)Z"⟩ ∈ GW := gw_of (gw_t (gw_3 (List.mem_of_getElem? (i := 50) (by decide +kernel)))) (by decide +kernel)
theorem q531 : Cond.static ⟨"DeskRings$Reader", "isDigit", "(B)Z"⟩ ∈ GW := gw_of (gw_t (gw_3 (List.mem_of_getElem? (i := 51) (by decide +kernel)))) (by decide +kernel)
theorem q233 : Cond.fieldLink "DeskRings$Reader" 76 "DeskRings$Reader" "start" "I" ∈ GW := gw_of (gw_t (gw_1 (List.mem_of_getElem? (i := 233) (by decide +kernel)))) (by decide +kernel)
theorem fl_7_76 : FL "DeskRings$Reader" 76 7 9 .int false := ⟨R7, T7, 12, rfl, by decide, q233, by decide +kernel, rfl, rfl⟩
theorem q232 : Cond.fieldLink "DeskRings$Reader" 69 "DeskRings$Reader" "token" "I" ∈ GW := gw_of (gw_t (gw_1 (List.mem_of_getElem? (i := 232) (by decide +kernel)))) (by decide +kernel)
theorem fl_7_69 : FL "DeskRings$Reader" 69 7 8 .int false := ⟨R7, T7, 12, rfl, by decide, q232, by decide +kernel, rfl, rfl⟩
theorem q525 : Cond.code ⟨"DeskRings$Reader", "isLetter", "(B)Z"⟩ prog_9_method_12_code 1 (some .boolean) ∈ GW := gw_of (gw_t (gw_3 (List.mem_of_getElem? (i := 45) (by decide +kernel)))) (by decide +kernel)
theorem zk_X7_isLetter : ZK Y_X7_isLetter 1 := ⟨q525, q6, ⟨by decide, by decide⟩, by decide +kernel⟩
theorem q523 : Cond.methodLink "DeskRings$Reader" 167 ⟨"DeskRings$Reader", "isLetter", "(B)Z"⟩ ∈ GW := gw_of (gw_t (gw_3 (List.mem_of_getElem? (i := 43) (by decide +kernel)))) (by decide +kernel)
theorem q524 : Cond.static ⟨"DeskRings$Reader", "isLetter", "(B)Z"⟩ ∈ GW := gw_of (gw_t (gw_3 (List.mem_of_getElem? (i := 44) (by decide +kernel)))) (by decide +kernel)
theorem q536 : Cond.code ⟨"DeskRings$Reader", "takeNumber", "()V"⟩ prog_9_method_11_code 1 (none : Option Jvm.ClassFile.FieldType) ∈ GW := gw_of (gw_t (gw_3 (List.mem_of_getElem? (i := 56) (by decide +kernel)))) (by decide +kernel)
theorem zk_X7_takeNumber : ZK Y_X7_takeNumber 0 := ⟨q536, q6, ⟨by decide, by decide⟩, by decide +kernel⟩
theorem q535 : Cond.instanceMethod ⟨"DeskRings$Reader", "takeNumber", "()V"⟩ ∈ GW := gw_of (gw_t (gw_3 (List.mem_of_getElem? (i := 55) (by decide +kernel)))) (by decide +kernel)
theorem qs2 : Cond.selects "DeskRings$Reader" ⟨"DeskRings$Reader", "takeNumber", "()V"⟩ ⟨"DeskRings$Reader", "takeNumber", "()V"⟩ ∈ GW := gw_of (List.mem_append_left _ (List.mem_of_getElem? (i := 2) (by decide +kernel))) (by decide +kernel)
theorem zi_X7_takeNumber : Cond.instanceMethod Y_X7_takeNumber.1 ∈ GW ∧ Cond.selects Y_X7_takeNumber.1.cls Y_X7_takeNumber.1 Y_X7_takeNumber.1 ∈ GW := ⟨q535, qs2⟩
theorem q533 : Cond.methodLink "DeskRings$Reader" 177 ⟨"DeskRings$Reader", "takeNumber", "()V"⟩ ∈ GW := gw_of (gw_t (gw_3 (List.mem_of_getElem? (i := 53) (by decide +kernel)))) (by decide +kernel)
theorem q529 : Cond.code ⟨"DeskRings$Reader", "takeWord", "()V"⟩ prog_9_method_10_code 1 (none : Option Jvm.ClassFile.FieldType) ∈ GW := gw_of (gw_t (gw_3 (List.mem_of_getElem? (i := 49) (by decide +kernel)))) (by decide +kernel)
theorem zk_X7_takeWord : ZK Y_X7_takeWord 0 := ⟨q529, q6, ⟨by decide, by decide⟩, by decide +kernel⟩
theorem q528 : Cond.instanceMethod ⟨"DeskRings$Reader", "takeWord", "()V"⟩ ∈ GW := gw_of (gw_t (gw_3 (List.mem_of_getElem? (i := 48) (by decide +kernel)))) (by decide +kernel)
theorem qs1 : Cond.selects "DeskRings$Reader" ⟨"DeskRings$Reader", "takeWord", "()V"⟩ ⟨"DeskRings$Reader", "takeWord", "()V"⟩ ∈ GW := gw_of (List.mem_append_left _ (List.mem_of_getElem? (i := 1) (by decide +kernel))) (by decide +kernel)
theorem zi_X7_takeWord : Cond.instanceMethod Y_X7_takeWord.1 ∈ GW ∧ Cond.selects Y_X7_takeWord.1.cls Y_X7_takeWord.1 Y_X7_takeWord.1 ∈ GW := ⟨q528, qs1⟩
theorem q526 : Cond.methodLink "DeskRings$Reader" 171 ⟨"DeskRings$Reader", "takeWord", "()V"⟩ ∈ GW := gw_of (gw_t (gw_3 (List.mem_of_getElem? (i := 46) (by decide +kernel)))) (by decide +kernel)
theorem q579 : Cond.methodLink "DeskRings$Reader" 193 ⟨"java/lang/String", "charAt", "(I)C"⟩ ∈ GW := gw_of (gw_t (gw_3 (List.mem_of_getElem? (i := 99) (by decide +kernel)))) (by decide +kernel)
theorem q569 : Cond.methodLink "DeskRings$Reader" 188 ⟨"java/lang/String", "length", "()I"⟩ ∈ GW := gw_of (gw_t (gw_3 (List.mem_of_getElem? (i := 89) (by decide +kernel)))) (by decide +kernel)
theorem q549 : Cond.code ⟨"DeskRings$Reader", "spelling", "(I)Ljava/lang/String;"⟩ prog_9_method_16_code 1 (some (.object "java/lang/String")) ∈ GW := gw_of (gw_t (gw_3 (List.mem_of_getElem? (i := 69) (by decide +kernel)))) (by decide +kernel)
theorem zk_X7_spelling : ZK Y_X7_spelling 1 := ⟨q549, q6, ⟨by decide, by decide⟩, by decide +kernel⟩
theorem q568 : Cond.code ⟨"DeskRings$Reader", "isHere", "(Ljava/lang/String;)Z"⟩ prog_9_method_15_code 3 (some .boolean) ∈ GW := gw_of (gw_t (gw_3 (List.mem_of_getElem? (i := 88) (by decide +kernel)))) (by decide +kernel)
theorem zk_X7_isHere : ZK Y_X7_isHere 1 := ⟨q568, q6, ⟨by decide, by decide⟩, by decide +kernel⟩
theorem q567 : Cond.instanceMethod ⟨"DeskRings$Reader", "isHere", "(Ljava/lang/String;)Z"⟩ ∈ GW := gw_of (gw_t (gw_3 (List.mem_of_getElem? (i := 87) (by decide +kernel)))) (by decide +kernel)
theorem qs5 : Cond.selects "DeskRings$Reader" ⟨"DeskRings$Reader", "isHere", "(Ljava/lang/String;)Z"⟩ ⟨"DeskRings$Reader", "isHere", "(Ljava/lang/String;)Z"⟩ ∈ GW := gw_of (List.mem_append_left _ (List.mem_of_getElem? (i := 5) (by decide +kernel))) (by decide +kernel)
theorem zi_X7_isHere : Cond.instanceMethod Y_X7_isHere.1 ∈ GW ∧ Cond.selects Y_X7_isHere.1.cls Y_X7_isHere.1 Y_X7_isHere.1 ∈ GW := ⟨q567, qs5⟩
theorem q565 : Cond.methodLink "DeskRings$Reader" 184 ⟨"DeskRings$Reader", "isHere", "(Ljava/lang/String;)Z"⟩ ∈ GW := gw_of (gw_t (gw_3 (List.mem_of_getElem? (i := 85) (by decide +kernel)))) (by decide +kernel)
theorem q547 : Cond.methodLink "DeskRings$Reader" 180 ⟨"DeskRings$Reader", "spelling", "(I)Ljava/lang/String;"⟩ ∈ GW := gw_of (gw_t (gw_3 (List.mem_of_getElem? (i := 67) (by decide +kernel)))) (by decide +kernel)
theorem q548 : Cond.static ⟨"DeskRings$Reader", "spelling", "(I)Ljava/lang/String;"⟩ ∈ GW := gw_of (gw_t (gw_3 (List.mem_of_getElem? (i := 68) (by decide +kernel)))) (by decide +kernel)
theorem q544 : Cond.code ⟨"DeskRings$Reader", "wordHere", "(I)I"⟩ prog_9_method_14_code 3 (some .int) ∈ GW := gw_of (gw_t (gw_3 (List.mem_of_getElem? (i := 64) (by decide +kernel)))) (by decide +kernel)
theorem zk_X7_wordHere : ZK Y_X7_wordHere 1 := ⟨q544, q6, ⟨by decide, by decide⟩, by decide +kernel⟩
theorem q543 : Cond.instanceMethod ⟨"DeskRings$Reader", "wordHere", "(I)I"⟩ ∈ GW := gw_of (gw_t (gw_3 (List.mem_of_getElem? (i := 63) (by decide +kernel)))) (by decide +kernel)
theorem qs4 : Cond.selects "DeskRings$Reader" ⟨"DeskRings$Reader", "wordHere", "(I)I"⟩ ⟨"DeskRings$Reader", "wordHere", "(I)I"⟩ ∈ GW := gw_of (List.mem_append_left _ (List.mem_of_getElem? (i := 4) (by decide +kernel))) (by decide +kernel)
theorem zi_X7_wordHere : Cond.instanceMethod Y_X7_wordHere.1 ∈ GW ∧ Cond.selects Y_X7_wordHere.1.cls Y_X7_wordHere.1 Y_X7_wordHere.1 ∈ GW := ⟨q543, qs4⟩
theorem q620 : Cond.code ⟨"DeskRings$Reader", "isFull", "(I)Z"⟩ prog_9_method_5_code 2 (some .boolean) ∈ GW := gw_of (gw_t (gw_3 (List.mem_of_getElem? (i := 140) (by decide +kernel)))) (by decide +kernel)
theorem zk_X7_isFull : ZK Y_X7_isFull 1 := ⟨q620, q6, ⟨by decide, by decide⟩, by decide +kernel⟩
theorem q619 : Cond.instanceMethod ⟨"DeskRings$Reader", "isFull", "(I)Z"⟩ ∈ GW := gw_of (gw_t (gw_3 (List.mem_of_getElem? (i := 139) (by decide +kernel)))) (by decide +kernel)
theorem qs6 : Cond.selects "DeskRings$Reader" ⟨"DeskRings$Reader", "isFull", "(I)Z"⟩ ⟨"DeskRings$Reader", "isFull", "(I)Z"⟩ ∈ GW := gw_of (List.mem_append_left _ (List.mem_of_getElem? (i := 6) (by decide +kernel))) (by decide +kernel)
theorem zi_X7_isFull : Cond.instanceMethod Y_X7_isFull.1 ∈ GW ∧ Cond.selects Y_X7_isFull.1.cls Y_X7_isFull.1 Y_X7_isFull.1 ∈ GW := ⟨q619, qs6⟩
theorem q625 : Cond.fieldLink "DeskRings$Reader" 97 "DeskRings$Reader" "NUMBERS_OF" "[I" ∈ GW := gw_of (gw_t (gw_3 (List.mem_of_getElem? (i := 145) (by decide +kernel)))) (by decide +kernel)
theorem q522 : Cond.code ⟨"DeskRings$Reader", "takeToken", "()V"⟩ prog_9_method_9_code 1 (none : Option Jvm.ClassFile.FieldType) ∈ GW := gw_of (gw_t (gw_3 (List.mem_of_getElem? (i := 42) (by decide +kernel)))) (by decide +kernel)
theorem zk_X7_takeToken : ZK Y_X7_takeToken 0 := ⟨q522, q6, ⟨by decide, by decide⟩, by decide +kernel⟩
theorem q521 : Cond.instanceMethod ⟨"DeskRings$Reader", "takeToken", "()V"⟩ ∈ GW := gw_of (gw_t (gw_3 (List.mem_of_getElem? (i := 41) (by decide +kernel)))) (by decide +kernel)
theorem qs0 : Cond.selects "DeskRings$Reader" ⟨"DeskRings$Reader", "takeToken", "()V"⟩ ⟨"DeskRings$Reader", "takeToken", "()V"⟩ ∈ GW := gw_of (List.mem_append_left _ (List.mem_of_getElem? (i := 0) (by decide +kernel))) (by decide +kernel)
theorem zi_X7_takeToken : Cond.instanceMethod Y_X7_takeToken.1 ∈ GW ∧ Cond.selects Y_X7_takeToken.1.cls Y_X7_takeToken.1 Y_X7_takeToken.1 ∈ GW := ⟨q521, qs0⟩
theorem q630 : Cond.code ⟨"DeskRings$Reader", "canBe", "(II)Z"⟩ prog_9_method_6_code 5 (some .boolean) ∈ GW := gw_of (gw_t (gw_3 (List.mem_of_getElem? (i := 150) (by decide +kernel)))) (by decide +kernel)
theorem zk_X7_canBe : ZK Y_X7_canBe 2 := ⟨q630, q6, ⟨by decide, by decide⟩, by decide +kernel⟩
theorem q629 : Cond.instanceMethod ⟨"DeskRings$Reader", "canBe", "(II)Z"⟩ ∈ GW := gw_of (gw_t (gw_3 (List.mem_of_getElem? (i := 149) (by decide +kernel)))) (by decide +kernel)
theorem qs8 : Cond.selects "DeskRings$Reader" ⟨"DeskRings$Reader", "canBe", "(II)Z"⟩ ⟨"DeskRings$Reader", "canBe", "(II)Z"⟩ ∈ GW := gw_of (List.mem_append_left _ (List.mem_of_getElem? (i := 8) (by decide +kernel))) (by decide +kernel)
theorem zi_X7_canBe : Cond.instanceMethod Y_X7_canBe.1 ∈ GW ∧ Cond.selects Y_X7_canBe.1.cls Y_X7_canBe.1 Y_X7_canBe.1 ∈ GW := ⟨q629, qs8⟩
theorem q624 : Cond.code ⟨"DeskRings$Reader", "mark", "(II)V"⟩ prog_9_method_3_code 3 (none : Option Jvm.ClassFile.FieldType) ∈ GW := gw_of (gw_t (gw_3 (List.mem_of_getElem? (i := 144) (by decide +kernel)))) (by decide +kernel)
theorem zk_X7_mark : ZK Y_X7_mark 2 := ⟨q624, q6, ⟨by decide, by decide⟩, by decide +kernel⟩
theorem q623 : Cond.instanceMethod ⟨"DeskRings$Reader", "mark", "(II)V"⟩ ∈ GW := gw_of (gw_t (gw_3 (List.mem_of_getElem? (i := 143) (by decide +kernel)))) (by decide +kernel)
theorem qs7 : Cond.selects "DeskRings$Reader" ⟨"DeskRings$Reader", "mark", "(II)V"⟩ ⟨"DeskRings$Reader", "mark", "(II)V"⟩ ∈ GW := gw_of (List.mem_append_left _ (List.mem_of_getElem? (i := 7) (by decide +kernel))) (by decide +kernel)
theorem zi_X7_mark : Cond.instanceMethod Y_X7_mark.1 ∈ GW ∧ Cond.selects Y_X7_mark.1.cls Y_X7_mark.1 Y_X7_mark.1 ∈ GW := ⟨q623, qs7⟩
theorem q621 : Cond.methodLink "DeskRings$Reader" 86 ⟨"DeskRings$Reader", "mark", "(II)V"⟩ ∈ GW := gw_of (gw_t (gw_3 (List.mem_of_getElem? (i := 141) (by decide +kernel)))) (by decide +kernel)
theorem q627 : Cond.methodLink "DeskRings$Reader" 103 ⟨"DeskRings$Reader", "canBe", "(II)Z"⟩ ∈ GW := gw_of (gw_t (gw_3 (List.mem_of_getElem? (i := 147) (by decide +kernel)))) (by decide +kernel)
theorem q519 : Cond.methodLink "DeskRings$Reader" 66 ⟨"DeskRings$Reader", "takeToken", "()V"⟩ ∈ GW := gw_of (gw_t (gw_3 (List.mem_of_getElem? (i := 39) (by decide +kernel)))) (by decide +kernel)
theorem q648 : Cond.code ⟨"DeskRings$Reader", "store", "(II)V"⟩ prog_9_method_7_code 4 (none : Option Jvm.ClassFile.FieldType) ∈ GW := gw_of (gw_t (gw_3 (List.mem_of_getElem? (i := 168) (by decide +kernel)))) (by decide +kernel)
theorem zk_X7_store : ZK Y_X7_store 2 := ⟨q648, q6, ⟨by decide, by decide⟩, by decide +kernel⟩
theorem q647 : Cond.instanceMethod ⟨"DeskRings$Reader", "store", "(II)V"⟩ ∈ GW := gw_of (gw_t (gw_3 (List.mem_of_getElem? (i := 167) (by decide +kernel)))) (by decide +kernel)
theorem qs9 : Cond.selects "DeskRings$Reader" ⟨"DeskRings$Reader", "store", "(II)V"⟩ ⟨"DeskRings$Reader", "store", "(II)V"⟩ ∈ GW := gw_of (List.mem_append_left _ (List.mem_of_getElem? (i := 9) (by decide +kernel))) (by decide +kernel)
theorem zi_X7_store : Cond.instanceMethod Y_X7_store.1 ∈ GW ∧ Cond.selects Y_X7_store.1.cls Y_X7_store.1 Y_X7_store.1 ∈ GW := ⟨q647, qs9⟩
theorem q645 : Cond.methodLink "DeskRings$Reader" 107 ⟨"DeskRings$Reader", "store", "(II)V"⟩ ∈ GW := gw_of (gw_t (gw_3 (List.mem_of_getElem? (i := 165) (by decide +kernel)))) (by decide +kernel)
theorem q617 : Cond.methodLink "DeskRings$Reader" 94 ⟨"DeskRings$Reader", "isFull", "(I)Z"⟩ ∈ GW := gw_of (gw_t (gw_3 (List.mem_of_getElem? (i := 137) (by decide +kernel)))) (by decide +kernel)
theorem q541 : Cond.methodLink "DeskRings$Reader" 90 ⟨"DeskRings$Reader", "wordHere", "(I)I"⟩ ∈ GW := gw_of (gw_t (gw_3 (List.mem_of_getElem? (i := 61) (by decide +kernel)))) (by decide +kernel)
theorem q540 : Cond.code ⟨"DeskRings$Reader", "readLine", "(I)Z"⟩ prog_9_method_4_code 4 (some .boolean) ∈ GW := gw_of (gw_t (gw_3 (List.mem_of_getElem? (i := 60) (by decide +kernel)))) (by decide +kernel)
theorem zk_X7_readLine : ZK Y_X7_readLine 1 := ⟨q540, q6, ⟨by decide, by decide⟩, by decide +kernel⟩
theorem q539 : Cond.instanceMethod ⟨"DeskRings$Reader", "readLine", "(I)Z"⟩ ∈ GW := gw_of (gw_t (gw_3 (List.mem_of_getElem? (i := 59) (by decide +kernel)))) (by decide +kernel)
theorem qs3 : Cond.selects "DeskRings$Reader" ⟨"DeskRings$Reader", "readLine", "(I)Z"⟩ ⟨"DeskRings$Reader", "readLine", "(I)Z"⟩ ∈ GW := gw_of (List.mem_append_left _ (List.mem_of_getElem? (i := 3) (by decide +kernel))) (by decide +kernel)
theorem zi_X7_readLine : Cond.instanceMethod Y_X7_readLine.1 ∈ GW ∧ Cond.selects Y_X7_readLine.1.cls Y_X7_readLine.1 Y_X7_readLine.1 ∈ GW := ⟨q539, qs3⟩
theorem q537 : Cond.methodLink "DeskRings$Reader" 72 ⟨"DeskRings$Reader", "readLine", "(I)Z"⟩ ∈ GW := gw_of (gw_t (gw_3 (List.mem_of_getElem? (i := 57) (by decide +kernel)))) (by decide +kernel)
theorem q672 : Cond.code ⟨"DeskRings$Office", "measure", "()V"⟩ prog_7_method_4_code 4 (none : Option Jvm.ClassFile.FieldType) ∈ GW := gw_of (gw_t (gw_3 (List.mem_of_getElem? (i := 192) (by decide +kernel)))) (by decide +kernel)
theorem zk_X5_measure : ZK Y_X5_measure 0 := ⟨q672, q3, ⟨by decide, by decide⟩, by decide +kernel⟩
theorem q670 : Cond.instanceMethod ⟨"DeskRings$Office", "measure", "()V"⟩ ∈ GW := gw_of (gw_t (gw_3 (List.mem_of_getElem? (i := 190) (by decide +kernel)))) (by decide +kernel)
theorem q671 : Cond.selects "DeskRings$Office" ⟨"DeskRings$Office", "measure", "()V"⟩ ⟨"DeskRings$Office", "measure", "()V"⟩ ∈ GW := gw_of (gw_t (gw_3 (List.mem_of_getElem? (i := 191) (by decide +kernel)))) (by decide +kernel)
theorem zi_X5_measure : Cond.instanceMethod Y_X5_measure.1 ∈ GW ∧ Cond.selects Y_X5_measure.1.cls Y_X5_measure.1 Y_X5_measure.1 ∈ GW := ⟨q670, q671⟩
theorem q679 : Cond.code ⟨"DeskRings$Office", "callsHaveDesks", "()Z"⟩ prog_7_method_7_code 2 (some .boolean) ∈ GW := gw_of (gw_t (gw_3 (List.mem_of_getElem? (i := 199) (by decide +kernel)))) (by decide +kernel)
theorem zk_X5_callsHaveDesks : ZK Y_X5_callsHaveDesks 0 := ⟨q679, q3, ⟨by decide, by decide⟩, by decide +kernel⟩
theorem q677 : Cond.instanceMethod ⟨"DeskRings$Office", "callsHaveDesks", "()Z"⟩ ∈ GW := gw_of (gw_t (gw_3 (List.mem_of_getElem? (i := 197) (by decide +kernel)))) (by decide +kernel)
theorem q678 : Cond.selects "DeskRings$Office" ⟨"DeskRings$Office", "callsHaveDesks", "()Z"⟩ ⟨"DeskRings$Office", "callsHaveDesks", "()Z"⟩ ∈ GW := gw_of (gw_t (gw_3 (List.mem_of_getElem? (i := 198) (by decide +kernel)))) (by decide +kernel)
theorem zi_X5_callsHaveDesks : Cond.instanceMethod Y_X5_callsHaveDesks.1 ∈ GW ∧ Cond.selects Y_X5_callsHaveDesks.1.cls Y_X5_callsHaveDesks.1 Y_X5_callsHaveDesks.1 ∈ GW := ⟨q677, q678⟩
theorem q676 : Cond.methodLink "DeskRings$Reader" 82 ⟨"DeskRings$Office", "callsHaveDesks", "()Z"⟩ ∈ GW := gw_of (gw_t (gw_3 (List.mem_of_getElem? (i := 196) (by decide +kernel)))) (by decide +kernel)
theorem q669 : Cond.methodLink "DeskRings$Reader" 79 ⟨"DeskRings$Office", "measure", "()V"⟩ ∈ GW := gw_of (gw_t (gw_3 (List.mem_of_getElem? (i := 189) (by decide +kernel)))) (by decide +kernel)
theorem q518 : Cond.methodLink "DeskRings$Reader" 59 ⟨"DeskRings$Office", "clear", "()V"⟩ ∈ GW := gw_of (gw_t (gw_3 (List.mem_of_getElem? (i := 38) (by decide +kernel)))) (by decide +kernel)
theorem q515 : Cond.methodLink "DeskRings$Reader" 44 ⟨"java/lang/Math", "min", "(II)I"⟩ ∈ GW := gw_of (gw_t (gw_3 (List.mem_of_getElem? (i := 35) (by decide +kernel)))) (by decide +kernel)
theorem q220 : Cond.fieldLink "DeskRings$Told" 66 "DeskRings$Reader" "office" "LDeskRings$Office;" ∈ GW := gw_of (gw_t (gw_1 (List.mem_of_getElem? (i := 220) (by decide +kernel)))) (by decide +kernel)
theorem fl_9_66 : FL "DeskRings$Told" 66 7 0 (.object "DeskRings$Office") true := ⟨R7, T7, 12, rfl, by decide, q220, by decide +kernel, rfl, rfl⟩
theorem q705 : Cond.methodLink "DeskRings$Told" 80 ⟨"java/lang/Math", "max", "(II)I"⟩ ∈ GW := gw_of (gw_t (gw_3 (List.mem_of_getElem? (i := 225) (by decide +kernel)))) (by decide +kernel)
theorem q222 : Cond.fieldLink "DeskRings$Told" 72 "DeskRings$Reader" "day" "LDeskRings$Day;" ∈ GW := gw_of (gw_t (gw_1 (List.mem_of_getElem? (i := 222) (by decide +kernel)))) (by decide +kernel)
theorem fl_9_72 : FL "DeskRings$Told" 72 7 1 (.object "DeskRings$Day") true := ⟨R7, T7, 12, rfl, by decide, q222, by decide +kernel, rfl, rfl⟩
theorem q224 : Cond.fieldLink "DeskRings$Told" 76 "DeskRings$Reader" "log" "LDeskRings$Log;" ∈ GW := gw_of (gw_t (gw_1 (List.mem_of_getElem? (i := 224) (by decide +kernel)))) (by decide +kernel)
theorem fl_9_76 : FL "DeskRings$Told" 76 7 2 (.object "DeskRings$Log") true := ⟨R7, T7, 12, rfl, by decide, q224, by decide +kernel, rfl, rfl⟩
theorem q510 : Cond.code ⟨"DeskRings$Told", "slotFor", "(II)I"⟩ prog_11_method_4_code 3 (some .int) ∈ GW := gw_of (gw_t (gw_3 (List.mem_of_getElem? (i := 30) (by decide +kernel)))) (by decide +kernel)
theorem zk_X9_slotFor : ZK Y_X9_slotFor 2 := ⟨q510, q2, ⟨by decide, by decide⟩, by decide +kernel⟩
theorem q508 : Cond.instanceMethod ⟨"DeskRings$Told", "slotFor", "(II)I"⟩ ∈ GW := gw_of (gw_t (gw_3 (List.mem_of_getElem? (i := 28) (by decide +kernel)))) (by decide +kernel)
theorem q509 : Cond.selects "DeskRings$Told" ⟨"DeskRings$Told", "slotFor", "(II)I"⟩ ⟨"DeskRings$Told", "slotFor", "(II)I"⟩ ∈ GW := gw_of (gw_t (gw_3 (List.mem_of_getElem? (i := 29) (by decide +kernel)))) (by decide +kernel)
theorem zi_X9_slotFor : Cond.instanceMethod Y_X9_slotFor.1 ∈ GW ∧ Cond.selects Y_X9_slotFor.1.cls Y_X9_slotFor.1 Y_X9_slotFor.1 ∈ GW := ⟨q508, q509⟩
theorem q177 : Cond.fieldLink "DeskRings" 91 "DeskRings$Told" "tape" "[B" ∈ GW := gw_of (gw_t (gw_1 (List.mem_of_getElem? (i := 177) (by decide +kernel)))) (by decide +kernel)
theorem fl_11_91 : FL "DeskRings" 91 9 0 (.array .byte) true := ⟨R9, T9, 8, rfl, by decide, q177, by decide +kernel, rfl, rfl⟩
theorem q514 : Cond.code ⟨"DeskRings$Reader", "readText", "(I[BI)V"⟩ prog_9_method_2_code 5 (none : Option Jvm.ClassFile.FieldType) ∈ GW := gw_of (gw_t (gw_3 (List.mem_of_getElem? (i := 34) (by decide +kernel)))) (by decide +kernel)
theorem zk_X7_readText : ZK Y_X7_readText 3 := ⟨q514, q6, ⟨by decide, by decide⟩, by decide +kernel⟩
theorem q512 : Cond.instanceMethod ⟨"DeskRings$Reader", "readText", "(I[BI)V"⟩ ∈ GW := gw_of (gw_t (gw_3 (List.mem_of_getElem? (i := 32) (by decide +kernel)))) (by decide +kernel)
theorem q513 : Cond.selects "DeskRings$Reader" ⟨"DeskRings$Reader", "readText", "(I[BI)V"⟩ ⟨"DeskRings$Reader", "readText", "(I[BI)V"⟩ ∈ GW := gw_of (gw_t (gw_3 (List.mem_of_getElem? (i := 33) (by decide +kernel)))) (by decide +kernel)
theorem zi_X7_readText : Cond.instanceMethod Y_X7_readText.1 ∈ GW ∧ Cond.selects Y_X7_readText.1.cls Y_X7_readText.1 Y_X7_readText.1 ∈ GW := ⟨q512, q513⟩
theorem q226 : Cond.fieldLink "DeskRings" 99 "DeskRings$Reader" "fault" "I" ∈ GW := gw_of (gw_t (gw_1 (List.mem_of_getElem? (i := 226) (by decide +kernel)))) (by decide +kernel)
theorem fl_11_99 : FL "DeskRings" 99 7 3 .int false := ⟨R7, T7, 12, rfl, by decide, q226, by decide +kernel, rfl, rfl⟩
theorem q228 : Cond.fieldLink "DeskRings" 100 "DeskRings$Reader" "faultPlace" "I" ∈ GW := gw_of (gw_t (gw_1 (List.mem_of_getElem? (i := 228) (by decide +kernel)))) (by decide +kernel)
theorem fl_11_100 : FL "DeskRings" 100 7 4 .int false := ⟨R7, T7, 12, rfl, by decide, q228, by decide +kernel, rfl, rfl⟩
theorem q687 : Cond.code ⟨"DeskRings$Told", "keep", "(IILDeskRings$Reader;)V"⟩ prog_11_method_5_code 4 (none : Option Jvm.ClassFile.FieldType) ∈ GW := gw_of (gw_t (gw_3 (List.mem_of_getElem? (i := 207) (by decide +kernel)))) (by decide +kernel)
theorem zk_X9_keep : ZK Y_X9_keep 3 := ⟨q687, q2, ⟨by decide, by decide⟩, by decide +kernel⟩
theorem q685 : Cond.instanceMethod ⟨"DeskRings$Told", "keep", "(IILDeskRings$Reader;)V"⟩ ∈ GW := gw_of (gw_t (gw_3 (List.mem_of_getElem? (i := 205) (by decide +kernel)))) (by decide +kernel)
theorem q686 : Cond.selects "DeskRings$Told" ⟨"DeskRings$Told", "keep", "(IILDeskRings$Reader;)V"⟩ ⟨"DeskRings$Told", "keep", "(IILDeskRings$Reader;)V"⟩ ∈ GW := gw_of (gw_t (gw_3 (List.mem_of_getElem? (i := 206) (by decide +kernel)))) (by decide +kernel)
theorem zi_X9_keep : Cond.instanceMethod Y_X9_keep.1 ∈ GW ∧ Cond.selects Y_X9_keep.1.cls Y_X9_keep.1 Y_X9_keep.1 ∈ GW := ⟨q685, q686⟩
theorem q684 : Cond.methodLink "DeskRings" 101 ⟨"DeskRings$Told", "keep", "(IILDeskRings$Reader;)V"⟩ ∈ GW := gw_of (gw_t (gw_3 (List.mem_of_getElem? (i := 204) (by decide +kernel)))) (by decide +kernel)
theorem q511 : Cond.methodLink "DeskRings" 95 ⟨"DeskRings$Reader", "readText", "(I[BI)V"⟩ ∈ GW := gw_of (gw_t (gw_3 (List.mem_of_getElem? (i := 31) (by decide +kernel)))) (by decide +kernel)
theorem q507 : Cond.methodLink "DeskRings" 87 ⟨"DeskRings$Told", "slotFor", "(II)I"⟩ ∈ GW := gw_of (gw_t (gw_3 (List.mem_of_getElem? (i := 27) (by decide +kernel)))) (by decide +kernel)
theorem q847 : Cond.fieldLink "DeskRings" 139 "DeskRings" "NO_HELP" "[I" ∈ GW := gw_of (gw_t (gw_4 (List.mem_of_getElem? (i := 127) (by decide +kernel)))) (by decide +kernel)
theorem q281 : Cond.fieldLink "DeskRings" 309 "DeskRings$Lift" "tied" "I" ∈ GW := gw_of (gw_t (gw_2 (List.mem_of_getElem? (i := 41) (by decide +kernel)))) (by decide +kernel)
theorem fl_11_309 : FL "DeskRings" 309 3 2 .int false := ⟨R3, T3, 3, rfl, by decide, q281, by decide +kernel, rfl, rfl⟩
theorem q849 : Cond.methodLink "DeskRings" 143 ⟨"DeskRings$Lift", "asTold", "(LDeskRings$Office;II[I)V"⟩ ∈ GW := gw_of (gw_t (gw_4 (List.mem_of_getElem? (i := 129) (by decide +kernel)))) (by decide +kernel)
theorem q1263 : Cond.methodLink "DeskRings" 306 ⟨"DeskRings$Office", "othersThan", "(I)I"⟩ ∈ GW := gw_of (gw_t (gw_6 (List.mem_of_getElem? (i := 63) (by decide +kernel)))) (by decide +kernel)
theorem q272 : Cond.fieldLink "DeskRings" 147 "DeskRings$Lift" "who" "I" ∈ GW := gw_of (gw_t (gw_2 (List.mem_of_getElem? (i := 32) (by decide +kernel)))) (by decide +kernel)
theorem fl_11_147 : FL "DeskRings" 147 3 0 .int false := ⟨R3, T3, 3, rfl, by decide, q272, by decide +kernel, rfl, rfl⟩
theorem q277 : Cond.fieldLink "DeskRings" 150 "DeskRings$Lift" "ring" "I" ∈ GW := gw_of (gw_t (gw_2 (List.mem_of_getElem? (i := 37) (by decide +kernel)))) (by decide +kernel)
theorem fl_11_150 : FL "DeskRings" 150 3 1 .int false := ⟨R3, T3, 3, rfl, by decide, q277, by decide +kernel, rfl, rfl⟩
theorem q846 : Cond.methodLink "DeskRings" 135 ⟨"DeskRings$Office", "everybody", "()I"⟩ ∈ GW := gw_of (gw_t (gw_4 (List.mem_of_getElem? (i := 126) (by decide +kernel)))) (by decide +kernel)
theorem q1317 : Cond.fieldLink "DeskRingsModel" 7 "DeskRingsModel" "all" "[I" ∈ GW := gw_of (gw_t (gw_6 (List.mem_of_getElem? (i := 117) (by decide +kernel)))) (by decide +kernel)
theorem fl_12_7 : FL "DeskRingsModel" 7 12 0 (.array .int) true := ⟨R12, T12, 44, rfl, by decide, q1317, by decide +kernel, rfl, rfl⟩
theorem q1328 : Cond.fieldLink "DeskRingsModel" 159 "DeskRingsModel" "o0" "I" ∈ GW := gw_of (gw_t (gw_6 (List.mem_of_getElem? (i := 128) (by decide +kernel)))) (by decide +kernel)
theorem fl_12_159 : FL "DeskRingsModel" 159 12 11 .int false := ⟨R12, T12, 44, rfl, by decide, q1328, by decide +kernel, rfl, rfl⟩
theorem q1331 : Cond.fieldLink "DeskRingsModel" 20 "DeskRingsModel" "helped" "[I" ∈ GW := gw_of (gw_t (gw_6 (List.mem_of_getElem? (i := 131) (by decide +kernel)))) (by decide +kernel)
theorem fl_12_20 : FL "DeskRingsModel" 20 12 14 (.array .int) true := ⟨R12, T12, 44, rfl, by decide, q1331, by decide +kernel, rfl, rfl⟩
theorem q1332 : Cond.fieldLink "DeskRingsModel" 23 "DeskRingsModel" "kinds" "[I" ∈ GW := gw_of (gw_t (gw_6 (List.mem_of_getElem? (i := 132) (by decide +kernel)))) (by decide +kernel)
theorem fl_12_23 : FL "DeskRingsModel" 23 12 15 (.array .int) true := ⟨R12, T12, 44, rfl, by decide, q1332, by decide +kernel, rfl, rfl⟩
theorem q1329 : Cond.fieldLink "DeskRingsModel" 162 "DeskRingsModel" "desks" "I" ∈ GW := gw_of (gw_t (gw_6 (List.mem_of_getElem? (i := 129) (by decide +kernel)))) (by decide +kernel)
theorem fl_12_162 : FL "DeskRingsModel" 162 12 12 .int false := ⟨R12, T12, 44, rfl, by decide, q1329, by decide +kernel, rfl, rfl⟩
theorem q1561 : Cond.code ⟨"DeskRingsModel", "of", "(II)I"⟩ prog_14_method_30_code 3 (some .int) ∈ GW := gw_of (gw_t (gw_7 (List.mem_of_getElem? (i := 121) (by decide +kernel)))) (by decide +kernel)
theorem q13 : Cond.initialized "DeskRingsModel" ∈ GW := gw_of (gw_t (gw_1 (List.mem_of_getElem? (i := 13) (by decide +kernel)))) (by decide +kernel)
theorem zk_X12_of : ZK Y_X12_of 2 := ⟨q1561, q13, ⟨by decide, by decide⟩, by decide +kernel⟩
theorem q1560 : Cond.instanceMethod ⟨"DeskRingsModel", "of", "(II)I"⟩ ∈ GW := gw_of (gw_t (gw_7 (List.mem_of_getElem? (i := 120) (by decide +kernel)))) (by decide +kernel)
theorem qs66 : Cond.selects "DeskRingsModel" ⟨"DeskRingsModel", "of", "(II)I"⟩ ⟨"DeskRingsModel", "of", "(II)I"⟩ ∈ GW := gw_of (List.mem_append_left _ (List.mem_of_getElem? (i := 66) (by decide +kernel))) (by decide +kernel)
theorem zi_X12_of : Cond.instanceMethod Y_X12_of.1 ∈ GW ∧ Cond.selects Y_X12_of.1.cls Y_X12_of.1 Y_X12_of.1 ∈ GW := ⟨q1560, qs66⟩
theorem q1558 : Cond.methodLink "DeskRingsModel" 174 ⟨"DeskRingsModel", "of", "(II)I"⟩ ∈ GW := gw_of (gw_t (gw_7 (List.mem_of_getElem? (i := 118) (by decide +kernel)))) (by decide +kernel)
theorem q1593 : Cond.code ⟨"DeskRingsModel", "asTold", "()V"⟩ prog_14_method_33_code 2 (none : Option Jvm.ClassFile.FieldType) ∈ GW := gw_of (gw_t (gw_7 (List.mem_of_getElem? (i := 153) (by decide +kernel)))) (by decide +kernel)
theorem zk_X12_asTold : ZK Y_X12_asTold 0 := ⟨q1593, q13, ⟨by decide, by decide⟩, by decide +kernel⟩
theorem q1592 : Cond.instanceMethod ⟨"DeskRingsModel", "asTold", "()V"⟩ ∈ GW := gw_of (gw_t (gw_7 (List.mem_of_getElem? (i := 152) (by decide +kernel)))) (by decide +kernel)
theorem qs72 : Cond.selects "DeskRingsModel" ⟨"DeskRingsModel", "asTold", "()V"⟩ ⟨"DeskRingsModel", "asTold", "()V"⟩ ∈ GW := gw_of (List.mem_append_left _ (List.mem_of_getElem? (i := 72) (by decide +kernel))) (by decide +kernel)
theorem zi_X12_asTold : Cond.instanceMethod Y_X12_asTold.1 ∈ GW ∧ Cond.selects Y_X12_asTold.1.cls Y_X12_asTold.1 Y_X12_asTold.1 ∈ GW := ⟨q1592, qs72⟩
theorem q1337 : Cond.fieldLink "DeskRingsModel" 217 "DeskRingsModel" "there" "I" ∈ GW := gw_of (gw_t (gw_6 (List.mem_of_getElem? (i := 137) (by decide +kernel)))) (by decide +kernel)
theorem fl_12_217 : FL "DeskRingsModel" 217 12 20 .int false := ⟨R12, T12, 44, rfl, by decide, q1337, by decide +kernel, rfl, rfl⟩
theorem q1338 : Cond.fieldLink "DeskRingsModel" 220 "DeskRingsModel" "answered" "I" ∈ GW := gw_of (gw_t (gw_6 (List.mem_of_getElem? (i := 138) (by decide +kernel)))) (by decide +kernel)
theorem fl_12_220 : FL "DeskRingsModel" 220 12 21 .int false := ⟨R12, T12, 44, rfl, by decide, q1338, by decide +kernel, rfl, rfl⟩
theorem q1339 : Cond.fieldLink "DeskRingsModel" 223 "DeskRingsModel" "gone" "I" ∈ GW := gw_of (gw_t (gw_6 (List.mem_of_getElem? (i := 139) (by decide +kernel)))) (by decide +kernel)
theorem fl_12_223 : FL "DeskRingsModel" 223 12 22 .int false := ⟨R12, T12, 44, rfl, by decide, q1339, by decide +kernel, rfl, rfl⟩
theorem q1340 : Cond.fieldLink "DeskRingsModel" 226 "DeskRingsModel" "took" "I" ∈ GW := gw_of (gw_t (gw_6 (List.mem_of_getElem? (i := 140) (by decide +kernel)))) (by decide +kernel)
theorem fl_12_226 : FL "DeskRingsModel" 226 12 23 .int false := ⟨R12, T12, 44, rfl, by decide, q1340, by decide +kernel, rfl, rfl⟩
theorem q1341 : Cond.fieldLink "DeskRingsModel" 229 "DeskRingsModel" "got" "I" ∈ GW := gw_of (gw_t (gw_6 (List.mem_of_getElem? (i := 141) (by decide +kernel)))) (by decide +kernel)
theorem fl_12_229 : FL "DeskRingsModel" 229 12 24 .int false := ⟨R12, T12, 44, rfl, by decide, q1341, by decide +kernel, rfl, rfl⟩
theorem q1342 : Cond.fieldLink "DeskRingsModel" 232 "DeskRingsModel" "paid" "I" ∈ GW := gw_of (gw_t (gw_6 (List.mem_of_getElem? (i := 142) (by decide +kernel)))) (by decide +kernel)
theorem fl_12_232 : FL "DeskRingsModel" 232 12 25 .int false := ⟨R12, T12, 44, rfl, by decide, q1342, by decide +kernel, rfl, rfl⟩
theorem q1343 : Cond.fieldLink "DeskRingsModel" 235 "DeskRingsModel" "clashed" "I" ∈ GW := gw_of (gw_t (gw_6 (List.mem_of_getElem? (i := 143) (by decide +kernel)))) (by decide +kernel)
theorem fl_12_235 : FL "DeskRingsModel" 235 12 26 .int false := ⟨R12, T12, 44, rfl, by decide, q1343, by decide +kernel, rfl, rfl⟩
theorem q1344 : Cond.fieldLink "DeskRingsModel" 238 "DeskRingsModel" "done" "I" ∈ GW := gw_of (gw_t (gw_6 (List.mem_of_getElem? (i := 144) (by decide +kernel)))) (by decide +kernel)
theorem fl_12_238 : FL "DeskRingsModel" 238 12 27 .int false := ⟨R12, T12, 44, rfl, by decide, q1344, by decide +kernel, rfl, rfl⟩
theorem q1345 : Cond.fieldLink "DeskRingsModel" 26 "DeskRingsModel" "slips" "[I" ∈ GW := gw_of (gw_t (gw_6 (List.mem_of_getElem? (i := 145) (by decide +kernel)))) (by decide +kernel)
theorem fl_12_26 : FL "DeskRingsModel" 26 12 28 (.array .int) true := ⟨R12, T12, 44, rfl, by decide, q1345, by decide +kernel, rfl, rfl⟩
theorem q1346 : Cond.fieldLink "DeskRingsModel" 29 "DeskRingsModel" "readThere" "[I" ∈ GW := gw_of (gw_t (gw_6 (List.mem_of_getElem? (i := 146) (by decide +kernel)))) (by decide +kernel)
theorem fl_12_29 : FL "DeskRingsModel" 29 12 29 (.array .int) true := ⟨R12, T12, 44, rfl, by decide, q1346, by decide +kernel, rfl, rfl⟩
theorem q1590 : Cond.methodLink "DeskRingsModel" 214 ⟨"DeskRingsModel", "asTold", "()V"⟩ ∈ GW := gw_of (gw_t (gw_7 (List.mem_of_getElem? (i := 150) (by decide +kernel)))) (by decide +kernel)
theorem q1333 : Cond.fieldLink "DeskRingsModel" 195 "DeskRingsModel" "lifter" "I" ∈ GW := gw_of (gw_t (gw_6 (List.mem_of_getElem? (i := 133) (by decide +kernel)))) (by decide +kernel)
theorem fl_12_195 : FL "DeskRingsModel" 195 12 16 .int false := ⟨R12, T12, 44, rfl, by decide, q1333, by decide +kernel, rfl, rfl⟩
theorem q1334 : Cond.fieldLink "DeskRingsModel" 198 "DeskRingsModel" "ringing" "I" ∈ GW := gw_of (gw_t (gw_6 (List.mem_of_getElem? (i := 134) (by decide +kernel)))) (by decide +kernel)
theorem fl_12_198 : FL "DeskRingsModel" 198 12 17 .int false := ⟨R12, T12, 44, rfl, by decide, q1334, by decide +kernel, rfl, rfl⟩
theorem q1569 : Cond.code ⟨"DeskRingsModel", "ofCall", "(II)I"⟩ prog_14_method_31_code 3 (some .int) ∈ GW := gw_of (gw_t (gw_7 (List.mem_of_getElem? (i := 129) (by decide +kernel)))) (by decide +kernel)
theorem zk_X12_ofCall : ZK Y_X12_ofCall 2 := ⟨q1569, q13, ⟨by decide, by decide⟩, by decide +kernel⟩
theorem q1568 : Cond.instanceMethod ⟨"DeskRingsModel", "ofCall", "(II)I"⟩ ∈ GW := gw_of (gw_t (gw_7 (List.mem_of_getElem? (i := 128) (by decide +kernel)))) (by decide +kernel)
theorem qs68 : Cond.selects "DeskRingsModel" ⟨"DeskRingsModel", "ofCall", "(II)I"⟩ ⟨"DeskRingsModel", "ofCall", "(II)I"⟩ ∈ GW := gw_of (List.mem_append_left _ (List.mem_of_getElem? (i := 68) (by decide +kernel))) (by decide +kernel)
theorem zi_X12_ofCall : Cond.instanceMethod Y_X12_ofCall.1 ∈ GW ∧ Cond.selects Y_X12_ofCall.1.cls Y_X12_ofCall.1 Y_X12_ofCall.1 ∈ GW := ⟨q1568, qs68⟩
theorem q1566 : Cond.methodLink "DeskRingsModel" 180 ⟨"DeskRingsModel", "ofCall", "(II)I"⟩ ∈ GW := gw_of (gw_t (gw_7 (List.mem_of_getElem? (i := 126) (by decide +kernel)))) (by decide +kernel)
theorem q1616 : Cond.code ⟨"DeskRingsModel", "off", "(II)I"⟩ prog_14_method_34_code 3 (some .int) ∈ GW := gw_of (gw_t (gw_7 (List.mem_of_getElem? (i := 176) (by decide +kernel)))) (by decide +kernel)
theorem zk_X12_off : ZK Y_X12_off 2 := ⟨q1616, q13, ⟨by decide, by decide⟩, by decide +kernel⟩
theorem q1615 : Cond.instanceMethod ⟨"DeskRingsModel", "off", "(II)I"⟩ ∈ GW := gw_of (gw_t (gw_7 (List.mem_of_getElem? (i := 175) (by decide +kernel)))) (by decide +kernel)
theorem qs77 : Cond.selects "DeskRingsModel" ⟨"DeskRingsModel", "off", "(II)I"⟩ ⟨"DeskRingsModel", "off", "(II)I"⟩ ∈ GW := gw_of (List.mem_append_left _ (List.mem_of_getElem? (i := 77) (by decide +kernel))) (by decide +kernel)
theorem zi_X12_off : Cond.instanceMethod Y_X12_off.1 ∈ GW ∧ Cond.selects Y_X12_off.1.cls Y_X12_off.1 Y_X12_off.1 ∈ GW := ⟨q1615, qs77⟩
theorem q1613 : Cond.methodLink "DeskRingsModel" 183 ⟨"DeskRingsModel", "off", "(II)I"⟩ ∈ GW := gw_of (gw_t (gw_7 (List.mem_of_getElem? (i := 173) (by decide +kernel)))) (by decide +kernel)
theorem q1600 : Cond.code ⟨"DeskRingsModel", "holds", "(II)Z"⟩ prog_14_method_36_code 2 (some .boolean) ∈ GW := gw_of (gw_t (gw_7 (List.mem_of_getElem? (i := 160) (by decide +kernel)))) (by decide +kernel)
theorem zk_X12_holds : ZK Y_X12_holds 2 := ⟨q1600, q13, ⟨by decide, by decide⟩, by decide +kernel⟩
theorem q1612 : Cond.code ⟨"DeskRingsModel", "hears", "(II)Z"⟩ prog_14_method_35_code 3 (some .boolean) ∈ GW := gw_of (gw_t (gw_7 (List.mem_of_getElem? (i := 172) (by decide +kernel)))) (by decide +kernel)
theorem zk_X12_hears : ZK Y_X12_hears 2 := ⟨q1612, q13, ⟨by decide, by decide⟩, by decide +kernel⟩
theorem q1611 : Cond.instanceMethod ⟨"DeskRingsModel", "hears", "(II)Z"⟩ ∈ GW := gw_of (gw_t (gw_7 (List.mem_of_getElem? (i := 171) (by decide +kernel)))) (by decide +kernel)
theorem qs76 : Cond.selects "DeskRingsModel" ⟨"DeskRingsModel", "hears", "(II)Z"⟩ ⟨"DeskRingsModel", "hears", "(II)Z"⟩ ∈ GW := gw_of (List.mem_append_left _ (List.mem_of_getElem? (i := 76) (by decide +kernel))) (by decide +kernel)
theorem zi_X12_hears : Cond.instanceMethod Y_X12_hears.1 ∈ GW ∧ Cond.selects Y_X12_hears.1.cls Y_X12_hears.1 Y_X12_hears.1 ∈ GW := ⟨q1611, qs76⟩
theorem q1609 : Cond.methodLink "DeskRingsModel" 189 ⟨"DeskRingsModel", "hears", "(II)Z"⟩ ∈ GW := gw_of (gw_t (gw_7 (List.mem_of_getElem? (i := 169) (by decide +kernel)))) (by decide +kernel)
theorem q1598 : Cond.methodLink "DeskRingsModel" 186 ⟨"DeskRingsModel", "holds", "(II)Z"⟩ ∈ GW := gw_of (gw_t (gw_7 (List.mem_of_getElem? (i := 158) (by decide +kernel)))) (by decide +kernel)
theorem q1599 : Cond.static ⟨"DeskRingsModel", "holds", "(II)Z"⟩ ∈ GW := gw_of (gw_t (gw_7 (List.mem_of_getElem? (i := 159) (by decide +kernel)))) (by decide +kernel)
theorem q1624 : Cond.code ⟨"DeskRingsModel", "isNearest", "(III)Z"⟩ prog_14_method_37_code 6 (some .boolean) ∈ GW := gw_of (gw_t (gw_7 (List.mem_of_getElem? (i := 184) (by decide +kernel)))) (by decide +kernel)
theorem zk_X12_isNearest : ZK Y_X12_isNearest 3 := ⟨q1624, q13, ⟨by decide, by decide⟩, by decide +kernel⟩
theorem q1623 : Cond.instanceMethod ⟨"DeskRingsModel", "isNearest", "(III)Z"⟩ ∈ GW := gw_of (gw_t (gw_7 (List.mem_of_getElem? (i := 183) (by decide +kernel)))) (by decide +kernel)
theorem qs79 : Cond.selects "DeskRingsModel" ⟨"DeskRingsModel", "isNearest", "(III)Z"⟩ ⟨"DeskRingsModel", "isNearest", "(III)Z"⟩ ∈ GW := gw_of (List.mem_append_left _ (List.mem_of_getElem? (i := 79) (by decide +kernel))) (by decide +kernel)
theorem zi_X12_isNearest : Cond.instanceMethod Y_X12_isNearest.1 ∈ GW ∧ Cond.selects Y_X12_isNearest.1.cls Y_X12_isNearest.1 Y_X12_isNearest.1 ∈ GW := ⟨q1623, qs79⟩
theorem q1621 : Cond.methodLink "DeskRingsModel" 192 ⟨"DeskRingsModel", "isNearest", "(III)Z"⟩ ∈ GW := gw_of (gw_t (gw_7 (List.mem_of_getElem? (i := 181) (by decide +kernel)))) (by decide +kernel)
theorem q1335 : Cond.fieldLink "DeskRingsModel" 201 "DeskRingsModel" "clashes" "Z" ∈ GW := gw_of (gw_t (gw_6 (List.mem_of_getElem? (i := 135) (by decide +kernel)))) (by decide +kernel)
theorem fl_12_201 : FL "DeskRingsModel" 201 12 18 .boolean false := ⟨R12, T12, 44, rfl, by decide, q1335, by decide +kernel, rfl, rfl⟩
theorem q1620 : Cond.code ⟨"DeskRingsModel", "ringOf", "(III)I"⟩ prog_14_method_38_code 5 (some .int) ∈ GW := gw_of (gw_t (gw_7 (List.mem_of_getElem? (i := 180) (by decide +kernel)))) (by decide +kernel)
theorem zk_X12_ringOf : ZK Y_X12_ringOf 3 := ⟨q1620, q13, ⟨by decide, by decide⟩, by decide +kernel⟩
theorem q1619 : Cond.instanceMethod ⟨"DeskRingsModel", "ringOf", "(III)I"⟩ ∈ GW := gw_of (gw_t (gw_7 (List.mem_of_getElem? (i := 179) (by decide +kernel)))) (by decide +kernel)
theorem qs78 : Cond.selects "DeskRingsModel" ⟨"DeskRingsModel", "ringOf", "(III)I"⟩ ⟨"DeskRingsModel", "ringOf", "(III)I"⟩ ∈ GW := gw_of (List.mem_append_left _ (List.mem_of_getElem? (i := 78) (by decide +kernel))) (by decide +kernel)
theorem zi_X12_ringOf : Cond.instanceMethod Y_X12_ringOf.1 ∈ GW ∧ Cond.selects Y_X12_ringOf.1.cls Y_X12_ringOf.1 Y_X12_ringOf.1 ∈ GW := ⟨q1619, qs78⟩
theorem q1617 : Cond.methodLink "DeskRingsModel" 204 ⟨"DeskRingsModel", "ringOf", "(III)I"⟩ ∈ GW := gw_of (gw_t (gw_7 (List.mem_of_getElem? (i := 177) (by decide +kernel)))) (by decide +kernel)
theorem q1608 : Cond.code ⟨"DeskRingsModel", "rings", "(II)V"⟩ prog_14_method_39_code 6 (none : Option Jvm.ClassFile.FieldType) ∈ GW := gw_of (gw_t (gw_7 (List.mem_of_getElem? (i := 168) (by decide +kernel)))) (by decide +kernel)
theorem zk_X12_rings : ZK Y_X12_rings 2 := ⟨q1608, q13, ⟨by decide, by decide⟩, by decide +kernel⟩
theorem q1607 : Cond.instanceMethod ⟨"DeskRingsModel", "rings", "(II)V"⟩ ∈ GW := gw_of (gw_t (gw_7 (List.mem_of_getElem? (i := 167) (by decide +kernel)))) (by decide +kernel)
theorem qs75 : Cond.selects "DeskRingsModel" ⟨"DeskRingsModel", "rings", "(II)V"⟩ ⟨"DeskRingsModel", "rings", "(II)V"⟩ ∈ GW := gw_of (List.mem_append_left _ (List.mem_of_getElem? (i := 75) (by decide +kernel))) (by decide +kernel)
theorem zi_X12_rings : Cond.instanceMethod Y_X12_rings.1 ∈ GW ∧ Cond.selects Y_X12_rings.1.cls Y_X12_rings.1 Y_X12_rings.1 ∈ GW := ⟨q1607, qs75⟩
theorem q1628 : Cond.code ⟨"DeskRingsModel", "isLifted", "(I)Z"⟩ prog_14_method_43_code 2 (some .boolean) ∈ GW := gw_of (gw_t (gw_7 (List.mem_of_getElem? (i := 188) (by decide +kernel)))) (by decide +kernel)
theorem zk_X12_isLifted : ZK Y_X12_isLifted 1 := ⟨q1628, q13, ⟨by decide, by decide⟩, by decide +kernel⟩
theorem q1627 : Cond.instanceMethod ⟨"DeskRingsModel", "isLifted", "(I)Z"⟩ ∈ GW := gw_of (gw_t (gw_7 (List.mem_of_getElem? (i := 187) (by decide +kernel)))) (by decide +kernel)
theorem qs80 : Cond.selects "DeskRingsModel" ⟨"DeskRingsModel", "isLifted", "(I)Z"⟩ ⟨"DeskRingsModel", "isLifted", "(I)Z"⟩ ∈ GW := gw_of (List.mem_append_left _ (List.mem_of_getElem? (i := 80) (by decide +kernel))) (by decide +kernel)
theorem zi_X12_isLifted : Cond.instanceMethod Y_X12_isLifted.1 ∈ GW ∧ Cond.selects Y_X12_isLifted.1.cls Y_X12_isLifted.1 Y_X12_isLifted.1 ∈ GW := ⟨q1627, qs80⟩
theorem q1632 : Cond.code ⟨"DeskRingsModel", "gotBy", "(II)I"⟩ prog_14_method_44_code 4 (some .int) ∈ GW := gw_of (gw_t (gw_7 (List.mem_of_getElem? (i := 192) (by decide +kernel)))) (by decide +kernel)
theorem zk_X12_gotBy : ZK Y_X12_gotBy 2 := ⟨q1632, q13, ⟨by decide, by decide⟩, by decide +kernel⟩
theorem q1631 : Cond.instanceMethod ⟨"DeskRingsModel", "gotBy", "(II)I"⟩ ∈ GW := gw_of (gw_t (gw_7 (List.mem_of_getElem? (i := 191) (by decide +kernel)))) (by decide +kernel)
theorem qs81 : Cond.selects "DeskRingsModel" ⟨"DeskRingsModel", "gotBy", "(II)I"⟩ ⟨"DeskRingsModel", "gotBy", "(II)I"⟩ ∈ GW := gw_of (List.mem_append_left _ (List.mem_of_getElem? (i := 81) (by decide +kernel))) (by decide +kernel)
theorem zi_X12_gotBy : Cond.instanceMethod Y_X12_gotBy.1 ∈ GW ∧ Cond.selects Y_X12_gotBy.1.cls Y_X12_gotBy.1 Y_X12_gotBy.1 ∈ GW := ⟨q1631, qs81⟩
theorem q1629 : Cond.methodLink "DeskRingsModel" 247 ⟨"DeskRingsModel", "gotBy", "(II)I"⟩ ∈ GW := gw_of (gw_t (gw_7 (List.mem_of_getElem? (i := 189) (by decide +kernel)))) (by decide +kernel)
theorem q1625 : Cond.methodLink "DeskRingsModel" 244 ⟨"DeskRingsModel", "isLifted", "(I)Z"⟩ ∈ GW := gw_of (gw_t (gw_7 (List.mem_of_getElem? (i := 185) (by decide +kernel)))) (by decide +kernel)
theorem q1605 : Cond.methodLink "DeskRingsModel" 241 ⟨"DeskRingsModel", "rings", "(II)V"⟩ ∈ GW := gw_of (gw_t (gw_7 (List.mem_of_getElem? (i := 165) (by decide +kernel)))) (by decide +kernel)
theorem q1330 : Cond.fieldLink "DeskRingsModel" 165 "DeskRingsModel" "calls" "I" ∈ GW := gw_of (gw_t (gw_6 (List.mem_of_getElem? (i := 130) (by decide +kernel)))) (by decide +kernel)
theorem fl_12_165 : FL "DeskRingsModel" 165 12 13 .int false := ⟨R12, T12, 44, rfl, by decide, q1330, by decide +kernel, rfl, rfl⟩
theorem q1465 : Cond.code ⟨"DeskRingsModel", "isIn", "(III)Z"⟩ prog_14_method_2_code 3 (some .boolean) ∈ GW := gw_of (gw_t (gw_7 (List.mem_of_getElem? (i := 25) (by decide +kernel)))) (by decide +kernel)
theorem zk_X12_isIn : ZK Y_X12_isIn 3 := ⟨q1465, q13, ⟨by decide, by decide⟩, by decide +kernel⟩
theorem q1463 : Cond.methodLink "DeskRingsModel" 109 ⟨"DeskRingsModel", "isIn", "(III)Z"⟩ ∈ GW := gw_of (gw_t (gw_7 (List.mem_of_getElem? (i := 23) (by decide +kernel)))) (by decide +kernel)
theorem q1464 : Cond.static ⟨"DeskRingsModel", "isIn", "(III)Z"⟩ ∈ GW := gw_of (gw_t (gw_7 (List.mem_of_getElem? (i := 24) (by decide +kernel)))) (by decide +kernel)
theorem q1565 : Cond.code ⟨"DeskRingsModel", "isCall", "(I)Z"⟩ prog_14_method_29_code 2 (some .boolean) ∈ GW := gw_of (gw_t (gw_7 (List.mem_of_getElem? (i := 125) (by decide +kernel)))) (by decide +kernel)
theorem zk_X12_isCall : ZK Y_X12_isCall 1 := ⟨q1565, q13, ⟨by decide, by decide⟩, by decide +kernel⟩
theorem q1564 : Cond.instanceMethod ⟨"DeskRingsModel", "isCall", "(I)Z"⟩ ∈ GW := gw_of (gw_t (gw_7 (List.mem_of_getElem? (i := 124) (by decide +kernel)))) (by decide +kernel)
theorem qs67 : Cond.selects "DeskRingsModel" ⟨"DeskRingsModel", "isCall", "(I)Z"⟩ ⟨"DeskRingsModel", "isCall", "(I)Z"⟩ ∈ GW := gw_of (List.mem_append_left _ (List.mem_of_getElem? (i := 67) (by decide +kernel))) (by decide +kernel)
theorem zi_X12_isCall : Cond.instanceMethod Y_X12_isCall.1 ∈ GW ∧ Cond.selects Y_X12_isCall.1.cls Y_X12_isCall.1 Y_X12_isCall.1 ∈ GW := ⟨q1564, qs67⟩
theorem q1604 : Cond.code ⟨"DeskRingsModel", "called", "(I)V"⟩ prog_14_method_45_code 4 (none : Option Jvm.ClassFile.FieldType) ∈ GW := gw_of (gw_t (gw_7 (List.mem_of_getElem? (i := 164) (by decide +kernel)))) (by decide +kernel)
theorem zk_X12_called : ZK Y_X12_called 1 := ⟨q1604, q13, ⟨by decide, by decide⟩, by decide +kernel⟩
theorem q1603 : Cond.instanceMethod ⟨"DeskRingsModel", "called", "(I)V"⟩ ∈ GW := gw_of (gw_t (gw_7 (List.mem_of_getElem? (i := 163) (by decide +kernel)))) (by decide +kernel)
theorem qs74 : Cond.selects "DeskRingsModel" ⟨"DeskRingsModel", "called", "(I)V"⟩ ⟨"DeskRingsModel", "called", "(I)V"⟩ ∈ GW := gw_of (List.mem_append_left _ (List.mem_of_getElem? (i := 74) (by decide +kernel))) (by decide +kernel)
theorem zi_X12_called : Cond.instanceMethod Y_X12_called.1 ∈ GW ∧ Cond.selects Y_X12_called.1.cls Y_X12_called.1 Y_X12_called.1 ∈ GW := ⟨q1603, qs74⟩
theorem q1601 : Cond.methodLink "DeskRingsModel" 250 ⟨"DeskRingsModel", "called", "(I)V"⟩ ∈ GW := gw_of (gw_t (gw_7 (List.mem_of_getElem? (i := 161) (by decide +kernel)))) (by decide +kernel)
theorem q1562 : Cond.methodLink "DeskRingsModel" 177 ⟨"DeskRingsModel", "isCall", "(I)Z"⟩ ∈ GW := gw_of (gw_t (gw_7 (List.mem_of_getElem? (i := 122) (by decide +kernel)))) (by decide +kernel)
theorem q1557 : Cond.code ⟨"DeskRingsModel", "isDesk", "(I)Z"⟩ prog_14_method_28_code 2 (some .boolean) ∈ GW := gw_of (gw_t (gw_7 (List.mem_of_getElem? (i := 117) (by decide +kernel)))) (by decide +kernel)
theorem zk_X12_isDesk : ZK Y_X12_isDesk 1 := ⟨q1557, q13, ⟨by decide, by decide⟩, by decide +kernel⟩
theorem q1556 : Cond.instanceMethod ⟨"DeskRingsModel", "isDesk", "(I)Z"⟩ ∈ GW := gw_of (gw_t (gw_7 (List.mem_of_getElem? (i := 116) (by decide +kernel)))) (by decide +kernel)
