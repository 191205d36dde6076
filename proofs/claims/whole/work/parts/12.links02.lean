theorem qs65 : Cond.selects "DeskRingsModel" ⟨"DeskRingsModel", "isDesk", "(I)Z"⟩ ⟨"DeskRingsModel", "isDesk", "(I)Z"⟩ ∈ GW := gw_of (List.mem_append_left _ (List.mem_of_getElem? (i := 65) (by decide +kernel))) (by decide +kernel)
theorem zi_X12_isDesk : Cond.instanceMethod Y_X12_isDesk.1 ∈ GW ∧ Cond.selects Y_X12_isDesk.1.cls Y_X12_isDesk.1 Y_X12_isDesk.1 ∈ GW := ⟨q1556, qs65⟩
theorem q1554 : Cond.methodLink "DeskRingsModel" 171 ⟨"DeskRingsModel", "isDesk", "(I)Z"⟩ ∈ GW := gw_of (gw_t (gw_7 (List.mem_of_getElem? (i := 114) (by decide +kernel)))) (by decide +kernel)
theorem q1589 : Cond.code ⟨"DeskRingsModel", "begins", "()V"⟩ prog_14_method_42_code 2 (none : Option Jvm.ClassFile.FieldType) ∈ GW := gw_of (gw_t (gw_7 (List.mem_of_getElem? (i := 149) (by decide +kernel)))) (by decide +kernel)
theorem zk_X12_begins : ZK Y_X12_begins 0 := ⟨q1589, q13, ⟨by decide, by decide⟩, by decide +kernel⟩
theorem q1588 : Cond.instanceMethod ⟨"DeskRingsModel", "begins", "()V"⟩ ∈ GW := gw_of (gw_t (gw_7 (List.mem_of_getElem? (i := 148) (by decide +kernel)))) (by decide +kernel)
theorem qs71 : Cond.selects "DeskRingsModel" ⟨"DeskRingsModel", "begins", "()V"⟩ ⟨"DeskRingsModel", "begins", "()V"⟩ ∈ GW := gw_of (List.mem_append_left _ (List.mem_of_getElem? (i := 71) (by decide +kernel))) (by decide +kernel)
theorem zi_X12_begins : Cond.instanceMethod Y_X12_begins.1 ∈ GW ∧ Cond.selects Y_X12_begins.1.cls Y_X12_begins.1 Y_X12_begins.1 ∈ GW := ⟨q1588, qs71⟩
theorem q1336 : Cond.fieldLink "DeskRingsModel" 208 "DeskRingsModel" "d0" "I" ∈ GW := gw_of (gw_t (gw_6 (List.mem_of_getElem? (i := 136) (by decide +kernel)))) (by decide +kernel)
theorem fl_12_208 : FL "DeskRingsModel" 208 12 19 .int false := ⟨R12, T12, 44, rfl, by decide, q1336, by decide +kernel, rfl, rfl⟩
theorem q1597 : Cond.code ⟨"DeskRingsModel", "does", "(II)Z"⟩ prog_14_method_46_code 3 (some .boolean) ∈ GW := gw_of (gw_t (gw_7 (List.mem_of_getElem? (i := 157) (by decide +kernel)))) (by decide +kernel)
theorem zk_X12_does : ZK Y_X12_does 2 := ⟨q1597, q13, ⟨by decide, by decide⟩, by decide +kernel⟩
theorem q1596 : Cond.instanceMethod ⟨"DeskRingsModel", "does", "(II)Z"⟩ ∈ GW := gw_of (gw_t (gw_7 (List.mem_of_getElem? (i := 156) (by decide +kernel)))) (by decide +kernel)
theorem qs73 : Cond.selects "DeskRingsModel" ⟨"DeskRingsModel", "does", "(II)Z"⟩ ⟨"DeskRingsModel", "does", "(II)Z"⟩ ∈ GW := gw_of (List.mem_append_left _ (List.mem_of_getElem? (i := 73) (by decide +kernel))) (by decide +kernel)
theorem zi_X12_does : Cond.instanceMethod Y_X12_does.1 ∈ GW ∧ Cond.selects Y_X12_does.1.cls Y_X12_does.1 Y_X12_does.1 ∈ GW := ⟨q1596, qs73⟩
theorem q1594 : Cond.methodLink "DeskRingsModel" 256 ⟨"DeskRingsModel", "does", "(II)Z"⟩ ∈ GW := gw_of (gw_t (gw_7 (List.mem_of_getElem? (i := 154) (by decide +kernel)))) (by decide +kernel)
theorem q1586 : Cond.methodLink "DeskRingsModel" 253 ⟨"DeskRingsModel", "begins", "()V"⟩ ∈ GW := gw_of (gw_t (gw_7 (List.mem_of_getElem? (i := 146) (by decide +kernel)))) (by decide +kernel)
theorem q1585 : Cond.code ⟨"DeskRingsModel", "runs", "(I)V"⟩ prog_14_method_47_code 2 (none : Option Jvm.ClassFile.FieldType) ∈ GW := gw_of (gw_t (gw_7 (List.mem_of_getElem? (i := 145) (by decide +kernel)))) (by decide +kernel)
theorem zk_X12_runs : ZK Y_X12_runs 1 := ⟨q1585, q13, ⟨by decide, by decide⟩, by decide +kernel⟩
theorem q1584 : Cond.instanceMethod ⟨"DeskRingsModel", "runs", "(I)V"⟩ ∈ GW := gw_of (gw_t (gw_7 (List.mem_of_getElem? (i := 144) (by decide +kernel)))) (by decide +kernel)
theorem qs70 : Cond.selects "DeskRingsModel" ⟨"DeskRingsModel", "runs", "(I)V"⟩ ⟨"DeskRingsModel", "runs", "(I)V"⟩ ∈ GW := gw_of (List.mem_append_left _ (List.mem_of_getElem? (i := 70) (by decide +kernel))) (by decide +kernel)
theorem zi_X12_runs : Cond.instanceMethod Y_X12_runs.1 ∈ GW ∧ Cond.selects Y_X12_runs.1.cls Y_X12_runs.1 Y_X12_runs.1 ∈ GW := ⟨q1584, qs70⟩
theorem q1582 : Cond.methodLink "DeskRingsModel" 259 ⟨"DeskRingsModel", "runs", "(I)V"⟩ ∈ GW := gw_of (gw_t (gw_7 (List.mem_of_getElem? (i := 142) (by decide +kernel)))) (by decide +kernel)
theorem q1469 : Cond.code ⟨"DeskRingsModel", "isOf", "(II)Z"⟩ prog_14_method_24_code 3 (some .boolean) ∈ GW := gw_of (gw_t (gw_7 (List.mem_of_getElem? (i := 29) (by decide +kernel)))) (by decide +kernel)
theorem zk_X12_isOf : ZK Y_X12_isOf 2 := ⟨q1469, q13, ⟨by decide, by decide⟩, by decide +kernel⟩
theorem q1468 : Cond.instanceMethod ⟨"DeskRingsModel", "isOf", "(II)Z"⟩ ∈ GW := gw_of (gw_t (gw_7 (List.mem_of_getElem? (i := 28) (by decide +kernel)))) (by decide +kernel)
theorem qs51 : Cond.selects "DeskRingsModel" ⟨"DeskRingsModel", "isOf", "(II)Z"⟩ ⟨"DeskRingsModel", "isOf", "(II)Z"⟩ ∈ GW := gw_of (List.mem_append_left _ (List.mem_of_getElem? (i := 51) (by decide +kernel))) (by decide +kernel)
theorem zi_X12_isOf : Cond.instanceMethod Y_X12_isOf.1 ∈ GW ∧ Cond.selects Y_X12_isOf.1.cls Y_X12_isOf.1 Y_X12_isOf.1 ∈ GW := ⟨q1468, qs51⟩
theorem q1541 : Cond.code ⟨"DeskRingsModel", "placeOf", "(II)I"⟩ prog_14_method_22_code 2 (some .int) ∈ GW := gw_of (gw_t (gw_7 (List.mem_of_getElem? (i := 101) (by decide +kernel)))) (by decide +kernel)
theorem zk_X12_placeOf : ZK Y_X12_placeOf 2 := ⟨q1541, q13, ⟨by decide, by decide⟩, by decide +kernel⟩
theorem q1539 : Cond.methodLink "DeskRingsModel" 156 ⟨"DeskRingsModel", "placeOf", "(II)I"⟩ ∈ GW := gw_of (gw_t (gw_7 (List.mem_of_getElem? (i := 99) (by decide +kernel)))) (by decide +kernel)
theorem q1540 : Cond.static ⟨"DeskRingsModel", "placeOf", "(II)I"⟩ ∈ GW := gw_of (gw_t (gw_7 (List.mem_of_getElem? (i := 100) (by decide +kernel)))) (by decide +kernel)
theorem q1466 : Cond.methodLink "DeskRingsModel" 140 ⟨"DeskRingsModel", "isOf", "(II)Z"⟩ ∈ GW := gw_of (gw_t (gw_7 (List.mem_of_getElem? (i := 26) (by decide +kernel)))) (by decide +kernel)
theorem q1553 : Cond.code ⟨"DeskRingsModel", "isOffice", "(I)Z"⟩ prog_14_method_27_code 2 (some .boolean) ∈ GW := gw_of (gw_t (gw_7 (List.mem_of_getElem? (i := 113) (by decide +kernel)))) (by decide +kernel)
theorem zk_X12_isOffice : ZK Y_X12_isOffice 1 := ⟨q1553, q13, ⟨by decide, by decide⟩, by decide +kernel⟩
theorem q1552 : Cond.instanceMethod ⟨"DeskRingsModel", "isOffice", "(I)Z"⟩ ∈ GW := gw_of (gw_t (gw_7 (List.mem_of_getElem? (i := 112) (by decide +kernel)))) (by decide +kernel)
theorem qs64 : Cond.selects "DeskRingsModel" ⟨"DeskRingsModel", "isOffice", "(I)Z"⟩ ⟨"DeskRingsModel", "isOffice", "(I)Z"⟩ ∈ GW := gw_of (List.mem_append_left _ (List.mem_of_getElem? (i := 64) (by decide +kernel))) (by decide +kernel)
theorem zi_X12_isOffice : Cond.instanceMethod Y_X12_isOffice.1 ∈ GW ∧ Cond.selects Y_X12_isOffice.1.cls Y_X12_isOffice.1 Y_X12_isOffice.1 ∈ GW := ⟨q1552, qs64⟩
theorem q1577 : Cond.code ⟨"DeskRingsModel", "isDay", "(I)Z"⟩ prog_14_method_40_code 2 (some .boolean) ∈ GW := gw_of (gw_t (gw_7 (List.mem_of_getElem? (i := 137) (by decide +kernel)))) (by decide +kernel)
theorem zk_X12_isDay : ZK Y_X12_isDay 1 := ⟨q1577, q13, ⟨by decide, by decide⟩, by decide +kernel⟩
theorem q1576 : Cond.instanceMethod ⟨"DeskRingsModel", "isDay", "(I)Z"⟩ ∈ GW := gw_of (gw_t (gw_7 (List.mem_of_getElem? (i := 136) (by decide +kernel)))) (by decide +kernel)
theorem qs69 : Cond.selects "DeskRingsModel" ⟨"DeskRingsModel", "isDay", "(I)Z"⟩ ⟨"DeskRingsModel", "isDay", "(I)Z"⟩ ∈ GW := gw_of (List.mem_append_left _ (List.mem_of_getElem? (i := 69) (by decide +kernel))) (by decide +kernel)
theorem zi_X12_isDay : Cond.instanceMethod Y_X12_isDay.1 ∈ GW ∧ Cond.selects Y_X12_isDay.1.cls Y_X12_isDay.1 Y_X12_isDay.1 ∈ GW := ⟨q1576, qs69⟩
theorem q1877 : Cond.code ⟨"DeskRingsModel", "halfOf", "()I"⟩ prog_14_method_109_code 3 (some .int) ∈ GW := gw_of (gw_t (gw_8 (List.mem_of_getElem? (i := 197) (by decide +kernel)))) (by decide +kernel)
theorem zk_X12_halfOf : ZK Y_X12_halfOf 0 := ⟨q1877, q13, ⟨by decide, by decide⟩, by decide +kernel⟩
theorem q1876 : Cond.instanceMethod ⟨"DeskRingsModel", "halfOf", "()I"⟩ ∈ GW := gw_of (gw_t (gw_8 (List.mem_of_getElem? (i := 196) (by decide +kernel)))) (by decide +kernel)
theorem qs116 : Cond.selects "DeskRingsModel" ⟨"DeskRingsModel", "halfOf", "()I"⟩ ⟨"DeskRingsModel", "halfOf", "()I"⟩ ∈ GW := gw_of (List.mem_append_left _ (List.mem_of_getElem? (i := 116) (by decide +kernel))) (by decide +kernel)
theorem zi_X12_halfOf : Cond.instanceMethod Y_X12_halfOf.1 ∈ GW ∧ Cond.selects Y_X12_halfOf.1.cls Y_X12_halfOf.1 Y_X12_halfOf.1 ∈ GW := ⟨q1876, qs116⟩
theorem q1874 : Cond.methodLink "DeskRingsModel" 411 ⟨"DeskRingsModel", "halfOf", "()I"⟩ ∈ GW := gw_of (gw_t (gw_8 (List.mem_of_getElem? (i := 194) (by decide +kernel)))) (by decide +kernel)
theorem q1806 : Cond.code ⟨"DeskRingsModel", "mostHelped", "()I"⟩ prog_14_method_91_code 3 (some .int) ∈ GW := gw_of (gw_t (gw_8 (List.mem_of_getElem? (i := 126) (by decide +kernel)))) (by decide +kernel)
theorem zk_X12_mostHelped : ZK Y_X12_mostHelped 0 := ⟨q1806, q13, ⟨by decide, by decide⟩, by decide +kernel⟩
theorem q1805 : Cond.instanceMethod ⟨"DeskRingsModel", "mostHelped", "()I"⟩ ∈ GW := gw_of (gw_t (gw_8 (List.mem_of_getElem? (i := 125) (by decide +kernel)))) (by decide +kernel)
theorem qs109 : Cond.selects "DeskRingsModel" ⟨"DeskRingsModel", "mostHelped", "()I"⟩ ⟨"DeskRingsModel", "mostHelped", "()I"⟩ ∈ GW := gw_of (List.mem_append_left _ (List.mem_of_getElem? (i := 109) (by decide +kernel))) (by decide +kernel)
theorem zi_X12_mostHelped : Cond.instanceMethod Y_X12_mostHelped.1 ∈ GW ∧ Cond.selects Y_X12_mostHelped.1.cls Y_X12_mostHelped.1 Y_X12_mostHelped.1 ∈ GW := ⟨q1805, qs109⟩
theorem q1803 : Cond.methodLink "DeskRingsModel" 387 ⟨"DeskRingsModel", "mostHelped", "()I"⟩ ∈ GW := gw_of (gw_t (gw_8 (List.mem_of_getElem? (i := 123) (by decide +kernel)))) (by decide +kernel)
theorem q1574 : Cond.methodLink "DeskRingsModel" 211 ⟨"DeskRingsModel", "isDay", "(I)Z"⟩ ∈ GW := gw_of (gw_t (gw_7 (List.mem_of_getElem? (i := 134) (by decide +kernel)))) (by decide +kernel)
theorem q1550 : Cond.methodLink "DeskRingsModel" 168 ⟨"DeskRingsModel", "isOffice", "(I)Z"⟩ ∈ GW := gw_of (gw_t (gw_7 (List.mem_of_getElem? (i := 110) (by decide +kernel)))) (by decide +kernel)
theorem q1318 : Cond.fieldLink "DeskRingsModel" 13 "DeskRingsModel" "has" "[Z" ∈ GW := gw_of (gw_t (gw_6 (List.mem_of_getElem? (i := 118) (by decide +kernel)))) (by decide +kernel)
theorem fl_12_13 : FL "DeskRingsModel" 13 12 1 (.array .boolean) true := ⟨R12, T12, 44, rfl, by decide, q1318, by decide +kernel, rfl, rfl⟩
theorem q1354 : Cond.fieldLink "DeskRingsModel" 366 "DeskRingsModel" "turn" "I" ∈ GW := gw_of (gw_t (gw_6 (List.mem_of_getElem? (i := 154) (by decide +kernel)))) (by decide +kernel)
theorem fl_12_366 : FL "DeskRingsModel" 366 12 37 .int false := ⟨R12, T12, 44, rfl, by decide, q1354, by decide +kernel, rfl, rfl⟩
theorem q1355 : Cond.fieldLink "DeskRingsModel" 372 "DeskRingsModel" "missed" "I" ∈ GW := gw_of (gw_t (gw_6 (List.mem_of_getElem? (i := 155) (by decide +kernel)))) (by decide +kernel)
theorem fl_12_372 : FL "DeskRingsModel" 372 12 38 .int false := ⟨R12, T12, 44, rfl, by decide, q1355, by decide +kernel, rfl, rfl⟩
theorem q1802 : Cond.code ⟨"DeskRingsModel", "isNearer", "(II)Z"⟩ prog_14_method_86_code 3 (some .boolean) ∈ GW := gw_of (gw_t (gw_8 (List.mem_of_getElem? (i := 122) (by decide +kernel)))) (by decide +kernel)
theorem zk_X12_isNearer : ZK Y_X12_isNearer 2 := ⟨q1802, q13, ⟨by decide, by decide⟩, by decide +kernel⟩
theorem q1801 : Cond.instanceMethod ⟨"DeskRingsModel", "isNearer", "(II)Z"⟩ ∈ GW := gw_of (gw_t (gw_8 (List.mem_of_getElem? (i := 121) (by decide +kernel)))) (by decide +kernel)
theorem qs108 : Cond.selects "DeskRingsModel" ⟨"DeskRingsModel", "isNearer", "(II)Z"⟩ ⟨"DeskRingsModel", "isNearer", "(II)Z"⟩ ∈ GW := gw_of (List.mem_append_left _ (List.mem_of_getElem? (i := 108) (by decide +kernel))) (by decide +kernel)
theorem zi_X12_isNearer : Cond.instanceMethod Y_X12_isNearer.1 ∈ GW ∧ Cond.selects Y_X12_isNearer.1.cls Y_X12_isNearer.1 Y_X12_isNearer.1 ∈ GW := ⟨q1801, qs108⟩
theorem q1799 : Cond.methodLink "DeskRingsModel" 369 ⟨"DeskRingsModel", "isNearer", "(II)Z"⟩ ∈ GW := gw_of (gw_t (gw_8 (List.mem_of_getElem? (i := 119) (by decide +kernel)))) (by decide +kernel)
theorem q1798 : Cond.code ⟨"DeskRingsModel", "byRule", "(II)V"⟩ prog_14_method_87_code 6 (none : Option Jvm.ClassFile.FieldType) ∈ GW := gw_of (gw_t (gw_8 (List.mem_of_getElem? (i := 118) (by decide +kernel)))) (by decide +kernel)
theorem zk_X12_byRule : ZK Y_X12_byRule 2 := ⟨q1798, q13, ⟨by decide, by decide⟩, by decide +kernel⟩
theorem q1797 : Cond.instanceMethod ⟨"DeskRingsModel", "byRule", "(II)V"⟩ ∈ GW := gw_of (gw_t (gw_8 (List.mem_of_getElem? (i := 117) (by decide +kernel)))) (by decide +kernel)
theorem qs107 : Cond.selects "DeskRingsModel" ⟨"DeskRingsModel", "byRule", "(II)V"⟩ ⟨"DeskRingsModel", "byRule", "(II)V"⟩ ∈ GW := gw_of (List.mem_append_left _ (List.mem_of_getElem? (i := 107) (by decide +kernel))) (by decide +kernel)
theorem zi_X12_byRule : Cond.instanceMethod Y_X12_byRule.1 ∈ GW ∧ Cond.selects Y_X12_byRule.1.cls Y_X12_byRule.1 Y_X12_byRule.1 ∈ GW := ⟨q1797, qs107⟩
theorem q1795 : Cond.methodLink "DeskRingsModel" 375 ⟨"DeskRingsModel", "byRule", "(II)V"⟩ ∈ GW := gw_of (gw_t (gw_8 (List.mem_of_getElem? (i := 115) (by decide +kernel)))) (by decide +kernel)
theorem q1790 : Cond.code ⟨"DeskRingsModel", "beginsRule", "()V"⟩ prog_14_method_88_code 1 (none : Option Jvm.ClassFile.FieldType) ∈ GW := gw_of (gw_t (gw_8 (List.mem_of_getElem? (i := 110) (by decide +kernel)))) (by decide +kernel)
theorem zk_X12_beginsRule : ZK Y_X12_beginsRule 0 := ⟨q1790, q13, ⟨by decide, by decide⟩, by decide +kernel⟩
theorem q1789 : Cond.instanceMethod ⟨"DeskRingsModel", "beginsRule", "()V"⟩ ∈ GW := gw_of (gw_t (gw_8 (List.mem_of_getElem? (i := 109) (by decide +kernel)))) (by decide +kernel)
theorem qs105 : Cond.selects "DeskRingsModel" ⟨"DeskRingsModel", "beginsRule", "()V"⟩ ⟨"DeskRingsModel", "beginsRule", "()V"⟩ ∈ GW := gw_of (List.mem_append_left _ (List.mem_of_getElem? (i := 105) (by decide +kernel))) (by decide +kernel)
theorem zi_X12_beginsRule : Cond.instanceMethod Y_X12_beginsRule.1 ∈ GW ∧ Cond.selects Y_X12_beginsRule.1.cls Y_X12_beginsRule.1 Y_X12_beginsRule.1 ∈ GW := ⟨q1789, qs105⟩
theorem q1794 : Cond.code ⟨"DeskRingsModel", "ruled", "(II)V"⟩ prog_14_method_89_code 3 (none : Option Jvm.ClassFile.FieldType) ∈ GW := gw_of (gw_t (gw_8 (List.mem_of_getElem? (i := 114) (by decide +kernel)))) (by decide +kernel)
theorem zk_X12_ruled : ZK Y_X12_ruled 2 := ⟨q1794, q13, ⟨by decide, by decide⟩, by decide +kernel⟩
theorem q1793 : Cond.instanceMethod ⟨"DeskRingsModel", "ruled", "(II)V"⟩ ∈ GW := gw_of (gw_t (gw_8 (List.mem_of_getElem? (i := 113) (by decide +kernel)))) (by decide +kernel)
theorem qs106 : Cond.selects "DeskRingsModel" ⟨"DeskRingsModel", "ruled", "(II)V"⟩ ⟨"DeskRingsModel", "ruled", "(II)V"⟩ ∈ GW := gw_of (List.mem_append_left _ (List.mem_of_getElem? (i := 106) (by decide +kernel))) (by decide +kernel)
theorem zi_X12_ruled : Cond.instanceMethod Y_X12_ruled.1 ∈ GW ∧ Cond.selects Y_X12_ruled.1.cls Y_X12_ruled.1 Y_X12_ruled.1 ∈ GW := ⟨q1793, qs106⟩
theorem q1791 : Cond.methodLink "DeskRingsModel" 381 ⟨"DeskRingsModel", "ruled", "(II)V"⟩ ∈ GW := gw_of (gw_t (gw_8 (List.mem_of_getElem? (i := 111) (by decide +kernel)))) (by decide +kernel)
theorem q1787 : Cond.methodLink "DeskRingsModel" 378 ⟨"DeskRingsModel", "beginsRule", "()V"⟩ ∈ GW := gw_of (gw_t (gw_8 (List.mem_of_getElem? (i := 107) (by decide +kernel)))) (by decide +kernel)
theorem q1786 : Cond.code ⟨"DeskRingsModel", "rules", "(I)V"⟩ prog_14_method_90_code 3 (none : Option Jvm.ClassFile.FieldType) ∈ GW := gw_of (gw_t (gw_8 (List.mem_of_getElem? (i := 106) (by decide +kernel)))) (by decide +kernel)
theorem zk_X12_rules : ZK Y_X12_rules 1 := ⟨q1786, q13, ⟨by decide, by decide⟩, by decide +kernel⟩
theorem q1785 : Cond.instanceMethod ⟨"DeskRingsModel", "rules", "(I)V"⟩ ∈ GW := gw_of (gw_t (gw_8 (List.mem_of_getElem? (i := 105) (by decide +kernel)))) (by decide +kernel)
theorem qs104 : Cond.selects "DeskRingsModel" ⟨"DeskRingsModel", "rules", "(I)V"⟩ ⟨"DeskRingsModel", "rules", "(I)V"⟩ ∈ GW := gw_of (List.mem_append_left _ (List.mem_of_getElem? (i := 104) (by decide +kernel))) (by decide +kernel)
theorem zi_X12_rules : Cond.instanceMethod Y_X12_rules.1 ∈ GW ∧ Cond.selects Y_X12_rules.1.cls Y_X12_rules.1 Y_X12_rules.1 ∈ GW := ⟨q1785, qs104⟩
theorem q1783 : Cond.methodLink "DeskRingsModel" 384 ⟨"DeskRingsModel", "rules", "(I)V"⟩ ∈ GW := gw_of (gw_t (gw_8 (List.mem_of_getElem? (i := 103) (by decide +kernel)))) (by decide +kernel)
theorem q1352 : Cond.fieldLink "DeskRingsModel" 333 "DeskRingsModel" "l0" "I" ∈ GW := gw_of (gw_t (gw_6 (List.mem_of_getElem? (i := 152) (by decide +kernel)))) (by decide +kernel)
theorem fl_12_333 : FL "DeskRingsModel" 333 12 35 .int false := ⟨R12, T12, 44, rfl, by decide, q1352, by decide +kernel, rfl, rfl⟩
theorem q1758 : Cond.code ⟨"DeskRingsModel", "triesDeaf", "(II)V"⟩ prog_14_method_77_code 4 (none : Option Jvm.ClassFile.FieldType) ∈ GW := gw_of (gw_t (gw_8 (List.mem_of_getElem? (i := 78) (by decide +kernel)))) (by decide +kernel)
theorem zk_X12_triesDeaf : ZK Y_X12_triesDeaf 2 := ⟨q1758, q13, ⟨by decide, by decide⟩, by decide +kernel⟩
theorem q1757 : Cond.instanceMethod ⟨"DeskRingsModel", "triesDeaf", "(II)V"⟩ ∈ GW := gw_of (gw_t (gw_8 (List.mem_of_getElem? (i := 77) (by decide +kernel)))) (by decide +kernel)
theorem qs99 : Cond.selects "DeskRingsModel" ⟨"DeskRingsModel", "triesDeaf", "(II)V"⟩ ⟨"DeskRingsModel", "triesDeaf", "(II)V"⟩ ∈ GW := gw_of (List.mem_append_left _ (List.mem_of_getElem? (i := 99) (by decide +kernel))) (by decide +kernel)
theorem zi_X12_triesDeaf : Cond.instanceMethod Y_X12_triesDeaf.1 ∈ GW ∧ Cond.selects Y_X12_triesDeaf.1.cls Y_X12_triesDeaf.1 Y_X12_triesDeaf.1 ∈ GW := ⟨q1757, qs99⟩
theorem q1755 : Cond.methodLink "DeskRingsModel" 339 ⟨"DeskRingsModel", "triesDeaf", "(II)V"⟩ ∈ GW := gw_of (gw_t (gw_8 (List.mem_of_getElem? (i := 75) (by decide +kernel)))) (by decide +kernel)
theorem q1738 : Cond.code ⟨"DeskRingsModel", "isLog", "(I)Z"⟩ prog_14_method_74_code 2 (some .boolean) ∈ GW := gw_of (gw_t (gw_8 (List.mem_of_getElem? (i := 58) (by decide +kernel)))) (by decide +kernel)
theorem zk_X12_isLog : ZK Y_X12_isLog 1 := ⟨q1738, q13, ⟨by decide, by decide⟩, by decide +kernel⟩
theorem q1737 : Cond.instanceMethod ⟨"DeskRingsModel", "isLog", "(I)Z"⟩ ∈ GW := gw_of (gw_t (gw_8 (List.mem_of_getElem? (i := 57) (by decide +kernel)))) (by decide +kernel)
theorem qs95 : Cond.selects "DeskRingsModel" ⟨"DeskRingsModel", "isLog", "(I)Z"⟩ ⟨"DeskRingsModel", "isLog", "(I)Z"⟩ ∈ GW := gw_of (List.mem_append_left _ (List.mem_of_getElem? (i := 95) (by decide +kernel))) (by decide +kernel)
theorem zi_X12_isLog : Cond.instanceMethod Y_X12_isLog.1 ∈ GW ∧ Cond.selects Y_X12_isLog.1.cls Y_X12_isLog.1 Y_X12_isLog.1 ∈ GW := ⟨q1737, qs95⟩
theorem q1746 : Cond.code ⟨"DeskRingsModel", "areThere", "()Z"⟩ prog_14_method_76_code 3 (some .boolean) ∈ GW := gw_of (gw_t (gw_8 (List.mem_of_getElem? (i := 66) (by decide +kernel)))) (by decide +kernel)
theorem zk_X12_areThere : ZK Y_X12_areThere 0 := ⟨q1746, q13, ⟨by decide, by decide⟩, by decide +kernel⟩
theorem q1745 : Cond.instanceMethod ⟨"DeskRingsModel", "areThere", "()Z"⟩ ∈ GW := gw_of (gw_t (gw_8 (List.mem_of_getElem? (i := 65) (by decide +kernel)))) (by decide +kernel)
theorem qs96 : Cond.selects "DeskRingsModel" ⟨"DeskRingsModel", "areThere", "()Z"⟩ ⟨"DeskRingsModel", "areThere", "()Z"⟩ ∈ GW := gw_of (List.mem_append_left _ (List.mem_of_getElem? (i := 96) (by decide +kernel))) (by decide +kernel)
theorem zi_X12_areThere : Cond.instanceMethod Y_X12_areThere.1 ∈ GW ∧ Cond.selects Y_X12_areThere.1.cls Y_X12_areThere.1 Y_X12_areThere.1 ∈ GW := ⟨q1745, qs96⟩
theorem q1754 : Cond.code ⟨"DeskRingsModel", "isSo", "(I)Z"⟩ prog_14_method_78_code 5 (some .boolean) ∈ GW := gw_of (gw_t (gw_8 (List.mem_of_getElem? (i := 74) (by decide +kernel)))) (by decide +kernel)
theorem zk_X12_isSo : ZK Y_X12_isSo 1 := ⟨q1754, q13, ⟨by decide, by decide⟩, by decide +kernel⟩
theorem q1753 : Cond.instanceMethod ⟨"DeskRingsModel", "isSo", "(I)Z"⟩ ∈ GW := gw_of (gw_t (gw_8 (List.mem_of_getElem? (i := 73) (by decide +kernel)))) (by decide +kernel)
theorem qs98 : Cond.selects "DeskRingsModel" ⟨"DeskRingsModel", "isSo", "(I)Z"⟩ ⟨"DeskRingsModel", "isSo", "(I)Z"⟩ ∈ GW := gw_of (List.mem_append_left _ (List.mem_of_getElem? (i := 98) (by decide +kernel))) (by decide +kernel)
theorem zi_X12_isSo : Cond.instanceMethod Y_X12_isSo.1 ∈ GW ∧ Cond.selects Y_X12_isSo.1.cls Y_X12_isSo.1 Y_X12_isSo.1 ∈ GW := ⟨q1753, qs98⟩
theorem q1651 : Cond.code ⟨"DeskRingsModel", "bitsOf", "(I)I"⟩ prog_14_method_52_code 3 (some .int) ∈ GW := gw_of (gw_t (gw_7 (List.mem_of_getElem? (i := 211) (by decide +kernel)))) (by decide +kernel)
theorem zk_X12_bitsOf : ZK Y_X12_bitsOf 1 := ⟨q1651, q13, ⟨by decide, by decide⟩, by decide +kernel⟩
theorem q1649 : Cond.methodLink "DeskRingsModel" 265 ⟨"DeskRingsModel", "bitsOf", "(I)I"⟩ ∈ GW := gw_of (gw_t (gw_7 (List.mem_of_getElem? (i := 209) (by decide +kernel)))) (by decide +kernel)
theorem q1650 : Cond.static ⟨"DeskRingsModel", "bitsOf", "(I)I"⟩ ∈ GW := gw_of (gw_t (gw_7 (List.mem_of_getElem? (i := 210) (by decide +kernel)))) (by decide +kernel)
theorem q1751 : Cond.methodLink "DeskRingsModel" 342 ⟨"DeskRingsModel", "isSo", "(I)Z"⟩ ∈ GW := gw_of (gw_t (gw_8 (List.mem_of_getElem? (i := 71) (by decide +kernel)))) (by decide +kernel)
theorem q1743 : Cond.methodLink "DeskRingsModel" 348 ⟨"DeskRingsModel", "areThere", "()Z"⟩ ∈ GW := gw_of (gw_t (gw_8 (List.mem_of_getElem? (i := 63) (by decide +kernel)))) (by decide +kernel)
theorem q1735 : Cond.methodLink "DeskRingsModel" 336 ⟨"DeskRingsModel", "isLog", "(I)Z"⟩ ∈ GW := gw_of (gw_t (gw_8 (List.mem_of_getElem? (i := 55) (by decide +kernel)))) (by decide +kernel)
theorem q1829 : Cond.code ⟨"DeskRingsModel", "far", "(II)I"⟩ prog_14_method_96_code 2 (some .int) ∈ GW := gw_of (gw_t (gw_8 (List.mem_of_getElem? (i := 149) (by decide +kernel)))) (by decide +kernel)
theorem zk_X12_far : ZK Y_X12_far 2 := ⟨q1829, q13, ⟨by decide, by decide⟩, by decide +kernel⟩
theorem q1827 : Cond.methodLink "DeskRingsModel" 393 ⟨"DeskRingsModel", "far", "(II)I"⟩ ∈ GW := gw_of (gw_t (gw_8 (List.mem_of_getElem? (i := 147) (by decide +kernel)))) (by decide +kernel)
theorem q1828 : Cond.static ⟨"DeskRingsModel", "far", "(II)I"⟩ ∈ GW := gw_of (gw_t (gw_8 (List.mem_of_getElem? (i := 148) (by decide +kernel)))) (by decide +kernel)
theorem q1826 : Cond.code ⟨"DeskRingsModel", "boardOf", "(I)I"⟩ prog_14_method_97_code 4 (some .int) ∈ GW := gw_of (gw_t (gw_8 (List.mem_of_getElem? (i := 146) (by decide +kernel)))) (by decide +kernel)
theorem zk_X12_boardOf : ZK Y_X12_boardOf 1 := ⟨q1826, q13, ⟨by decide, by decide⟩, by decide +kernel⟩
theorem q1825 : Cond.instanceMethod ⟨"DeskRingsModel", "boardOf", "(I)I"⟩ ∈ GW := gw_of (gw_t (gw_8 (List.mem_of_getElem? (i := 145) (by decide +kernel)))) (by decide +kernel)
theorem qs111 : Cond.selects "DeskRingsModel" ⟨"DeskRingsModel", "boardOf", "(I)I"⟩ ⟨"DeskRingsModel", "boardOf", "(I)I"⟩ ∈ GW := gw_of (List.mem_append_left _ (List.mem_of_getElem? (i := 111) (by decide +kernel))) (by decide +kernel)
theorem zi_X12_boardOf : Cond.instanceMethod Y_X12_boardOf.1 ∈ GW ∧ Cond.selects Y_X12_boardOf.1.cls Y_X12_boardOf.1 Y_X12_boardOf.1 ∈ GW := ⟨q1825, qs111⟩
theorem q1823 : Cond.methodLink "DeskRingsModel" 396 ⟨"DeskRingsModel", "boardOf", "(I)I"⟩ ∈ GW := gw_of (gw_t (gw_8 (List.mem_of_getElem? (i := 143) (by decide +kernel)))) (by decide +kernel)
theorem q1678 : Cond.code ⟨"DeskRingsModel", "common", "(JJ)J"⟩ prog_14_method_55_code 10 (some .long) ∈ GW := gw_of (gw_t (gw_7 (List.mem_of_getElem? (i := 238) (by decide +kernel)))) (by decide +kernel)
theorem zk_X12_common : ZK Y_X12_common 2 := ⟨q1678, q13, ⟨by decide, by decide⟩, by decide +kernel⟩
theorem q1676 : Cond.methodLink "DeskRingsModel" 273 ⟨"DeskRingsModel", "common", "(JJ)J"⟩ ∈ GW := gw_of (gw_t (gw_7 (List.mem_of_getElem? (i := 236) (by decide +kernel)))) (by decide +kernel)
theorem q1677 : Cond.static ⟨"DeskRingsModel", "common", "(JJ)J"⟩ ∈ GW := gw_of (gw_t (gw_7 (List.mem_of_getElem? (i := 237) (by decide +kernel)))) (by decide +kernel)
theorem q1672 : Cond.constantLong "DeskRingsModel" 271 (10 : Int64) ∈ GW := gw_of (gw_t (gw_7 (List.mem_of_getElem? (i := 232) (by decide +kernel)))) (by decide +kernel)
theorem q1671 : Cond.code ⟨"DeskRingsModel", "tens", "(I)J"⟩ prog_14_method_56_code 4 (some .long) ∈ GW := gw_of (gw_t (gw_7 (List.mem_of_getElem? (i := 231) (by decide +kernel)))) (by decide +kernel)
theorem zk_X12_tens : ZK Y_X12_tens 1 := ⟨q1671, q13, ⟨by decide, by decide⟩, by decide +kernel⟩
theorem q1351 : Cond.fieldLink "DeskRingsModel" 35 "DeskRingsModel" "tries" "[J" ∈ GW := gw_of (gw_t (gw_6 (List.mem_of_getElem? (i := 151) (by decide +kernel)))) (by decide +kernel)
theorem fl_12_35 : FL "DeskRingsModel" 35 12 34 (.array .long) true := ⟨R12, T12, 44, rfl, by decide, q1351, by decide +kernel, rfl, rfl⟩
theorem q1669 : Cond.methodLink "DeskRingsModel" 287 ⟨"DeskRingsModel", "tens", "(I)J"⟩ ∈ GW := gw_of (gw_t (gw_7 (List.mem_of_getElem? (i := 229) (by decide +kernel)))) (by decide +kernel)
theorem q1670 : Cond.static ⟨"DeskRingsModel", "tens", "(I)J"⟩ ∈ GW := gw_of (gw_t (gw_7 (List.mem_of_getElem? (i := 230) (by decide +kernel)))) (by decide +kernel)
theorem q1726 : Cond.code ⟨"DeskRingsModel", "triesBy", "(II)J"⟩ prog_14_method_70_code 3 (some .long) ∈ GW := gw_of (gw_t (gw_8 (List.mem_of_getElem? (i := 46) (by decide +kernel)))) (by decide +kernel)
theorem zk_X12_triesBy : ZK Y_X12_triesBy 2 := ⟨q1726, q13, ⟨by decide, by decide⟩, by decide +kernel⟩
theorem q1725 : Cond.instanceMethod ⟨"DeskRingsModel", "triesBy", "(II)J"⟩ ∈ GW := gw_of (gw_t (gw_8 (List.mem_of_getElem? (i := 45) (by decide +kernel)))) (by decide +kernel)
theorem qs93 : Cond.selects "DeskRingsModel" ⟨"DeskRingsModel", "triesBy", "(II)J"⟩ ⟨"DeskRingsModel", "triesBy", "(II)J"⟩ ∈ GW := gw_of (List.mem_append_left _ (List.mem_of_getElem? (i := 93) (by decide +kernel))) (by decide +kernel)
theorem zi_X12_triesBy : Cond.instanceMethod Y_X12_triesBy.1 ∈ GW ∧ Cond.selects Y_X12_triesBy.1.cls Y_X12_triesBy.1 Y_X12_triesBy.1 ∈ GW := ⟨q1725, qs93⟩
theorem q1723 : Cond.methodLink "DeskRingsModel" 322 ⟨"DeskRingsModel", "triesBy", "(II)J"⟩ ∈ GW := gw_of (gw_t (gw_8 (List.mem_of_getElem? (i := 43) (by decide +kernel)))) (by decide +kernel)
theorem q1660 : Cond.constantLong "DeskRingsModel" 281 (-1 : Int64) ∈ GW := gw_of (gw_t (gw_7 (List.mem_of_getElem? (i := 220) (by decide +kernel)))) (by decide +kernel)
theorem q1722 : Cond.code ⟨"DeskRingsModel", "laysOut", "()V"⟩ prog_14_method_71_code 7 (none : Option Jvm.ClassFile.FieldType) ∈ GW := gw_of (gw_t (gw_8 (List.mem_of_getElem? (i := 42) (by decide +kernel)))) (by decide +kernel)
theorem zk_X12_laysOut : ZK Y_X12_laysOut 0 := ⟨q1722, q13, ⟨by decide, by decide⟩, by decide +kernel⟩
theorem q1721 : Cond.instanceMethod ⟨"DeskRingsModel", "laysOut", "()V"⟩ ∈ GW := gw_of (gw_t (gw_8 (List.mem_of_getElem? (i := 41) (by decide +kernel)))) (by decide +kernel)
theorem qs92 : Cond.selects "DeskRingsModel" ⟨"DeskRingsModel", "laysOut", "()V"⟩ ⟨"DeskRingsModel", "laysOut", "()V"⟩ ∈ GW := gw_of (List.mem_append_left _ (List.mem_of_getElem? (i := 92) (by decide +kernel))) (by decide +kernel)
theorem zi_X12_laysOut : Cond.instanceMethod Y_X12_laysOut.1 ∈ GW ∧ Cond.selects Y_X12_laysOut.1.cls Y_X12_laysOut.1 Y_X12_laysOut.1 ∈ GW := ⟨q1721, qs92⟩
theorem q1730 : Cond.code ⟨"DeskRingsModel", "nextOf", "(IZ)I"⟩ prog_14_method_72_code 4 (some .int) ∈ GW := gw_of (gw_t (gw_8 (List.mem_of_getElem? (i := 50) (by decide +kernel)))) (by decide +kernel)
theorem zk_X12_nextOf : ZK Y_X12_nextOf 2 := ⟨q1730, q13, ⟨by decide, by decide⟩, by decide +kernel⟩
theorem q1729 : Cond.instanceMethod ⟨"DeskRingsModel", "nextOf", "(IZ)I"⟩ ∈ GW := gw_of (gw_t (gw_8 (List.mem_of_getElem? (i := 49) (by decide +kernel)))) (by decide +kernel)
theorem qs94 : Cond.selects "DeskRingsModel" ⟨"DeskRingsModel", "nextOf", "(IZ)I"⟩ ⟨"DeskRingsModel", "nextOf", "(IZ)I"⟩ ∈ GW := gw_of (List.mem_append_left _ (List.mem_of_getElem? (i := 94) (by decide +kernel))) (by decide +kernel)
theorem zi_X12_nextOf : Cond.instanceMethod Y_X12_nextOf.1 ∈ GW ∧ Cond.selects Y_X12_nextOf.1.cls Y_X12_nextOf.1 Y_X12_nextOf.1 ∈ GW := ⟨q1729, qs94⟩
theorem q1727 : Cond.methodLink "DeskRingsModel" 329 ⟨"DeskRingsModel", "nextOf", "(IZ)I"⟩ ∈ GW := gw_of (gw_t (gw_8 (List.mem_of_getElem? (i := 47) (by decide +kernel)))) (by decide +kernel)
theorem q1675 : Cond.code ⟨"DeskRingsModel", "fraction", "(JJZ)J"⟩ prog_14_method_57_code 5 (some .long) ∈ GW := gw_of (gw_t (gw_7 (List.mem_of_getElem? (i := 235) (by decide +kernel)))) (by decide +kernel)
theorem zk_X12_fraction : ZK Y_X12_fraction 3 := ⟨q1675, q13, ⟨by decide, by decide⟩, by decide +kernel⟩
theorem q1673 : Cond.methodLink "DeskRingsModel" 290 ⟨"DeskRingsModel", "fraction", "(JJZ)J"⟩ ∈ GW := gw_of (gw_t (gw_7 (List.mem_of_getElem? (i := 233) (by decide +kernel)))) (by decide +kernel)
theorem q1674 : Cond.static ⟨"DeskRingsModel", "fraction", "(JJZ)J"⟩ ∈ GW := gw_of (gw_t (gw_7 (List.mem_of_getElem? (i := 234) (by decide +kernel)))) (by decide +kernel)
theorem q1719 : Cond.methodLink "DeskRingsModel" 326 ⟨"DeskRingsModel", "laysOut", "()V"⟩ ∈ GW := gw_of (gw_t (gw_8 (List.mem_of_getElem? (i := 39) (by decide +kernel)))) (by decide +kernel)
theorem q1360 : Cond.fieldLink "DeskRingsModel" 423 "DeskRingsModel" "x0" "I" ∈ GW := gw_of (gw_t (gw_6 (List.mem_of_getElem? (i := 160) (by decide +kernel)))) (by decide +kernel)
theorem fl_12_423 : FL "DeskRingsModel" 423 12 43 .int false := ⟨R12, T12, 44, rfl, by decide, q1360, by decide +kernel, rfl, rfl⟩
theorem q1926 : Cond.constant "DeskRingsModel" 426 (1103515245 : Int32) ∈ GW := gw_of (gw_t (gw_9 (List.mem_of_getElem? (i := 6) (by decide +kernel)))) (by decide +kernel)
theorem q1925 : Cond.code ⟨"DeskRingsModel", "below", "(I)I"⟩ prog_14_method_120_code 2 (some .int) ∈ GW := gw_of (gw_t (gw_9 (List.mem_of_getElem? (i := 5) (by decide +kernel)))) (by decide +kernel)
theorem zk_X12_below : ZK Y_X12_below 1 := ⟨q1925, q13, ⟨by decide, by decide⟩, by decide +kernel⟩
theorem q1924 : Cond.instanceMethod ⟨"DeskRingsModel", "below", "(I)I"⟩ ∈ GW := gw_of (gw_t (gw_9 (List.mem_of_getElem? (i := 4) (by decide +kernel)))) (by decide +kernel)
theorem qs121 : Cond.selects "DeskRingsModel" ⟨"DeskRingsModel", "below", "(I)I"⟩ ⟨"DeskRingsModel", "below", "(I)I"⟩ ∈ GW := gw_of (List.mem_append_left _ (List.mem_of_getElem? (i := 121) (by decide +kernel))) (by decide +kernel)
theorem zi_X12_below : Cond.instanceMethod Y_X12_below.1 ∈ GW ∧ Cond.selects Y_X12_below.1.cls Y_X12_below.1 Y_X12_below.1 ∈ GW := ⟨q1924, qs121⟩
theorem q1922 : Cond.methodLink "DeskRingsModel" 427 ⟨"DeskRingsModel", "below", "(I)I"⟩ ∈ GW := gw_of (gw_t (gw_9 (List.mem_of_getElem? (i := 2) (by decide +kernel)))) (by decide +kernel)
theorem q1921 : Cond.code ⟨"DeskRingsModel", "draws", "()V"⟩ prog_14_method_121_code 4 (none : Option Jvm.ClassFile.FieldType) ∈ GW := gw_of (gw_t (gw_9 (List.mem_of_getElem? (i := 1) (by decide +kernel)))) (by decide +kernel)
theorem zk_X12_draws : ZK Y_X12_draws 0 := ⟨q1921, q13, ⟨by decide, by decide⟩, by decide +kernel⟩
theorem q1920 : Cond.instanceMethod ⟨"DeskRingsModel", "draws", "()V"⟩ ∈ GW := gw_of (gw_t (gw_9 (List.mem_of_getElem? (i := 0) (by decide +kernel)))) (by decide +kernel)
theorem qs120 : Cond.selects "DeskRingsModel" ⟨"DeskRingsModel", "draws", "()V"⟩ ⟨"DeskRingsModel", "draws", "()V"⟩ ∈ GW := gw_of (List.mem_append_left _ (List.mem_of_getElem? (i := 120) (by decide +kernel))) (by decide +kernel)
theorem zi_X12_draws : Cond.instanceMethod Y_X12_draws.1 ∈ GW ∧ Cond.selects Y_X12_draws.1.cls Y_X12_draws.1 Y_X12_draws.1 ∈ GW := ⟨q1920, qs120⟩
theorem q1918 : Cond.methodLink "DeskRingsModel" 430 ⟨"DeskRingsModel", "draws", "()V"⟩ ∈ GW := gw_of (gw_t (gw_8 (List.mem_of_getElem? (i := 238) (by decide +kernel)))) (by decide +kernel)
theorem q1640 : Cond.code ⟨"DeskRingsModel", "nowOf", "(I)I"⟩ prog_14_method_49_code 3 (some .int) ∈ GW := gw_of (gw_t (gw_7 (List.mem_of_getElem? (i := 200) (by decide +kernel)))) (by decide +kernel)
theorem zk_X12_nowOf : ZK Y_X12_nowOf 1 := ⟨q1640, q13, ⟨by decide, by decide⟩, by decide +kernel⟩
theorem q1639 : Cond.instanceMethod ⟨"DeskRingsModel", "nowOf", "(I)I"⟩ ∈ GW := gw_of (gw_t (gw_7 (List.mem_of_getElem? (i := 199) (by decide +kernel)))) (by decide +kernel)
theorem qs82 : Cond.selects "DeskRingsModel" ⟨"DeskRingsModel", "nowOf", "(I)I"⟩ ⟨"DeskRingsModel", "nowOf", "(I)I"⟩ ∈ GW := gw_of (List.mem_append_left _ (List.mem_of_getElem? (i := 82) (by decide +kernel))) (by decide +kernel)
theorem zi_X12_nowOf : Cond.instanceMethod Y_X12_nowOf.1 ∈ GW ∧ Cond.selects Y_X12_nowOf.1.cls Y_X12_nowOf.1 Y_X12_nowOf.1 ∈ GW := ⟨q1639, qs82⟩
theorem q1637 : Cond.methodLink "DeskRingsModel" 262 ⟨"DeskRingsModel", "nowOf", "(I)I"⟩ ∈ GW := gw_of (gw_t (gw_7 (List.mem_of_getElem? (i := 197) (by decide +kernel)))) (by decide +kernel)
theorem q1359 : Cond.fieldLink "DeskRingsModel" 51 "DeskRingsModel" "duty" "[I" ∈ GW := gw_of (gw_t (gw_6 (List.mem_of_getElem? (i := 159) (by decide +kernel)))) (by decide +kernel)
theorem fl_12_51 : FL "DeskRingsModel" 51 12 42 (.array .int) true := ⟨R12, T12, 44, rfl, by decide, q1359, by decide +kernel, rfl, rfl⟩
theorem q1893 : Cond.code ⟨"DeskRingsModel", "mayServe", "(II)Z"⟩ prog_14_method_112_code 3 (some .boolean) ∈ GW := gw_of (gw_t (gw_8 (List.mem_of_getElem? (i := 213) (by decide +kernel)))) (by decide +kernel)
theorem zk_X12_mayServe : ZK Y_X12_mayServe 2 := ⟨q1893, q13, ⟨by decide, by decide⟩, by decide +kernel⟩
theorem q1892 : Cond.instanceMethod ⟨"DeskRingsModel", "mayServe", "(II)Z"⟩ ∈ GW := gw_of (gw_t (gw_8 (List.mem_of_getElem? (i := 212) (by decide +kernel)))) (by decide +kernel)
theorem qs118 : Cond.selects "DeskRingsModel" ⟨"DeskRingsModel", "mayServe", "(II)Z"⟩ ⟨"DeskRingsModel", "mayServe", "(II)Z"⟩ ∈ GW := gw_of (List.mem_append_left _ (List.mem_of_getElem? (i := 118) (by decide +kernel))) (by decide +kernel)
theorem zi_X12_mayServe : Cond.instanceMethod Y_X12_mayServe.1 ∈ GW ∧ Cond.selects Y_X12_mayServe.1.cls Y_X12_mayServe.1 Y_X12_mayServe.1 ∈ GW := ⟨q1892, qs118⟩
theorem q1890 : Cond.methodLink "DeskRingsModel" 414 ⟨"DeskRingsModel", "mayServe", "(II)Z"⟩ ∈ GW := gw_of (gw_t (gw_8 (List.mem_of_getElem? (i := 210) (by decide +kernel)))) (by decide +kernel)
theorem q1889 : Cond.code ⟨"DeskRingsModel", "serves", "(I)V"⟩ prog_14_method_113_code 7 (none : Option Jvm.ClassFile.FieldType) ∈ GW := gw_of (gw_t (gw_8 (List.mem_of_getElem? (i := 209) (by decide +kernel)))) (by decide +kernel)
theorem zk_X12_serves : ZK Y_X12_serves 1 := ⟨q1889, q13, ⟨by decide, by decide⟩, by decide +kernel⟩
theorem q1888 : Cond.instanceMethod ⟨"DeskRingsModel", "serves", "(I)V"⟩ ∈ GW := gw_of (gw_t (gw_8 (List.mem_of_getElem? (i := 208) (by decide +kernel)))) (by decide +kernel)
theorem qs117 : Cond.selects "DeskRingsModel" ⟨"DeskRingsModel", "serves", "(I)V"⟩ ⟨"DeskRingsModel", "serves", "(I)V"⟩ ∈ GW := gw_of (List.mem_append_left _ (List.mem_of_getElem? (i := 117) (by decide +kernel))) (by decide +kernel)
theorem zi_X12_serves : Cond.instanceMethod Y_X12_serves.1 ∈ GW ∧ Cond.selects Y_X12_serves.1.cls Y_X12_serves.1 Y_X12_serves.1 ∈ GW := ⟨q1888, qs117⟩
theorem q1886 : Cond.methodLink "DeskRingsModel" 417 ⟨"DeskRingsModel", "serves", "(I)V"⟩ ∈ GW := gw_of (gw_t (gw_8 (List.mem_of_getElem? (i := 206) (by decide +kernel)))) (by decide +kernel)
theorem q1668 : Cond.code ⟨"DeskRingsModel", "weightOf", "(I)J"⟩ prog_14_method_58_code 5 (some .long) ∈ GW := gw_of (gw_t (gw_7 (List.mem_of_getElem? (i := 228) (by decide +kernel)))) (by decide +kernel)
theorem zk_X12_weightOf : ZK Y_X12_weightOf 1 := ⟨q1668, q13, ⟨by decide, by decide⟩, by decide +kernel⟩
theorem q1667 : Cond.instanceMethod ⟨"DeskRingsModel", "weightOf", "(I)J"⟩ ∈ GW := gw_of (gw_t (gw_7 (List.mem_of_getElem? (i := 227) (by decide +kernel)))) (by decide +kernel)
theorem qs85 : Cond.selects "DeskRingsModel" ⟨"DeskRingsModel", "weightOf", "(I)J"⟩ ⟨"DeskRingsModel", "weightOf", "(I)J"⟩ ∈ GW := gw_of (List.mem_append_left _ (List.mem_of_getElem? (i := 85) (by decide +kernel))) (by decide +kernel)
theorem zi_X12_weightOf : Cond.instanceMethod Y_X12_weightOf.1 ∈ GW ∧ Cond.selects Y_X12_weightOf.1.cls Y_X12_weightOf.1 Y_X12_weightOf.1 ∈ GW := ⟨q1667, qs85⟩
theorem q1665 : Cond.methodLink "DeskRingsModel" 277 ⟨"DeskRingsModel", "weightOf", "(I)J"⟩ ∈ GW := gw_of (gw_t (gw_7 (List.mem_of_getElem? (i := 225) (by decide +kernel)))) (by decide +kernel)
theorem q1655 : Cond.code ⟨"DeskRingsModel", "areLifted", "(I)Z"⟩ prog_14_method_53_code 4 (some .boolean) ∈ GW := gw_of (gw_t (gw_7 (List.mem_of_getElem? (i := 215) (by decide +kernel)))) (by decide +kernel)
theorem zk_X12_areLifted : ZK Y_X12_areLifted 1 := ⟨q1655, q13, ⟨by decide, by decide⟩, by decide +kernel⟩
theorem q1654 : Cond.instanceMethod ⟨"DeskRingsModel", "areLifted", "(I)Z"⟩ ∈ GW := gw_of (gw_t (gw_7 (List.mem_of_getElem? (i := 214) (by decide +kernel)))) (by decide +kernel)
theorem qs83 : Cond.selects "DeskRingsModel" ⟨"DeskRingsModel", "areLifted", "(I)Z"⟩ ⟨"DeskRingsModel", "areLifted", "(I)Z"⟩ ∈ GW := gw_of (List.mem_append_left _ (List.mem_of_getElem? (i := 83) (by decide +kernel))) (by decide +kernel)
theorem zi_X12_areLifted : Cond.instanceMethod Y_X12_areLifted.1 ∈ GW ∧ Cond.selects Y_X12_areLifted.1.cls Y_X12_areLifted.1 Y_X12_areLifted.1 ∈ GW := ⟨q1654, qs83⟩
theorem q1652 : Cond.methodLink "DeskRingsModel" 268 ⟨"DeskRingsModel", "areLifted", "(I)Z"⟩ ∈ GW := gw_of (gw_t (gw_7 (List.mem_of_getElem? (i := 212) (by decide +kernel)))) (by decide +kernel)
theorem q1348 : Cond.fieldLink "DeskRingsModel" 294 "DeskRingsModel" "playing" "I" ∈ GW := gw_of (gw_t (gw_6 (List.mem_of_getElem? (i := 148) (by decide +kernel)))) (by decide +kernel)
theorem fl_12_294 : FL "DeskRingsModel" 294 12 31 .int false := ⟨R12, T12, 44, rfl, by decide, q1348, by decide +kernel, rfl, rfl⟩
theorem q1347 : Cond.fieldLink "DeskRingsModel" 32 "DeskRingsModel" "players" "[I" ∈ GW := gw_of (gw_t (gw_6 (List.mem_of_getElem? (i := 147) (by decide +kernel)))) (by decide +kernel)
theorem fl_12_32 : FL "DeskRingsModel" 32 12 30 (.array .int) true := ⟨R12, T12, 44, rfl, by decide, q1347, by decide +kernel, rfl, rfl⟩
theorem q1349 : Cond.fieldLink "DeskRingsModel" 297 "DeskRingsModel" "lifts" "I" ∈ GW := gw_of (gw_t (gw_6 (List.mem_of_getElem? (i := 149) (by decide +kernel)))) (by decide +kernel)
theorem fl_12_297 : FL "DeskRingsModel" 297 12 32 .int false := ⟨R12, T12, 44, rfl, by decide, q1349, by decide +kernel, rfl, rfl⟩
theorem q1350 : Cond.fieldLink "DeskRingsModel" 300 "DeskRingsModel" "least" "I" ∈ GW := gw_of (gw_t (gw_6 (List.mem_of_getElem? (i := 150) (by decide +kernel)))) (by decide +kernel)
theorem fl_12_300 : FL "DeskRingsModel" 300 12 33 .int false := ⟨R12, T12, 44, rfl, by decide, q1350, by decide +kernel, rfl, rfl⟩
theorem q1710 : Cond.code ⟨"DeskRingsModel", "saidOf", "(II)I"⟩ prog_14_method_63_code 3 (some .int) ∈ GW := gw_of (gw_t (gw_8 (List.mem_of_getElem? (i := 30) (by decide +kernel)))) (by decide +kernel)
theorem zk_X12_saidOf : ZK Y_X12_saidOf 2 := ⟨q1710, q13, ⟨by decide, by decide⟩, by decide +kernel⟩
theorem q1709 : Cond.instanceMethod ⟨"DeskRingsModel", "saidOf", "(II)I"⟩ ∈ GW := gw_of (gw_t (gw_8 (List.mem_of_getElem? (i := 29) (by decide +kernel)))) (by decide +kernel)
theorem qs91 : Cond.selects "DeskRingsModel" ⟨"DeskRingsModel", "saidOf", "(II)I"⟩ ⟨"DeskRingsModel", "saidOf", "(II)I"⟩ ∈ GW := gw_of (List.mem_append_left _ (List.mem_of_getElem? (i := 91) (by decide +kernel))) (by decide +kernel)
theorem zi_X12_saidOf : Cond.instanceMethod Y_X12_saidOf.1 ∈ GW ∧ Cond.selects Y_X12_saidOf.1.cls Y_X12_saidOf.1 Y_X12_saidOf.1 ∈ GW := ⟨q1709, qs91⟩
theorem q1707 : Cond.methodLink "DeskRingsModel" 303 ⟨"DeskRingsModel", "saidOf", "(II)I"⟩ ∈ GW := gw_of (gw_t (gw_8 (List.mem_of_getElem? (i := 27) (by decide +kernel)))) (by decide +kernel)
theorem q1706 : Cond.code ⟨"DeskRingsModel", "waits", "(II)V"⟩ prog_14_method_64_code 5 (none : Option Jvm.ClassFile.FieldType) ∈ GW := gw_of (gw_t (gw_8 (List.mem_of_getElem? (i := 26) (by decide +kernel)))) (by decide +kernel)
theorem zk_X12_waits : ZK Y_X12_waits 2 := ⟨q1706, q13, ⟨by decide, by decide⟩, by decide +kernel⟩
theorem q1705 : Cond.instanceMethod ⟨"DeskRingsModel", "waits", "(II)V"⟩ ∈ GW := gw_of (gw_t (gw_8 (List.mem_of_getElem? (i := 25) (by decide +kernel)))) (by decide +kernel)
theorem qs90 : Cond.selects "DeskRingsModel" ⟨"DeskRingsModel", "waits", "(II)V"⟩ ⟨"DeskRingsModel", "waits", "(II)V"⟩ ∈ GW := gw_of (List.mem_append_left _ (List.mem_of_getElem? (i := 90) (by decide +kernel))) (by decide +kernel)
theorem zi_X12_waits : Cond.instanceMethod Y_X12_waits.1 ∈ GW ∧ Cond.selects Y_X12_waits.1.cls Y_X12_waits.1 Y_X12_waits.1 ∈ GW := ⟨q1705, qs90⟩
theorem q1703 : Cond.methodLink "DeskRingsModel" 306 ⟨"DeskRingsModel", "waits", "(II)V"⟩ ∈ GW := gw_of (gw_t (gw_8 (List.mem_of_getElem? (i := 23) (by decide +kernel)))) (by decide +kernel)
theorem q1702 : Cond.code ⟨"DeskRingsModel", "winsOf", "(IIII)I"⟩ prog_14_method_65_code 5 (some .int) ∈ GW := gw_of (gw_t (gw_8 (List.mem_of_getElem? (i := 22) (by decide +kernel)))) (by decide +kernel)
theorem zk_X12_winsOf : ZK Y_X12_winsOf 4 := ⟨q1702, q13, ⟨by decide, by decide⟩, by decide +kernel⟩
theorem q1701 : Cond.instanceMethod ⟨"DeskRingsModel", "winsOf", "(IIII)I"⟩ ∈ GW := gw_of (gw_t (gw_8 (List.mem_of_getElem? (i := 21) (by decide +kernel)))) (by decide +kernel)
theorem qs89 : Cond.selects "DeskRingsModel" ⟨"DeskRingsModel", "winsOf", "(IIII)I"⟩ ⟨"DeskRingsModel", "winsOf", "(IIII)I"⟩ ∈ GW := gw_of (List.mem_append_left _ (List.mem_of_getElem? (i := 89) (by decide +kernel))) (by decide +kernel)
theorem zi_X12_winsOf : Cond.instanceMethod Y_X12_winsOf.1 ∈ GW ∧ Cond.selects Y_X12_winsOf.1.cls Y_X12_winsOf.1 Y_X12_winsOf.1 ∈ GW := ⟨q1701, qs89⟩
theorem q1699 : Cond.methodLink "DeskRingsModel" 309 ⟨"DeskRingsModel", "winsOf", "(IIII)I"⟩ ∈ GW := gw_of (gw_t (gw_8 (List.mem_of_getElem? (i := 19) (by decide +kernel)))) (by decide +kernel)
theorem q1698 : Cond.code ⟨"DeskRingsModel", "isRest", "(III)Z"⟩ prog_14_method_66_code 9 (some .boolean) ∈ GW := gw_of (gw_t (gw_8 (List.mem_of_getElem? (i := 18) (by decide +kernel)))) (by decide +kernel)
theorem zk_X12_isRest : ZK Y_X12_isRest 3 := ⟨q1698, q13, ⟨by decide, by decide⟩, by decide +kernel⟩
theorem q1697 : Cond.instanceMethod ⟨"DeskRingsModel", "isRest", "(III)Z"⟩ ∈ GW := gw_of (gw_t (gw_8 (List.mem_of_getElem? (i := 17) (by decide +kernel)))) (by decide +kernel)
theorem qs88 : Cond.selects "DeskRingsModel" ⟨"DeskRingsModel", "isRest", "(III)Z"⟩ ⟨"DeskRingsModel", "isRest", "(III)Z"⟩ ∈ GW := gw_of (List.mem_append_left _ (List.mem_of_getElem? (i := 88) (by decide +kernel))) (by decide +kernel)
theorem zi_X12_isRest : Cond.instanceMethod Y_X12_isRest.1 ∈ GW ∧ Cond.selects Y_X12_isRest.1.cls Y_X12_isRest.1 Y_X12_isRest.1 ∈ GW := ⟨q1697, qs88⟩
theorem q1695 : Cond.methodLink "DeskRingsModel" 319 ⟨"DeskRingsModel", "isRest", "(III)Z"⟩ ∈ GW := gw_of (gw_t (gw_8 (List.mem_of_getElem? (i := 15) (by decide +kernel)))) (by decide +kernel)
theorem q1690 : Cond.code ⟨"DeskRingsModel", "plays", "(I)V"⟩ prog_14_method_62_code 3 (none : Option Jvm.ClassFile.FieldType) ∈ GW := gw_of (gw_t (gw_8 (List.mem_of_getElem? (i := 10) (by decide +kernel)))) (by decide +kernel)
theorem zk_X12_plays : ZK Y_X12_plays 1 := ⟨q1690, q13, ⟨by decide, by decide⟩, by decide +kernel⟩
theorem q1689 : Cond.instanceMethod ⟨"DeskRingsModel", "plays", "(I)V"⟩ ∈ GW := gw_of (gw_t (gw_8 (List.mem_of_getElem? (i := 9) (by decide +kernel)))) (by decide +kernel)
theorem qs86 : Cond.selects "DeskRingsModel" ⟨"DeskRingsModel", "plays", "(I)V"⟩ ⟨"DeskRingsModel", "plays", "(I)V"⟩ ∈ GW := gw_of (List.mem_append_left _ (List.mem_of_getElem? (i := 86) (by decide +kernel))) (by decide +kernel)
theorem zi_X12_plays : Cond.instanceMethod Y_X12_plays.1 ∈ GW ∧ Cond.selects Y_X12_plays.1.cls Y_X12_plays.1 Y_X12_plays.1 ∈ GW := ⟨q1689, qs86⟩
theorem q1694 : Cond.code ⟨"DeskRingsModel", "quickOf", "(II)I"⟩ prog_14_method_68_code 5 (some .int) ∈ GW := gw_of (gw_t (gw_8 (List.mem_of_getElem? (i := 14) (by decide +kernel)))) (by decide +kernel)
theorem zk_X12_quickOf : ZK Y_X12_quickOf 2 := ⟨q1694, q13, ⟨by decide, by decide⟩, by decide +kernel⟩
theorem q1693 : Cond.instanceMethod ⟨"DeskRingsModel", "quickOf", "(II)I"⟩ ∈ GW := gw_of (gw_t (gw_8 (List.mem_of_getElem? (i := 13) (by decide +kernel)))) (by decide +kernel)
theorem qs87 : Cond.selects "DeskRingsModel" ⟨"DeskRingsModel", "quickOf", "(II)I"⟩ ⟨"DeskRingsModel", "quickOf", "(II)I"⟩ ∈ GW := gw_of (List.mem_append_left _ (List.mem_of_getElem? (i := 87) (by decide +kernel))) (by decide +kernel)
theorem zi_X12_quickOf : Cond.instanceMethod Y_X12_quickOf.1 ∈ GW ∧ Cond.selects Y_X12_quickOf.1.cls Y_X12_quickOf.1 Y_X12_quickOf.1 ∈ GW := ⟨q1693, qs87⟩
theorem q1691 : Cond.methodLink "DeskRingsModel" 316 ⟨"DeskRingsModel", "quickOf", "(II)I"⟩ ∈ GW := gw_of (gw_t (gw_8 (List.mem_of_getElem? (i := 11) (by decide +kernel)))) (by decide +kernel)
theorem q1687 : Cond.methodLink "DeskRingsModel" 313 ⟨"DeskRingsModel", "plays", "(I)V"⟩ ∈ GW := gw_of (gw_t (gw_8 (List.mem_of_getElem? (i := 7) (by decide +kernel)))) (by decide +kernel)
theorem q1353 : Cond.fieldLink "DeskRingsModel" 39 "DeskRingsModel" "by" "[I" ∈ GW := gw_of (gw_t (gw_6 (List.mem_of_getElem? (i := 153) (by decide +kernel)))) (by decide +kernel)
theorem fl_12_39 : FL "DeskRingsModel" 39 12 36 (.array .int) true := ⟨R12, T12, 44, rfl, by decide, q1353, by decide +kernel, rfl, rfl⟩
theorem q1766 : Cond.code ⟨"DeskRingsModel", "greatestOf", "(I)I"⟩ prog_14_method_81_code 4 (some .int) ∈ GW := gw_of (gw_t (gw_8 (List.mem_of_getElem? (i := 86) (by decide +kernel)))) (by decide +kernel)
theorem zk_X12_greatestOf : ZK Y_X12_greatestOf 1 := ⟨q1766, q13, ⟨by decide, by decide⟩, by decide +kernel⟩
theorem q1765 : Cond.instanceMethod ⟨"DeskRingsModel", "greatestOf", "(I)I"⟩ ∈ GW := gw_of (gw_t (gw_8 (List.mem_of_getElem? (i := 85) (by decide +kernel)))) (by decide +kernel)
theorem qs101 : Cond.selects "DeskRingsModel" ⟨"DeskRingsModel", "greatestOf", "(I)I"⟩ ⟨"DeskRingsModel", "greatestOf", "(I)I"⟩ ∈ GW := gw_of (List.mem_append_left _ (List.mem_of_getElem? (i := 101) (by decide +kernel))) (by decide +kernel)
theorem zi_X12_greatestOf : Cond.instanceMethod Y_X12_greatestOf.1 ∈ GW ∧ Cond.selects Y_X12_greatestOf.1.cls Y_X12_greatestOf.1 Y_X12_greatestOf.1 ∈ GW := ⟨q1765, qs101⟩
theorem q1763 : Cond.methodLink "DeskRingsModel" 345 ⟨"DeskRingsModel", "greatestOf", "(I)I"⟩ ∈ GW := gw_of (gw_t (gw_8 (List.mem_of_getElem? (i := 83) (by decide +kernel)))) (by decide +kernel)
theorem q1750 : Cond.code ⟨"DeskRingsModel", "fitting", "()I"⟩ prog_14_method_79_code 3 (some .int) ∈ GW := gw_of (gw_t (gw_8 (List.mem_of_getElem? (i := 70) (by decide +kernel)))) (by decide +kernel)
theorem zk_X12_fitting : ZK Y_X12_fitting 0 := ⟨q1750, q13, ⟨by decide, by decide⟩, by decide +kernel⟩
theorem q1749 : Cond.instanceMethod ⟨"DeskRingsModel", "fitting", "()I"⟩ ∈ GW := gw_of (gw_t (gw_8 (List.mem_of_getElem? (i := 69) (by decide +kernel)))) (by decide +kernel)
theorem qs97 : Cond.selects "DeskRingsModel" ⟨"DeskRingsModel", "fitting", "()I"⟩ ⟨"DeskRingsModel", "fitting", "()I"⟩ ∈ GW := gw_of (List.mem_append_left _ (List.mem_of_getElem? (i := 97) (by decide +kernel))) (by decide +kernel)
theorem zi_X12_fitting : Cond.instanceMethod Y_X12_fitting.1 ∈ GW ∧ Cond.selects Y_X12_fitting.1.cls Y_X12_fitting.1 Y_X12_fitting.1 ∈ GW := ⟨q1749, qs97⟩
theorem q1762 : Cond.code ⟨"DeskRingsModel", "tryOf", "()I"⟩ prog_14_method_82_code 5 (some .int) ∈ GW := gw_of (gw_t (gw_8 (List.mem_of_getElem? (i := 82) (by decide +kernel)))) (by decide +kernel)
theorem zk_X12_tryOf : ZK Y_X12_tryOf 0 := ⟨q1762, q13, ⟨by decide, by decide⟩, by decide +kernel⟩
theorem q1761 : Cond.instanceMethod ⟨"DeskRingsModel", "tryOf", "()I"⟩ ∈ GW := gw_of (gw_t (gw_8 (List.mem_of_getElem? (i := 81) (by decide +kernel)))) (by decide +kernel)
theorem qs100 : Cond.selects "DeskRingsModel" ⟨"DeskRingsModel", "tryOf", "()I"⟩ ⟨"DeskRingsModel", "tryOf", "()I"⟩ ∈ GW := gw_of (List.mem_append_left _ (List.mem_of_getElem? (i := 100) (by decide +kernel))) (by decide +kernel)
theorem zi_X12_tryOf : Cond.instanceMethod Y_X12_tryOf.1 ∈ GW ∧ Cond.selects Y_X12_tryOf.1.cls Y_X12_tryOf.1 Y_X12_tryOf.1 ∈ GW := ⟨q1761, qs100⟩
theorem q1759 : Cond.methodLink "DeskRingsModel" 356 ⟨"DeskRingsModel", "tryOf", "()I"⟩ ∈ GW := gw_of (gw_t (gw_8 (List.mem_of_getElem? (i := 79) (by decide +kernel)))) (by decide +kernel)
theorem q1770 : Cond.code ⟨"DeskRingsModel", "sureOf", "(Z)I"⟩ prog_14_method_80_code 4 (some .int) ∈ GW := gw_of (gw_t (gw_8 (List.mem_of_getElem? (i := 90) (by decide +kernel)))) (by decide +kernel)
theorem zk_X12_sureOf : ZK Y_X12_sureOf 1 := ⟨q1770, q13, ⟨by decide, by decide⟩, by decide +kernel⟩
theorem q1769 : Cond.instanceMethod ⟨"DeskRingsModel", "sureOf", "(Z)I"⟩ ∈ GW := gw_of (gw_t (gw_8 (List.mem_of_getElem? (i := 89) (by decide +kernel)))) (by decide +kernel)
theorem qs102 : Cond.selects "DeskRingsModel" ⟨"DeskRingsModel", "sureOf", "(Z)I"⟩ ⟨"DeskRingsModel", "sureOf", "(Z)I"⟩ ∈ GW := gw_of (List.mem_append_left _ (List.mem_of_getElem? (i := 102) (by decide +kernel))) (by decide +kernel)
theorem zi_X12_sureOf : Cond.instanceMethod Y_X12_sureOf.1 ∈ GW ∧ Cond.selects Y_X12_sureOf.1.cls Y_X12_sureOf.1 Y_X12_sureOf.1 ∈ GW := ⟨q1769, qs102⟩
theorem q1767 : Cond.methodLink "DeskRingsModel" 359 ⟨"DeskRingsModel", "sureOf", "(Z)I"⟩ ∈ GW := gw_of (gw_t (gw_8 (List.mem_of_getElem? (i := 87) (by decide +kernel)))) (by decide +kernel)
theorem q1747 : Cond.methodLink "DeskRingsModel" 352 ⟨"DeskRingsModel", "fitting", "()I"⟩ ∈ GW := gw_of (gw_t (gw_8 (List.mem_of_getElem? (i := 67) (by decide +kernel)))) (by decide +kernel)
theorem q1358 : Cond.fieldLink "DeskRingsModel" 48 "DeskRingsModel" "worth" "[I" ∈ GW := gw_of (gw_t (gw_6 (List.mem_of_getElem? (i := 158) (by decide +kernel)))) (by decide +kernel)
theorem fl_12_48 : FL "DeskRingsModel" 48 12 41 (.array .int) true := ⟨R12, T12, 44, rfl, by decide, q1358, by decide +kernel, rfl, rfl⟩
theorem q1861 : Cond.code ⟨"DeskRingsModel", "mayHave", "(II)Z"⟩ prog_14_method_104_code 3 (some .boolean) ∈ GW := gw_of (gw_t (gw_8 (List.mem_of_getElem? (i := 181) (by decide +kernel)))) (by decide +kernel)
theorem zk_X12_mayHave : ZK Y_X12_mayHave 2 := ⟨q1861, q13, ⟨by decide, by decide⟩, by decide +kernel⟩
theorem q1860 : Cond.instanceMethod ⟨"DeskRingsModel", "mayHave", "(II)Z"⟩ ∈ GW := gw_of (gw_t (gw_8 (List.mem_of_getElem? (i := 180) (by decide +kernel)))) (by decide +kernel)
theorem qs115 : Cond.selects "DeskRingsModel" ⟨"DeskRingsModel", "mayHave", "(II)Z"⟩ ⟨"DeskRingsModel", "mayHave", "(II)Z"⟩ ∈ GW := gw_of (List.mem_append_left _ (List.mem_of_getElem? (i := 115) (by decide +kernel))) (by decide +kernel)
theorem zi_X12_mayHave : Cond.instanceMethod Y_X12_mayHave.1 ∈ GW ∧ Cond.selects Y_X12_mayHave.1.cls Y_X12_mayHave.1 Y_X12_mayHave.1 ∈ GW := ⟨q1860, qs115⟩
theorem q1858 : Cond.methodLink "DeskRingsModel" 405 ⟨"DeskRingsModel", "mayHave", "(II)Z"⟩ ∈ GW := gw_of (gw_t (gw_8 (List.mem_of_getElem? (i := 178) (by decide +kernel)))) (by decide +kernel)
theorem q1857 : Cond.code ⟨"DeskRingsModel", "gives", "()V"⟩ prog_14_method_105_code 6 (none : Option Jvm.ClassFile.FieldType) ∈ GW := gw_of (gw_t (gw_8 (List.mem_of_getElem? (i := 177) (by decide +kernel)))) (by decide +kernel)
theorem zk_X12_gives : ZK Y_X12_gives 0 := ⟨q1857, q13, ⟨by decide, by decide⟩, by decide +kernel⟩
theorem q1856 : Cond.instanceMethod ⟨"DeskRingsModel", "gives", "()V"⟩ ∈ GW := gw_of (gw_t (gw_8 (List.mem_of_getElem? (i := 176) (by decide +kernel)))) (by decide +kernel)
theorem qs114 : Cond.selects "DeskRingsModel" ⟨"DeskRingsModel", "gives", "()V"⟩ ⟨"DeskRingsModel", "gives", "()V"⟩ ∈ GW := gw_of (List.mem_append_left _ (List.mem_of_getElem? (i := 114) (by decide +kernel))) (by decide +kernel)
theorem zi_X12_gives : Cond.instanceMethod Y_X12_gives.1 ∈ GW ∧ Cond.selects Y_X12_gives.1.cls Y_X12_gives.1 Y_X12_gives.1 ∈ GW := ⟨q1856, qs114⟩
theorem q1854 : Cond.methodLink "DeskRingsModel" 408 ⟨"DeskRingsModel", "gives", "()V"⟩ ∈ GW := gw_of (gw_t (gw_8 (List.mem_of_getElem? (i := 174) (by decide +kernel)))) (by decide +kernel)
theorem q1327 : Cond.fieldLink "DeskRingsModel" 17 "DeskRingsModel" "read" "[I" ∈ GW := gw_of (gw_t (gw_6 (List.mem_of_getElem? (i := 127) (by decide +kernel)))) (by decide +kernel)
theorem fl_12_17 : FL "DeskRingsModel" 17 12 10 (.array .int) true := ⟨R12, T12, 44, rfl, by decide, q1327, by decide +kernel, rfl, rfl⟩
theorem q1450 : Cond.arrayClass Jvm.ClassFile.FieldType.long ∈ GW := gw_of (gw_t (gw_7 (List.mem_of_getElem? (i := 10) (by decide +kernel)))) (by decide +kernel)
theorem q1356 : Cond.fieldLink "DeskRingsModel" 42 "DeskRingsModel" "tried" "[I" ∈ GW := gw_of (gw_t (gw_6 (List.mem_of_getElem? (i := 156) (by decide +kernel)))) (by decide +kernel)
theorem fl_12_42 : FL "DeskRingsModel" 42 12 39 (.array .int) true := ⟨R12, T12, 44, rfl, by decide, q1356, by decide +kernel, rfl, rfl⟩
theorem q1357 : Cond.fieldLink "DeskRingsModel" 45 "DeskRingsModel" "ordered" "[I" ∈ GW := gw_of (gw_t (gw_6 (List.mem_of_getElem? (i := 157) (by decide +kernel)))) (by decide +kernel)
theorem fl_12_45 : FL "DeskRingsModel" 45 12 40 (.array .int) true := ⟨R12, T12, 44, rfl, by decide, q1357, by decide +kernel, rfl, rfl⟩
theorem q1316 : Cond.methodLink "DeskRingsModel" 1 ⟨"java/lang/Object", "<init>", "()V"⟩ ∈ GW := gw_of (gw_t (gw_6 (List.mem_of_getElem? (i := 116) (by decide +kernel)))) (by decide +kernel)
theorem q1909 : Cond.code ⟨"DeskRingsModel", "heardBy", "(I)I"⟩ prog_14_method_117_code 4 (some .int) ∈ GW := gw_of (gw_t (gw_8 (List.mem_of_getElem? (i := 229) (by decide +kernel)))) (by decide +kernel)
theorem zk_X12_heardBy : ZK Y_X12_heardBy 1 := ⟨q1909, q13, ⟨by decide, by decide⟩, by decide +kernel⟩
theorem q1908 : Cond.instanceMethod ⟨"DeskRingsModel", "heardBy", "(I)I"⟩ ∈ GW := gw_of (gw_t (gw_8 (List.mem_of_getElem? (i := 228) (by decide +kernel)))) (by decide +kernel)
theorem qs119 : Cond.selects "DeskRingsModel" ⟨"DeskRingsModel", "heardBy", "(I)I"⟩ ⟨"DeskRingsModel", "heardBy", "(I)I"⟩ ∈ GW := gw_of (List.mem_append_left _ (List.mem_of_getElem? (i := 119) (by decide +kernel))) (by decide +kernel)
theorem zi_X12_heardBy : Cond.instanceMethod Y_X12_heardBy.1 ∈ GW ∧ Cond.selects Y_X12_heardBy.1.cls Y_X12_heardBy.1 Y_X12_heardBy.1 ∈ GW := ⟨q1908, qs119⟩
theorem q1906 : Cond.methodLink "DeskRingsModel" 420 ⟨"DeskRingsModel", "heardBy", "(I)I"⟩ ∈ GW := gw_of (gw_t (gw_8 (List.mem_of_getElem? (i := 226) (by decide +kernel)))) (by decide +kernel)
theorem q1778 : Cond.code ⟨"DeskRingsModel", "gotOf", "(II)I"⟩ prog_14_method_84_code 3 (some .int) ∈ GW := gw_of (gw_t (gw_8 (List.mem_of_getElem? (i := 98) (by decide +kernel)))) (by decide +kernel)
theorem zk_X12_gotOf : ZK Y_X12_gotOf 2 := ⟨q1778, q13, ⟨by decide, by decide⟩, by decide +kernel⟩
theorem q1777 : Cond.instanceMethod ⟨"DeskRingsModel", "gotOf", "(II)I"⟩ ∈ GW := gw_of (gw_t (gw_8 (List.mem_of_getElem? (i := 97) (by decide +kernel)))) (by decide +kernel)
theorem qs103 : Cond.selects "DeskRingsModel" ⟨"DeskRingsModel", "gotOf", "(II)I"⟩ ⟨"DeskRingsModel", "gotOf", "(II)I"⟩ ∈ GW := gw_of (List.mem_append_left _ (List.mem_of_getElem? (i := 103) (by decide +kernel))) (by decide +kernel)
theorem zi_X12_gotOf : Cond.instanceMethod Y_X12_gotOf.1 ∈ GW ∧ Cond.selects Y_X12_gotOf.1.cls Y_X12_gotOf.1 Y_X12_gotOf.1 ∈ GW := ⟨q1777, qs103⟩
theorem q1775 : Cond.methodLink "DeskRingsModel" 363 ⟨"DeskRingsModel", "gotOf", "(II)I"⟩ ∈ GW := gw_of (gw_t (gw_8 (List.mem_of_getElem? (i := 95) (by decide +kernel)))) (by decide +kernel)
theorem q1664 : Cond.code ⟨"DeskRingsModel", "sumOf", "(IZ)J"⟩ prog_14_method_59_code 6 (some .long) ∈ GW := gw_of (gw_t (gw_7 (List.mem_of_getElem? (i := 224) (by decide +kernel)))) (by decide +kernel)
theorem zk_X12_sumOf : ZK Y_X12_sumOf 2 := ⟨q1664, q13, ⟨by decide, by decide⟩, by decide +kernel⟩
theorem q1663 : Cond.instanceMethod ⟨"DeskRingsModel", "sumOf", "(IZ)J"⟩ ∈ GW := gw_of (gw_t (gw_7 (List.mem_of_getElem? (i := 223) (by decide +kernel)))) (by decide +kernel)
theorem qs84 : Cond.selects "DeskRingsModel" ⟨"DeskRingsModel", "sumOf", "(IZ)J"⟩ ⟨"DeskRingsModel", "sumOf", "(IZ)J"⟩ ∈ GW := gw_of (List.mem_append_left _ (List.mem_of_getElem? (i := 84) (by decide +kernel))) (by decide +kernel)
theorem zi_X12_sumOf : Cond.instanceMethod Y_X12_sumOf.1 ∈ GW ∧ Cond.selects Y_X12_sumOf.1.cls Y_X12_sumOf.1 Y_X12_sumOf.1 ∈ GW := ⟨q1663, qs84⟩
theorem q1661 : Cond.methodLink "DeskRingsModel" 283 ⟨"DeskRingsModel", "sumOf", "(IZ)J"⟩ ∈ GW := gw_of (gw_t (gw_7 (List.mem_of_getElem? (i := 221) (by decide +kernel)))) (by decide +kernel)
theorem q1818 : Cond.code ⟨"DeskRingsModel", "isOrder", "(II)Z"⟩ prog_14_method_94_code 6 (some .boolean) ∈ GW := gw_of (gw_t (gw_8 (List.mem_of_getElem? (i := 138) (by decide +kernel)))) (by decide +kernel)
theorem zk_X12_isOrder : ZK Y_X12_isOrder 2 := ⟨q1818, q13, ⟨by decide, by decide⟩, by decide +kernel⟩
theorem q1817 : Cond.instanceMethod ⟨"DeskRingsModel", "isOrder", "(II)Z"⟩ ∈ GW := gw_of (gw_t (gw_8 (List.mem_of_getElem? (i := 137) (by decide +kernel)))) (by decide +kernel)
theorem qs110 : Cond.selects "DeskRingsModel" ⟨"DeskRingsModel", "isOrder", "(II)Z"⟩ ⟨"DeskRingsModel", "isOrder", "(II)Z"⟩ ∈ GW := gw_of (List.mem_append_left _ (List.mem_of_getElem? (i := 110) (by decide +kernel))) (by decide +kernel)
theorem zi_X12_isOrder : Cond.instanceMethod Y_X12_isOrder.1 ∈ GW ∧ Cond.selects Y_X12_isOrder.1.cls Y_X12_isOrder.1 Y_X12_isOrder.1 ∈ GW := ⟨q1817, qs110⟩
theorem q1815 : Cond.methodLink "DeskRingsModel" 390 ⟨"DeskRingsModel", "isOrder", "(II)Z"⟩ ∈ GW := gw_of (gw_t (gw_8 (List.mem_of_getElem? (i := 135) (by decide +kernel)))) (by decide +kernel)
theorem q1837 : Cond.code ⟨"DeskRingsModel", "roomOf", "(I)I"⟩ prog_14_method_99_code 6 (some .int) ∈ GW := gw_of (gw_t (gw_8 (List.mem_of_getElem? (i := 157) (by decide +kernel)))) (by decide +kernel)
theorem zk_X12_roomOf : ZK Y_X12_roomOf 1 := ⟨q1837, q13, ⟨by decide, by decide⟩, by decide +kernel⟩
theorem q1836 : Cond.instanceMethod ⟨"DeskRingsModel", "roomOf", "(I)I"⟩ ∈ GW := gw_of (gw_t (gw_8 (List.mem_of_getElem? (i := 156) (by decide +kernel)))) (by decide +kernel)
theorem qs112 : Cond.selects "DeskRingsModel" ⟨"DeskRingsModel", "roomOf", "(I)I"⟩ ⟨"DeskRingsModel", "roomOf", "(I)I"⟩ ∈ GW := gw_of (List.mem_append_left _ (List.mem_of_getElem? (i := 112) (by decide +kernel))) (by decide +kernel)
theorem zi_X12_roomOf : Cond.instanceMethod Y_X12_roomOf.1 ∈ GW ∧ Cond.selects Y_X12_roomOf.1.cls Y_X12_roomOf.1 Y_X12_roomOf.1 ∈ GW := ⟨q1836, qs112⟩
theorem q1834 : Cond.methodLink "DeskRingsModel" 399 ⟨"DeskRingsModel", "roomOf", "(I)I"⟩ ∈ GW := gw_of (gw_t (gw_8 (List.mem_of_getElem? (i := 154) (by decide +kernel)))) (by decide +kernel)
theorem q1845 : Cond.code ⟨"DeskRingsModel", "seatOf", "(II)I"⟩ prog_14_method_101_code 5 (some .int) ∈ GW := gw_of (gw_t (gw_8 (List.mem_of_getElem? (i := 165) (by decide +kernel)))) (by decide +kernel)
theorem zk_X12_seatOf : ZK Y_X12_seatOf 2 := ⟨q1845, q13, ⟨by decide, by decide⟩, by decide +kernel⟩
theorem q1844 : Cond.instanceMethod ⟨"DeskRingsModel", "seatOf", "(II)I"⟩ ∈ GW := gw_of (gw_t (gw_8 (List.mem_of_getElem? (i := 164) (by decide +kernel)))) (by decide +kernel)
theorem qs113 : Cond.selects "DeskRingsModel" ⟨"DeskRingsModel", "seatOf", "(II)I"⟩ ⟨"DeskRingsModel", "seatOf", "(II)I"⟩ ∈ GW := gw_of (List.mem_append_left _ (List.mem_of_getElem? (i := 113) (by decide +kernel))) (by decide +kernel)
theorem zi_X12_seatOf : Cond.instanceMethod Y_X12_seatOf.1 ∈ GW ∧ Cond.selects Y_X12_seatOf.1.cls Y_X12_seatOf.1 Y_X12_seatOf.1 ∈ GW := ⟨q1844, qs113⟩
theorem q1842 : Cond.methodLink "DeskRingsModel" 402 ⟨"DeskRingsModel", "seatOf", "(II)I"⟩ ∈ GW := gw_of (gw_t (gw_8 (List.mem_of_getElem? (i := 162) (by decide +kernel)))) (by decide +kernel)
theorem q1319 : Cond.fieldLink "DeskRingsModel" 54 "DeskRingsModel" "size" "I" ∈ GW := gw_of (gw_t (gw_6 (List.mem_of_getElem? (i := 119) (by decide +kernel)))) (by decide +kernel)
theorem fl_12_54 : FL "DeskRingsModel" 54 12 2 .int false := ⟨R12, T12, 44, rfl, by decide, q1319, by decide +kernel, rfl, rfl⟩
theorem q1491 : Cond.code ⟨"DeskRingsModel", "four", "(IIII)J"⟩ prog_14_method_8_code 4 (some .long) ∈ GW := gw_of (gw_t (gw_7 (List.mem_of_getElem? (i := 51) (by decide +kernel)))) (by decide +kernel)
theorem zk_X12_four : ZK Y_X12_four 4 := ⟨q1491, q13, ⟨by decide, by decide⟩, by decide +kernel⟩
theorem q1492 : Cond.constantLong "DeskRingsModel" 62 (1048576 : Int64) ∈ GW := gw_of (gw_t (gw_7 (List.mem_of_getElem? (i := 52) (by decide +kernel)))) (by decide +kernel)
theorem q1489 : Cond.methodLink "DeskRingsModel" 58 ⟨"DeskRingsModel", "four", "(IIII)J"⟩ ∈ GW := gw_of (gw_t (gw_7 (List.mem_of_getElem? (i := 49) (by decide +kernel)))) (by decide +kernel)
theorem q1490 : Cond.static ⟨"DeskRingsModel", "four", "(IIII)J"⟩ ∈ GW := gw_of (gw_t (gw_7 (List.mem_of_getElem? (i := 50) (by decide +kernel)))) (by decide +kernel)
theorem q1488 : Cond.code ⟨"DeskRingsModel", "eight", "(IIIIIIII)J"⟩ prog_14_method_9_code 8 (some .long) ∈ GW := gw_of (gw_t (gw_7 (List.mem_of_getElem? (i := 48) (by decide +kernel)))) (by decide +kernel)
theorem zk_X12_eight : ZK Y_X12_eight 8 := ⟨q1488, q13, ⟨by decide, by decide⟩, by decide +kernel⟩
theorem q1486 : Cond.methodLink "DeskRingsModel" 64 ⟨"DeskRingsModel", "eight", "(IIIIIIII)J"⟩ ∈ GW := gw_of (gw_t (gw_7 (List.mem_of_getElem? (i := 46) (by decide +kernel)))) (by decide +kernel)
theorem q1487 : Cond.static ⟨"DeskRingsModel", "eight", "(IIIIIIII)J"⟩ ∈ GW := gw_of (gw_t (gw_7 (List.mem_of_getElem? (i := 47) (by decide +kernel)))) (by decide +kernel)
theorem q1320 : Cond.fieldLink "DeskRingsModel" 68 "DeskRingsModel" "next" "I" ∈ GW := gw_of (gw_t (gw_6 (List.mem_of_getElem? (i := 120) (by decide +kernel)))) (by decide +kernel)
theorem fl_12_68 : FL "DeskRingsModel" 68 12 3 .int false := ⟨R12, T12, 44, rfl, by decide, q1320, by decide +kernel, rfl, rfl⟩
theorem q1477 : Cond.code ⟨"DeskRingsModel", "byteAt", "(I)I"⟩ prog_14_method_5_code 2 (some .int) ∈ GW := gw_of (gw_t (gw_7 (List.mem_of_getElem? (i := 37) (by decide +kernel)))) (by decide +kernel)
theorem zk_X12_byteAt : ZK Y_X12_byteAt 1 := ⟨q1477, q13, ⟨by decide, by decide⟩, by decide +kernel⟩
theorem q1476 : Cond.instanceMethod ⟨"DeskRingsModel", "byteAt", "(I)I"⟩ ∈ GW := gw_of (gw_t (gw_7 (List.mem_of_getElem? (i := 36) (by decide +kernel)))) (by decide +kernel)
theorem qs53 : Cond.selects "DeskRingsModel" ⟨"DeskRingsModel", "byteAt", "(I)I"⟩ ⟨"DeskRingsModel", "byteAt", "(I)I"⟩ ∈ GW := gw_of (List.mem_append_left _ (List.mem_of_getElem? (i := 53) (by decide +kernel))) (by decide +kernel)
theorem zi_X12_byteAt : Cond.instanceMethod Y_X12_byteAt.1 ∈ GW ∧ Cond.selects Y_X12_byteAt.1.cls Y_X12_byteAt.1 Y_X12_byteAt.1 ∈ GW := ⟨q1476, qs53⟩
theorem q1474 : Cond.methodLink "DeskRingsModel" 71 ⟨"DeskRingsModel", "byteAt", "(I)I"⟩ ∈ GW := gw_of (gw_t (gw_7 (List.mem_of_getElem? (i := 34) (by decide +kernel)))) (by decide +kernel)
theorem q1321 : Cond.fieldLink "DeskRingsModel" 75 "DeskRingsModel" "where" "I" ∈ GW := gw_of (gw_t (gw_6 (List.mem_of_getElem? (i := 121) (by decide +kernel)))) (by decide +kernel)
theorem fl_12_75 : FL "DeskRingsModel" 75 12 4 .int false := ⟨R12, T12, 44, rfl, by decide, q1321, by decide +kernel, rfl, rfl⟩
theorem q1480 : Cond.code ⟨"DeskRingsModel", "isLetter", "(I)Z"⟩ prog_14_method_6_code 1 (some .boolean) ∈ GW := gw_of (gw_t (gw_7 (List.mem_of_getElem? (i := 40) (by decide +kernel)))) (by decide +kernel)
theorem zk_X12_isLetter : ZK Y_X12_isLetter 1 := ⟨q1480, q13, ⟨by decide, by decide⟩, by decide +kernel⟩
theorem q1495 : Cond.code ⟨"DeskRingsModel", "isDigit", "(I)Z"⟩ prog_14_method_7_code 1 (some .boolean) ∈ GW := gw_of (gw_t (gw_7 (List.mem_of_getElem? (i := 55) (by decide +kernel)))) (by decide +kernel)
theorem zk_X12_isDigit : ZK Y_X12_isDigit 1 := ⟨q1495, q13, ⟨by decide, by decide⟩, by decide +kernel⟩
theorem q1322 : Cond.fieldLink "DeskRingsModel" 78 "DeskRingsModel" "token" "I" ∈ GW := gw_of (gw_t (gw_6 (List.mem_of_getElem? (i := 122) (by decide +kernel)))) (by decide +kernel)
theorem fl_12_78 : FL "DeskRingsModel" 78 12 5 .int false := ⟨R12, T12, 44, rfl, by decide, q1322, by decide +kernel, rfl, rfl⟩
theorem q1323 : Cond.fieldLink "DeskRingsModel" 99 "DeskRingsModel" "number" "I" ∈ GW := gw_of (gw_t (gw_6 (List.mem_of_getElem? (i := 123) (by decide +kernel)))) (by decide +kernel)
theorem fl_12_99 : FL "DeskRingsModel" 99 12 6 .int false := ⟨R12, T12, 44, rfl, by decide, q1323, by decide +kernel, rfl, rfl⟩
theorem q1493 : Cond.methodLink "DeskRingsModel" 96 ⟨"DeskRingsModel", "isDigit", "(I)Z"⟩ ∈ GW := gw_of (gw_t (gw_7 (List.mem_of_getElem? (i := 53) (by decide +kernel)))) (by decide +kernel)
theorem q1494 : Cond.static ⟨"DeskRingsModel", "isDigit", "(I)Z"⟩ ∈ GW := gw_of (gw_t (gw_7 (List.mem_of_getElem? (i := 54) (by decide +kernel)))) (by decide +kernel)
theorem q1481 : Cond.constantLong "DeskRingsModel" 85 (32 : Int64) ∈ GW := gw_of (gw_t (gw_7 (List.mem_of_getElem? (i := 41) (by decide +kernel)))) (by decide +kernel)
theorem q1482 : Cond.constantLong "DeskRingsModel" 87 (96 : Int64) ∈ GW := gw_of (gw_t (gw_7 (List.mem_of_getElem? (i := 42) (by decide +kernel)))) (by decide +kernel)
theorem q1478 : Cond.methodLink "DeskRingsModel" 81 ⟨"DeskRingsModel", "isLetter", "(I)Z"⟩ ∈ GW := gw_of (gw_t (gw_7 (List.mem_of_getElem? (i := 38) (by decide +kernel)))) (by decide +kernel)
theorem q1479 : Cond.static ⟨"DeskRingsModel", "isLetter", "(I)Z"⟩ ∈ GW := gw_of (gw_t (gw_7 (List.mem_of_getElem? (i := 39) (by decide +kernel)))) (by decide +kernel)
theorem q1485 : Cond.code ⟨"DeskRingsModel", "wordOf", "(J)I"⟩ prog_14_method_10_code 2 (some .int) ∈ GW := gw_of (gw_t (gw_7 (List.mem_of_getElem? (i := 45) (by decide +kernel)))) (by decide +kernel)
theorem zk_X12_wordOf : ZK Y_X12_wordOf 1 := ⟨q1485, q13, ⟨by decide, by decide⟩, by decide +kernel⟩
theorem q1324 : Cond.fieldLink "DeskRingsModel" 93 "DeskRingsModel" "word" "I" ∈ GW := gw_of (gw_t (gw_6 (List.mem_of_getElem? (i := 124) (by decide +kernel)))) (by decide +kernel)
theorem fl_12_93 : FL "DeskRingsModel" 93 12 7 .int false := ⟨R12, T12, 44, rfl, by decide, q1324, by decide +kernel, rfl, rfl⟩
theorem q1483 : Cond.methodLink "DeskRingsModel" 89 ⟨"DeskRingsModel", "wordOf", "(J)I"⟩ ∈ GW := gw_of (gw_t (gw_7 (List.mem_of_getElem? (i := 43) (by decide +kernel)))) (by decide +kernel)
theorem q1484 : Cond.static ⟨"DeskRingsModel", "wordOf", "(J)I"⟩ ∈ GW := gw_of (gw_t (gw_7 (List.mem_of_getElem? (i := 44) (by decide +kernel)))) (by decide +kernel)
theorem q1325 : Cond.fieldLink "DeskRingsModel" 102 "DeskRingsModel" "wrong" "Z" ∈ GW := gw_of (gw_t (gw_6 (List.mem_of_getElem? (i := 125) (by decide +kernel)))) (by decide +kernel)
theorem fl_12_102 : FL "DeskRingsModel" 102 12 8 .boolean false := ⟨R12, T12, 44, rfl, by decide, q1325, by decide +kernel, rfl, rfl⟩
theorem q1473 : Cond.code ⟨"DeskRingsModel", "advance", "()V"⟩ prog_14_method_11_code 4 (none : Option Jvm.ClassFile.FieldType) ∈ GW := gw_of (gw_t (gw_7 (List.mem_of_getElem? (i := 33) (by decide +kernel)))) (by decide +kernel)
theorem zk_X12_advance : ZK Y_X12_advance 0 := ⟨q1473, q13, ⟨by decide, by decide⟩, by decide +kernel⟩
theorem q1472 : Cond.instanceMethod ⟨"DeskRingsModel", "advance", "()V"⟩ ∈ GW := gw_of (gw_t (gw_7 (List.mem_of_getElem? (i := 32) (by decide +kernel)))) (by decide +kernel)
theorem qs52 : Cond.selects "DeskRingsModel" ⟨"DeskRingsModel", "advance", "()V"⟩ ⟨"DeskRingsModel", "advance", "()V"⟩ ∈ GW := gw_of (List.mem_append_left _ (List.mem_of_getElem? (i := 52) (by decide +kernel))) (by decide +kernel)
theorem zi_X12_advance : Cond.instanceMethod Y_X12_advance.1 ∈ GW ∧ Cond.selects Y_X12_advance.1.cls Y_X12_advance.1 Y_X12_advance.1 ∈ GW := ⟨q1472, qs52⟩
theorem q1470 : Cond.methodLink "DeskRingsModel" 117 ⟨"DeskRingsModel", "advance", "()V"⟩ ∈ GW := gw_of (gw_t (gw_7 (List.mem_of_getElem? (i := 30) (by decide +kernel)))) (by decide +kernel)
theorem q1507 : Cond.code ⟨"DeskRingsModel", "ends", "()V"⟩ prog_14_method_12_code 1 (none : Option Jvm.ClassFile.FieldType) ∈ GW := gw_of (gw_t (gw_7 (List.mem_of_getElem? (i := 67) (by decide +kernel)))) (by decide +kernel)
theorem zk_X12_ends : ZK Y_X12_ends 0 := ⟨q1507, q13, ⟨by decide, by decide⟩, by decide +kernel⟩
theorem q1506 : Cond.instanceMethod ⟨"DeskRingsModel", "ends", "()V"⟩ ∈ GW := gw_of (gw_t (gw_7 (List.mem_of_getElem? (i := 66) (by decide +kernel)))) (by decide +kernel)
theorem qs56 : Cond.selects "DeskRingsModel" ⟨"DeskRingsModel", "ends", "()V"⟩ ⟨"DeskRingsModel", "ends", "()V"⟩ ∈ GW := gw_of (List.mem_append_left _ (List.mem_of_getElem? (i := 56) (by decide +kernel))) (by decide +kernel)
theorem zi_X12_ends : Cond.instanceMethod Y_X12_ends.1 ∈ GW ∧ Cond.selects Y_X12_ends.1.cls Y_X12_ends.1 Y_X12_ends.1 ∈ GW := ⟨q1506, qs56⟩
theorem q1504 : Cond.methodLink "DeskRingsModel" 106 ⟨"DeskRingsModel", "ends", "()V"⟩ ∈ GW := gw_of (gw_t (gw_7 (List.mem_of_getElem? (i := 64) (by decide +kernel)))) (by decide +kernel)
theorem q1515 : Cond.code ⟨"DeskRingsModel", "also", "(II)V"⟩ prog_14_method_13_code 3 (none : Option Jvm.ClassFile.FieldType) ∈ GW := gw_of (gw_t (gw_7 (List.mem_of_getElem? (i := 75) (by decide +kernel)))) (by decide +kernel)
theorem zk_X12_also : ZK Y_X12_also 2 := ⟨q1515, q13, ⟨by decide, by decide⟩, by decide +kernel⟩
theorem q1514 : Cond.instanceMethod ⟨"DeskRingsModel", "also", "(II)V"⟩ ∈ GW := gw_of (gw_t (gw_7 (List.mem_of_getElem? (i := 74) (by decide +kernel)))) (by decide +kernel)
theorem qs58 : Cond.selects "DeskRingsModel" ⟨"DeskRingsModel", "also", "(II)V"⟩ ⟨"DeskRingsModel", "also", "(II)V"⟩ ∈ GW := gw_of (List.mem_append_left _ (List.mem_of_getElem? (i := 58) (by decide +kernel))) (by decide +kernel)
theorem zi_X12_also : Cond.instanceMethod Y_X12_also.1 ∈ GW ∧ Cond.selects Y_X12_also.1.cls Y_X12_also.1 Y_X12_also.1 ∈ GW := ⟨q1514, qs58⟩
theorem q1512 : Cond.methodLink "DeskRingsModel" 113 ⟨"DeskRingsModel", "also", "(II)V"⟩ ∈ GW := gw_of (gw_t (gw_7 (List.mem_of_getElem? (i := 72) (by decide +kernel)))) (by decide +kernel)
theorem q1503 : Cond.code ⟨"DeskRingsModel", "takes", "(II)I"⟩ prog_14_method_15_code 4 (some .int) ∈ GW := gw_of (gw_t (gw_7 (List.mem_of_getElem? (i := 63) (by decide +kernel)))) (by decide +kernel)
theorem zk_X12_takes : ZK Y_X12_takes 2 := ⟨q1503, q13, ⟨by decide, by decide⟩, by decide +kernel⟩
theorem q1502 : Cond.instanceMethod ⟨"DeskRingsModel", "takes", "(II)I"⟩ ∈ GW := gw_of (gw_t (gw_7 (List.mem_of_getElem? (i := 62) (by decide +kernel)))) (by decide +kernel)
theorem qs55 : Cond.selects "DeskRingsModel" ⟨"DeskRingsModel", "takes", "(II)I"⟩ ⟨"DeskRingsModel", "takes", "(II)I"⟩ ∈ GW := gw_of (List.mem_append_left _ (List.mem_of_getElem? (i := 55) (by decide +kernel))) (by decide +kernel)
theorem zi_X12_takes : Cond.instanceMethod Y_X12_takes.1 ∈ GW ∧ Cond.selects Y_X12_takes.1.cls Y_X12_takes.1 Y_X12_takes.1 ∈ GW := ⟨q1502, qs55⟩
theorem q1519 : Cond.code ⟨"DeskRingsModel", "numbered", "(II)I"⟩ prog_14_method_14_code 4 (some .int) ∈ GW := gw_of (gw_t (gw_7 (List.mem_of_getElem? (i := 79) (by decide +kernel)))) (by decide +kernel)
theorem zk_X12_numbered : ZK Y_X12_numbered 2 := ⟨q1519, q13, ⟨by decide, by decide⟩, by decide +kernel⟩
theorem q1518 : Cond.instanceMethod ⟨"DeskRingsModel", "numbered", "(II)I"⟩ ∈ GW := gw_of (gw_t (gw_7 (List.mem_of_getElem? (i := 78) (by decide +kernel)))) (by decide +kernel)
theorem qs59 : Cond.selects "DeskRingsModel" ⟨"DeskRingsModel", "numbered", "(II)I"⟩ ⟨"DeskRingsModel", "numbered", "(II)I"⟩ ∈ GW := gw_of (List.mem_append_left _ (List.mem_of_getElem? (i := 59) (by decide +kernel))) (by decide +kernel)
theorem zi_X12_numbered : Cond.instanceMethod Y_X12_numbered.1 ∈ GW ∧ Cond.selects Y_X12_numbered.1.cls Y_X12_numbered.1 Y_X12_numbered.1 ∈ GW := ⟨q1518, qs59⟩
theorem q1527 : Cond.code ⟨"DeskRingsModel", "endsLine", "()V"⟩ prog_14_method_16_code 1 (none : Option Jvm.ClassFile.FieldType) ∈ GW := gw_of (gw_t (gw_7 (List.mem_of_getElem? (i := 87) (by decide +kernel)))) (by decide +kernel)
theorem zk_X12_endsLine : ZK Y_X12_endsLine 0 := ⟨q1527, q13, ⟨by decide, by decide⟩, by decide +kernel⟩
theorem q1526 : Cond.instanceMethod ⟨"DeskRingsModel", "endsLine", "()V"⟩ ∈ GW := gw_of (gw_t (gw_7 (List.mem_of_getElem? (i := 86) (by decide +kernel)))) (by decide +kernel)
theorem qs61 : Cond.selects "DeskRingsModel" ⟨"DeskRingsModel", "endsLine", "()V"⟩ ⟨"DeskRingsModel", "endsLine", "()V"⟩ ∈ GW := gw_of (List.mem_append_left _ (List.mem_of_getElem? (i := 61) (by decide +kernel))) (by decide +kernel)
theorem zi_X12_endsLine : Cond.instanceMethod Y_X12_endsLine.1 ∈ GW ∧ Cond.selects Y_X12_endsLine.1.cls Y_X12_endsLine.1 Y_X12_endsLine.1 ∈ GW := ⟨q1526, qs61⟩
theorem q1524 : Cond.methodLink "DeskRingsModel" 137 ⟨"DeskRingsModel", "endsLine", "()V"⟩ ∈ GW := gw_of (gw_t (gw_7 (List.mem_of_getElem? (i := 84) (by decide +kernel)))) (by decide +kernel)
theorem q1516 : Cond.methodLink "DeskRingsModel" 120 ⟨"DeskRingsModel", "numbered", "(II)I"⟩ ∈ GW := gw_of (gw_t (gw_7 (List.mem_of_getElem? (i := 76) (by decide +kernel)))) (by decide +kernel)
theorem q1500 : Cond.methodLink "DeskRingsModel" 127 ⟨"DeskRingsModel", "takes", "(II)I"⟩ ∈ GW := gw_of (gw_t (gw_7 (List.mem_of_getElem? (i := 60) (by decide +kernel)))) (by decide +kernel)
theorem q1326 : Cond.fieldLink "DeskRingsModel" 124 "DeskRingsModel" "farDesk" "I" ∈ GW := gw_of (gw_t (gw_6 (List.mem_of_getElem? (i := 126) (by decide +kernel)))) (by decide +kernel)
theorem fl_12_124 : FL "DeskRingsModel" 124 12 9 .int false := ⟨R12, T12, 44, rfl, by decide, q1326, by decide +kernel, rfl, rfl⟩
theorem q1523 : Cond.code ⟨"DeskRingsModel", "deskLine", "(II)V"⟩ prog_14_method_17_code 9 (none : Option Jvm.ClassFile.FieldType) ∈ GW := gw_of (gw_t (gw_7 (List.mem_of_getElem? (i := 83) (by decide +kernel)))) (by decide +kernel)
theorem zk_X12_deskLine : ZK Y_X12_deskLine 2 := ⟨q1523, q13, ⟨by decide, by decide⟩, by decide +kernel⟩
theorem q1522 : Cond.instanceMethod ⟨"DeskRingsModel", "deskLine", "(II)V"⟩ ∈ GW := gw_of (gw_t (gw_7 (List.mem_of_getElem? (i := 82) (by decide +kernel)))) (by decide +kernel)
theorem qs60 : Cond.selects "DeskRingsModel" ⟨"DeskRingsModel", "deskLine", "(II)V"⟩ ⟨"DeskRingsModel", "deskLine", "(II)V"⟩ ∈ GW := gw_of (List.mem_append_left _ (List.mem_of_getElem? (i := 60) (by decide +kernel))) (by decide +kernel)
theorem zi_X12_deskLine : Cond.instanceMethod Y_X12_deskLine.1 ∈ GW ∧ Cond.selects Y_X12_deskLine.1.cls Y_X12_deskLine.1 Y_X12_deskLine.1 ∈ GW := ⟨q1522, qs60⟩
theorem q1520 : Cond.methodLink "DeskRingsModel" 134 ⟨"DeskRingsModel", "deskLine", "(II)V"⟩ ∈ GW := gw_of (gw_t (gw_7 (List.mem_of_getElem? (i := 80) (by decide +kernel)))) (by decide +kernel)
theorem q1511 : Cond.code ⟨"DeskRingsModel", "callLine", "(I)V"⟩ prog_14_method_18_code 7 (none : Option Jvm.ClassFile.FieldType) ∈ GW := gw_of (gw_t (gw_7 (List.mem_of_getElem? (i := 71) (by decide +kernel)))) (by decide +kernel)
theorem zk_X12_callLine : ZK Y_X12_callLine 1 := ⟨q1511, q13, ⟨by decide, by decide⟩, by decide +kernel⟩
theorem q1510 : Cond.instanceMethod ⟨"DeskRingsModel", "callLine", "(I)V"⟩ ∈ GW := gw_of (gw_t (gw_7 (List.mem_of_getElem? (i := 70) (by decide +kernel)))) (by decide +kernel)
theorem qs57 : Cond.selects "DeskRingsModel" ⟨"DeskRingsModel", "callLine", "(I)V"⟩ ⟨"DeskRingsModel", "callLine", "(I)V"⟩ ∈ GW := gw_of (List.mem_append_left _ (List.mem_of_getElem? (i := 57) (by decide +kernel))) (by decide +kernel)
theorem zi_X12_callLine : Cond.instanceMethod Y_X12_callLine.1 ∈ GW ∧ Cond.selects Y_X12_callLine.1.cls Y_X12_callLine.1 Y_X12_callLine.1 ∈ GW := ⟨q1510, qs57⟩
theorem q1508 : Cond.methodLink "DeskRingsModel" 130 ⟨"DeskRingsModel", "callLine", "(I)V"⟩ ∈ GW := gw_of (gw_t (gw_7 (List.mem_of_getElem? (i := 68) (by decide +kernel)))) (by decide +kernel)
theorem q1499 : Cond.code ⟨"DeskRingsModel", "officeLine", "()V"⟩ prog_14_method_19_code 3 (none : Option Jvm.ClassFile.FieldType) ∈ GW := gw_of (gw_t (gw_7 (List.mem_of_getElem? (i := 59) (by decide +kernel)))) (by decide +kernel)
theorem zk_X12_officeLine : ZK Y_X12_officeLine 0 := ⟨q1499, q13, ⟨by decide, by decide⟩, by decide +kernel⟩
theorem q1498 : Cond.instanceMethod ⟨"DeskRingsModel", "officeLine", "()V"⟩ ∈ GW := gw_of (gw_t (gw_7 (List.mem_of_getElem? (i := 58) (by decide +kernel)))) (by decide +kernel)
theorem qs54 : Cond.selects "DeskRingsModel" ⟨"DeskRingsModel", "officeLine", "()V"⟩ ⟨"DeskRingsModel", "officeLine", "()V"⟩ ∈ GW := gw_of (List.mem_append_left _ (List.mem_of_getElem? (i := 54) (by decide +kernel))) (by decide +kernel)
theorem zi_X12_officeLine : Cond.instanceMethod Y_X12_officeLine.1 ∈ GW ∧ Cond.selects Y_X12_officeLine.1.cls Y_X12_officeLine.1 Y_X12_officeLine.1 ∈ GW := ⟨q1498, qs54⟩
theorem q1496 : Cond.methodLink "DeskRingsModel" 144 ⟨"DeskRingsModel", "officeLine", "()V"⟩ ∈ GW := gw_of (gw_t (gw_7 (List.mem_of_getElem? (i := 56) (by decide +kernel)))) (by decide +kernel)
theorem q1531 : Cond.code ⟨"DeskRingsModel", "dayLine", "()V"⟩ prog_14_method_20_code 4 (none : Option Jvm.ClassFile.FieldType) ∈ GW := gw_of (gw_t (gw_7 (List.mem_of_getElem? (i := 91) (by decide +kernel)))) (by decide +kernel)
theorem zk_X12_dayLine : ZK Y_X12_dayLine 0 := ⟨q1531, q13, ⟨by decide, by decide⟩, by decide +kernel⟩
theorem q1530 : Cond.instanceMethod ⟨"DeskRingsModel", "dayLine", "()V"⟩ ∈ GW := gw_of (gw_t (gw_7 (List.mem_of_getElem? (i := 90) (by decide +kernel)))) (by decide +kernel)
theorem qs62 : Cond.selects "DeskRingsModel" ⟨"DeskRingsModel", "dayLine", "()V"⟩ ⟨"DeskRingsModel", "dayLine", "()V"⟩ ∈ GW := gw_of (List.mem_append_left _ (List.mem_of_getElem? (i := 62) (by decide +kernel))) (by decide +kernel)
theorem zi_X12_dayLine : Cond.instanceMethod Y_X12_dayLine.1 ∈ GW ∧ Cond.selects Y_X12_dayLine.1.cls Y_X12_dayLine.1 Y_X12_dayLine.1 ∈ GW := ⟨q1530, qs62⟩
theorem q1528 : Cond.methodLink "DeskRingsModel" 147 ⟨"DeskRingsModel", "dayLine", "()V"⟩ ∈ GW := gw_of (gw_t (gw_7 (List.mem_of_getElem? (i := 88) (by decide +kernel)))) (by decide +kernel)
theorem q1535 : Cond.code ⟨"DeskRingsModel", "logLine", "()V"⟩ prog_14_method_21_code 7 (none : Option Jvm.ClassFile.FieldType) ∈ GW := gw_of (gw_t (gw_7 (List.mem_of_getElem? (i := 95) (by decide +kernel)))) (by decide +kernel)
theorem zk_X12_logLine : ZK Y_X12_logLine 0 := ⟨q1535, q13, ⟨by decide, by decide⟩, by decide +kernel⟩
theorem q1534 : Cond.instanceMethod ⟨"DeskRingsModel", "logLine", "()V"⟩ ∈ GW := gw_of (gw_t (gw_7 (List.mem_of_getElem? (i := 94) (by decide +kernel)))) (by decide +kernel)
theorem qs63 : Cond.selects "DeskRingsModel" ⟨"DeskRingsModel", "logLine", "()V"⟩ ⟨"DeskRingsModel", "logLine", "()V"⟩ ∈ GW := gw_of (List.mem_append_left _ (List.mem_of_getElem? (i := 63) (by decide +kernel))) (by decide +kernel)
theorem zi_X12_logLine : Cond.instanceMethod Y_X12_logLine.1 ∈ GW ∧ Cond.selects Y_X12_logLine.1.cls Y_X12_logLine.1 Y_X12_logLine.1 ∈ GW := ⟨q1534, qs63⟩
theorem q1532 : Cond.methodLink "DeskRingsModel" 150 ⟨"DeskRingsModel", "logLine", "()V"⟩ ∈ GW := gw_of (gw_t (gw_7 (List.mem_of_getElem? (i := 92) (by decide +kernel)))) (by decide +kernel)
theorem q1538 : Cond.code ⟨"DeskRingsModel", "sizeOf", "(I)I"⟩ prog_14_method_23_code 1 (some .int) ∈ GW := gw_of (gw_t (gw_7 (List.mem_of_getElem? (i := 98) (by decide +kernel)))) (by decide +kernel)
theorem zk_X12_sizeOf : ZK Y_X12_sizeOf 1 := ⟨q1538, q13, ⟨by decide, by decide⟩, by decide +kernel⟩
theorem q1536 : Cond.methodLink "DeskRingsModel" 153 ⟨"DeskRingsModel", "sizeOf", "(I)I"⟩ ∈ GW := gw_of (gw_t (gw_7 (List.mem_of_getElem? (i := 96) (by decide +kernel)))) (by decide +kernel)
theorem q1537 : Cond.static ⟨"DeskRingsModel", "sizeOf", "(I)I"⟩ ∈ GW := gw_of (gw_t (gw_7 (List.mem_of_getElem? (i := 97) (by decide +kernel)))) (by decide +kernel)
theorem q25 : Cond.code ⟨"DeskRings", "<init>", "()V"⟩ prog_1_method_1_code 2 (none : Option Jvm.ClassFile.FieldType) ∈ GW := gw_of (gw_t (gw_1 (List.mem_of_getElem? (i := 25) (by decide +kernel)))) (by decide +kernel)
theorem q1 : Cond.initialized "DeskRings" ∈ GW := gw_of (gw_t (gw_1 (List.mem_of_getElem? (i := 1) (by decide +kernel)))) (by decide +kernel)
theorem zk_X11_init : ZK Y_X11_init 0 := ⟨q25, q1, ⟨by decide, by decide⟩, by decide +kernel⟩
theorem q1315 : Cond.code ⟨"DeskRingsModel", "<init>", "()V"⟩ prog_14_method_1_code 1 (none : Option Jvm.ClassFile.FieldType) ∈ GW := gw_of (gw_t (gw_6 (List.mem_of_getElem? (i := 115) (by decide +kernel)))) (by decide +kernel)
theorem zk_X12_init : ZK Y_X12_init 0 := ⟨q1315, q13, ⟨by decide, by decide⟩, by decide +kernel⟩
theorem q494 : Cond.code ⟨"DeskRings", "feed", "(IIIII)I"⟩ prog_1_method_2_code 6 (some .int) ∈ GW := gw_of (gw_t (gw_3 (List.mem_of_getElem? (i := 14) (by decide +kernel)))) (by decide +kernel)
theorem zk_X11_feed : ZK Y_X11_feed 5 := ⟨q494, q1, ⟨by decide, by decide⟩, by decide +kernel⟩
theorem q492 : Cond.instanceMethod ⟨"DeskRings", "feed", "(IIIII)I"⟩ ∈ GW := gw_of (gw_t (gw_3 (List.mem_of_getElem? (i := 12) (by decide +kernel)))) (by decide +kernel)
theorem q493 : Cond.selects "DeskRings" ⟨"DeskRings", "feed", "(IIIII)I"⟩ ⟨"DeskRings", "feed", "(IIIII)I"⟩ ∈ GW := gw_of (gw_t (gw_3 (List.mem_of_getElem? (i := 13) (by decide +kernel)))) (by decide +kernel)
theorem zi_X11_feed : Cond.instanceMethod Y_X11_feed.1 ∈ GW ∧ Cond.selects Y_X11_feed.1.cls Y_X11_feed.1 Y_X11_feed.1 ∈ GW := ⟨q492, q493⟩
theorem q1454 : Cond.code ⟨"DeskRingsModel", "feed", "(IIIII)I"⟩ prog_14_method_3_code 8 (some .int) ∈ GW := gw_of (gw_t (gw_7 (List.mem_of_getElem? (i := 14) (by decide +kernel)))) (by decide +kernel)
theorem zk_X12_feed : ZK Y_X12_feed 5 := ⟨q1454, q13, ⟨by decide, by decide⟩, by decide +kernel⟩
theorem q1452 : Cond.instanceMethod ⟨"DeskRingsModel", "feed", "(IIIII)I"⟩ ∈ GW := gw_of (gw_t (gw_7 (List.mem_of_getElem? (i := 12) (by decide +kernel)))) (by decide +kernel)
theorem q1453 : Cond.selects "DeskRingsModel" ⟨"DeskRingsModel", "feed", "(IIIII)I"⟩ ⟨"DeskRingsModel", "feed", "(IIIII)I"⟩ ∈ GW := gw_of (gw_t (gw_7 (List.mem_of_getElem? (i := 13) (by decide +kernel)))) (by decide +kernel)
theorem zi_X12_feed : Cond.instanceMethod Y_X12_feed.1 ∈ GW ∧ Cond.selects Y_X12_feed.1.cls Y_X12_feed.1 Y_X12_feed.1 ∈ GW := ⟨q1452, q1453⟩
theorem q1451 : Cond.methodLink "DeskRingsLaw" 17 ⟨"DeskRingsModel", "feed", "(IIIII)I"⟩ ∈ GW := gw_of (gw_t (gw_7 (List.mem_of_getElem? (i := 11) (by decide +kernel)))) (by decide +kernel)
theorem q491 : Cond.methodLink "DeskRingsLaw" 13 ⟨"DeskRings", "feed", "(IIIII)I"⟩ ∈ GW := gw_of (gw_t (gw_3 (List.mem_of_getElem? (i := 11) (by decide +kernel)))) (by decide +kernel)
theorem q502 : Cond.code ⟨"DeskRings", "end", "(I)I"⟩ prog_1_method_3_code 2 (some .int) ∈ GW := gw_of (gw_t (gw_3 (List.mem_of_getElem? (i := 22) (by decide +kernel)))) (by decide +kernel)
theorem zk_X11_end : ZK Y_X11_end 1 := ⟨q502, q1, ⟨by decide, by decide⟩, by decide +kernel⟩
theorem q500 : Cond.instanceMethod ⟨"DeskRings", "end", "(I)I"⟩ ∈ GW := gw_of (gw_t (gw_3 (List.mem_of_getElem? (i := 20) (by decide +kernel)))) (by decide +kernel)
theorem q501 : Cond.selects "DeskRings" ⟨"DeskRings", "end", "(I)I"⟩ ⟨"DeskRings", "end", "(I)I"⟩ ∈ GW := gw_of (gw_t (gw_3 (List.mem_of_getElem? (i := 21) (by decide +kernel)))) (by decide +kernel)
theorem zi_X11_end : Cond.instanceMethod Y_X11_end.1 ∈ GW ∧ Cond.selects Y_X11_end.1.cls Y_X11_end.1 Y_X11_end.1 ∈ GW := ⟨q500, q501⟩
theorem q1458 : Cond.code ⟨"DeskRingsModel", "end", "(I)I"⟩ prog_14_method_4_code 2 (some .int) ∈ GW := gw_of (gw_t (gw_7 (List.mem_of_getElem? (i := 18) (by decide +kernel)))) (by decide +kernel)
theorem zk_X12_end : ZK Y_X12_end 1 := ⟨q1458, q13, ⟨by decide, by decide⟩, by decide +kernel⟩
theorem q1456 : Cond.instanceMethod ⟨"DeskRingsModel", "end", "(I)I"⟩ ∈ GW := gw_of (gw_t (gw_7 (List.mem_of_getElem? (i := 16) (by decide +kernel)))) (by decide +kernel)
theorem q1457 : Cond.selects "DeskRingsModel" ⟨"DeskRingsModel", "end", "(I)I"⟩ ⟨"DeskRingsModel", "end", "(I)I"⟩ ∈ GW := gw_of (gw_t (gw_7 (List.mem_of_getElem? (i := 17) (by decide +kernel)))) (by decide +kernel)
theorem zi_X12_end : Cond.instanceMethod Y_X12_end.1 ∈ GW ∧ Cond.selects Y_X12_end.1.cls Y_X12_end.1 Y_X12_end.1 ∈ GW := ⟨q1456, q1457⟩
theorem q1455 : Cond.methodLink "DeskRingsLaw" 22 ⟨"DeskRingsModel", "end", "(I)I"⟩ ∈ GW := gw_of (gw_t (gw_7 (List.mem_of_getElem? (i := 15) (by decide +kernel)))) (by decide +kernel)
theorem q499 : Cond.methodLink "DeskRingsLaw" 18 ⟨"DeskRings", "end", "(I)I"⟩ ∈ GW := gw_of (gw_t (gw_3 (List.mem_of_getElem? (i := 19) (by decide +kernel)))) (by decide +kernel)
theorem q506 : Cond.code ⟨"DeskRings", "text", "(II)I"⟩ prog_1_method_4_code 5 (some .int) ∈ GW := gw_of (gw_t (gw_3 (List.mem_of_getElem? (i := 26) (by decide +kernel)))) (by decide +kernel)
theorem zk_X11_text : ZK Y_X11_text 2 := ⟨q506, q1, ⟨by decide, by decide⟩, by decide +kernel⟩
theorem q504 : Cond.instanceMethod ⟨"DeskRings", "text", "(II)I"⟩ ∈ GW := gw_of (gw_t (gw_3 (List.mem_of_getElem? (i := 24) (by decide +kernel)))) (by decide +kernel)
theorem q505 : Cond.selects "DeskRings" ⟨"DeskRings", "text", "(II)I"⟩ ⟨"DeskRings", "text", "(II)I"⟩ ∈ GW := gw_of (gw_t (gw_3 (List.mem_of_getElem? (i := 25) (by decide +kernel)))) (by decide +kernel)
theorem zi_X11_text : Cond.instanceMethod Y_X11_text.1 ∈ GW ∧ Cond.selects Y_X11_text.1.cls Y_X11_text.1 Y_X11_text.1 ∈ GW := ⟨q504, q505⟩
theorem q1462 : Cond.code ⟨"DeskRingsModel", "text", "(II)I"⟩ prog_14_method_25_code 5 (some .int) ∈ GW := gw_of (gw_t (gw_7 (List.mem_of_getElem? (i := 22) (by decide +kernel)))) (by decide +kernel)
theorem zk_X12_text : ZK Y_X12_text 2 := ⟨q1462, q13, ⟨by decide, by decide⟩, by decide +kernel⟩
theorem q1460 : Cond.instanceMethod ⟨"DeskRingsModel", "text", "(II)I"⟩ ∈ GW := gw_of (gw_t (gw_7 (List.mem_of_getElem? (i := 20) (by decide +kernel)))) (by decide +kernel)
theorem q1461 : Cond.selects "DeskRingsModel" ⟨"DeskRingsModel", "text", "(II)I"⟩ ⟨"DeskRingsModel", "text", "(II)I"⟩ ∈ GW := gw_of (gw_t (gw_7 (List.mem_of_getElem? (i := 21) (by decide +kernel)))) (by decide +kernel)
theorem zi_X12_text : Cond.instanceMethod Y_X12_text.1 ∈ GW ∧ Cond.selects Y_X12_text.1.cls Y_X12_text.1 Y_X12_text.1 ∈ GW := ⟨q1460, q1461⟩
theorem q1459 : Cond.methodLink "DeskRingsLaw" 27 ⟨"DeskRingsModel", "text", "(II)I"⟩ ∈ GW := gw_of (gw_t (gw_7 (List.mem_of_getElem? (i := 19) (by decide +kernel)))) (by decide +kernel)
theorem q503 : Cond.methodLink "DeskRingsLaw" 23 ⟨"DeskRings", "text", "(II)I"⟩ ∈ GW := gw_of (gw_t (gw_3 (List.mem_of_getElem? (i := 23) (by decide +kernel)))) (by decide +kernel)
theorem q711 : Cond.code ⟨"DeskRings", "fault", "(I)I"⟩ prog_1_method_5_code 2 (some .int) ∈ GW := gw_of (gw_t (gw_3 (List.mem_of_getElem? (i := 231) (by decide +kernel)))) (by decide +kernel)
theorem zk_X11_fault : ZK Y_X11_fault 1 := ⟨q711, q1, ⟨by decide, by decide⟩, by decide +kernel⟩
theorem q709 : Cond.instanceMethod ⟨"DeskRings", "fault", "(I)I"⟩ ∈ GW := gw_of (gw_t (gw_3 (List.mem_of_getElem? (i := 229) (by decide +kernel)))) (by decide +kernel)
theorem q710 : Cond.selects "DeskRings" ⟨"DeskRings", "fault", "(I)I"⟩ ⟨"DeskRings", "fault", "(I)I"⟩ ∈ GW := gw_of (gw_t (gw_3 (List.mem_of_getElem? (i := 230) (by decide +kernel)))) (by decide +kernel)
theorem zi_X11_fault : Cond.instanceMethod Y_X11_fault.1 ∈ GW ∧ Cond.selects Y_X11_fault.1.cls Y_X11_fault.1 Y_X11_fault.1 ∈ GW := ⟨q709, q710⟩
theorem q1545 : Cond.code ⟨"DeskRingsModel", "fault", "(I)I"⟩ prog_14_method_26_code 2 (some .int) ∈ GW := gw_of (gw_t (gw_7 (List.mem_of_getElem? (i := 105) (by decide +kernel)))) (by decide +kernel)
theorem zk_X12_fault : ZK Y_X12_fault 1 := ⟨q1545, q13, ⟨by decide, by decide⟩, by decide +kernel⟩
theorem q1543 : Cond.instanceMethod ⟨"DeskRingsModel", "fault", "(I)I"⟩ ∈ GW := gw_of (gw_t (gw_7 (List.mem_of_getElem? (i := 103) (by decide +kernel)))) (by decide +kernel)
theorem q1544 : Cond.selects "DeskRingsModel" ⟨"DeskRingsModel", "fault", "(I)I"⟩ ⟨"DeskRingsModel", "fault", "(I)I"⟩ ∈ GW := gw_of (gw_t (gw_7 (List.mem_of_getElem? (i := 104) (by decide +kernel)))) (by decide +kernel)
theorem zi_X12_fault : Cond.instanceMethod Y_X12_fault.1 ∈ GW ∧ Cond.selects Y_X12_fault.1.cls Y_X12_fault.1 Y_X12_fault.1 ∈ GW := ⟨q1543, q1544⟩
theorem q1542 : Cond.methodLink "DeskRingsLaw" 31 ⟨"DeskRingsModel", "fault", "(I)I"⟩ ∈ GW := gw_of (gw_t (gw_7 (List.mem_of_getElem? (i := 102) (by decide +kernel)))) (by decide +kernel)
theorem q708 : Cond.methodLink "DeskRingsLaw" 28 ⟨"DeskRings", "fault", "(I)I"⟩ ∈ GW := gw_of (gw_t (gw_3 (List.mem_of_getElem? (i := 228) (by decide +kernel)))) (by decide +kernel)
theorem q715 : Cond.code ⟨"DeskRings", "office", "(II)I"⟩ prog_1_method_6_code 4 (some .int) ∈ GW := gw_of (gw_t (gw_3 (List.mem_of_getElem? (i := 235) (by decide +kernel)))) (by decide +kernel)
theorem zk_X11_office : ZK Y_X11_office 2 := ⟨q715, q1, ⟨by decide, by decide⟩, by decide +kernel⟩
theorem q713 : Cond.instanceMethod ⟨"DeskRings", "office", "(II)I"⟩ ∈ GW := gw_of (gw_t (gw_3 (List.mem_of_getElem? (i := 233) (by decide +kernel)))) (by decide +kernel)
theorem q714 : Cond.selects "DeskRings" ⟨"DeskRings", "office", "(II)I"⟩ ⟨"DeskRings", "office", "(II)I"⟩ ∈ GW := gw_of (gw_t (gw_3 (List.mem_of_getElem? (i := 234) (by decide +kernel)))) (by decide +kernel)
theorem zi_X11_office : Cond.instanceMethod Y_X11_office.1 ∈ GW ∧ Cond.selects Y_X11_office.1.cls Y_X11_office.1 Y_X11_office.1 ∈ GW := ⟨q713, q714⟩
theorem q1549 : Cond.code ⟨"DeskRingsModel", "office", "(II)I"⟩ prog_14_method_32_code 4 (some .int) ∈ GW := gw_of (gw_t (gw_7 (List.mem_of_getElem? (i := 109) (by decide +kernel)))) (by decide +kernel)
theorem zk_X12_office : ZK Y_X12_office 2 := ⟨q1549, q13, ⟨by decide, by decide⟩, by decide +kernel⟩
theorem q1547 : Cond.instanceMethod ⟨"DeskRingsModel", "office", "(II)I"⟩ ∈ GW := gw_of (gw_t (gw_7 (List.mem_of_getElem? (i := 107) (by decide +kernel)))) (by decide +kernel)
theorem q1548 : Cond.selects "DeskRingsModel" ⟨"DeskRingsModel", "office", "(II)I"⟩ ⟨"DeskRingsModel", "office", "(II)I"⟩ ∈ GW := gw_of (gw_t (gw_7 (List.mem_of_getElem? (i := 108) (by decide +kernel)))) (by decide +kernel)
theorem zi_X12_office : Cond.instanceMethod Y_X12_office.1 ∈ GW ∧ Cond.selects Y_X12_office.1.cls Y_X12_office.1 Y_X12_office.1 ∈ GW := ⟨q1547, q1548⟩
theorem q1546 : Cond.methodLink "DeskRingsLaw" 35 ⟨"DeskRingsModel", "office", "(II)I"⟩ ∈ GW := gw_of (gw_t (gw_7 (List.mem_of_getElem? (i := 106) (by decide +kernel)))) (by decide +kernel)
theorem q712 : Cond.methodLink "DeskRingsLaw" 32 ⟨"DeskRings", "office", "(II)I"⟩ ∈ GW := gw_of (gw_t (gw_3 (List.mem_of_getElem? (i := 232) (by decide +kernel)))) (by decide +kernel)
theorem q743 : Cond.code ⟨"DeskRings", "deed", "(III)I"⟩ prog_1_method_7_code 5 (some .int) ∈ GW := gw_of (gw_t (gw_4 (List.mem_of_getElem? (i := 23) (by decide +kernel)))) (by decide +kernel)
theorem zk_X11_deed : ZK Y_X11_deed 3 := ⟨q743, q1, ⟨by decide, by decide⟩, by decide +kernel⟩
theorem q741 : Cond.instanceMethod ⟨"DeskRings", "deed", "(III)I"⟩ ∈ GW := gw_of (gw_t (gw_4 (List.mem_of_getElem? (i := 21) (by decide +kernel)))) (by decide +kernel)
theorem q742 : Cond.selects "DeskRings" ⟨"DeskRings", "deed", "(III)I"⟩ ⟨"DeskRings", "deed", "(III)I"⟩ ∈ GW := gw_of (gw_t (gw_4 (List.mem_of_getElem? (i := 22) (by decide +kernel)))) (by decide +kernel)
theorem zi_X11_deed : Cond.instanceMethod Y_X11_deed.1 ∈ GW ∧ Cond.selects Y_X11_deed.1.cls Y_X11_deed.1 Y_X11_deed.1 ∈ GW := ⟨q741, q742⟩
theorem q1573 : Cond.code ⟨"DeskRingsModel", "deed", "(III)I"⟩ prog_14_method_41_code 4 (some .int) ∈ GW := gw_of (gw_t (gw_7 (List.mem_of_getElem? (i := 133) (by decide +kernel)))) (by decide +kernel)
theorem zk_X12_deed : ZK Y_X12_deed 3 := ⟨q1573, q13, ⟨by decide, by decide⟩, by decide +kernel⟩
theorem q1571 : Cond.instanceMethod ⟨"DeskRingsModel", "deed", "(III)I"⟩ ∈ GW := gw_of (gw_t (gw_7 (List.mem_of_getElem? (i := 131) (by decide +kernel)))) (by decide +kernel)
theorem q1572 : Cond.selects "DeskRingsModel" ⟨"DeskRingsModel", "deed", "(III)I"⟩ ⟨"DeskRingsModel", "deed", "(III)I"⟩ ∈ GW := gw_of (gw_t (gw_7 (List.mem_of_getElem? (i := 132) (by decide +kernel)))) (by decide +kernel)
theorem zi_X12_deed : Cond.instanceMethod Y_X12_deed.1 ∈ GW ∧ Cond.selects Y_X12_deed.1.cls Y_X12_deed.1 Y_X12_deed.1 ∈ GW := ⟨q1571, q1572⟩
theorem q1570 : Cond.methodLink "DeskRingsLaw" 40 ⟨"DeskRingsModel", "deed", "(III)I"⟩ ∈ GW := gw_of (gw_t (gw_7 (List.mem_of_getElem? (i := 130) (by decide +kernel)))) (by decide +kernel)
theorem q740 : Cond.methodLink "DeskRingsLaw" 36 ⟨"DeskRings", "deed", "(III)I"⟩ ∈ GW := gw_of (gw_t (gw_4 (List.mem_of_getElem? (i := 20) (by decide +kernel)))) (by decide +kernel)
theorem q755 : Cond.code ⟨"DeskRings", "stop", "(II)I"⟩ prog_1_method_8_code 5 (some .int) ∈ GW := gw_of (gw_t (gw_4 (List.mem_of_getElem? (i := 35) (by decide +kernel)))) (by decide +kernel)
theorem zk_X11_stop : ZK Y_X11_stop 2 := ⟨q755, q1, ⟨by decide, by decide⟩, by decide +kernel⟩
theorem q753 : Cond.instanceMethod ⟨"DeskRings", "stop", "(II)I"⟩ ∈ GW := gw_of (gw_t (gw_4 (List.mem_of_getElem? (i := 33) (by decide +kernel)))) (by decide +kernel)
theorem q754 : Cond.selects "DeskRings" ⟨"DeskRings", "stop", "(II)I"⟩ ⟨"DeskRings", "stop", "(II)I"⟩ ∈ GW := gw_of (gw_t (gw_4 (List.mem_of_getElem? (i := 34) (by decide +kernel)))) (by decide +kernel)
theorem zi_X11_stop : Cond.instanceMethod Y_X11_stop.1 ∈ GW ∧ Cond.selects Y_X11_stop.1.cls Y_X11_stop.1 Y_X11_stop.1 ∈ GW := ⟨q753, q754⟩
theorem q1581 : Cond.code ⟨"DeskRingsModel", "stop", "(II)I"⟩ prog_14_method_48_code 3 (some .int) ∈ GW := gw_of (gw_t (gw_7 (List.mem_of_getElem? (i := 141) (by decide +kernel)))) (by decide +kernel)
theorem zk_X12_stop : ZK Y_X12_stop 2 := ⟨q1581, q13, ⟨by decide, by decide⟩, by decide +kernel⟩
theorem q1579 : Cond.instanceMethod ⟨"DeskRingsModel", "stop", "(II)I"⟩ ∈ GW := gw_of (gw_t (gw_7 (List.mem_of_getElem? (i := 139) (by decide +kernel)))) (by decide +kernel)
theorem q1580 : Cond.selects "DeskRingsModel" ⟨"DeskRingsModel", "stop", "(II)I"⟩ ⟨"DeskRingsModel", "stop", "(II)I"⟩ ∈ GW := gw_of (gw_t (gw_7 (List.mem_of_getElem? (i := 140) (by decide +kernel)))) (by decide +kernel)
theorem zi_X12_stop : Cond.instanceMethod Y_X12_stop.1 ∈ GW ∧ Cond.selects Y_X12_stop.1.cls Y_X12_stop.1 Y_X12_stop.1 ∈ GW := ⟨q1579, q1580⟩
theorem q1578 : Cond.methodLink "DeskRingsLaw" 44 ⟨"DeskRingsModel", "stop", "(II)I"⟩ ∈ GW := gw_of (gw_t (gw_7 (List.mem_of_getElem? (i := 138) (by decide +kernel)))) (by decide +kernel)
theorem q752 : Cond.methodLink "DeskRingsLaw" 41 ⟨"DeskRings", "stop", "(II)I"⟩ ∈ GW := gw_of (gw_t (gw_4 (List.mem_of_getElem? (i := 32) (by decide +kernel)))) (by decide +kernel)
theorem q832 : Cond.code ⟨"DeskRings", "state", "(IIII)I"⟩ prog_1_method_9_code 7 (some .int) ∈ GW := gw_of (gw_t (gw_4 (List.mem_of_getElem? (i := 112) (by decide +kernel)))) (by decide +kernel)
theorem zk_X11_state : ZK Y_X11_state 4 := ⟨q832, q1, ⟨by decide, by decide⟩, by decide +kernel⟩
theorem q830 : Cond.instanceMethod ⟨"DeskRings", "state", "(IIII)I"⟩ ∈ GW := gw_of (gw_t (gw_4 (List.mem_of_getElem? (i := 110) (by decide +kernel)))) (by decide +kernel)
theorem q831 : Cond.selects "DeskRings" ⟨"DeskRings", "state", "(IIII)I"⟩ ⟨"DeskRings", "state", "(IIII)I"⟩ ∈ GW := gw_of (gw_t (gw_4 (List.mem_of_getElem? (i := 111) (by decide +kernel)))) (by decide +kernel)
theorem zi_X11_state : Cond.instanceMethod Y_X11_state.1 ∈ GW ∧ Cond.selects Y_X11_state.1.cls Y_X11_state.1 Y_X11_state.1 ∈ GW := ⟨q830, q831⟩
theorem q1636 : Cond.code ⟨"DeskRingsModel", "state", "(IIII)I"⟩ prog_14_method_50_code 5 (some .int) ∈ GW := gw_of (gw_t (gw_7 (List.mem_of_getElem? (i := 196) (by decide +kernel)))) (by decide +kernel)
theorem zk_X12_state : ZK Y_X12_state 4 := ⟨q1636, q13, ⟨by decide, by decide⟩, by decide +kernel⟩
theorem q1634 : Cond.instanceMethod ⟨"DeskRingsModel", "state", "(IIII)I"⟩ ∈ GW := gw_of (gw_t (gw_7 (List.mem_of_getElem? (i := 194) (by decide +kernel)))) (by decide +kernel)
theorem q1635 : Cond.selects "DeskRingsModel" ⟨"DeskRingsModel", "state", "(IIII)I"⟩ ⟨"DeskRingsModel", "state", "(IIII)I"⟩ ∈ GW := gw_of (gw_t (gw_7 (List.mem_of_getElem? (i := 195) (by decide +kernel)))) (by decide +kernel)
theorem zi_X12_state : Cond.instanceMethod Y_X12_state.1 ∈ GW ∧ Cond.selects Y_X12_state.1.cls Y_X12_state.1 Y_X12_state.1 ∈ GW := ⟨q1634, q1635⟩
theorem q1633 : Cond.methodLink "DeskRingsLaw" 49 ⟨"DeskRingsModel", "state", "(IIII)I"⟩ ∈ GW := gw_of (gw_t (gw_7 (List.mem_of_getElem? (i := 193) (by decide +kernel)))) (by decide +kernel)
theorem q829 : Cond.methodLink "DeskRingsLaw" 45 ⟨"DeskRings", "state", "(IIII)I"⟩ ∈ GW := gw_of (gw_t (gw_4 (List.mem_of_getElem? (i := 109) (by decide +kernel)))) (by decide +kernel)
theorem q844 : Cond.code ⟨"DeskRings", "who", "(IIIZ)I"⟩ prog_1_method_10_code 6 (some .int) ∈ GW := gw_of (gw_t (gw_4 (List.mem_of_getElem? (i := 124) (by decide +kernel)))) (by decide +kernel)
theorem zk_X11_who : ZK Y_X11_who 4 := ⟨q844, q1, ⟨by decide, by decide⟩, by decide +kernel⟩
theorem q842 : Cond.instanceMethod ⟨"DeskRings", "who", "(IIIZ)I"⟩ ∈ GW := gw_of (gw_t (gw_4 (List.mem_of_getElem? (i := 122) (by decide +kernel)))) (by decide +kernel)
theorem q843 : Cond.selects "DeskRings" ⟨"DeskRings", "who", "(IIIZ)I"⟩ ⟨"DeskRings", "who", "(IIIZ)I"⟩ ∈ GW := gw_of (gw_t (gw_4 (List.mem_of_getElem? (i := 123) (by decide +kernel)))) (by decide +kernel)
theorem zi_X11_who : Cond.instanceMethod Y_X11_who.1 ∈ GW ∧ Cond.selects Y_X11_who.1.cls Y_X11_who.1 Y_X11_who.1 ∈ GW := ⟨q842, q843⟩
theorem q1644 : Cond.code ⟨"DeskRingsModel", "who", "(IIIZ)I"⟩ prog_14_method_51_code 5 (some .int) ∈ GW := gw_of (gw_t (gw_7 (List.mem_of_getElem? (i := 204) (by decide +kernel)))) (by decide +kernel)
theorem zk_X12_who : ZK Y_X12_who 4 := ⟨q1644, q13, ⟨by decide, by decide⟩, by decide +kernel⟩
theorem q1642 : Cond.instanceMethod ⟨"DeskRingsModel", "who", "(IIIZ)I"⟩ ∈ GW := gw_of (gw_t (gw_7 (List.mem_of_getElem? (i := 202) (by decide +kernel)))) (by decide +kernel)
theorem q1643 : Cond.selects "DeskRingsModel" ⟨"DeskRingsModel", "who", "(IIIZ)I"⟩ ⟨"DeskRingsModel", "who", "(IIIZ)I"⟩ ∈ GW := gw_of (gw_t (gw_7 (List.mem_of_getElem? (i := 203) (by decide +kernel)))) (by decide +kernel)
theorem zi_X12_who : Cond.instanceMethod Y_X12_who.1 ∈ GW ∧ Cond.selects Y_X12_who.1.cls Y_X12_who.1 Y_X12_who.1 ∈ GW := ⟨q1642, q1643⟩
theorem q1641 : Cond.methodLink "DeskRingsLaw" 54 ⟨"DeskRingsModel", "who", "(IIIZ)I"⟩ ∈ GW := gw_of (gw_t (gw_7 (List.mem_of_getElem? (i := 201) (by decide +kernel)))) (by decide +kernel)
theorem q841 : Cond.methodLink "DeskRingsLaw" 50 ⟨"DeskRings", "who", "(IIIZ)I"⟩ ∈ GW := gw_of (gw_t (gw_4 (List.mem_of_getElem? (i := 121) (by decide +kernel)))) (by decide +kernel)
theorem q853 : Cond.code ⟨"DeskRings", "enough", "(I)I"⟩ prog_1_method_11_code 3 (some .int) ∈ GW := gw_of (gw_t (gw_4 (List.mem_of_getElem? (i := 133) (by decide +kernel)))) (by decide +kernel)
theorem zk_X11_enough : ZK Y_X11_enough 1 := ⟨q853, q1, ⟨by decide, by decide⟩, by decide +kernel⟩
theorem q851 : Cond.instanceMethod ⟨"DeskRings", "enough", "(I)I"⟩ ∈ GW := gw_of (gw_t (gw_4 (List.mem_of_getElem? (i := 131) (by decide +kernel)))) (by decide +kernel)
theorem q852 : Cond.selects "DeskRings" ⟨"DeskRings", "enough", "(I)I"⟩ ⟨"DeskRings", "enough", "(I)I"⟩ ∈ GW := gw_of (gw_t (gw_4 (List.mem_of_getElem? (i := 132) (by decide +kernel)))) (by decide +kernel)
theorem zi_X11_enough : Cond.instanceMethod Y_X11_enough.1 ∈ GW ∧ Cond.selects Y_X11_enough.1.cls Y_X11_enough.1 Y_X11_enough.1 ∈ GW := ⟨q851, q852⟩
theorem q1648 : Cond.code ⟨"DeskRingsModel", "enough", "(I)I"⟩ prog_14_method_54_code 4 (some .int) ∈ GW := gw_of (gw_t (gw_7 (List.mem_of_getElem? (i := 208) (by decide +kernel)))) (by decide +kernel)
theorem zk_X12_enough : ZK Y_X12_enough 1 := ⟨q1648, q13, ⟨by decide, by decide⟩, by decide +kernel⟩
theorem q1646 : Cond.instanceMethod ⟨"DeskRingsModel", "enough", "(I)I"⟩ ∈ GW := gw_of (gw_t (gw_7 (List.mem_of_getElem? (i := 206) (by decide +kernel)))) (by decide +kernel)
theorem q1647 : Cond.selects "DeskRingsModel" ⟨"DeskRingsModel", "enough", "(I)I"⟩ ⟨"DeskRingsModel", "enough", "(I)I"⟩ ∈ GW := gw_of (gw_t (gw_7 (List.mem_of_getElem? (i := 207) (by decide +kernel)))) (by decide +kernel)
theorem zi_X12_enough : Cond.instanceMethod Y_X12_enough.1 ∈ GW ∧ Cond.selects Y_X12_enough.1.cls Y_X12_enough.1 Y_X12_enough.1 ∈ GW := ⟨q1646, q1647⟩
theorem q1645 : Cond.methodLink "DeskRingsLaw" 58 ⟨"DeskRingsModel", "enough", "(I)I"⟩ ∈ GW := gw_of (gw_t (gw_7 (List.mem_of_getElem? (i := 205) (by decide +kernel)))) (by decide +kernel)
theorem q850 : Cond.methodLink "DeskRingsLaw" 55 ⟨"DeskRings", "enough", "(I)I"⟩ ∈ GW := gw_of (gw_t (gw_4 (List.mem_of_getElem? (i := 130) (by decide +kernel)))) (by decide +kernel)
theorem q869 : Cond.code ⟨"DeskRings", "odds", "(IIZ)J"⟩ prog_1_method_12_code 5 (some .long) ∈ GW := gw_of (gw_t (gw_4 (List.mem_of_getElem? (i := 149) (by decide +kernel)))) (by decide +kernel)
theorem zk_X11_odds : ZK Y_X11_odds 3 := ⟨q869, q1, ⟨by decide, by decide⟩, by decide +kernel⟩
theorem q867 : Cond.instanceMethod ⟨"DeskRings", "odds", "(IIZ)J"⟩ ∈ GW := gw_of (gw_t (gw_4 (List.mem_of_getElem? (i := 147) (by decide +kernel)))) (by decide +kernel)
theorem q868 : Cond.selects "DeskRings" ⟨"DeskRings", "odds", "(IIZ)J"⟩ ⟨"DeskRings", "odds", "(IIZ)J"⟩ ∈ GW := gw_of (gw_t (gw_4 (List.mem_of_getElem? (i := 148) (by decide +kernel)))) (by decide +kernel)
theorem zi_X11_odds : Cond.instanceMethod Y_X11_odds.1 ∈ GW ∧ Cond.selects Y_X11_odds.1.cls Y_X11_odds.1 Y_X11_odds.1 ∈ GW := ⟨q867, q868⟩
theorem q1659 : Cond.code ⟨"DeskRingsModel", "odds", "(IIZ)J"⟩ prog_14_method_60_code 4 (some .long) ∈ GW := gw_of (gw_t (gw_7 (List.mem_of_getElem? (i := 219) (by decide +kernel)))) (by decide +kernel)
theorem zk_X12_odds : ZK Y_X12_odds 3 := ⟨q1659, q13, ⟨by decide, by decide⟩, by decide +kernel⟩
theorem q1657 : Cond.instanceMethod ⟨"DeskRingsModel", "odds", "(IIZ)J"⟩ ∈ GW := gw_of (gw_t (gw_7 (List.mem_of_getElem? (i := 217) (by decide +kernel)))) (by decide +kernel)
theorem q1658 : Cond.selects "DeskRingsModel" ⟨"DeskRingsModel", "odds", "(IIZ)J"⟩ ⟨"DeskRingsModel", "odds", "(IIZ)J"⟩ ∈ GW := gw_of (gw_t (gw_7 (List.mem_of_getElem? (i := 218) (by decide +kernel)))) (by decide +kernel)
theorem zi_X12_odds : Cond.instanceMethod Y_X12_odds.1 ∈ GW ∧ Cond.selects Y_X12_odds.1.cls Y_X12_odds.1 Y_X12_odds.1 ∈ GW := ⟨q1657, q1658⟩
theorem q1656 : Cond.methodLink "DeskRingsLaw" 63 ⟨"DeskRingsModel", "odds", "(IIZ)J"⟩ ∈ GW := gw_of (gw_t (gw_7 (List.mem_of_getElem? (i := 216) (by decide +kernel)))) (by decide +kernel)
theorem q866 : Cond.methodLink "DeskRingsLaw" 59 ⟨"DeskRings", "odds", "(IIZ)J"⟩ ∈ GW := gw_of (gw_t (gw_4 (List.mem_of_getElem? (i := 146) (by decide +kernel)))) (by decide +kernel)
theorem q900 : Cond.code ⟨"DeskRings", "mean", "(IIZ)J"⟩ prog_1_method_13_code 5 (some .long) ∈ GW := gw_of (gw_t (gw_4 (List.mem_of_getElem? (i := 180) (by decide +kernel)))) (by decide +kernel)
theorem zk_X11_mean : ZK Y_X11_mean 3 := ⟨q900, q1, ⟨by decide, by decide⟩, by decide +kernel⟩
theorem q898 : Cond.instanceMethod ⟨"DeskRings", "mean", "(IIZ)J"⟩ ∈ GW := gw_of (gw_t (gw_4 (List.mem_of_getElem? (i := 178) (by decide +kernel)))) (by decide +kernel)
theorem q899 : Cond.selects "DeskRings" ⟨"DeskRings", "mean", "(IIZ)J"⟩ ⟨"DeskRings", "mean", "(IIZ)J"⟩ ∈ GW := gw_of (gw_t (gw_4 (List.mem_of_getElem? (i := 179) (by decide +kernel)))) (by decide +kernel)
theorem zi_X11_mean : Cond.instanceMethod Y_X11_mean.1 ∈ GW ∧ Cond.selects Y_X11_mean.1.cls Y_X11_mean.1 Y_X11_mean.1 ∈ GW := ⟨q898, q899⟩
theorem q1682 : Cond.code ⟨"DeskRingsModel", "mean", "(IIZ)J"⟩ prog_14_method_61_code 4 (some .long) ∈ GW := gw_of (gw_t (gw_8 (List.mem_of_getElem? (i := 2) (by decide +kernel)))) (by decide +kernel)
theorem zk_X12_mean : ZK Y_X12_mean 3 := ⟨q1682, q13, ⟨by decide, by decide⟩, by decide +kernel⟩
theorem q1680 : Cond.instanceMethod ⟨"DeskRingsModel", "mean", "(IIZ)J"⟩ ∈ GW := gw_of (gw_t (gw_8 (List.mem_of_getElem? (i := 0) (by decide +kernel)))) (by decide +kernel)
theorem q1681 : Cond.selects "DeskRingsModel" ⟨"DeskRingsModel", "mean", "(IIZ)J"⟩ ⟨"DeskRingsModel", "mean", "(IIZ)J"⟩ ∈ GW := gw_of (gw_t (gw_8 (List.mem_of_getElem? (i := 1) (by decide +kernel)))) (by decide +kernel)
theorem zi_X12_mean : Cond.instanceMethod Y_X12_mean.1 ∈ GW ∧ Cond.selects Y_X12_mean.1.cls Y_X12_mean.1 Y_X12_mean.1 ∈ GW := ⟨q1680, q1681⟩
theorem q1679 : Cond.methodLink "DeskRingsLaw" 67 ⟨"DeskRingsModel", "mean", "(IIZ)J"⟩ ∈ GW := gw_of (gw_t (gw_7 (List.mem_of_getElem? (i := 239) (by decide +kernel)))) (by decide +kernel)
theorem q897 : Cond.methodLink "DeskRingsLaw" 64 ⟨"DeskRings", "mean", "(IIZ)J"⟩ ∈ GW := gw_of (gw_t (gw_4 (List.mem_of_getElem? (i := 177) (by decide +kernel)))) (by decide +kernel)
theorem q904 : Cond.code ⟨"DeskRings", "rest", "(IIII)I"⟩ prog_1_method_14_code 6 (some .int) ∈ GW := gw_of (gw_t (gw_4 (List.mem_of_getElem? (i := 184) (by decide +kernel)))) (by decide +kernel)
theorem zk_X11_rest : ZK Y_X11_rest 4 := ⟨q904, q1, ⟨by decide, by decide⟩, by decide +kernel⟩
theorem q902 : Cond.instanceMethod ⟨"DeskRings", "rest", "(IIII)I"⟩ ∈ GW := gw_of (gw_t (gw_4 (List.mem_of_getElem? (i := 182) (by decide +kernel)))) (by decide +kernel)
theorem q903 : Cond.selects "DeskRings" ⟨"DeskRings", "rest", "(IIII)I"⟩ ⟨"DeskRings", "rest", "(IIII)I"⟩ ∈ GW := gw_of (gw_t (gw_4 (List.mem_of_getElem? (i := 183) (by decide +kernel)))) (by decide +kernel)
theorem zi_X11_rest : Cond.instanceMethod Y_X11_rest.1 ∈ GW ∧ Cond.selects Y_X11_rest.1.cls Y_X11_rest.1 Y_X11_rest.1 ∈ GW := ⟨q902, q903⟩
theorem q1686 : Cond.code ⟨"DeskRingsModel", "rest", "(IIII)I"⟩ prog_14_method_67_code 7 (some .int) ∈ GW := gw_of (gw_t (gw_8 (List.mem_of_getElem? (i := 6) (by decide +kernel)))) (by decide +kernel)
theorem zk_X12_rest : ZK Y_X12_rest 4 := ⟨q1686, q13, ⟨by decide, by decide⟩, by decide +kernel⟩
theorem q1684 : Cond.instanceMethod ⟨"DeskRingsModel", "rest", "(IIII)I"⟩ ∈ GW := gw_of (gw_t (gw_8 (List.mem_of_getElem? (i := 4) (by decide +kernel)))) (by decide +kernel)
theorem q1685 : Cond.selects "DeskRingsModel" ⟨"DeskRingsModel", "rest", "(IIII)I"⟩ ⟨"DeskRingsModel", "rest", "(IIII)I"⟩ ∈ GW := gw_of (gw_t (gw_8 (List.mem_of_getElem? (i := 5) (by decide +kernel)))) (by decide +kernel)
theorem zi_X12_rest : Cond.instanceMethod Y_X12_rest.1 ∈ GW ∧ Cond.selects Y_X12_rest.1.cls Y_X12_rest.1 Y_X12_rest.1 ∈ GW := ⟨q1684, q1685⟩
theorem q1683 : Cond.methodLink "DeskRingsLaw" 71 ⟨"DeskRingsModel", "rest", "(IIII)I"⟩ ∈ GW := gw_of (gw_t (gw_8 (List.mem_of_getElem? (i := 3) (by decide +kernel)))) (by decide +kernel)
theorem q901 : Cond.methodLink "DeskRingsLaw" 68 ⟨"DeskRings", "rest", "(IIII)I"⟩ ∈ GW := gw_of (gw_t (gw_4 (List.mem_of_getElem? (i := 181) (by decide +kernel)))) (by decide +kernel)
theorem q968 : Cond.code ⟨"DeskRings", "button", "(II)J"⟩ prog_1_method_15_code 4 (some .long) ∈ GW := gw_of (gw_t (gw_5 (List.mem_of_getElem? (i := 8) (by decide +kernel)))) (by decide +kernel)
theorem zk_X11_button : ZK Y_X11_button 2 := ⟨q968, q1, ⟨by decide, by decide⟩, by decide +kernel⟩
theorem q966 : Cond.instanceMethod ⟨"DeskRings", "button", "(II)J"⟩ ∈ GW := gw_of (gw_t (gw_5 (List.mem_of_getElem? (i := 6) (by decide +kernel)))) (by decide +kernel)
theorem q967 : Cond.selects "DeskRings" ⟨"DeskRings", "button", "(II)J"⟩ ⟨"DeskRings", "button", "(II)J"⟩ ∈ GW := gw_of (gw_t (gw_5 (List.mem_of_getElem? (i := 7) (by decide +kernel)))) (by decide +kernel)
theorem zi_X11_button : Cond.instanceMethod Y_X11_button.1 ∈ GW ∧ Cond.selects Y_X11_button.1.cls Y_X11_button.1 Y_X11_button.1 ∈ GW := ⟨q966, q967⟩
theorem q1718 : Cond.code ⟨"DeskRingsModel", "button", "(II)J"⟩ prog_14_method_73_code 7 (some .long) ∈ GW := gw_of (gw_t (gw_8 (List.mem_of_getElem? (i := 38) (by decide +kernel)))) (by decide +kernel)
theorem zk_X12_button : ZK Y_X12_button 2 := ⟨q1718, q13, ⟨by decide, by decide⟩, by decide +kernel⟩
theorem q1716 : Cond.instanceMethod ⟨"DeskRingsModel", "button", "(II)J"⟩ ∈ GW := gw_of (gw_t (gw_8 (List.mem_of_getElem? (i := 36) (by decide +kernel)))) (by decide +kernel)
theorem q1717 : Cond.selects "DeskRingsModel" ⟨"DeskRingsModel", "button", "(II)J"⟩ ⟨"DeskRingsModel", "button", "(II)J"⟩ ∈ GW := gw_of (gw_t (gw_8 (List.mem_of_getElem? (i := 37) (by decide +kernel)))) (by decide +kernel)
theorem zi_X12_button : Cond.instanceMethod Y_X12_button.1 ∈ GW ∧ Cond.selects Y_X12_button.1.cls Y_X12_button.1 Y_X12_button.1 ∈ GW := ⟨q1716, q1717⟩
theorem q1715 : Cond.methodLink "DeskRingsLaw" 76 ⟨"DeskRingsModel", "button", "(II)J"⟩ ∈ GW := gw_of (gw_t (gw_8 (List.mem_of_getElem? (i := 35) (by decide +kernel)))) (by decide +kernel)
theorem q965 : Cond.methodLink "DeskRingsLaw" 72 ⟨"DeskRings", "button", "(II)J"⟩ ∈ GW := gw_of (gw_t (gw_5 (List.mem_of_getElem? (i := 5) (by decide +kernel)))) (by decide +kernel)
theorem q980 : Cond.code ⟨"DeskRings", "fact", "(III)I"⟩ prog_1_method_16_code 5 (some .int) ∈ GW := gw_of (gw_t (gw_5 (List.mem_of_getElem? (i := 20) (by decide +kernel)))) (by decide +kernel)
theorem zk_X11_fact : ZK Y_X11_fact 3 := ⟨q980, q1, ⟨by decide, by decide⟩, by decide +kernel⟩
theorem q978 : Cond.instanceMethod ⟨"DeskRings", "fact", "(III)I"⟩ ∈ GW := gw_of (gw_t (gw_5 (List.mem_of_getElem? (i := 18) (by decide +kernel)))) (by decide +kernel)
theorem q979 : Cond.selects "DeskRings" ⟨"DeskRings", "fact", "(III)I"⟩ ⟨"DeskRings", "fact", "(III)I"⟩ ∈ GW := gw_of (gw_t (gw_5 (List.mem_of_getElem? (i := 19) (by decide +kernel)))) (by decide +kernel)
theorem zi_X11_fact : Cond.instanceMethod Y_X11_fact.1 ∈ GW ∧ Cond.selects Y_X11_fact.1.cls Y_X11_fact.1 Y_X11_fact.1 ∈ GW := ⟨q978, q979⟩
theorem q1734 : Cond.code ⟨"DeskRingsModel", "fact", "(III)I"⟩ prog_14_method_75_code 4 (some .int) ∈ GW := gw_of (gw_t (gw_8 (List.mem_of_getElem? (i := 54) (by decide +kernel)))) (by decide +kernel)
theorem zk_X12_fact : ZK Y_X12_fact 3 := ⟨q1734, q13, ⟨by decide, by decide⟩, by decide +kernel⟩
theorem q1732 : Cond.instanceMethod ⟨"DeskRingsModel", "fact", "(III)I"⟩ ∈ GW := gw_of (gw_t (gw_8 (List.mem_of_getElem? (i := 52) (by decide +kernel)))) (by decide +kernel)
theorem q1733 : Cond.selects "DeskRingsModel" ⟨"DeskRingsModel", "fact", "(III)I"⟩ ⟨"DeskRingsModel", "fact", "(III)I"⟩ ∈ GW := gw_of (gw_t (gw_8 (List.mem_of_getElem? (i := 53) (by decide +kernel)))) (by decide +kernel)
theorem zi_X12_fact : Cond.instanceMethod Y_X12_fact.1 ∈ GW ∧ Cond.selects Y_X12_fact.1.cls Y_X12_fact.1 Y_X12_fact.1 ∈ GW := ⟨q1732, q1733⟩
theorem q1731 : Cond.methodLink "DeskRingsLaw" 80 ⟨"DeskRingsModel", "fact", "(III)I"⟩ ∈ GW := gw_of (gw_t (gw_8 (List.mem_of_getElem? (i := 51) (by decide +kernel)))) (by decide +kernel)
theorem q977 : Cond.methodLink "DeskRingsLaw" 77 ⟨"DeskRings", "fact", "(III)I"⟩ ∈ GW := gw_of (gw_t (gw_5 (List.mem_of_getElem? (i := 17) (by decide +kernel)))) (by decide +kernel)
theorem q992 : Cond.code ⟨"DeskRings", "fits", "(III)I"⟩ prog_1_method_17_code 6 (some .int) ∈ GW := gw_of (gw_t (gw_5 (List.mem_of_getElem? (i := 32) (by decide +kernel)))) (by decide +kernel)
theorem zk_X11_fits : ZK Y_X11_fits 3 := ⟨q992, q1, ⟨by decide, by decide⟩, by decide +kernel⟩
theorem q990 : Cond.instanceMethod ⟨"DeskRings", "fits", "(III)I"⟩ ∈ GW := gw_of (gw_t (gw_5 (List.mem_of_getElem? (i := 30) (by decide +kernel)))) (by decide +kernel)
theorem q991 : Cond.selects "DeskRings" ⟨"DeskRings", "fits", "(III)I"⟩ ⟨"DeskRings", "fits", "(III)I"⟩ ∈ GW := gw_of (gw_t (gw_5 (List.mem_of_getElem? (i := 31) (by decide +kernel)))) (by decide +kernel)
theorem zi_X11_fits : Cond.instanceMethod Y_X11_fits.1 ∈ GW ∧ Cond.selects Y_X11_fits.1.cls Y_X11_fits.1 Y_X11_fits.1 ∈ GW := ⟨q990, q991⟩
theorem q1742 : Cond.code ⟨"DeskRingsModel", "fits", "(III)I"⟩ prog_14_method_83_code 7 (some .int) ∈ GW := gw_of (gw_t (gw_8 (List.mem_of_getElem? (i := 62) (by decide +kernel)))) (by decide +kernel)
theorem zk_X12_fits : ZK Y_X12_fits 3 := ⟨q1742, q13, ⟨by decide, by decide⟩, by decide +kernel⟩
theorem q1740 : Cond.instanceMethod ⟨"DeskRingsModel", "fits", "(III)I"⟩ ∈ GW := gw_of (gw_t (gw_8 (List.mem_of_getElem? (i := 60) (by decide +kernel)))) (by decide +kernel)
theorem q1741 : Cond.selects "DeskRingsModel" ⟨"DeskRingsModel", "fits", "(III)I"⟩ ⟨"DeskRingsModel", "fits", "(III)I"⟩ ∈ GW := gw_of (gw_t (gw_8 (List.mem_of_getElem? (i := 61) (by decide +kernel)))) (by decide +kernel)
theorem zi_X12_fits : Cond.instanceMethod Y_X12_fits.1 ∈ GW ∧ Cond.selects Y_X12_fits.1.cls Y_X12_fits.1 Y_X12_fits.1 ∈ GW := ⟨q1740, q1741⟩
theorem q1739 : Cond.methodLink "DeskRingsLaw" 84 ⟨"DeskRingsModel", "fits", "(III)I"⟩ ∈ GW := gw_of (gw_t (gw_8 (List.mem_of_getElem? (i := 59) (by decide +kernel)))) (by decide +kernel)
theorem q989 : Cond.methodLink "DeskRingsLaw" 81 ⟨"DeskRings", "fits", "(III)I"⟩ ∈ GW := gw_of (gw_t (gw_5 (List.mem_of_getElem? (i := 29) (by decide +kernel)))) (by decide +kernel)
theorem q1043 : Cond.code ⟨"DeskRings", "drawn", "(IIII)I"⟩ prog_1_method_18_code 6 (some .int) ∈ GW := gw_of (gw_t (gw_5 (List.mem_of_getElem? (i := 83) (by decide +kernel)))) (by decide +kernel)
theorem zk_X11_drawn : ZK Y_X11_drawn 4 := ⟨q1043, q1, ⟨by decide, by decide⟩, by decide +kernel⟩
theorem q1041 : Cond.instanceMethod ⟨"DeskRings", "drawn", "(IIII)I"⟩ ∈ GW := gw_of (gw_t (gw_5 (List.mem_of_getElem? (i := 81) (by decide +kernel)))) (by decide +kernel)
theorem q1042 : Cond.selects "DeskRings" ⟨"DeskRings", "drawn", "(IIII)I"⟩ ⟨"DeskRings", "drawn", "(IIII)I"⟩ ∈ GW := gw_of (gw_t (gw_5 (List.mem_of_getElem? (i := 82) (by decide +kernel)))) (by decide +kernel)
theorem zi_X11_drawn : Cond.instanceMethod Y_X11_drawn.1 ∈ GW ∧ Cond.selects Y_X11_drawn.1.cls Y_X11_drawn.1 Y_X11_drawn.1 ∈ GW := ⟨q1041, q1042⟩
theorem q1917 : Cond.code ⟨"DeskRingsModel", "drawn", "(IIII)I"⟩ prog_14_method_122_code 6 (some .int) ∈ GW := gw_of (gw_t (gw_8 (List.mem_of_getElem? (i := 237) (by decide +kernel)))) (by decide +kernel)
theorem zk_X12_drawn : ZK Y_X12_drawn 4 := ⟨q1917, q13, ⟨by decide, by decide⟩, by decide +kernel⟩
theorem q1915 : Cond.instanceMethod ⟨"DeskRingsModel", "drawn", "(IIII)I"⟩ ∈ GW := gw_of (gw_t (gw_8 (List.mem_of_getElem? (i := 235) (by decide +kernel)))) (by decide +kernel)
theorem q1916 : Cond.selects "DeskRingsModel" ⟨"DeskRingsModel", "drawn", "(IIII)I"⟩ ⟨"DeskRingsModel", "drawn", "(IIII)I"⟩ ∈ GW := gw_of (gw_t (gw_8 (List.mem_of_getElem? (i := 236) (by decide +kernel)))) (by decide +kernel)
theorem zi_X12_drawn : Cond.instanceMethod Y_X12_drawn.1 ∈ GW ∧ Cond.selects Y_X12_drawn.1.cls Y_X12_drawn.1 Y_X12_drawn.1 ∈ GW := ⟨q1915, q1916⟩
theorem q1914 : Cond.methodLink "DeskRingsLaw" 88 ⟨"DeskRingsModel", "drawn", "(IIII)I"⟩ ∈ GW := gw_of (gw_t (gw_8 (List.mem_of_getElem? (i := 234) (by decide +kernel)))) (by decide +kernel)
theorem q1040 : Cond.methodLink "DeskRingsLaw" 85 ⟨"DeskRings", "drawn", "(IIII)I"⟩ ∈ GW := gw_of (gw_t (gw_5 (List.mem_of_getElem? (i := 80) (by decide +kernel)))) (by decide +kernel)
theorem q1056 : Cond.code ⟨"DeskRings", "lunch", "(IIZ)I"⟩ prog_1_method_19_code 5 (some .int) ∈ GW := gw_of (gw_t (gw_5 (List.mem_of_getElem? (i := 96) (by decide +kernel)))) (by decide +kernel)
theorem zk_X11_lunch : ZK Y_X11_lunch 3 := ⟨q1056, q1, ⟨by decide, by decide⟩, by decide +kernel⟩
theorem q1054 : Cond.instanceMethod ⟨"DeskRings", "lunch", "(IIZ)I"⟩ ∈ GW := gw_of (gw_t (gw_5 (List.mem_of_getElem? (i := 94) (by decide +kernel)))) (by decide +kernel)
theorem q1055 : Cond.selects "DeskRings" ⟨"DeskRings", "lunch", "(IIZ)I"⟩ ⟨"DeskRings", "lunch", "(IIZ)I"⟩ ∈ GW := gw_of (gw_t (gw_5 (List.mem_of_getElem? (i := 95) (by decide +kernel)))) (by decide +kernel)
theorem zi_X11_lunch : Cond.instanceMethod Y_X11_lunch.1 ∈ GW ∧ Cond.selects Y_X11_lunch.1.cls Y_X11_lunch.1 Y_X11_lunch.1 ∈ GW := ⟨q1054, q1055⟩
theorem q1774 : Cond.code ⟨"DeskRingsModel", "lunch", "(IIZ)I"⟩ prog_14_method_85_code 9 (some .int) ∈ GW := gw_of (gw_t (gw_8 (List.mem_of_getElem? (i := 94) (by decide +kernel)))) (by decide +kernel)
theorem zk_X12_lunch : ZK Y_X12_lunch 3 := ⟨q1774, q13, ⟨by decide, by decide⟩, by decide +kernel⟩
theorem q1772 : Cond.instanceMethod ⟨"DeskRingsModel", "lunch", "(IIZ)I"⟩ ∈ GW := gw_of (gw_t (gw_8 (List.mem_of_getElem? (i := 92) (by decide +kernel)))) (by decide +kernel)
theorem q1773 : Cond.selects "DeskRingsModel" ⟨"DeskRingsModel", "lunch", "(IIZ)I"⟩ ⟨"DeskRingsModel", "lunch", "(IIZ)I"⟩ ∈ GW := gw_of (gw_t (gw_8 (List.mem_of_getElem? (i := 93) (by decide +kernel)))) (by decide +kernel)
theorem zi_X12_lunch : Cond.instanceMethod Y_X12_lunch.1 ∈ GW ∧ Cond.selects Y_X12_lunch.1.cls Y_X12_lunch.1 Y_X12_lunch.1 ∈ GW := ⟨q1772, q1773⟩
theorem q1771 : Cond.methodLink "DeskRingsLaw" 93 ⟨"DeskRingsModel", "lunch", "(IIZ)I"⟩ ∈ GW := gw_of (gw_t (gw_8 (List.mem_of_getElem? (i := 91) (by decide +kernel)))) (by decide +kernel)
theorem q1053 : Cond.methodLink "DeskRingsLaw" 89 ⟨"DeskRings", "lunch", "(IIZ)I"⟩ ∈ GW := gw_of (gw_t (gw_5 (List.mem_of_getElem? (i := 93) (by decide +kernel)))) (by decide +kernel)
theorem q1069 : Cond.code ⟨"DeskRings", "rule", "(III)I"⟩ prog_1_method_20_code 5 (some .int) ∈ GW := gw_of (gw_t (gw_5 (List.mem_of_getElem? (i := 109) (by decide +kernel)))) (by decide +kernel)
theorem zk_X11_rule : ZK Y_X11_rule 3 := ⟨q1069, q1, ⟨by decide, by decide⟩, by decide +kernel⟩
theorem q1067 : Cond.instanceMethod ⟨"DeskRings", "rule", "(III)I"⟩ ∈ GW := gw_of (gw_t (gw_5 (List.mem_of_getElem? (i := 107) (by decide +kernel)))) (by decide +kernel)
theorem q1068 : Cond.selects "DeskRings" ⟨"DeskRings", "rule", "(III)I"⟩ ⟨"DeskRings", "rule", "(III)I"⟩ ∈ GW := gw_of (gw_t (gw_5 (List.mem_of_getElem? (i := 108) (by decide +kernel)))) (by decide +kernel)
theorem zi_X11_rule : Cond.instanceMethod Y_X11_rule.1 ∈ GW ∧ Cond.selects Y_X11_rule.1.cls Y_X11_rule.1 Y_X11_rule.1 ∈ GW := ⟨q1067, q1068⟩
theorem q1782 : Cond.code ⟨"DeskRingsModel", "rule", "(III)I"⟩ prog_14_method_92_code 4 (some .int) ∈ GW := gw_of (gw_t (gw_8 (List.mem_of_getElem? (i := 102) (by decide +kernel)))) (by decide +kernel)
theorem zk_X12_rule : ZK Y_X12_rule 3 := ⟨q1782, q13, ⟨by decide, by decide⟩, by decide +kernel⟩
theorem q1780 : Cond.instanceMethod ⟨"DeskRingsModel", "rule", "(III)I"⟩ ∈ GW := gw_of (gw_t (gw_8 (List.mem_of_getElem? (i := 100) (by decide +kernel)))) (by decide +kernel)
theorem q1781 : Cond.selects "DeskRingsModel" ⟨"DeskRingsModel", "rule", "(III)I"⟩ ⟨"DeskRingsModel", "rule", "(III)I"⟩ ∈ GW := gw_of (gw_t (gw_8 (List.mem_of_getElem? (i := 101) (by decide +kernel)))) (by decide +kernel)
theorem zi_X12_rule : Cond.instanceMethod Y_X12_rule.1 ∈ GW ∧ Cond.selects Y_X12_rule.1.cls Y_X12_rule.1 Y_X12_rule.1 ∈ GW := ⟨q1780, q1781⟩
theorem q1779 : Cond.methodLink "DeskRingsLaw" 97 ⟨"DeskRingsModel", "rule", "(III)I"⟩ ∈ GW := gw_of (gw_t (gw_8 (List.mem_of_getElem? (i := 99) (by decide +kernel)))) (by decide +kernel)
theorem q1066 : Cond.methodLink "DeskRingsLaw" 94 ⟨"DeskRings", "rule", "(III)I"⟩ ∈ GW := gw_of (gw_t (gw_5 (List.mem_of_getElem? (i := 106) (by decide +kernel)))) (by decide +kernel)
theorem q1097 : Cond.code ⟨"DeskRings", "board", "(IZ)I"⟩ prog_1_method_21_code 5 (some .int) ∈ GW := gw_of (gw_t (gw_5 (List.mem_of_getElem? (i := 137) (by decide +kernel)))) (by decide +kernel)
theorem zk_X11_board : ZK Y_X11_board 2 := ⟨q1097, q1, ⟨by decide, by decide⟩, by decide +kernel⟩
theorem q1095 : Cond.instanceMethod ⟨"DeskRings", "board", "(IZ)I"⟩ ∈ GW := gw_of (gw_t (gw_5 (List.mem_of_getElem? (i := 135) (by decide +kernel)))) (by decide +kernel)
theorem q1096 : Cond.selects "DeskRings" ⟨"DeskRings", "board", "(IZ)I"⟩ ⟨"DeskRings", "board", "(IZ)I"⟩ ∈ GW := gw_of (gw_t (gw_5 (List.mem_of_getElem? (i := 136) (by decide +kernel)))) (by decide +kernel)
theorem zi_X11_board : Cond.instanceMethod Y_X11_board.1 ∈ GW ∧ Cond.selects Y_X11_board.1.cls Y_X11_board.1 Y_X11_board.1 ∈ GW := ⟨q1095, q1096⟩
theorem q1822 : Cond.code ⟨"DeskRingsModel", "board", "(IZ)I"⟩ prog_14_method_98_code 5 (some .int) ∈ GW := gw_of (gw_t (gw_8 (List.mem_of_getElem? (i := 142) (by decide +kernel)))) (by decide +kernel)
theorem zk_X12_board : ZK Y_X12_board 2 := ⟨q1822, q13, ⟨by decide, by decide⟩, by decide +kernel⟩
theorem q1820 : Cond.instanceMethod ⟨"DeskRingsModel", "board", "(IZ)I"⟩ ∈ GW := gw_of (gw_t (gw_8 (List.mem_of_getElem? (i := 140) (by decide +kernel)))) (by decide +kernel)
theorem q1821 : Cond.selects "DeskRingsModel" ⟨"DeskRingsModel", "board", "(IZ)I"⟩ ⟨"DeskRingsModel", "board", "(IZ)I"⟩ ∈ GW := gw_of (gw_t (gw_8 (List.mem_of_getElem? (i := 141) (by decide +kernel)))) (by decide +kernel)
theorem zi_X12_board : Cond.instanceMethod Y_X12_board.1 ∈ GW ∧ Cond.selects Y_X12_board.1.cls Y_X12_board.1 Y_X12_board.1 ∈ GW := ⟨q1820, q1821⟩
