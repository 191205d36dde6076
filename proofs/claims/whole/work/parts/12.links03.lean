theorem q1819 : Cond.methodLink "DeskRingsLaw" 102 ⟨"DeskRingsModel", "board", "(IZ)I"⟩ ∈ GW := gw_of (gw_t (gw_8 (List.mem_of_getElem? (i := 139) (by decide +kernel)))) (by decide +kernel)
theorem q1094 : Cond.methodLink "DeskRingsLaw" 98 ⟨"DeskRings", "board", "(IZ)I"⟩ ∈ GW := gw_of (gw_t (gw_5 (List.mem_of_getElem? (i := 134) (by decide +kernel)))) (by decide +kernel)
theorem q1110 : Cond.code ⟨"DeskRings", "rooms", "(IZ)I"⟩ prog_1_method_22_code 4 (some .int) ∈ GW := gw_of (gw_t (gw_5 (List.mem_of_getElem? (i := 150) (by decide +kernel)))) (by decide +kernel)
theorem zk_X11_rooms : ZK Y_X11_rooms 2 := ⟨q1110, q1, ⟨by decide, by decide⟩, by decide +kernel⟩
theorem q1108 : Cond.instanceMethod ⟨"DeskRings", "rooms", "(IZ)I"⟩ ∈ GW := gw_of (gw_t (gw_5 (List.mem_of_getElem? (i := 148) (by decide +kernel)))) (by decide +kernel)
theorem q1109 : Cond.selects "DeskRings" ⟨"DeskRings", "rooms", "(IZ)I"⟩ ⟨"DeskRings", "rooms", "(IZ)I"⟩ ∈ GW := gw_of (gw_t (gw_5 (List.mem_of_getElem? (i := 149) (by decide +kernel)))) (by decide +kernel)
theorem zi_X11_rooms : Cond.instanceMethod Y_X11_rooms.1 ∈ GW ∧ Cond.selects Y_X11_rooms.1.cls Y_X11_rooms.1 Y_X11_rooms.1 ∈ GW := ⟨q1108, q1109⟩
theorem q1833 : Cond.code ⟨"DeskRingsModel", "rooms", "(IZ)I"⟩ prog_14_method_100_code 8 (some .int) ∈ GW := gw_of (gw_t (gw_8 (List.mem_of_getElem? (i := 153) (by decide +kernel)))) (by decide +kernel)
theorem zk_X12_rooms : ZK Y_X12_rooms 2 := ⟨q1833, q13, ⟨by decide, by decide⟩, by decide +kernel⟩
theorem q1831 : Cond.instanceMethod ⟨"DeskRingsModel", "rooms", "(IZ)I"⟩ ∈ GW := gw_of (gw_t (gw_8 (List.mem_of_getElem? (i := 151) (by decide +kernel)))) (by decide +kernel)
theorem q1832 : Cond.selects "DeskRingsModel" ⟨"DeskRingsModel", "rooms", "(IZ)I"⟩ ⟨"DeskRingsModel", "rooms", "(IZ)I"⟩ ∈ GW := gw_of (gw_t (gw_8 (List.mem_of_getElem? (i := 152) (by decide +kernel)))) (by decide +kernel)
theorem zi_X12_rooms : Cond.instanceMethod Y_X12_rooms.1 ∈ GW ∧ Cond.selects Y_X12_rooms.1.cls Y_X12_rooms.1 Y_X12_rooms.1 ∈ GW := ⟨q1831, q1832⟩
theorem q1830 : Cond.methodLink "DeskRingsLaw" 106 ⟨"DeskRingsModel", "rooms", "(IZ)I"⟩ ∈ GW := gw_of (gw_t (gw_8 (List.mem_of_getElem? (i := 150) (by decide +kernel)))) (by decide +kernel)
theorem q1107 : Cond.methodLink "DeskRingsLaw" 103 ⟨"DeskRings", "rooms", "(IZ)I"⟩ ∈ GW := gw_of (gw_t (gw_5 (List.mem_of_getElem? (i := 147) (by decide +kernel)))) (by decide +kernel)
theorem q1131 : Cond.code ⟨"DeskRings", "seat", "(IIZ)I"⟩ prog_1_method_23_code 6 (some .int) ∈ GW := gw_of (gw_t (gw_5 (List.mem_of_getElem? (i := 171) (by decide +kernel)))) (by decide +kernel)
theorem zk_X11_seat : ZK Y_X11_seat 3 := ⟨q1131, q1, ⟨by decide, by decide⟩, by decide +kernel⟩
theorem q1129 : Cond.instanceMethod ⟨"DeskRings", "seat", "(IIZ)I"⟩ ∈ GW := gw_of (gw_t (gw_5 (List.mem_of_getElem? (i := 169) (by decide +kernel)))) (by decide +kernel)
theorem q1130 : Cond.selects "DeskRings" ⟨"DeskRings", "seat", "(IIZ)I"⟩ ⟨"DeskRings", "seat", "(IIZ)I"⟩ ∈ GW := gw_of (gw_t (gw_5 (List.mem_of_getElem? (i := 170) (by decide +kernel)))) (by decide +kernel)
theorem zi_X11_seat : Cond.instanceMethod Y_X11_seat.1 ∈ GW ∧ Cond.selects Y_X11_seat.1.cls Y_X11_seat.1 Y_X11_seat.1 ∈ GW := ⟨q1129, q1130⟩
theorem q1841 : Cond.code ⟨"DeskRingsModel", "seat", "(IIZ)I"⟩ prog_14_method_102_code 6 (some .int) ∈ GW := gw_of (gw_t (gw_8 (List.mem_of_getElem? (i := 161) (by decide +kernel)))) (by decide +kernel)
theorem zk_X12_seat : ZK Y_X12_seat 3 := ⟨q1841, q13, ⟨by decide, by decide⟩, by decide +kernel⟩
theorem q1839 : Cond.instanceMethod ⟨"DeskRingsModel", "seat", "(IIZ)I"⟩ ∈ GW := gw_of (gw_t (gw_8 (List.mem_of_getElem? (i := 159) (by decide +kernel)))) (by decide +kernel)
theorem q1840 : Cond.selects "DeskRingsModel" ⟨"DeskRingsModel", "seat", "(IIZ)I"⟩ ⟨"DeskRingsModel", "seat", "(IIZ)I"⟩ ∈ GW := gw_of (gw_t (gw_8 (List.mem_of_getElem? (i := 160) (by decide +kernel)))) (by decide +kernel)
theorem zi_X12_seat : Cond.instanceMethod Y_X12_seat.1 ∈ GW ∧ Cond.selects Y_X12_seat.1.cls Y_X12_seat.1 Y_X12_seat.1 ∈ GW := ⟨q1839, q1840⟩
theorem q1838 : Cond.methodLink "DeskRingsLaw" 110 ⟨"DeskRingsModel", "seat", "(IIZ)I"⟩ ∈ GW := gw_of (gw_t (gw_8 (List.mem_of_getElem? (i := 158) (by decide +kernel)))) (by decide +kernel)
theorem q1128 : Cond.methodLink "DeskRingsLaw" 107 ⟨"DeskRings", "seat", "(IIZ)I"⟩ ∈ GW := gw_of (gw_t (gw_5 (List.mem_of_getElem? (i := 168) (by decide +kernel)))) (by decide +kernel)
theorem q1144 : Cond.code ⟨"DeskRings", "quiet", "(II)I"⟩ prog_1_method_24_code 4 (some .int) ∈ GW := gw_of (gw_t (gw_5 (List.mem_of_getElem? (i := 184) (by decide +kernel)))) (by decide +kernel)
theorem zk_X11_quiet : ZK Y_X11_quiet 2 := ⟨q1144, q1, ⟨by decide, by decide⟩, by decide +kernel⟩
theorem q1142 : Cond.instanceMethod ⟨"DeskRings", "quiet", "(II)I"⟩ ∈ GW := gw_of (gw_t (gw_5 (List.mem_of_getElem? (i := 182) (by decide +kernel)))) (by decide +kernel)
theorem q1143 : Cond.selects "DeskRings" ⟨"DeskRings", "quiet", "(II)I"⟩ ⟨"DeskRings", "quiet", "(II)I"⟩ ∈ GW := gw_of (gw_t (gw_5 (List.mem_of_getElem? (i := 183) (by decide +kernel)))) (by decide +kernel)
theorem zi_X11_quiet : Cond.instanceMethod Y_X11_quiet.1 ∈ GW ∧ Cond.selects Y_X11_quiet.1.cls Y_X11_quiet.1 Y_X11_quiet.1 ∈ GW := ⟨q1142, q1143⟩
theorem q1849 : Cond.code ⟨"DeskRingsModel", "quiet", "(II)I"⟩ prog_14_method_103_code 7 (some .int) ∈ GW := gw_of (gw_t (gw_8 (List.mem_of_getElem? (i := 169) (by decide +kernel)))) (by decide +kernel)
theorem zk_X12_quiet : ZK Y_X12_quiet 2 := ⟨q1849, q13, ⟨by decide, by decide⟩, by decide +kernel⟩
theorem q1847 : Cond.instanceMethod ⟨"DeskRingsModel", "quiet", "(II)I"⟩ ∈ GW := gw_of (gw_t (gw_8 (List.mem_of_getElem? (i := 167) (by decide +kernel)))) (by decide +kernel)
theorem q1848 : Cond.selects "DeskRingsModel" ⟨"DeskRingsModel", "quiet", "(II)I"⟩ ⟨"DeskRingsModel", "quiet", "(II)I"⟩ ∈ GW := gw_of (gw_t (gw_8 (List.mem_of_getElem? (i := 168) (by decide +kernel)))) (by decide +kernel)
theorem zi_X12_quiet : Cond.instanceMethod Y_X12_quiet.1 ∈ GW ∧ Cond.selects Y_X12_quiet.1.cls Y_X12_quiet.1 Y_X12_quiet.1 ∈ GW := ⟨q1847, q1848⟩
theorem q1846 : Cond.methodLink "DeskRingsLaw" 114 ⟨"DeskRingsModel", "quiet", "(II)I"⟩ ∈ GW := gw_of (gw_t (gw_8 (List.mem_of_getElem? (i := 166) (by decide +kernel)))) (by decide +kernel)
theorem q1141 : Cond.methodLink "DeskRingsLaw" 111 ⟨"DeskRings", "quiet", "(II)I"⟩ ∈ GW := gw_of (gw_t (gw_5 (List.mem_of_getElem? (i := 181) (by decide +kernel)))) (by decide +kernel)
theorem q1154 : Cond.code ⟨"DeskRings", "given", "(II)I"⟩ prog_1_method_25_code 4 (some .int) ∈ GW := gw_of (gw_t (gw_5 (List.mem_of_getElem? (i := 194) (by decide +kernel)))) (by decide +kernel)
theorem zk_X11_given : ZK Y_X11_given 2 := ⟨q1154, q1, ⟨by decide, by decide⟩, by decide +kernel⟩
theorem q1152 : Cond.instanceMethod ⟨"DeskRings", "given", "(II)I"⟩ ∈ GW := gw_of (gw_t (gw_5 (List.mem_of_getElem? (i := 192) (by decide +kernel)))) (by decide +kernel)
theorem q1153 : Cond.selects "DeskRings" ⟨"DeskRings", "given", "(II)I"⟩ ⟨"DeskRings", "given", "(II)I"⟩ ∈ GW := gw_of (gw_t (gw_5 (List.mem_of_getElem? (i := 193) (by decide +kernel)))) (by decide +kernel)
theorem zi_X11_given : Cond.instanceMethod Y_X11_given.1 ∈ GW ∧ Cond.selects Y_X11_given.1.cls Y_X11_given.1 Y_X11_given.1 ∈ GW := ⟨q1152, q1153⟩
theorem q1853 : Cond.code ⟨"DeskRingsModel", "given", "(II)I"⟩ prog_14_method_106_code 8 (some .int) ∈ GW := gw_of (gw_t (gw_8 (List.mem_of_getElem? (i := 173) (by decide +kernel)))) (by decide +kernel)
theorem zk_X12_given : ZK Y_X12_given 2 := ⟨q1853, q13, ⟨by decide, by decide⟩, by decide +kernel⟩
theorem q1851 : Cond.instanceMethod ⟨"DeskRingsModel", "given", "(II)I"⟩ ∈ GW := gw_of (gw_t (gw_8 (List.mem_of_getElem? (i := 171) (by decide +kernel)))) (by decide +kernel)
theorem q1852 : Cond.selects "DeskRingsModel" ⟨"DeskRingsModel", "given", "(II)I"⟩ ⟨"DeskRingsModel", "given", "(II)I"⟩ ∈ GW := gw_of (gw_t (gw_8 (List.mem_of_getElem? (i := 172) (by decide +kernel)))) (by decide +kernel)
theorem zi_X12_given : Cond.instanceMethod Y_X12_given.1 ∈ GW ∧ Cond.selects Y_X12_given.1.cls Y_X12_given.1 Y_X12_given.1 ∈ GW := ⟨q1851, q1852⟩
theorem q1850 : Cond.methodLink "DeskRingsLaw" 118 ⟨"DeskRingsModel", "given", "(II)I"⟩ ∈ GW := gw_of (gw_t (gw_8 (List.mem_of_getElem? (i := 170) (by decide +kernel)))) (by decide +kernel)
theorem q1151 : Cond.methodLink "DeskRingsLaw" 115 ⟨"DeskRings", "given", "(II)I"⟩ ∈ GW := gw_of (gw_t (gw_5 (List.mem_of_getElem? (i := 191) (by decide +kernel)))) (by decide +kernel)
theorem q1178 : Cond.code ⟨"DeskRings", "curve", "(II)I"⟩ prog_1_method_26_code 6 (some .int) ∈ GW := gw_of (gw_t (gw_5 (List.mem_of_getElem? (i := 218) (by decide +kernel)))) (by decide +kernel)
theorem zk_X11_curve : ZK Y_X11_curve 2 := ⟨q1178, q1, ⟨by decide, by decide⟩, by decide +kernel⟩
theorem q1176 : Cond.instanceMethod ⟨"DeskRings", "curve", "(II)I"⟩ ∈ GW := gw_of (gw_t (gw_5 (List.mem_of_getElem? (i := 216) (by decide +kernel)))) (by decide +kernel)
theorem q1177 : Cond.selects "DeskRings" ⟨"DeskRings", "curve", "(II)I"⟩ ⟨"DeskRings", "curve", "(II)I"⟩ ∈ GW := gw_of (gw_t (gw_5 (List.mem_of_getElem? (i := 217) (by decide +kernel)))) (by decide +kernel)
theorem zi_X11_curve : Cond.instanceMethod Y_X11_curve.1 ∈ GW ∧ Cond.selects Y_X11_curve.1.cls Y_X11_curve.1 Y_X11_curve.1 ∈ GW := ⟨q1176, q1177⟩
theorem q1865 : Cond.code ⟨"DeskRingsModel", "curve", "(II)I"⟩ prog_14_method_107_code 5 (some .int) ∈ GW := gw_of (gw_t (gw_8 (List.mem_of_getElem? (i := 185) (by decide +kernel)))) (by decide +kernel)
theorem zk_X12_curve : ZK Y_X12_curve 2 := ⟨q1865, q13, ⟨by decide, by decide⟩, by decide +kernel⟩
theorem q1863 : Cond.instanceMethod ⟨"DeskRingsModel", "curve", "(II)I"⟩ ∈ GW := gw_of (gw_t (gw_8 (List.mem_of_getElem? (i := 183) (by decide +kernel)))) (by decide +kernel)
theorem q1864 : Cond.selects "DeskRingsModel" ⟨"DeskRingsModel", "curve", "(II)I"⟩ ⟨"DeskRingsModel", "curve", "(II)I"⟩ ∈ GW := gw_of (gw_t (gw_8 (List.mem_of_getElem? (i := 184) (by decide +kernel)))) (by decide +kernel)
theorem zi_X12_curve : Cond.instanceMethod Y_X12_curve.1 ∈ GW ∧ Cond.selects Y_X12_curve.1.cls Y_X12_curve.1 Y_X12_curve.1 ∈ GW := ⟨q1863, q1864⟩
theorem q1862 : Cond.methodLink "DeskRingsLaw" 122 ⟨"DeskRingsModel", "curve", "(II)I"⟩ ∈ GW := gw_of (gw_t (gw_8 (List.mem_of_getElem? (i := 182) (by decide +kernel)))) (by decide +kernel)
theorem q1175 : Cond.methodLink "DeskRingsLaw" 119 ⟨"DeskRings", "curve", "(II)I"⟩ ∈ GW := gw_of (gw_t (gw_5 (List.mem_of_getElem? (i := 215) (by decide +kernel)))) (by decide +kernel)
theorem q1183 : Cond.code ⟨"DeskRings", "ears", "(I)I"⟩ prog_1_method_27_code 3 (some .int) ∈ GW := gw_of (gw_t (gw_5 (List.mem_of_getElem? (i := 223) (by decide +kernel)))) (by decide +kernel)
theorem zk_X11_ears : ZK Y_X11_ears 1 := ⟨q1183, q1, ⟨by decide, by decide⟩, by decide +kernel⟩
theorem q1181 : Cond.instanceMethod ⟨"DeskRings", "ears", "(I)I"⟩ ∈ GW := gw_of (gw_t (gw_5 (List.mem_of_getElem? (i := 221) (by decide +kernel)))) (by decide +kernel)
theorem q1182 : Cond.selects "DeskRings" ⟨"DeskRings", "ears", "(I)I"⟩ ⟨"DeskRings", "ears", "(I)I"⟩ ∈ GW := gw_of (gw_t (gw_5 (List.mem_of_getElem? (i := 222) (by decide +kernel)))) (by decide +kernel)
theorem zi_X11_ears : Cond.instanceMethod Y_X11_ears.1 ∈ GW ∧ Cond.selects Y_X11_ears.1.cls Y_X11_ears.1 Y_X11_ears.1 ∈ GW := ⟨q1181, q1182⟩
theorem q1869 : Cond.code ⟨"DeskRingsModel", "ears", "(I)I"⟩ prog_14_method_108_code 6 (some .int) ∈ GW := gw_of (gw_t (gw_8 (List.mem_of_getElem? (i := 189) (by decide +kernel)))) (by decide +kernel)
theorem zk_X12_ears : ZK Y_X12_ears 1 := ⟨q1869, q13, ⟨by decide, by decide⟩, by decide +kernel⟩
theorem q1867 : Cond.instanceMethod ⟨"DeskRingsModel", "ears", "(I)I"⟩ ∈ GW := gw_of (gw_t (gw_8 (List.mem_of_getElem? (i := 187) (by decide +kernel)))) (by decide +kernel)
theorem q1868 : Cond.selects "DeskRingsModel" ⟨"DeskRingsModel", "ears", "(I)I"⟩ ⟨"DeskRingsModel", "ears", "(I)I"⟩ ∈ GW := gw_of (gw_t (gw_8 (List.mem_of_getElem? (i := 188) (by decide +kernel)))) (by decide +kernel)
theorem zi_X12_ears : Cond.instanceMethod Y_X12_ears.1 ∈ GW ∧ Cond.selects Y_X12_ears.1.cls Y_X12_ears.1 Y_X12_ears.1 ∈ GW := ⟨q1867, q1868⟩
theorem q1866 : Cond.methodLink "DeskRingsLaw" 126 ⟨"DeskRingsModel", "ears", "(I)I"⟩ ∈ GW := gw_of (gw_t (gw_8 (List.mem_of_getElem? (i := 186) (by decide +kernel)))) (by decide +kernel)
theorem q1180 : Cond.methodLink "DeskRingsLaw" 123 ⟨"DeskRings", "ears", "(I)I"⟩ ∈ GW := gw_of (gw_t (gw_5 (List.mem_of_getElem? (i := 220) (by decide +kernel)))) (by decide +kernel)
theorem q1193 : Cond.code ⟨"DeskRings", "order", "(III)I"⟩ prog_1_method_28_code 5 (some .int) ∈ GW := gw_of (gw_t (gw_5 (List.mem_of_getElem? (i := 233) (by decide +kernel)))) (by decide +kernel)
theorem zk_X11_order : ZK Y_X11_order 3 := ⟨q1193, q1, ⟨by decide, by decide⟩, by decide +kernel⟩
theorem q1191 : Cond.instanceMethod ⟨"DeskRings", "order", "(III)I"⟩ ∈ GW := gw_of (gw_t (gw_5 (List.mem_of_getElem? (i := 231) (by decide +kernel)))) (by decide +kernel)
theorem q1192 : Cond.selects "DeskRings" ⟨"DeskRings", "order", "(III)I"⟩ ⟨"DeskRings", "order", "(III)I"⟩ ∈ GW := gw_of (gw_t (gw_5 (List.mem_of_getElem? (i := 232) (by decide +kernel)))) (by decide +kernel)
theorem zi_X11_order : Cond.instanceMethod Y_X11_order.1 ∈ GW ∧ Cond.selects Y_X11_order.1.cls Y_X11_order.1 Y_X11_order.1 ∈ GW := ⟨q1191, q1192⟩
theorem q1814 : Cond.code ⟨"DeskRingsModel", "order", "(III)I"⟩ prog_14_method_95_code 8 (some .int) ∈ GW := gw_of (gw_t (gw_8 (List.mem_of_getElem? (i := 134) (by decide +kernel)))) (by decide +kernel)
theorem zk_X12_order : ZK Y_X12_order 3 := ⟨q1814, q13, ⟨by decide, by decide⟩, by decide +kernel⟩
theorem q1812 : Cond.instanceMethod ⟨"DeskRingsModel", "order", "(III)I"⟩ ∈ GW := gw_of (gw_t (gw_8 (List.mem_of_getElem? (i := 132) (by decide +kernel)))) (by decide +kernel)
theorem q1813 : Cond.selects "DeskRingsModel" ⟨"DeskRingsModel", "order", "(III)I"⟩ ⟨"DeskRingsModel", "order", "(III)I"⟩ ∈ GW := gw_of (gw_t (gw_8 (List.mem_of_getElem? (i := 133) (by decide +kernel)))) (by decide +kernel)
theorem zi_X12_order : Cond.instanceMethod Y_X12_order.1 ∈ GW ∧ Cond.selects Y_X12_order.1.cls Y_X12_order.1 Y_X12_order.1 ∈ GW := ⟨q1812, q1813⟩
theorem q1811 : Cond.methodLink "DeskRingsLaw" 130 ⟨"DeskRingsModel", "order", "(III)I"⟩ ∈ GW := gw_of (gw_t (gw_8 (List.mem_of_getElem? (i := 131) (by decide +kernel)))) (by decide +kernel)
theorem q1190 : Cond.methodLink "DeskRingsLaw" 127 ⟨"DeskRings", "order", "(III)I"⟩ ∈ GW := gw_of (gw_t (gw_5 (List.mem_of_getElem? (i := 230) (by decide +kernel)))) (by decide +kernel)
theorem q1216 : Cond.code ⟨"DeskRings", "after", "(III)I"⟩ prog_1_method_29_code 6 (some .int) ∈ GW := gw_of (gw_t (gw_6 (List.mem_of_getElem? (i := 16) (by decide +kernel)))) (by decide +kernel)
theorem zk_X11_after : ZK Y_X11_after 3 := ⟨q1216, q1, ⟨by decide, by decide⟩, by decide +kernel⟩
theorem q1214 : Cond.instanceMethod ⟨"DeskRings", "after", "(III)I"⟩ ∈ GW := gw_of (gw_t (gw_6 (List.mem_of_getElem? (i := 14) (by decide +kernel)))) (by decide +kernel)
theorem q1215 : Cond.selects "DeskRings" ⟨"DeskRings", "after", "(III)I"⟩ ⟨"DeskRings", "after", "(III)I"⟩ ∈ GW := gw_of (gw_t (gw_6 (List.mem_of_getElem? (i := 15) (by decide +kernel)))) (by decide +kernel)
theorem zi_X11_after : Cond.instanceMethod Y_X11_after.1 ∈ GW ∧ Cond.selects Y_X11_after.1.cls Y_X11_after.1 Y_X11_after.1 ∈ GW := ⟨q1214, q1215⟩
theorem q1873 : Cond.code ⟨"DeskRingsModel", "after", "(III)I"⟩ prog_14_method_110_code 6 (some .int) ∈ GW := gw_of (gw_t (gw_8 (List.mem_of_getElem? (i := 193) (by decide +kernel)))) (by decide +kernel)
theorem zk_X12_after : ZK Y_X12_after 3 := ⟨q1873, q13, ⟨by decide, by decide⟩, by decide +kernel⟩
theorem q1871 : Cond.instanceMethod ⟨"DeskRingsModel", "after", "(III)I"⟩ ∈ GW := gw_of (gw_t (gw_8 (List.mem_of_getElem? (i := 191) (by decide +kernel)))) (by decide +kernel)
theorem q1872 : Cond.selects "DeskRingsModel" ⟨"DeskRingsModel", "after", "(III)I"⟩ ⟨"DeskRingsModel", "after", "(III)I"⟩ ∈ GW := gw_of (gw_t (gw_8 (List.mem_of_getElem? (i := 192) (by decide +kernel)))) (by decide +kernel)
theorem zi_X12_after : Cond.instanceMethod Y_X12_after.1 ∈ GW ∧ Cond.selects Y_X12_after.1.cls Y_X12_after.1 Y_X12_after.1 ∈ GW := ⟨q1871, q1872⟩
theorem q1870 : Cond.methodLink "DeskRingsLaw" 134 ⟨"DeskRingsModel", "after", "(III)I"⟩ ∈ GW := gw_of (gw_t (gw_8 (List.mem_of_getElem? (i := 190) (by decide +kernel)))) (by decide +kernel)
theorem q1213 : Cond.methodLink "DeskRingsLaw" 131 ⟨"DeskRings", "after", "(III)I"⟩ ∈ GW := gw_of (gw_t (gw_6 (List.mem_of_getElem? (i := 13) (by decide +kernel)))) (by decide +kernel)
theorem q1233 : Cond.code ⟨"DeskRings", "blame", "(IIZ)I"⟩ prog_1_method_30_code 7 (some .int) ∈ GW := gw_of (gw_t (gw_6 (List.mem_of_getElem? (i := 33) (by decide +kernel)))) (by decide +kernel)
theorem zk_X11_blame : ZK Y_X11_blame 3 := ⟨q1233, q1, ⟨by decide, by decide⟩, by decide +kernel⟩
theorem q1231 : Cond.instanceMethod ⟨"DeskRings", "blame", "(IIZ)I"⟩ ∈ GW := gw_of (gw_t (gw_6 (List.mem_of_getElem? (i := 31) (by decide +kernel)))) (by decide +kernel)
theorem q1232 : Cond.selects "DeskRings" ⟨"DeskRings", "blame", "(IIZ)I"⟩ ⟨"DeskRings", "blame", "(IIZ)I"⟩ ∈ GW := gw_of (gw_t (gw_6 (List.mem_of_getElem? (i := 32) (by decide +kernel)))) (by decide +kernel)
theorem zi_X11_blame : Cond.instanceMethod Y_X11_blame.1 ∈ GW ∧ Cond.selects Y_X11_blame.1.cls Y_X11_blame.1 Y_X11_blame.1 ∈ GW := ⟨q1231, q1232⟩
theorem q1881 : Cond.code ⟨"DeskRingsModel", "blame", "(IIZ)I"⟩ prog_14_method_111_code 6 (some .int) ∈ GW := gw_of (gw_t (gw_8 (List.mem_of_getElem? (i := 201) (by decide +kernel)))) (by decide +kernel)
theorem zk_X12_blame : ZK Y_X12_blame 3 := ⟨q1881, q13, ⟨by decide, by decide⟩, by decide +kernel⟩
theorem q1879 : Cond.instanceMethod ⟨"DeskRingsModel", "blame", "(IIZ)I"⟩ ∈ GW := gw_of (gw_t (gw_8 (List.mem_of_getElem? (i := 199) (by decide +kernel)))) (by decide +kernel)
theorem q1880 : Cond.selects "DeskRingsModel" ⟨"DeskRingsModel", "blame", "(IIZ)I"⟩ ⟨"DeskRingsModel", "blame", "(IIZ)I"⟩ ∈ GW := gw_of (gw_t (gw_8 (List.mem_of_getElem? (i := 200) (by decide +kernel)))) (by decide +kernel)
theorem zi_X12_blame : Cond.instanceMethod Y_X12_blame.1 ∈ GW ∧ Cond.selects Y_X12_blame.1.cls Y_X12_blame.1 Y_X12_blame.1 ∈ GW := ⟨q1879, q1880⟩
theorem q1878 : Cond.methodLink "DeskRingsLaw" 138 ⟨"DeskRingsModel", "blame", "(IIZ)I"⟩ ∈ GW := gw_of (gw_t (gw_8 (List.mem_of_getElem? (i := 198) (by decide +kernel)))) (by decide +kernel)
theorem q1230 : Cond.methodLink "DeskRingsLaw" 135 ⟨"DeskRings", "blame", "(IIZ)I"⟩ ∈ GW := gw_of (gw_t (gw_6 (List.mem_of_getElem? (i := 30) (by decide +kernel)))) (by decide +kernel)
theorem q1242 : Cond.code ⟨"DeskRings", "duty", "(III)I"⟩ prog_1_method_31_code 5 (some .int) ∈ GW := gw_of (gw_t (gw_6 (List.mem_of_getElem? (i := 42) (by decide +kernel)))) (by decide +kernel)
theorem zk_X11_duty : ZK Y_X11_duty 3 := ⟨q1242, q1, ⟨by decide, by decide⟩, by decide +kernel⟩
theorem q1240 : Cond.instanceMethod ⟨"DeskRings", "duty", "(III)I"⟩ ∈ GW := gw_of (gw_t (gw_6 (List.mem_of_getElem? (i := 40) (by decide +kernel)))) (by decide +kernel)
theorem q1241 : Cond.selects "DeskRings" ⟨"DeskRings", "duty", "(III)I"⟩ ⟨"DeskRings", "duty", "(III)I"⟩ ∈ GW := gw_of (gw_t (gw_6 (List.mem_of_getElem? (i := 41) (by decide +kernel)))) (by decide +kernel)
theorem zi_X11_duty : Cond.instanceMethod Y_X11_duty.1 ∈ GW ∧ Cond.selects Y_X11_duty.1.cls Y_X11_duty.1 Y_X11_duty.1 ∈ GW := ⟨q1240, q1241⟩
theorem q1885 : Cond.code ⟨"DeskRingsModel", "duty", "(III)I"⟩ prog_14_method_114_code 8 (some .int) ∈ GW := gw_of (gw_t (gw_8 (List.mem_of_getElem? (i := 205) (by decide +kernel)))) (by decide +kernel)
theorem zk_X12_duty : ZK Y_X12_duty 3 := ⟨q1885, q13, ⟨by decide, by decide⟩, by decide +kernel⟩
theorem q1883 : Cond.instanceMethod ⟨"DeskRingsModel", "duty", "(III)I"⟩ ∈ GW := gw_of (gw_t (gw_8 (List.mem_of_getElem? (i := 203) (by decide +kernel)))) (by decide +kernel)
theorem q1884 : Cond.selects "DeskRingsModel" ⟨"DeskRingsModel", "duty", "(III)I"⟩ ⟨"DeskRingsModel", "duty", "(III)I"⟩ ∈ GW := gw_of (gw_t (gw_8 (List.mem_of_getElem? (i := 204) (by decide +kernel)))) (by decide +kernel)
theorem zi_X12_duty : Cond.instanceMethod Y_X12_duty.1 ∈ GW ∧ Cond.selects Y_X12_duty.1.cls Y_X12_duty.1 Y_X12_duty.1 ∈ GW := ⟨q1883, q1884⟩
theorem q1882 : Cond.methodLink "DeskRingsLaw" 142 ⟨"DeskRingsModel", "duty", "(III)I"⟩ ∈ GW := gw_of (gw_t (gw_8 (List.mem_of_getElem? (i := 202) (by decide +kernel)))) (by decide +kernel)
theorem q1239 : Cond.methodLink "DeskRingsLaw" 139 ⟨"DeskRings", "duty", "(III)I"⟩ ∈ GW := gw_of (gw_t (gw_6 (List.mem_of_getElem? (i := 39) (by decide +kernel)))) (by decide +kernel)
theorem q1254 : Cond.code ⟨"DeskRings", "passed", "(III)I"⟩ prog_1_method_32_code 5 (some .int) ∈ GW := gw_of (gw_t (gw_6 (List.mem_of_getElem? (i := 54) (by decide +kernel)))) (by decide +kernel)
theorem zk_X11_passed : ZK Y_X11_passed 3 := ⟨q1254, q1, ⟨by decide, by decide⟩, by decide +kernel⟩
theorem q1252 : Cond.instanceMethod ⟨"DeskRings", "passed", "(III)I"⟩ ∈ GW := gw_of (gw_t (gw_6 (List.mem_of_getElem? (i := 52) (by decide +kernel)))) (by decide +kernel)
theorem q1253 : Cond.selects "DeskRings" ⟨"DeskRings", "passed", "(III)I"⟩ ⟨"DeskRings", "passed", "(III)I"⟩ ∈ GW := gw_of (gw_t (gw_6 (List.mem_of_getElem? (i := 53) (by decide +kernel)))) (by decide +kernel)
theorem zi_X11_passed : Cond.instanceMethod Y_X11_passed.1 ∈ GW ∧ Cond.selects Y_X11_passed.1.cls Y_X11_passed.1 Y_X11_passed.1 ∈ GW := ⟨q1252, q1253⟩
theorem q1897 : Cond.code ⟨"DeskRingsModel", "passed", "(III)I"⟩ prog_14_method_115_code 9 (some .int) ∈ GW := gw_of (gw_t (gw_8 (List.mem_of_getElem? (i := 217) (by decide +kernel)))) (by decide +kernel)
theorem zk_X12_passed : ZK Y_X12_passed 3 := ⟨q1897, q13, ⟨by decide, by decide⟩, by decide +kernel⟩
theorem q1895 : Cond.instanceMethod ⟨"DeskRingsModel", "passed", "(III)I"⟩ ∈ GW := gw_of (gw_t (gw_8 (List.mem_of_getElem? (i := 215) (by decide +kernel)))) (by decide +kernel)
theorem q1896 : Cond.selects "DeskRingsModel" ⟨"DeskRingsModel", "passed", "(III)I"⟩ ⟨"DeskRingsModel", "passed", "(III)I"⟩ ∈ GW := gw_of (gw_t (gw_8 (List.mem_of_getElem? (i := 216) (by decide +kernel)))) (by decide +kernel)
theorem zi_X12_passed : Cond.instanceMethod Y_X12_passed.1 ∈ GW ∧ Cond.selects Y_X12_passed.1.cls Y_X12_passed.1 Y_X12_passed.1 ∈ GW := ⟨q1895, q1896⟩
theorem q1894 : Cond.methodLink "DeskRingsLaw" 146 ⟨"DeskRingsModel", "passed", "(III)I"⟩ ∈ GW := gw_of (gw_t (gw_8 (List.mem_of_getElem? (i := 214) (by decide +kernel)))) (by decide +kernel)
theorem q1251 : Cond.methodLink "DeskRingsLaw" 143 ⟨"DeskRings", "passed", "(III)I"⟩ ∈ GW := gw_of (gw_t (gw_6 (List.mem_of_getElem? (i := 51) (by decide +kernel)))) (by decide +kernel)
theorem q1262 : Cond.code ⟨"DeskRings", "tied", "(II)I"⟩ prog_1_method_33_code 4 (some .int) ∈ GW := gw_of (gw_t (gw_6 (List.mem_of_getElem? (i := 62) (by decide +kernel)))) (by decide +kernel)
theorem zk_X11_tied : ZK Y_X11_tied 2 := ⟨q1262, q1, ⟨by decide, by decide⟩, by decide +kernel⟩
theorem q1260 : Cond.instanceMethod ⟨"DeskRings", "tied", "(II)I"⟩ ∈ GW := gw_of (gw_t (gw_6 (List.mem_of_getElem? (i := 60) (by decide +kernel)))) (by decide +kernel)
theorem q1261 : Cond.selects "DeskRings" ⟨"DeskRings", "tied", "(II)I"⟩ ⟨"DeskRings", "tied", "(II)I"⟩ ∈ GW := gw_of (gw_t (gw_6 (List.mem_of_getElem? (i := 61) (by decide +kernel)))) (by decide +kernel)
theorem zi_X11_tied : Cond.instanceMethod Y_X11_tied.1 ∈ GW ∧ Cond.selects Y_X11_tied.1.cls Y_X11_tied.1 Y_X11_tied.1 ∈ GW := ⟨q1260, q1261⟩
theorem q1901 : Cond.code ⟨"DeskRingsModel", "tied", "(II)I"⟩ prog_14_method_116_code 6 (some .int) ∈ GW := gw_of (gw_t (gw_8 (List.mem_of_getElem? (i := 221) (by decide +kernel)))) (by decide +kernel)
theorem zk_X12_tied : ZK Y_X12_tied 2 := ⟨q1901, q13, ⟨by decide, by decide⟩, by decide +kernel⟩
theorem q1899 : Cond.instanceMethod ⟨"DeskRingsModel", "tied", "(II)I"⟩ ∈ GW := gw_of (gw_t (gw_8 (List.mem_of_getElem? (i := 219) (by decide +kernel)))) (by decide +kernel)
theorem q1900 : Cond.selects "DeskRingsModel" ⟨"DeskRingsModel", "tied", "(II)I"⟩ ⟨"DeskRingsModel", "tied", "(II)I"⟩ ∈ GW := gw_of (gw_t (gw_8 (List.mem_of_getElem? (i := 220) (by decide +kernel)))) (by decide +kernel)
theorem zi_X12_tied : Cond.instanceMethod Y_X12_tied.1 ∈ GW ∧ Cond.selects Y_X12_tied.1.cls Y_X12_tied.1 Y_X12_tied.1 ∈ GW := ⟨q1899, q1900⟩
theorem q1898 : Cond.methodLink "DeskRingsLaw" 150 ⟨"DeskRingsModel", "tied", "(II)I"⟩ ∈ GW := gw_of (gw_t (gw_8 (List.mem_of_getElem? (i := 218) (by decide +kernel)))) (by decide +kernel)
theorem q1259 : Cond.methodLink "DeskRingsLaw" 147 ⟨"DeskRings", "tied", "(II)I"⟩ ∈ GW := gw_of (gw_t (gw_6 (List.mem_of_getElem? (i := 59) (by decide +kernel)))) (by decide +kernel)
theorem q1267 : Cond.code ⟨"DeskRings", "empty", "(IIZ)J"⟩ prog_1_method_34_code 5 (some .long) ∈ GW := gw_of (gw_t (gw_6 (List.mem_of_getElem? (i := 67) (by decide +kernel)))) (by decide +kernel)
theorem zk_X11_empty : ZK Y_X11_empty 3 := ⟨q1267, q1, ⟨by decide, by decide⟩, by decide +kernel⟩
theorem q1265 : Cond.instanceMethod ⟨"DeskRings", "empty", "(IIZ)J"⟩ ∈ GW := gw_of (gw_t (gw_6 (List.mem_of_getElem? (i := 65) (by decide +kernel)))) (by decide +kernel)
theorem q1266 : Cond.selects "DeskRings" ⟨"DeskRings", "empty", "(IIZ)J"⟩ ⟨"DeskRings", "empty", "(IIZ)J"⟩ ∈ GW := gw_of (gw_t (gw_6 (List.mem_of_getElem? (i := 66) (by decide +kernel)))) (by decide +kernel)
theorem zi_X11_empty : Cond.instanceMethod Y_X11_empty.1 ∈ GW ∧ Cond.selects Y_X11_empty.1.cls Y_X11_empty.1 Y_X11_empty.1 ∈ GW := ⟨q1265, q1266⟩
theorem q1913 : Cond.code ⟨"DeskRingsModel", "empty", "(IIZ)J"⟩ prog_14_method_119_code 7 (some .long) ∈ GW := gw_of (gw_t (gw_8 (List.mem_of_getElem? (i := 233) (by decide +kernel)))) (by decide +kernel)
theorem zk_X12_empty : ZK Y_X12_empty 3 := ⟨q1913, q13, ⟨by decide, by decide⟩, by decide +kernel⟩
theorem q1911 : Cond.instanceMethod ⟨"DeskRingsModel", "empty", "(IIZ)J"⟩ ∈ GW := gw_of (gw_t (gw_8 (List.mem_of_getElem? (i := 231) (by decide +kernel)))) (by decide +kernel)
theorem q1912 : Cond.selects "DeskRingsModel" ⟨"DeskRingsModel", "empty", "(IIZ)J"⟩ ⟨"DeskRingsModel", "empty", "(IIZ)J"⟩ ∈ GW := gw_of (gw_t (gw_8 (List.mem_of_getElem? (i := 232) (by decide +kernel)))) (by decide +kernel)
theorem zi_X12_empty : Cond.instanceMethod Y_X12_empty.1 ∈ GW ∧ Cond.selects Y_X12_empty.1.cls Y_X12_empty.1 Y_X12_empty.1 ∈ GW := ⟨q1911, q1912⟩
theorem q1910 : Cond.methodLink "DeskRingsLaw" 154 ⟨"DeskRingsModel", "empty", "(IIZ)J"⟩ ∈ GW := gw_of (gw_t (gw_8 (List.mem_of_getElem? (i := 230) (by decide +kernel)))) (by decide +kernel)
theorem q1264 : Cond.methodLink "DeskRingsLaw" 151 ⟨"DeskRings", "empty", "(IIZ)J"⟩ ∈ GW := gw_of (gw_t (gw_6 (List.mem_of_getElem? (i := 64) (by decide +kernel)))) (by decide +kernel)
theorem q1276 : Cond.code ⟨"DeskRings", "best", "(I)I"⟩ prog_1_method_35_code 3 (some .int) ∈ GW := gw_of (gw_t (gw_6 (List.mem_of_getElem? (i := 76) (by decide +kernel)))) (by decide +kernel)
theorem zk_X11_best : ZK Y_X11_best 1 := ⟨q1276, q1, ⟨by decide, by decide⟩, by decide +kernel⟩
theorem q1274 : Cond.instanceMethod ⟨"DeskRings", "best", "(I)I"⟩ ∈ GW := gw_of (gw_t (gw_6 (List.mem_of_getElem? (i := 74) (by decide +kernel)))) (by decide +kernel)
theorem q1275 : Cond.selects "DeskRings" ⟨"DeskRings", "best", "(I)I"⟩ ⟨"DeskRings", "best", "(I)I"⟩ ∈ GW := gw_of (gw_t (gw_6 (List.mem_of_getElem? (i := 75) (by decide +kernel)))) (by decide +kernel)
theorem zi_X11_best : Cond.instanceMethod Y_X11_best.1 ∈ GW ∧ Cond.selects Y_X11_best.1.cls Y_X11_best.1 Y_X11_best.1 ∈ GW := ⟨q1274, q1275⟩
theorem q1810 : Cond.code ⟨"DeskRingsModel", "best", "(I)I"⟩ prog_14_method_93_code 5 (some .int) ∈ GW := gw_of (gw_t (gw_8 (List.mem_of_getElem? (i := 130) (by decide +kernel)))) (by decide +kernel)
theorem zk_X12_best : ZK Y_X12_best 1 := ⟨q1810, q13, ⟨by decide, by decide⟩, by decide +kernel⟩
theorem q1808 : Cond.instanceMethod ⟨"DeskRingsModel", "best", "(I)I"⟩ ∈ GW := gw_of (gw_t (gw_8 (List.mem_of_getElem? (i := 128) (by decide +kernel)))) (by decide +kernel)
theorem q1809 : Cond.selects "DeskRingsModel" ⟨"DeskRingsModel", "best", "(I)I"⟩ ⟨"DeskRingsModel", "best", "(I)I"⟩ ∈ GW := gw_of (gw_t (gw_8 (List.mem_of_getElem? (i := 129) (by decide +kernel)))) (by decide +kernel)
theorem zi_X12_best : Cond.instanceMethod Y_X12_best.1 ∈ GW ∧ Cond.selects Y_X12_best.1.cls Y_X12_best.1 Y_X12_best.1 ∈ GW := ⟨q1808, q1809⟩
theorem q1807 : Cond.methodLink "DeskRingsLaw" 158 ⟨"DeskRingsModel", "best", "(I)I"⟩ ∈ GW := gw_of (gw_t (gw_8 (List.mem_of_getElem? (i := 127) (by decide +kernel)))) (by decide +kernel)
theorem q1273 : Cond.methodLink "DeskRingsLaw" 155 ⟨"DeskRings", "best", "(I)I"⟩ ∈ GW := gw_of (gw_t (gw_6 (List.mem_of_getElem? (i := 73) (by decide +kernel)))) (by decide +kernel)
theorem q1285 : Cond.code ⟨"DeskRings", "fewer", "(IIII)I"⟩ prog_1_method_36_code 6 (some .int) ∈ GW := gw_of (gw_t (gw_6 (List.mem_of_getElem? (i := 85) (by decide +kernel)))) (by decide +kernel)
theorem zk_X11_fewer : ZK Y_X11_fewer 4 := ⟨q1285, q1, ⟨by decide, by decide⟩, by decide +kernel⟩
theorem q1283 : Cond.instanceMethod ⟨"DeskRings", "fewer", "(IIII)I"⟩ ∈ GW := gw_of (gw_t (gw_6 (List.mem_of_getElem? (i := 83) (by decide +kernel)))) (by decide +kernel)
theorem q1284 : Cond.selects "DeskRings" ⟨"DeskRings", "fewer", "(IIII)I"⟩ ⟨"DeskRings", "fewer", "(IIII)I"⟩ ∈ GW := gw_of (gw_t (gw_6 (List.mem_of_getElem? (i := 84) (by decide +kernel)))) (by decide +kernel)
theorem zi_X11_fewer : Cond.instanceMethod Y_X11_fewer.1 ∈ GW ∧ Cond.selects Y_X11_fewer.1.cls Y_X11_fewer.1 Y_X11_fewer.1 ∈ GW := ⟨q1283, q1284⟩
theorem q1714 : Cond.code ⟨"DeskRingsModel", "fewer", "(IIII)I"⟩ prog_14_method_69_code 5 (some .int) ∈ GW := gw_of (gw_t (gw_8 (List.mem_of_getElem? (i := 34) (by decide +kernel)))) (by decide +kernel)
theorem zk_X12_fewer : ZK Y_X12_fewer 4 := ⟨q1714, q13, ⟨by decide, by decide⟩, by decide +kernel⟩
theorem q1712 : Cond.instanceMethod ⟨"DeskRingsModel", "fewer", "(IIII)I"⟩ ∈ GW := gw_of (gw_t (gw_8 (List.mem_of_getElem? (i := 32) (by decide +kernel)))) (by decide +kernel)
theorem q1713 : Cond.selects "DeskRingsModel" ⟨"DeskRingsModel", "fewer", "(IIII)I"⟩ ⟨"DeskRingsModel", "fewer", "(IIII)I"⟩ ∈ GW := gw_of (gw_t (gw_8 (List.mem_of_getElem? (i := 33) (by decide +kernel)))) (by decide +kernel)
theorem zi_X12_fewer : Cond.instanceMethod Y_X12_fewer.1 ∈ GW ∧ Cond.selects Y_X12_fewer.1.cls Y_X12_fewer.1 Y_X12_fewer.1 ∈ GW := ⟨q1712, q1713⟩
theorem q1711 : Cond.methodLink "DeskRingsLaw" 162 ⟨"DeskRingsModel", "fewer", "(IIII)I"⟩ ∈ GW := gw_of (gw_t (gw_8 (List.mem_of_getElem? (i := 31) (by decide +kernel)))) (by decide +kernel)
theorem q1282 : Cond.methodLink "DeskRingsLaw" 159 ⟨"DeskRings", "fewer", "(IIII)I"⟩ ∈ GW := gw_of (gw_t (gw_6 (List.mem_of_getElem? (i := 82) (by decide +kernel)))) (by decide +kernel)
theorem q1289 : Cond.code ⟨"DeskRings", "loud", "(IZ)I"⟩ prog_1_method_37_code 5 (some .int) ∈ GW := gw_of (gw_t (gw_6 (List.mem_of_getElem? (i := 89) (by decide +kernel)))) (by decide +kernel)
theorem zk_X11_loud : ZK Y_X11_loud 2 := ⟨q1289, q1, ⟨by decide, by decide⟩, by decide +kernel⟩
theorem q1287 : Cond.instanceMethod ⟨"DeskRings", "loud", "(IZ)I"⟩ ∈ GW := gw_of (gw_t (gw_6 (List.mem_of_getElem? (i := 87) (by decide +kernel)))) (by decide +kernel)
theorem q1288 : Cond.selects "DeskRings" ⟨"DeskRings", "loud", "(IZ)I"⟩ ⟨"DeskRings", "loud", "(IZ)I"⟩ ∈ GW := gw_of (gw_t (gw_6 (List.mem_of_getElem? (i := 88) (by decide +kernel)))) (by decide +kernel)
theorem zi_X11_loud : Cond.instanceMethod Y_X11_loud.1 ∈ GW ∧ Cond.selects Y_X11_loud.1.cls Y_X11_loud.1 Y_X11_loud.1 ∈ GW := ⟨q1287, q1288⟩
theorem q1905 : Cond.code ⟨"DeskRingsModel", "loud", "(IZ)I"⟩ prog_14_method_118_code 5 (some .int) ∈ GW := gw_of (gw_t (gw_8 (List.mem_of_getElem? (i := 225) (by decide +kernel)))) (by decide +kernel)
theorem zk_X12_loud : ZK Y_X12_loud 2 := ⟨q1905, q13, ⟨by decide, by decide⟩, by decide +kernel⟩
theorem q1903 : Cond.instanceMethod ⟨"DeskRingsModel", "loud", "(IZ)I"⟩ ∈ GW := gw_of (gw_t (gw_8 (List.mem_of_getElem? (i := 223) (by decide +kernel)))) (by decide +kernel)
theorem q1904 : Cond.selects "DeskRingsModel" ⟨"DeskRingsModel", "loud", "(IZ)I"⟩ ⟨"DeskRingsModel", "loud", "(IZ)I"⟩ ∈ GW := gw_of (gw_t (gw_8 (List.mem_of_getElem? (i := 224) (by decide +kernel)))) (by decide +kernel)
theorem zi_X12_loud : Cond.instanceMethod Y_X12_loud.1 ∈ GW ∧ Cond.selects Y_X12_loud.1.cls Y_X12_loud.1 Y_X12_loud.1 ∈ GW := ⟨q1903, q1904⟩
theorem q1902 : Cond.methodLink "DeskRingsLaw" 166 ⟨"DeskRingsModel", "loud", "(IZ)I"⟩ ∈ GW := gw_of (gw_t (gw_8 (List.mem_of_getElem? (i := 222) (by decide +kernel)))) (by decide +kernel)
theorem q1286 : Cond.methodLink "DeskRingsLaw" 163 ⟨"DeskRings", "loud", "(IZ)I"⟩ ∈ GW := gw_of (gw_t (gw_6 (List.mem_of_getElem? (i := 86) (by decide +kernel)))) (by decide +kernel)
theorem q1297 : Cond.code ⟨"DeskRings", "count", "(I)I"⟩ prog_1_method_38_code 2 (some .int) ∈ GW := gw_of (gw_t (gw_6 (List.mem_of_getElem? (i := 97) (by decide +kernel)))) (by decide +kernel)
theorem zk_X11_count : ZK Y_X11_count 1 := ⟨q1297, q1, ⟨by decide, by decide⟩, by decide +kernel⟩
theorem q1295 : Cond.instanceMethod ⟨"DeskRings", "count", "(I)I"⟩ ∈ GW := gw_of (gw_t (gw_6 (List.mem_of_getElem? (i := 95) (by decide +kernel)))) (by decide +kernel)
theorem q1296 : Cond.selects "DeskRings" ⟨"DeskRings", "count", "(I)I"⟩ ⟨"DeskRings", "count", "(I)I"⟩ ∈ GW := gw_of (gw_t (gw_6 (List.mem_of_getElem? (i := 96) (by decide +kernel)))) (by decide +kernel)
theorem zi_X11_count : Cond.instanceMethod Y_X11_count.1 ∈ GW ∧ Cond.selects Y_X11_count.1.cls Y_X11_count.1 Y_X11_count.1 ∈ GW := ⟨q1295, q1296⟩
theorem q1930 : Cond.code ⟨"DeskRingsModel", "count", "(I)I"⟩ prog_14_method_123_code 2 (some .int) ∈ GW := gw_of (gw_t (gw_9 (List.mem_of_getElem? (i := 10) (by decide +kernel)))) (by decide +kernel)
theorem zk_X12_count : ZK Y_X12_count 1 := ⟨q1930, q13, ⟨by decide, by decide⟩, by decide +kernel⟩
theorem q1928 : Cond.instanceMethod ⟨"DeskRingsModel", "count", "(I)I"⟩ ∈ GW := gw_of (gw_t (gw_9 (List.mem_of_getElem? (i := 8) (by decide +kernel)))) (by decide +kernel)
theorem q1929 : Cond.selects "DeskRingsModel" ⟨"DeskRingsModel", "count", "(I)I"⟩ ⟨"DeskRingsModel", "count", "(I)I"⟩ ∈ GW := gw_of (gw_t (gw_9 (List.mem_of_getElem? (i := 9) (by decide +kernel)))) (by decide +kernel)
theorem zi_X12_count : Cond.instanceMethod Y_X12_count.1 ∈ GW ∧ Cond.selects Y_X12_count.1.cls Y_X12_count.1 Y_X12_count.1 ∈ GW := ⟨q1928, q1929⟩
theorem q1927 : Cond.methodLink "DeskRingsLaw" 170 ⟨"DeskRingsModel", "count", "(I)I"⟩ ∈ GW := gw_of (gw_t (gw_9 (List.mem_of_getElem? (i := 7) (by decide +kernel)))) (by decide +kernel)
theorem q1294 : Cond.methodLink "DeskRingsLaw" 167 ⟨"DeskRings", "count", "(I)I"⟩ ∈ GW := gw_of (gw_t (gw_6 (List.mem_of_getElem? (i := 94) (by decide +kernel)))) (by decide +kernel)
theorem q1301 : Cond.code ⟨"DeskRings", "image", "(I)Z"⟩ prog_1_method_39_code 2 (some .boolean) ∈ GW := gw_of (gw_t (gw_6 (List.mem_of_getElem? (i := 101) (by decide +kernel)))) (by decide +kernel)
theorem zk_X11_image : ZK Y_X11_image 1 := ⟨q1301, q1, ⟨by decide, by decide⟩, by decide +kernel⟩
theorem q1299 : Cond.instanceMethod ⟨"DeskRings", "image", "(I)Z"⟩ ∈ GW := gw_of (gw_t (gw_6 (List.mem_of_getElem? (i := 99) (by decide +kernel)))) (by decide +kernel)
theorem q1300 : Cond.selects "DeskRings" ⟨"DeskRings", "image", "(I)Z"⟩ ⟨"DeskRings", "image", "(I)Z"⟩ ∈ GW := gw_of (gw_t (gw_6 (List.mem_of_getElem? (i := 100) (by decide +kernel)))) (by decide +kernel)
theorem zi_X11_image : Cond.instanceMethod Y_X11_image.1 ∈ GW ∧ Cond.selects Y_X11_image.1.cls Y_X11_image.1 Y_X11_image.1 ∈ GW := ⟨q1299, q1300⟩
theorem q1934 : Cond.code ⟨"DeskRingsModel", "image", "(I)Z"⟩ prog_14_method_124_code 3 (some .boolean) ∈ GW := gw_of (gw_t (gw_9 (List.mem_of_getElem? (i := 14) (by decide +kernel)))) (by decide +kernel)
theorem zk_X12_image : ZK Y_X12_image 1 := ⟨q1934, q13, ⟨by decide, by decide⟩, by decide +kernel⟩
theorem q1932 : Cond.instanceMethod ⟨"DeskRingsModel", "image", "(I)Z"⟩ ∈ GW := gw_of (gw_t (gw_9 (List.mem_of_getElem? (i := 12) (by decide +kernel)))) (by decide +kernel)
theorem q1933 : Cond.selects "DeskRingsModel" ⟨"DeskRingsModel", "image", "(I)Z"⟩ ⟨"DeskRingsModel", "image", "(I)Z"⟩ ∈ GW := gw_of (gw_t (gw_9 (List.mem_of_getElem? (i := 13) (by decide +kernel)))) (by decide +kernel)
theorem zi_X12_image : Cond.instanceMethod Y_X12_image.1 ∈ GW ∧ Cond.selects Y_X12_image.1.cls Y_X12_image.1 Y_X12_image.1 ∈ GW := ⟨q1932, q1933⟩
theorem q1931 : Cond.methodLink "DeskRingsLaw" 175 ⟨"DeskRingsModel", "image", "(I)Z"⟩ ∈ GW := gw_of (gw_t (gw_9 (List.mem_of_getElem? (i := 11) (by decide +kernel)))) (by decide +kernel)
theorem q1298 : Cond.methodLink "DeskRingsLaw" 171 ⟨"DeskRings", "image", "(I)Z"⟩ ∈ GW := gw_of (gw_t (gw_6 (List.mem_of_getElem? (i := 98) (by decide +kernel)))) (by decide +kernel)
theorem q1310 : Cond.code ⟨"DeskRings", "again", "(I)Z"⟩ prog_1_method_40_code 2 (some .boolean) ∈ GW := gw_of (gw_t (gw_6 (List.mem_of_getElem? (i := 110) (by decide +kernel)))) (by decide +kernel)
theorem zk_X11_again : ZK Y_X11_again 1 := ⟨q1310, q1, ⟨by decide, by decide⟩, by decide +kernel⟩
theorem q1308 : Cond.instanceMethod ⟨"DeskRings", "again", "(I)Z"⟩ ∈ GW := gw_of (gw_t (gw_6 (List.mem_of_getElem? (i := 108) (by decide +kernel)))) (by decide +kernel)
theorem q1309 : Cond.selects "DeskRings" ⟨"DeskRings", "again", "(I)Z"⟩ ⟨"DeskRings", "again", "(I)Z"⟩ ∈ GW := gw_of (gw_t (gw_6 (List.mem_of_getElem? (i := 109) (by decide +kernel)))) (by decide +kernel)
theorem zi_X11_again : Cond.instanceMethod Y_X11_again.1 ∈ GW ∧ Cond.selects Y_X11_again.1.cls Y_X11_again.1 Y_X11_again.1 ∈ GW := ⟨q1308, q1309⟩
theorem q1938 : Cond.code ⟨"DeskRingsModel", "again", "(I)Z"⟩ prog_14_method_125_code 3 (some .boolean) ∈ GW := gw_of (gw_t (gw_9 (List.mem_of_getElem? (i := 18) (by decide +kernel)))) (by decide +kernel)
theorem zk_X12_again : ZK Y_X12_again 1 := ⟨q1938, q13, ⟨by decide, by decide⟩, by decide +kernel⟩
theorem q1936 : Cond.instanceMethod ⟨"DeskRingsModel", "again", "(I)Z"⟩ ∈ GW := gw_of (gw_t (gw_9 (List.mem_of_getElem? (i := 16) (by decide +kernel)))) (by decide +kernel)
theorem q1937 : Cond.selects "DeskRingsModel" ⟨"DeskRingsModel", "again", "(I)Z"⟩ ⟨"DeskRingsModel", "again", "(I)Z"⟩ ∈ GW := gw_of (gw_t (gw_9 (List.mem_of_getElem? (i := 17) (by decide +kernel)))) (by decide +kernel)
theorem zi_X12_again : Cond.instanceMethod Y_X12_again.1 ∈ GW ∧ Cond.selects Y_X12_again.1.cls Y_X12_again.1 Y_X12_again.1 ∈ GW := ⟨q1936, q1937⟩
theorem q1935 : Cond.methodLink "DeskRingsLaw" 179 ⟨"DeskRingsModel", "again", "(I)Z"⟩ ∈ GW := gw_of (gw_t (gw_9 (List.mem_of_getElem? (i := 15) (by decide +kernel)))) (by decide +kernel)
theorem q1307 : Cond.methodLink "DeskRingsLaw" 176 ⟨"DeskRings", "again", "(I)Z"⟩ ∈ GW := gw_of (gw_t (gw_6 (List.mem_of_getElem? (i := 107) (by decide +kernel)))) (by decide +kernel)
theorem q1313 : Cond.methodLink "DeskRingsLaw" 12 ⟨"DeskRingsModel", "<init>", "()V"⟩ ∈ GW := gw_of (gw_t (gw_6 (List.mem_of_getElem? (i := 113) (by decide +kernel)))) (by decide +kernel)
theorem q1314 : Cond.instanceMethod ⟨"DeskRingsModel", "<init>", "()V"⟩ ∈ GW := gw_of (gw_t (gw_6 (List.mem_of_getElem? (i := 114) (by decide +kernel)))) (by decide +kernel)
theorem q1311 : Cond.classLink "DeskRingsLaw" 10 "DeskRingsModel" ∈ GW := gw_of (gw_t (gw_6 (List.mem_of_getElem? (i := 111) (by decide +kernel)))) (by decide +kernel)
theorem q1312 : Cond.instantiable "DeskRingsModel" 44 ∈ GW := gw_of (gw_t (gw_6 (List.mem_of_getElem? (i := 112) (by decide +kernel)))) (by decide +kernel)
theorem q23 : Cond.methodLink "DeskRingsLaw" 9 ⟨"DeskRings", "<init>", "()V"⟩ ∈ GW := gw_of (gw_t (gw_1 (List.mem_of_getElem? (i := 23) (by decide +kernel)))) (by decide +kernel)
theorem q24 : Cond.instanceMethod ⟨"DeskRings", "<init>", "()V"⟩ ∈ GW := gw_of (gw_t (gw_1 (List.mem_of_getElem? (i := 24) (by decide +kernel)))) (by decide +kernel)
theorem q21 : Cond.classLink "DeskRingsLaw" 7 "DeskRings" ∈ GW := gw_of (gw_t (gw_1 (List.mem_of_getElem? (i := 21) (by decide +kernel)))) (by decide +kernel)
theorem q22 : Cond.instantiable "DeskRings" 10 ∈ GW := gw_of (gw_t (gw_1 (List.mem_of_getElem? (i := 22) (by decide +kernel)))) (by decide +kernel)
