/-! the start: what the Statement gives, as the context of the walk -/
def rTm (j : Nat) : Term := .static (roC.getD j ("", "")).1 (roC.getD j ("", "")).2 "[I"
def sTm (i : Nat) : Term := .string "DeskRings$Reader" (stTx.getD i (0, "")).1
def fC : List Cond := flatC (Jvm.Cond.and given_1 narrow_1)
set_option maxRecDepth 100000 in
theorem st_ro : ∀ j, j < 10 → Cond.arrayOf (rTm j) .int ∈ fC ∧ Cond.eq (.length (rTm j)) (.int (Int32.ofNat (roA j).length)) ∈ fC ∧ ∀ i, i < (roA j).length → Cond.eq (.elem (rTm j) (.int (Int32.ofNat i))) (.int ((roA j).getD i 0)) ∈ fC := by decide +kernel
set_option maxRecDepth 100000 in
theorem st_ro2 : ∀ j, j < 10 → Cond.laysStatic (roC.getD j ("", "")).1 (roC.getD j ("", "")).2 "[I" ∈ lw_tbl ∧ Cond.initialized (roC.getD j ("", "")).1 ∈ lw_tbl := by decide +kernel
set_option maxRecDepth 100000 in
theorem st_s1 : ∀ i, i < 15 → Cond.exactly (sTm i) "java/lang/String" ∈ fC ∧ Cond.eq (.field (sTm i) "java/lang/String" "coder" "B") (.int 0) ∈ fC ∧ Cond.arrayOf (.field (sTm i) "java/lang/String" "value" "[B") .byte ∈ fC ∧ Cond.eq (.length (.field (sTm i) "java/lang/String" "value" "[B")) (.int (Int32.ofNat ((stBy.map List.length).getD i 0))) ∈ fC := by decide +kernel
set_option maxRecDepth 100000 in
theorem st_s2 : ∀ i, i < 15 → ∀ j, j < (stBy.map List.length).getD i 0 → Cond.eq (.elem (.field (sTm i) "java/lang/String" "value" "[B") (.int (Int32.ofNat j))) (.int ((stBy.getD i []).getD j 0)) ∈ fC := by decide +kernel
def pT : List (List Nat) := [[0, 170, 179, 189, 200, 212, 224, 241, 256, 272, 289, 307, 326, 348, 371], [170, 0, 180, 190, 201, 213, 225, 242, 257, 273, 290, 308, 327, 349, 372], [179, 180, 0, 191, 202, 214, 226, 243, 258, 274, 291, 309, 328, 350, 373], [189, 190, 191, 0, 203, 215, 227, 244, 259, 275, 292, 310, 329, 351, 374], [200, 201, 202, 203, 0, 216, 228, 245, 260, 276, 293, 311, 330, 352, 375], [212, 213, 214, 215, 216, 0, 229, 246, 261, 277, 294, 312, 331, 353, 376], [224, 225, 226, 227, 228, 229, 0, 247, 262, 278, 295, 313, 332, 354, 377], [241, 242, 243, 244, 245, 246, 247, 0, 263, 279, 296, 314, 333, 355, 378], [256, 257, 258, 259, 260, 261, 262, 263, 0, 280, 297, 315, 334, 356, 379], [272, 273, 274, 275, 276, 277, 278, 279, 280, 0, 298, 316, 335, 357, 380], [289, 290, 291, 292, 293, 294, 295, 296, 297, 298, 0, 317, 336, 358, 381], [307, 308, 309, 310, 311, 312, 313, 314, 315, 316, 317, 0, 337, 359, 382], [326, 327, 328, 329, 330, 331, 332, 333, 334, 335, 336, 337, 0, 360, 383], [348, 349, 350, 351, 352, 353, 354, 355, 356, 357, 358, 359, 360, 0, 384], [371, 372, 373, 374, 375, 376, 377, 378, 379, 380, 381, 382, 383, 384, 0]]
set_option maxRecDepth 100000 in
theorem st_s3a : ∀ i, i < 15 → ∀ j, j < 15 → i < j → fC[(pT.getD i []).getD j 0]? = some (Cond.not (Cond.eq (sTm i) (sTm j))) := by decide +kernel
theorem st_s3 : ∀ i, i < 15 → ∀ j, j < 15 → i ≠ j → (Cond.not (Cond.eq (sTm i) (sTm j)) ∈ fC ∨ Cond.not (Cond.eq (sTm j) (sTm i)) ∈ fC) := by
  intro i hi j hj hne
  rcases Nat.lt_or_gt_of_ne hne with h | h
  · exact Or.inl (List.mem_of_getElem? (st_s3a i hi j hj h))
  · exact Or.inr (List.mem_of_getElem? (st_s3a j hj i hi h))
set_option maxRecDepth 100000 in
theorem st_s4 : ∀ i, i < 15 → Cond.stringRef "DeskRings$Reader" (stTx.getD i (0, "")).1 (stTx.getD i (0, "")).2 ∈ lw_tbl := by decide +kernel
theorem st_s5 : ∀ i, i < 15 → (stBy.map List.length).getD i 0 < 2 ^ 31 := by decide +kernel
set_option maxRecDepth 100000 in
theorem st_z : (Cond.laysStatic "java/lang/String" "COMPACT_STRINGS" "Z" ∈ lw_tbl ∧ Cond.initialized "java/lang/String" ∈ lw_tbl ∧ Cond.eq (.static "java/lang/String" "COMPACT_STRINGS" "Z") (.int 1) ∈ fC) ∧ Cond.laysStatic "jdk/internal/util/Preconditions" "SIOOBE_FORMATTER" "Ljava/util/function/BiFunction;" ∈ lw_tbl ∧ Cond.initialized "jdk/internal/util/Preconditions" ∈ lw_tbl ∧ Cond.isRef (.static "jdk/internal/util/Preconditions" "SIOOBE_FORMATTER" "Ljava/util/function/BiFunction;") ∈ fC := by decide +kernel
set_option maxRecDepth 100000 in
theorem st_nw : ∀ w ∈ NW, w ∈ lw_tbl ∧ w.onTables = true := by decide +kernel
set_option maxRecDepth 100000 in
theorem st_ao : ∀ C ∈ ["DeskRings$Told", "DeskRings$Office", "DeskRings$Day", "DeskRings$Log"], Cond.arrayOver (.object C) ∈ lw_tbl := by decide +kernel
set_option maxRecDepth 100000 in
theorem st_ac : ∀ t, t < 4 → Cond.arrayClass (aty.getD t .int) ∈ lw_tbl := by decide +kernel
set_option maxRecDepth 100000 in
theorem st_in : ∀ k, k < 13 → Cond.instantiable (classes.getD k (R0, T0, 4)).1 (classes.getD k (R0, T0, 4)).2.2 ∈ GW := by decide +kernel
