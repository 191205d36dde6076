/-! names: classes, fields, methods; the words that are kept over calls -/
def GW : List Cond := lw_tbl.filter goodWord
theorem gw_of {w : Cond} (h : w ∈ lw_tbl) (hg : goodWord w = true) : w ∈ GW := List.mem_filter.mpr ⟨h, hg⟩
theorem gw_t {w : Cond} (h : w ∈ tables_1) : w ∈ lw_tbl := List.mem_append_right _ h
theorem gw_1 {w : Cond} (h : w ∈ tables_1_1) : w ∈ tables_1 := by unfold tables_1; exact List.mem_append_left _ h
theorem gw_2 {w : Cond} (h : w ∈ tables_1_2) : w ∈ tables_1 := by unfold tables_1; exact List.mem_append_right _ (List.mem_append_left _ h)
theorem gw_3 {w : Cond} (h : w ∈ tables_1_3) : w ∈ tables_1 := by unfold tables_1; exact List.mem_append_right _ (List.mem_append_right _ (List.mem_append_left _ h))
theorem gw_4 {w : Cond} (h : w ∈ tables_1_4) : w ∈ tables_1 := by unfold tables_1; exact List.mem_append_right _ (List.mem_append_right _ (List.mem_append_right _ (List.mem_append_left _ h)))
theorem gw_5 {w : Cond} (h : w ∈ tables_1_5) : w ∈ tables_1 := by unfold tables_1; exact List.mem_append_right _ (List.mem_append_right _ (List.mem_append_right _ (List.mem_append_right _ (List.mem_append_left _ h))))
theorem gw_6 {w : Cond} (h : w ∈ tables_1_6) : w ∈ tables_1 := by unfold tables_1; exact List.mem_append_right _ (List.mem_append_right _ (List.mem_append_right _ (List.mem_append_right _ (List.mem_append_right _ (List.mem_append_left _ h)))))
theorem gw_7 {w : Cond} (h : w ∈ tables_1_7) : w ∈ tables_1 := by unfold tables_1; exact List.mem_append_right _ (List.mem_append_right _ (List.mem_append_right _ (List.mem_append_right _ (List.mem_append_right _ (List.mem_append_right _ (List.mem_append_left _ h))))))
theorem gw_8 {w : Cond} (h : w ∈ tables_1_8) : w ∈ tables_1 := by unfold tables_1; exact List.mem_append_right _ (List.mem_append_right _ (List.mem_append_right _ (List.mem_append_right _ (List.mem_append_right _ (List.mem_append_right _ (List.mem_append_right _ (List.mem_append_left _ h)))))))
theorem gw_9 {w : Cond} (h : w ∈ tables_1_9) : w ∈ tables_1 := by unfold tables_1; exact List.mem_append_right _ (List.mem_append_right _ (List.mem_append_right _ (List.mem_append_right _ (List.mem_append_right _ (List.mem_append_right _ (List.mem_append_right _ (List.mem_append_right _ h)))))))
def R0 : String := "DeskRings$Chances"
def T0 : u_T := fun k => match k with
  | 0 => ("DeskRings$Chances", "over", "J", false)
  | 1 => ("DeskRings$Chances", "under", "J", false)
  | 2 => ("DeskRings$Chances", "row", "[I", true)
  | _ => ("DeskRings$Chances", "lift", "LDeskRings$Lift;", true)
def ty0 : Nat → FieldType := fun k => match k with
  | 0 => .long
  | 1 => .long
  | 2 => .array .int
  | _ => .object "DeskRings$Lift"
theorem nm0 : ∀ a, a < 4 → ∀ b, b < 4 → a ≠ b → (T0 a).2.1 ≠ (T0 b).2.1 := by decide +kernel
theorem ty0_ok : ∀ k, k < 4 → parseFieldDescriptor (T0 k).2.2.1 = some (ty0 k) := by decide +kernel
theorem in0 : ∀ w ∈ u_ws R0 T0 4, w ∈ GW := by decide +kernel
def R1 : String := "DeskRings$Day"
def T1 : u_T := fun k => match k with
  | 0 => ("DeskRings$Day", "count", "I", false)
  | 1 => ("DeskRings$Day", "deeds", "[I", true)
  | _ => ("DeskRings$Day", "numbers", "[I", true)
def ty1 : Nat → FieldType := fun k => match k with
  | 0 => .int
  | 1 => .array .int
  | _ => .array .int
theorem nm1 : ∀ a, a < 3 → ∀ b, b < 3 → a ≠ b → (T1 a).2.1 ≠ (T1 b).2.1 := by decide +kernel
theorem ty1_ok : ∀ k, k < 3 → parseFieldDescriptor (T1 k).2.2.1 = some (ty1 k) := by decide +kernel
theorem in1 : ∀ w ∈ u_ws R1 T1 3, w ∈ GW := by decide +kernel
def R2 : String := "DeskRings$Floor"
def T2 : u_T := fun k => match k with
  | 0 => ("DeskRings$Floor", "answered", "I", false)
  | 1 => ("DeskRings$Floor", "got", "I", false)
  | 2 => ("DeskRings$Floor", "paid", "I", false)
  | 3 => ("DeskRings$Floor", "office", "LDeskRings$Office;", false)
  | 4 => ("DeskRings$Floor", "there", "I", false)
  | 5 => ("DeskRings$Floor", "gone", "I", false)
  | 6 => ("DeskRings$Floor", "took", "I", false)
  | 7 => ("DeskRings$Floor", "clashes", "I", false)
  | 8 => ("DeskRings$Floor", "seed", "I", false)
  | 9 => ("DeskRings$Floor", "helped", "[I", true)
  | 10 => ("DeskRings$Floor", "slips", "[I", true)
  | 11 => ("DeskRings$Floor", "slipsRead", "[I", true)
  | _ => ("DeskRings$Floor", "lift", "LDeskRings$Lift;", true)
def ty2 : Nat → FieldType := fun k => match k with
  | 0 => .int
  | 1 => .int
  | 2 => .int
  | 3 => .object "DeskRings$Office"
  | 4 => .int
  | 5 => .int
  | 6 => .int
  | 7 => .int
  | 8 => .int
  | 9 => .array .int
  | 10 => .array .int
  | 11 => .array .int
  | _ => .object "DeskRings$Lift"
theorem nm2 : ∀ a, a < 13 → ∀ b, b < 13 → a ≠ b → (T2 a).2.1 ≠ (T2 b).2.1 := by decide +kernel
theorem ty2_ok : ∀ k, k < 13 → parseFieldDescriptor (T2 k).2.2.1 = some (ty2 k) := by decide +kernel
theorem in2 : ∀ w ∈ u_ws R2 T2 13, w ∈ GW := by decide +kernel
def R3 : String := "DeskRings$Lift"
def T3 : u_T := fun k => match k with
  | 0 => ("DeskRings$Lift", "who", "I", false)
  | 1 => ("DeskRings$Lift", "ring", "I", false)
  | _ => ("DeskRings$Lift", "tied", "I", false)
def ty3 : Nat → FieldType := fun k => match k with
  | 0 => .int
  | 1 => .int
  | _ => .int
theorem nm3 : ∀ a, a < 3 → ∀ b, b < 3 → a ≠ b → (T3 a).2.1 ≠ (T3 b).2.1 := by decide +kernel
theorem ty3_ok : ∀ k, k < 3 → parseFieldDescriptor (T3 k).2.2.1 = some (ty3 k) := by decide +kernel
theorem in3 : ∀ w ∈ u_ws R3 T3 3, w ∈ GW := by decide +kernel
def R4 : String := "DeskRings$Log"
def T4 : u_T := fun k => match k with
  | 0 => ("DeskRings$Log", "count", "I", false)
  | 1 => ("DeskRings$Log", "desk", "[I", true)
  | 2 => ("DeskRings$Log", "lifter", "[I", true)
  | _ => ("DeskRings$Log", "ring", "[I", true)
def ty4 : Nat → FieldType := fun k => match k with
  | 0 => .int
  | 1 => .array .int
  | 2 => .array .int
  | _ => .array .int
theorem nm4 : ∀ a, a < 4 → ∀ b, b < 4 → a ≠ b → (T4 a).2.1 ≠ (T4 b).2.1 := by decide +kernel
theorem ty4_ok : ∀ k, k < 4 → parseFieldDescriptor (T4 k).2.2.1 = some (ty4 k) := by decide +kernel
theorem in4 : ∀ w ∈ u_ws R4 T4 4, w ∈ GW := by decide +kernel
def R5 : String := "DeskRings$Office"
def T5 : u_T := fun k => match k with
  | 0 => ("DeskRings$Office", "desks", "I", false)
  | 1 => ("DeskRings$Office", "calls", "I", false)
  | 2 => ("DeskRings$Office", "ear", "I", false)
  | 3 => ("DeskRings$Office", "machine", "I", false)
  | 4 => ("DeskRings$Office", "fade", "I", false)
  | 5 => ("DeskRings$Office", "kind", "[I", true)
  | 6 => ("DeskRings$Office", "place", "[I", true)
  | 7 => ("DeskRings$Office", "rings", "[I", true)
  | 8 => ("DeskRings$Office", "cost", "[I", true)
  | 9 => ("DeskRings$Office", "presence", "[I", true)
  | 10 => ("DeskRings$Office", "callDesk", "[I", true)
  | 11 => ("DeskRings$Office", "worth", "[I", true)
  | 12 => ("DeskRings$Office", "patience", "[I", true)
  | 13 => ("DeskRings$Office", "hearers", "[I", true)
  | _ => ("DeskRings$Office", "gaps", "[I", true)
def ty5 : Nat → FieldType := fun k => match k with
  | 0 => .int
  | 1 => .int
  | 2 => .int
  | 3 => .int
  | 4 => .int
  | 5 => .array .int
  | 6 => .array .int
  | 7 => .array .int
  | 8 => .array .int
  | 9 => .array .int
  | 10 => .array .int
  | 11 => .array .int
  | 12 => .array .int
  | 13 => .array .int
  | _ => .array .int
theorem nm5 : ∀ a, a < 15 → ∀ b, b < 15 → a ≠ b → (T5 a).2.1 ≠ (T5 b).2.1 := by decide +kernel
theorem ty5_ok : ∀ k, k < 15 → parseFieldDescriptor (T5 k).2.2.1 = some (ty5 k) := by decide +kernel
theorem in5 : ∀ w ∈ u_ws R5 T5 15, w ∈ GW := by decide +kernel
def R6 : String := "DeskRings$Plans"
def T6 : u_T := fun k => match k with
  | 0 => ("DeskRings$Plans", "most", "I", false)
  | 1 => ("DeskRings$Plans", "awaySet", "I", false)
  | 2 => ("DeskRings$Plans", "row", "[I", true)
  | 3 => ("DeskRings$Plans", "floor", "LDeskRings$Floor;", true)
  | 4 => ("DeskRings$Plans", "lift", "LDeskRings$Lift;", true)
  | 5 => ("DeskRings$Plans", "trial", "[I", true)
  | 6 => ("DeskRings$Plans", "toGive", "[I", true)
  | _ => ("DeskRings$Plans", "dutyCost", "[I", true)
def ty6 : Nat → FieldType := fun k => match k with
  | 0 => .int
  | 1 => .int
  | 2 => .array .int
  | 3 => .object "DeskRings$Floor"
  | 4 => .object "DeskRings$Lift"
  | 5 => .array .int
  | 6 => .array .int
  | _ => .array .int
theorem nm6 : ∀ a, a < 8 → ∀ b, b < 8 → a ≠ b → (T6 a).2.1 ≠ (T6 b).2.1 := by decide +kernel
theorem ty6_ok : ∀ k, k < 8 → parseFieldDescriptor (T6 k).2.2.1 = some (ty6 k) := by decide +kernel
theorem in6 : ∀ w ∈ u_ws R6 T6 8, w ∈ GW := by decide +kernel
def R7 : String := "DeskRings$Reader"
def T7 : u_T := fun k => match k with
  | 0 => ("DeskRings$Reader", "office", "LDeskRings$Office;", true)
  | 1 => ("DeskRings$Reader", "day", "LDeskRings$Day;", true)
  | 2 => ("DeskRings$Reader", "log", "LDeskRings$Log;", true)
  | 3 => ("DeskRings$Reader", "fault", "I", false)
  | 4 => ("DeskRings$Reader", "faultPlace", "I", false)
  | 5 => ("DeskRings$Reader", "tape", "[B", false)
  | 6 => ("DeskRings$Reader", "line", "[I", true)
  | 7 => ("DeskRings$Reader", "length", "I", false)
  | 8 => ("DeskRings$Reader", "token", "I", false)
  | 9 => ("DeskRings$Reader", "start", "I", false)
  | 10 => ("DeskRings$Reader", "next", "I", false)
  | _ => ("DeskRings$Reader", "value", "I", false)
def ty7 : Nat → FieldType := fun k => match k with
  | 0 => .object "DeskRings$Office"
  | 1 => .object "DeskRings$Day"
  | 2 => .object "DeskRings$Log"
  | 3 => .int
  | 4 => .int
  | 5 => .array .byte
  | 6 => .array .int
  | 7 => .int
  | 8 => .int
  | 9 => .int
  | 10 => .int
  | _ => .int
theorem nm7 : ∀ a, a < 12 → ∀ b, b < 12 → a ≠ b → (T7 a).2.1 ≠ (T7 b).2.1 := by decide +kernel
theorem ty7_ok : ∀ k, k < 12 → parseFieldDescriptor (T7 k).2.2.1 = some (ty7 k) := by decide +kernel
theorem in7 : ∀ w ∈ u_ws R7 T7 12, w ∈ GW := by decide +kernel
def R8 : String := "DeskRings$Suspects"
def T8 : u_T := fun k => match k with
  | 0 => ("DeskRings$Suspects", "found", "I", false)
  | 1 => ("DeskRings$Suspects", "sets", "[I", true)
  | 2 => ("DeskRings$Suspects", "guess", "LDeskRings$Office;", true)
  | 3 => ("DeskRings$Suspects", "lift", "LDeskRings$Lift;", true)
  | _ => ("DeskRings$Suspects", "tally", "[I", true)
def ty8 : Nat → FieldType := fun k => match k with
  | 0 => .int
  | 1 => .array .int
  | 2 => .object "DeskRings$Office"
  | 3 => .object "DeskRings$Lift"
  | _ => .array .int
theorem nm8 : ∀ a, a < 5 → ∀ b, b < 5 → a ≠ b → (T8 a).2.1 ≠ (T8 b).2.1 := by decide +kernel
theorem ty8_ok : ∀ k, k < 5 → parseFieldDescriptor (T8 k).2.2.1 = some (ty8 k) := by decide +kernel
theorem in8 : ∀ w ∈ u_ws R8 T8 5, w ∈ GW := by decide +kernel
def R9 : String := "DeskRings$Told"
def T9 : u_T := fun k => match k with
  | 0 => ("DeskRings$Told", "tape", "[B", true)
  | 1 => ("DeskRings$Told", "length", "I", false)
  | 2 => ("DeskRings$Told", "fault", "I", false)
  | 3 => ("DeskRings$Told", "faultPlace", "I", false)
  | 4 => ("DeskRings$Told", "counts", "[I", true)
  | 5 => ("DeskRings$Told", "offices", "[LDeskRings$Office;", true)
  | 6 => ("DeskRings$Told", "days", "[LDeskRings$Day;", true)
  | _ => ("DeskRings$Told", "logs", "[LDeskRings$Log;", true)
def ty9 : Nat → FieldType := fun k => match k with
  | 0 => .array .byte
  | 1 => .int
  | 2 => .int
  | 3 => .int
  | 4 => .array .int
  | 5 => .array (.object "DeskRings$Office")
  | 6 => .array (.object "DeskRings$Day")
  | _ => .array (.object "DeskRings$Log")
theorem nm9 : ∀ a, a < 8 → ∀ b, b < 8 → a ≠ b → (T9 a).2.1 ≠ (T9 b).2.1 := by decide +kernel
theorem ty9_ok : ∀ k, k < 8 → parseFieldDescriptor (T9 k).2.2.1 = some (ty9 k) := by decide +kernel
theorem in9 : ∀ w ∈ u_ws R9 T9 8, w ∈ GW := by decide +kernel
def R10 : String := "DeskRings$Waiting"
def T10 : u_T := fun k => match k with
  | 0 => ("DeskRings$Waiting", "players", "I", false)
  | 1 => ("DeskRings$Waiting", "gaps", "[I", true)
  | 2 => ("DeskRings$Waiting", "costs", "[I", true)
  | 3 => ("DeskRings$Waiting", "wins", "[I", true)
  | 4 => ("DeskRings$Waiting", "families", "I", false)
  | 5 => ("DeskRings$Waiting", "choices", "[I", true)
  | _ => ("DeskRings$Waiting", "lifted", "Z", false)
def ty10 : Nat → FieldType := fun k => match k with
  | 0 => .int
  | 1 => .array .int
  | 2 => .array .int
  | 3 => .array .int
  | 4 => .int
  | 5 => .array .int
  | _ => .boolean
theorem nm10 : ∀ a, a < 7 → ∀ b, b < 7 → a ≠ b → (T10 a).2.1 ≠ (T10 b).2.1 := by decide +kernel
theorem ty10_ok : ∀ k, k < 7 → parseFieldDescriptor (T10 k).2.2.1 = some (ty10 k) := by decide +kernel
theorem in10 : ∀ w ∈ u_ws R10 T10 7, w ∈ GW := by decide +kernel
def R11 : String := "DeskRings"
def T11 : u_T := fun k => match k with
  | 0 => ("DeskRings", "told", "LDeskRings$Told;", true)
  | 1 => ("DeskRings", "images", "[LDeskRings$Told;", true)
  | 2 => ("DeskRings", "imageMade", "[Z", true)
  | 3 => ("DeskRings", "reader", "LDeskRings$Reader;", true)
  | 4 => ("DeskRings", "lift", "LDeskRings$Lift;", true)
  | 5 => ("DeskRings", "floor", "LDeskRings$Floor;", true)
  | 6 => ("DeskRings", "chances", "LDeskRings$Chances;", true)
  | 7 => ("DeskRings", "waiting", "LDeskRings$Waiting;", true)
  | 8 => ("DeskRings", "suspects", "LDeskRings$Suspects;", true)
  | _ => ("DeskRings", "plans", "LDeskRings$Plans;", true)
def ty11 : Nat → FieldType := fun k => match k with
  | 0 => .object "DeskRings$Told"
  | 1 => .array (.object "DeskRings$Told")
  | 2 => .array .boolean
  | 3 => .object "DeskRings$Reader"
  | 4 => .object "DeskRings$Lift"
  | 5 => .object "DeskRings$Floor"
  | 6 => .object "DeskRings$Chances"
  | 7 => .object "DeskRings$Waiting"
  | 8 => .object "DeskRings$Suspects"
  | _ => .object "DeskRings$Plans"
theorem nm11 : ∀ a, a < 10 → ∀ b, b < 10 → a ≠ b → (T11 a).2.1 ≠ (T11 b).2.1 := by decide +kernel
theorem ty11_ok : ∀ k, k < 10 → parseFieldDescriptor (T11 k).2.2.1 = some (ty11 k) := by decide +kernel
theorem in11 : ∀ w ∈ u_ws R11 T11 10, w ∈ GW := by decide +kernel
def R12 : String := "DeskRingsModel"
def T12 : u_T := fun k => match k with
  | 0 => ("DeskRingsModel", "all", "[I", true)
  | 1 => ("DeskRingsModel", "has", "[Z", true)
  | 2 => ("DeskRingsModel", "size", "I", false)
  | 3 => ("DeskRingsModel", "next", "I", false)
  | 4 => ("DeskRingsModel", "where", "I", false)
  | 5 => ("DeskRingsModel", "token", "I", false)
  | 6 => ("DeskRingsModel", "number", "I", false)
  | 7 => ("DeskRingsModel", "word", "I", false)
  | 8 => ("DeskRingsModel", "wrong", "Z", false)
  | 9 => ("DeskRingsModel", "farDesk", "I", false)
  | 10 => ("DeskRingsModel", "read", "[I", true)
  | 11 => ("DeskRingsModel", "o0", "I", false)
  | 12 => ("DeskRingsModel", "desks", "I", false)
  | 13 => ("DeskRingsModel", "calls", "I", false)
  | 14 => ("DeskRingsModel", "helped", "[I", true)
  | 15 => ("DeskRingsModel", "kinds", "[I", true)
  | 16 => ("DeskRingsModel", "lifter", "I", false)
  | 17 => ("DeskRingsModel", "ringing", "I", false)
  | 18 => ("DeskRingsModel", "clashes", "Z", false)
  | 19 => ("DeskRingsModel", "d0", "I", false)
  | 20 => ("DeskRingsModel", "there", "I", false)
  | 21 => ("DeskRingsModel", "answered", "I", false)
  | 22 => ("DeskRingsModel", "gone", "I", false)
  | 23 => ("DeskRingsModel", "took", "I", false)
  | 24 => ("DeskRingsModel", "got", "I", false)
  | 25 => ("DeskRingsModel", "paid", "I", false)
  | 26 => ("DeskRingsModel", "clashed", "I", false)
  | 27 => ("DeskRingsModel", "done", "I", false)
  | 28 => ("DeskRingsModel", "slips", "[I", true)
  | 29 => ("DeskRingsModel", "readThere", "[I", true)
  | 30 => ("DeskRingsModel", "players", "[I", true)
  | 31 => ("DeskRingsModel", "playing", "I", false)
  | 32 => ("DeskRingsModel", "lifts", "I", false)
  | 33 => ("DeskRingsModel", "least", "I", false)
  | 34 => ("DeskRingsModel", "tries", "[J", true)
  | 35 => ("DeskRingsModel", "l0", "I", false)
  | 36 => ("DeskRingsModel", "by", "[I", true)
  | 37 => ("DeskRingsModel", "turn", "I", false)
  | 38 => ("DeskRingsModel", "missed", "I", false)
  | 39 => ("DeskRingsModel", "tried", "[I", true)
  | 40 => ("DeskRingsModel", "ordered", "[I", true)
  | 41 => ("DeskRingsModel", "worth", "[I", true)
  | 42 => ("DeskRingsModel", "duty", "[I", true)
  | _ => ("DeskRingsModel", "x0", "I", false)
def ty12 : Nat → FieldType := fun k => match k with
  | 0 => .array .int
  | 1 => .array .boolean
  | 2 => .int
  | 3 => .int
  | 4 => .int
  | 5 => .int
  | 6 => .int
  | 7 => .int
  | 8 => .boolean
  | 9 => .int
  | 10 => .array .int
  | 11 => .int
  | 12 => .int
  | 13 => .int
  | 14 => .array .int
  | 15 => .array .int
  | 16 => .int
  | 17 => .int
  | 18 => .boolean
  | 19 => .int
  | 20 => .int
  | 21 => .int
  | 22 => .int
  | 23 => .int
  | 24 => .int
  | 25 => .int
  | 26 => .int
  | 27 => .int
  | 28 => .array .int
  | 29 => .array .int
  | 30 => .array .int
  | 31 => .int
  | 32 => .int
  | 33 => .int
  | 34 => .array .long
  | 35 => .int
  | 36 => .array .int
  | 37 => .int
  | 38 => .int
  | 39 => .array .int
  | 40 => .array .int
  | 41 => .array .int
  | 42 => .array .int
  | _ => .int
theorem nm12 : ∀ a, a < 44 → ∀ b, b < 44 → a ≠ b → (T12 a).2.1 ≠ (T12 b).2.1 := by decide +kernel
theorem ty12_ok : ∀ k, k < 44 → parseFieldDescriptor (T12 k).2.2.1 = some (ty12 k) := by decide +kernel
theorem in12 : ∀ w ∈ u_ws R12 T12 44, w ∈ GW := by decide +kernel
abbrev classes : List vw_C := [(R0, T0, 4), (R1, T1, 3), (R2, T2, 13), (R3, T3, 3), (R4, T4, 4), (R5, T5, 15), (R6, T6, 8), (R7, T7, 12), (R8, T8, 5), (R9, T9, 8), (R10, T10, 7), (R11, T11, 10), (R12, T12, 44)]
