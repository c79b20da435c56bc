/-! the world of the class, the reference and the law: classes, cells, field facts (by program: wip/whole/world.py) -/
def zT0 : u_T := fun k => match k with
  | 0 => ("ThinkNumber", "tape", "LThinkNumber$Tape;", true)
  | 1 => ("ThinkNumber", "reader", "LThinkNumber$Reader;", true)
  | 2 => ("ThinkNumber", "tables", "[LThinkNumber$Table;", true)
  | 3 => ("ThinkNumber", "now", "LThinkNumber$State;", true)
  | 4 => ("ThinkNumber", "kept", "LThinkNumber$State;", true)
  | 5 => ("ThinkNumber", "at", "LThinkNumber$Value;", true)
  | 6 => ("ThinkNumber", "other", "LThinkNumber$Value;", true)
  | 7 => ("ThinkNumber", "maybe", "[I", true)
  | 8 => ("ThinkNumber", "tally", "LThinkNumber$Tally;", true)
  | 9 => ("ThinkNumber", "sum", "LThinkNumber$Sum;", true)
  | 10 => ("ThinkNumber", "parting", "LThinkNumber$Parting;", true)
  | _ => ("ThinkNumber", "maker", "LThinkNumber$Maker;", true)
def zY0 : Nat → FieldType := fun k => match k with
  | 0 => .object "ThinkNumber$Tape"
  | 1 => .object "ThinkNumber$Reader"
  | 2 => .array (.object "ThinkNumber$Table")
  | 3 => .object "ThinkNumber$State"
  | 4 => .object "ThinkNumber$State"
  | 5 => .object "ThinkNumber$Value"
  | 6 => .object "ThinkNumber$Value"
  | 7 => .array (.int)
  | 8 => .object "ThinkNumber$Tally"
  | 9 => .object "ThinkNumber$Sum"
  | 10 => .object "ThinkNumber$Parting"
  | _ => .object "ThinkNumber$Maker"
theorem zN0 : ∀ a, a < 12 → ∀ b, b < 12 → a ≠ b → (zT0 a).2.1 ≠ (zT0 b).2.1 := by decide +kernel
theorem zO0 : ∀ k, k < 12 → parseFieldDescriptor (zT0 k).2.2.1 = some (zY0 k) := by decide +kernel
def zT1 : u_T := fun k => match k with
  | 0 => ("ThinkNumber$Tape", "bytes", "[B", true)
  | _ => ("ThinkNumber$Tape", "length", "I", false)
def zY1 : Nat → FieldType := fun k => match k with
  | 0 => .array (.byte)
  | _ => .int
theorem zN1 : ∀ a, a < 2 → ∀ b, b < 2 → a ≠ b → (zT1 a).2.1 ≠ (zT1 b).2.1 := by decide +kernel
theorem zO1 : ∀ k, k < 2 → parseFieldDescriptor (zT1 k).2.2.1 = some (zY1 k) := by decide +kernel
def zT2 : u_T := fun k => match k with
  | 0 => ("ThinkNumber$Reader", "tape", "LThinkNumber$Tape;", true)
  | 1 => ("ThinkNumber$Reader", "fault", "I", false)
  | 2 => ("ThinkNumber$Reader", "place", "I", false)
  | 3 => ("ThinkNumber$Reader", "sort", "I", false)
  | 4 => ("ThinkNumber$Reader", "start", "I", false)
  | 5 => ("ThinkNumber$Reader", "behind", "I", false)
  | _ => ("ThinkNumber$Reader", "x", "I", false)
def zY2 : Nat → FieldType := fun k => match k with
  | 0 => .object "ThinkNumber$Tape"
  | 1 => .int
  | 2 => .int
  | 3 => .int
  | 4 => .int
  | 5 => .int
  | _ => .int
theorem zN2 : ∀ a, a < 7 → ∀ b, b < 7 → a ≠ b → (zT2 a).2.1 ≠ (zT2 b).2.1 := by decide +kernel
theorem zO2 : ∀ k, k < 7 → parseFieldDescriptor (zT2 k).2.2.1 = some (zY2 k) := by decide +kernel
def zT3 : u_T := fun k => match k with
  | 0 => ("ThinkNumber$Table", "orders", "LThinkNumber$Orders;", true)
  | 1 => ("ThinkNumber$Table", "first", "[I", true)
  | _ => ("ThinkNumber$Table", "last", "[I", true)
def zY3 : Nat → FieldType := fun k => match k with
  | 0 => .object "ThinkNumber$Orders"
  | 1 => .array (.int)
  | _ => .array (.int)
theorem zN3 : ∀ a, a < 3 → ∀ b, b < 3 → a ≠ b → (zT3 a).2.1 ≠ (zT3 b).2.1 := by decide +kernel
theorem zO3 : ∀ k, k < 3 → parseFieldDescriptor (zT3 k).2.2.1 = some (zY3 k) := by decide +kernel
def zT4 : u_T := fun k => match k with
  | 0 => ("ThinkNumber$Orders", "kinds", "[I", true)
  | 1 => ("ThinkNumber$Orders", "xs", "[I", true)
  | _ => ("ThinkNumber$Orders", "count", "I", false)
def zY4 : Nat → FieldType := fun k => match k with
  | 0 => .array (.int)
  | 1 => .array (.int)
  | _ => .int
theorem zN4 : ∀ a, a < 3 → ∀ b, b < 3 → a ≠ b → (zT4 a).2.1 ≠ (zT4 b).2.1 := by decide +kernel
theorem zO4 : ∀ k, k < 3 → parseFieldDescriptor (zT4 k).2.2.1 = some (zY4 k) := by decide +kernel
def zT5 : u_T := fun k => match k with
  | 0 => ("ThinkNumber$State", "tables", "I", false)
  | 1 => ("ThinkNumber$State", "thought", "[I", true)
  | 2 => ("ThinkNumber$State", "claims", "LThinkNumber$Values;", true)
  | 3 => ("ThinkNumber$State", "heard", "LThinkNumber$Values;", true)
  | 4 => ("ThinkNumber$State", "kit", "LThinkNumber$Orders;", true)
  | 5 => ("ThinkNumber$State", "asks", "[I", true)
  | 6 => ("ThinkNumber$State", "askCount", "I", false)
  | 7 => ("ThinkNumber$State", "playedTable", "I", false)
  | _ => ("ThinkNumber$State", "trail", "LThinkNumber$Values;", true)
def zY5 : Nat → FieldType := fun k => match k with
  | 0 => .int
  | 1 => .array (.int)
  | 2 => .object "ThinkNumber$Values"
  | 3 => .object "ThinkNumber$Values"
  | 4 => .object "ThinkNumber$Orders"
  | 5 => .array (.int)
  | 6 => .int
  | 7 => .int
  | _ => .object "ThinkNumber$Values"
theorem zN5 : ∀ a, a < 9 → ∀ b, b < 9 → a ≠ b → (zT5 a).2.1 ≠ (zT5 b).2.1 := by decide +kernel
theorem zO5 : ∀ k, k < 9 → parseFieldDescriptor (zT5 k).2.2.1 = some (zY5 k) := by decide +kernel
def zT6 : u_T := fun k => match k with
  | 0 => ("ThinkNumber$Values", "ups", "[J", true)
  | 1 => ("ThinkNumber$Values", "lows", "[J", true)
  | _ => ("ThinkNumber$Values", "count", "I", false)
def zY6 : Nat → FieldType := fun k => match k with
  | 0 => .array (.long)
  | 1 => .array (.long)
  | _ => .int
theorem zN6 : ∀ a, a < 3 → ∀ b, b < 3 → a ≠ b → (zT6 a).2.1 ≠ (zT6 b).2.1 := by decide +kernel
theorem zO6 : ∀ k, k < 3 → parseFieldDescriptor (zT6 k).2.2.1 = some (zY6 k) := by decide +kernel
def zT7 : u_T := fun k => match k with
  | 0 => ("ThinkNumber$Value", "up", "J", false)
  | _ => ("ThinkNumber$Value", "low", "J", false)
def zY7 : Nat → FieldType := fun k => match k with
  | 0 => .long
  | _ => .long
theorem zN7 : ∀ a, a < 2 → ∀ b, b < 2 → a ≠ b → (zT7 a).2.1 ≠ (zT7 b).2.1 := by decide +kernel
theorem zO7 : ∀ k, k < 2 → parseFieldDescriptor (zT7 k).2.2.1 = some (zY7 k) := by decide +kernel
def zT8 : u_T := fun k => match k with
  | 0 => ("ThinkNumber$Tally", "seen", "[J", true)
  | 1 => ("ThinkNumber$Tally", "count", "I", false)
  | 2 => ("ThinkNumber$Tally", "least", "I", false)
  | 3 => ("ThinkNumber$Tally", "greatest", "I", false)
  | _ => ("ThinkNumber$Tally", "unlikeOnes", "I", false)
def zY8 : Nat → FieldType := fun k => match k with
  | 0 => .array (.long)
  | 1 => .int
  | 2 => .int
  | 3 => .int
  | _ => .int
theorem zN8 : ∀ a, a < 5 → ∀ b, b < 5 → a ≠ b → (zT8 a).2.1 ≠ (zT8 b).2.1 := by decide +kernel
theorem zO8 : ∀ k, k < 5 → parseFieldDescriptor (zT8 k).2.2.1 = some (zY8 k) := by decide +kernel
def zT9 : u_T := fun k => match k with
  | 0 => ("ThinkNumber$Sum", "parts", "[J", true)
  | _ => ("ThinkNumber$Sum", "low", "J", false)
def zY9 : Nat → FieldType := fun k => match k with
  | 0 => .array (.long)
  | _ => .long
theorem zN9 : ∀ a, a < 2 → ∀ b, b < 2 → a ≠ b → (zT9 a).2.1 ≠ (zT9 b).2.1 := by decide +kernel
theorem zO9 : ∀ k, k < 2 → parseFieldDescriptor (zT9 k).2.2.1 = some (zY9 k) := by decide +kernel
def zT10 : u_T := fun k => match k with
  | 0 => ("ThinkNumber$Parting", "ups", "[J", true)
  | 1 => ("ThinkNumber$Parting", "lows", "[J", true)
  | 2 => ("ThinkNumber$Parting", "group", "[I", true)
  | 3 => ("ThinkNumber$Parting", "finer", "[I", true)
  | 4 => ("ThinkNumber$Parting", "seats", "[I", true)
  | _ => ("ThinkNumber$Parting", "members", "I", false)
def zY10 : Nat → FieldType := fun k => match k with
  | 0 => .array (.long)
  | 1 => .array (.long)
  | 2 => .array (.int)
  | 3 => .array (.int)
  | 4 => .array (.int)
  | _ => .int
theorem zN10 : ∀ a, a < 6 → ∀ b, b < 6 → a ≠ b → (zT10 a).2.1 ≠ (zT10 b).2.1 := by decide +kernel
theorem zO10 : ∀ k, k < 6 → parseFieldDescriptor (zT10 k).2.2.1 = some (zY10 k) := by decide +kernel
def zT11 : u_T := fun k => match k with
  | 0 => ("ThinkNumber$Maker", "levels", "[[J", true)
  | 1 => ("ThinkNumber$Maker", "thought", "[I", true)
  | 2 => ("ThinkNumber$Maker", "value", "LThinkNumber$Value;", true)
  | 3 => ("ThinkNumber$Maker", "chosen", "[I", true)
  | 4 => ("ThinkNumber$Maker", "low", "I", false)
  | 5 => ("ThinkNumber$Maker", "numbers", "I", false)
  | _ => ("ThinkNumber$Maker", "goal", "I", false)
def zY11 : Nat → FieldType := fun k => match k with
  | 0 => .array (.array (.long))
  | 1 => .array (.int)
  | 2 => .object "ThinkNumber$Value"
  | 3 => .array (.int)
  | 4 => .int
  | 5 => .int
  | _ => .int
theorem zN11 : ∀ a, a < 7 → ∀ b, b < 7 → a ≠ b → (zT11 a).2.1 ≠ (zT11 b).2.1 := by decide +kernel
theorem zO11 : ∀ k, k < 7 → parseFieldDescriptor (zT11 k).2.2.1 = some (zY11 k) := by decide +kernel
def zT12 : u_T := fun k => match k with
  | 0 => ("ThinkNumberModel", "a", "[I", true)
  | 1 => ("ThinkNumberModel", "image", "[I", true)
  | 2 => ("ThinkNumberModel", "f", "[J", true)
  | 3 => ("ThinkNumberModel", "imageF", "[J", true)
  | 4 => ("ThinkNumberModel", "tables", "[I", true)
  | 5 => ("ThinkNumberModel", "tape", "[I", true)
  | 6 => ("ThinkNumberModel", "taped", "I", false)
  | 7 => ("ThinkNumberModel", "fault", "I", false)
  | 8 => ("ThinkNumberModel", "faultPlace", "I", false)
  | 9 => ("ThinkNumberModel", "at", "I", false)
  | 10 => ("ThinkNumberModel", "place", "I", false)
  | 11 => ("ThinkNumberModel", "token", "I", false)
  | 12 => ("ThinkNumberModel", "number", "I", false)
  | 13 => ("ThinkNumberModel", "table0", "I", false)
  | 14 => ("ThinkNumberModel", "word", "J", false)
  | 15 => ("ThinkNumberModel", "up", "J", false)
  | 16 => ("ThinkNumberModel", "low", "J", false)
  | 17 => ("ThinkNumberModel", "think", "[I", true)
  | 18 => ("ThinkNumberModel", "form", "[J", true)
  | 19 => ("ThinkNumberModel", "came", "[Z", true)
  | 20 => ("ThinkNumberModel", "uppers", "[J", true)
  | 21 => ("ThinkNumberModel", "lowers", "[J", true)
  | 22 => ("ThinkNumberModel", "chain", "[I", true)
  | 23 => ("ThinkNumberModel", "chains", "[I", true)
  | 24 => ("ThinkNumberModel", "row", "[I", true)
  | _ => ("ThinkNumberModel", "takes", "[I", true)
def zY12 : Nat → FieldType := fun k => match k with
  | 0 => .array (.int)
  | 1 => .array (.int)
  | 2 => .array (.long)
  | 3 => .array (.long)
  | 4 => .array (.int)
  | 5 => .array (.int)
  | 6 => .int
  | 7 => .int
  | 8 => .int
  | 9 => .int
  | 10 => .int
  | 11 => .int
  | 12 => .int
  | 13 => .int
  | 14 => .long
  | 15 => .long
  | 16 => .long
  | 17 => .array (.int)
  | 18 => .array (.long)
  | 19 => .array (.boolean)
  | 20 => .array (.long)
  | 21 => .array (.long)
  | 22 => .array (.int)
  | 23 => .array (.int)
  | 24 => .array (.int)
  | _ => .array (.int)
theorem zN12 : ∀ a, a < 26 → ∀ b, b < 26 → a ≠ b → (zT12 a).2.1 ≠ (zT12 b).2.1 := by decide +kernel
theorem zO12 : ∀ k, k < 26 → parseFieldDescriptor (zT12 k).2.2.1 = some (zY12 k) := by decide +kernel
abbrev zcls : List vw_C := [("ThinkNumber", zT0, 12), ("ThinkNumber$Tape", zT1, 2), ("ThinkNumber$Reader", zT2, 7), ("ThinkNumber$Table", zT3, 3), ("ThinkNumber$Orders", zT4, 3), ("ThinkNumber$State", zT5, 9), ("ThinkNumber$Values", zT6, 3), ("ThinkNumber$Value", zT7, 2), ("ThinkNumber$Tally", zT8, 5), ("ThinkNumber$Sum", zT9, 2), ("ThinkNumber$Parting", zT10, 6), ("ThinkNumber$Maker", zT11, 7), ("ThinkNumberModel", zT12, 26)]
theorem zL0_11 : u_lay "ThinkNumber" zT0 11 ∈ tb := tb_in (List.mem_append_right _ (List.mem_append_left _ (List.mem_of_getElem? (i := 107) rfl))) rfl
theorem zL0_10 : u_lay "ThinkNumber" zT0 10 ∈ tb := tb_in (List.mem_append_right _ (List.mem_append_left _ (List.mem_of_getElem? (i := 105) rfl))) rfl
theorem zL0_9 : u_lay "ThinkNumber" zT0 9 ∈ tb := tb_in (List.mem_append_right _ (List.mem_append_left _ (List.mem_of_getElem? (i := 103) rfl))) rfl
theorem zL0_8 : u_lay "ThinkNumber" zT0 8 ∈ tb := tb_in (List.mem_append_right _ (List.mem_append_left _ (List.mem_of_getElem? (i := 101) rfl))) rfl
theorem zL0_7 : u_lay "ThinkNumber" zT0 7 ∈ tb := tb_in (List.mem_append_right _ (List.mem_append_left _ (List.mem_of_getElem? (i := 99) rfl))) rfl
theorem zL0_6 : u_lay "ThinkNumber" zT0 6 ∈ tb := tb_in (List.mem_append_right _ (List.mem_append_left _ (List.mem_of_getElem? (i := 97) rfl))) rfl
theorem zL0_5 : u_lay "ThinkNumber" zT0 5 ∈ tb := tb_in (List.mem_append_right _ (List.mem_append_left _ (List.mem_of_getElem? (i := 95) rfl))) rfl
theorem zL0_4 : u_lay "ThinkNumber" zT0 4 ∈ tb := tb_in (List.mem_append_right _ (List.mem_append_left _ (List.mem_of_getElem? (i := 93) rfl))) rfl
theorem zL0_3 : u_lay "ThinkNumber" zT0 3 ∈ tb := tb_in (List.mem_append_right _ (List.mem_append_left _ (List.mem_of_getElem? (i := 91) rfl))) rfl
theorem zL0_2 : u_lay "ThinkNumber" zT0 2 ∈ tb := tb_in (List.mem_append_right _ (List.mem_append_left _ (List.mem_of_getElem? (i := 89) rfl))) rfl
theorem zL0_1 : u_lay "ThinkNumber" zT0 1 ∈ tb := tb_in (List.mem_append_right _ (List.mem_append_left _ (List.mem_of_getElem? (i := 87) rfl))) rfl
theorem zL0_0 : u_lay "ThinkNumber" zT0 0 ∈ tb := tb_in (List.mem_append_right _ (List.mem_append_left _ (List.mem_of_getElem? (i := 85) rfl))) rfl
theorem zL0 : ∀ w ∈ u_ws "ThinkNumber" zT0 12, w ∈ tb := List.forall_mem_cons.mpr ⟨zL0_0, List.forall_mem_cons.mpr ⟨zL0_1, List.forall_mem_cons.mpr ⟨zL0_2, List.forall_mem_cons.mpr ⟨zL0_3, List.forall_mem_cons.mpr ⟨zL0_4, List.forall_mem_cons.mpr ⟨zL0_5, List.forall_mem_cons.mpr ⟨zL0_6, List.forall_mem_cons.mpr ⟨zL0_7, List.forall_mem_cons.mpr ⟨zL0_8, List.forall_mem_cons.mpr ⟨zL0_9, List.forall_mem_cons.mpr ⟨zL0_10, List.forall_mem_cons.mpr ⟨zL0_11, fun _ h => absurd h List.not_mem_nil⟩⟩⟩⟩⟩⟩⟩⟩⟩⟩⟩⟩
theorem zL1_1 : u_lay "ThinkNumber$Tape" zT1 1 ∈ tb := tb_in (List.mem_append_left _ (List.mem_of_getElem? (i := 43) rfl)) rfl
theorem zL1_0 : u_lay "ThinkNumber$Tape" zT1 0 ∈ tb := tb_in (List.mem_append_left _ (List.mem_of_getElem? (i := 41) rfl)) rfl
theorem zL1 : ∀ w ∈ u_ws "ThinkNumber$Tape" zT1 2, w ∈ tb := List.forall_mem_cons.mpr ⟨zL1_0, List.forall_mem_cons.mpr ⟨zL1_1, fun _ h => absurd h List.not_mem_nil⟩⟩
theorem zL2_6 : u_lay "ThinkNumber$Reader" zT2 6 ∈ tb := tb_in (List.mem_append_left _ (List.mem_of_getElem? (i := 74) rfl)) rfl
theorem zL2_5 : u_lay "ThinkNumber$Reader" zT2 5 ∈ tb := tb_in (List.mem_append_left _ (List.mem_of_getElem? (i := 72) rfl)) rfl
theorem zL2_4 : u_lay "ThinkNumber$Reader" zT2 4 ∈ tb := tb_in (List.mem_append_left _ (List.mem_of_getElem? (i := 70) rfl)) rfl
theorem zL2_3 : u_lay "ThinkNumber$Reader" zT2 3 ∈ tb := tb_in (List.mem_append_left _ (List.mem_of_getElem? (i := 68) rfl)) rfl
theorem zL2_2 : u_lay "ThinkNumber$Reader" zT2 2 ∈ tb := tb_in (List.mem_append_left _ (List.mem_of_getElem? (i := 66) rfl)) rfl
theorem zL2_1 : u_lay "ThinkNumber$Reader" zT2 1 ∈ tb := tb_in (List.mem_append_left _ (List.mem_of_getElem? (i := 64) rfl)) rfl
theorem zL2_0 : u_lay "ThinkNumber$Reader" zT2 0 ∈ tb := tb_in (List.mem_append_left _ (List.mem_of_getElem? (i := 62) rfl)) rfl
theorem zL2 : ∀ w ∈ u_ws "ThinkNumber$Reader" zT2 7, w ∈ tb := List.forall_mem_cons.mpr ⟨zL2_0, List.forall_mem_cons.mpr ⟨zL2_1, List.forall_mem_cons.mpr ⟨zL2_2, List.forall_mem_cons.mpr ⟨zL2_3, List.forall_mem_cons.mpr ⟨zL2_4, List.forall_mem_cons.mpr ⟨zL2_5, List.forall_mem_cons.mpr ⟨zL2_6, fun _ h => absurd h List.not_mem_nil⟩⟩⟩⟩⟩⟩⟩
theorem zL3_2 : u_lay "ThinkNumber$Table" zT3 2 ∈ tb := tb_in (List.mem_append_left _ (List.mem_of_getElem? (i := 128) rfl)) rfl
theorem zL3_1 : u_lay "ThinkNumber$Table" zT3 1 ∈ tb := tb_in (List.mem_append_left _ (List.mem_of_getElem? (i := 126) rfl)) rfl
theorem zL3_0 : u_lay "ThinkNumber$Table" zT3 0 ∈ tb := tb_in (List.mem_append_left _ (List.mem_of_getElem? (i := 124) rfl)) rfl
theorem zL3 : ∀ w ∈ u_ws "ThinkNumber$Table" zT3 3, w ∈ tb := List.forall_mem_cons.mpr ⟨zL3_0, List.forall_mem_cons.mpr ⟨zL3_1, List.forall_mem_cons.mpr ⟨zL3_2, fun _ h => absurd h List.not_mem_nil⟩⟩⟩
theorem zL4_2 : u_lay "ThinkNumber$Orders" zT4 2 ∈ tb := tb_in (List.mem_append_left _ (List.mem_of_getElem? (i := 109) rfl)) rfl
theorem zL4_1 : u_lay "ThinkNumber$Orders" zT4 1 ∈ tb := tb_in (List.mem_append_left _ (List.mem_of_getElem? (i := 107) rfl)) rfl
theorem zL4_0 : u_lay "ThinkNumber$Orders" zT4 0 ∈ tb := tb_in (List.mem_append_left _ (List.mem_of_getElem? (i := 105) rfl)) rfl
theorem zL4 : ∀ w ∈ u_ws "ThinkNumber$Orders" zT4 3, w ∈ tb := List.forall_mem_cons.mpr ⟨zL4_0, List.forall_mem_cons.mpr ⟨zL4_1, List.forall_mem_cons.mpr ⟨zL4_2, fun _ h => absurd h List.not_mem_nil⟩⟩⟩
theorem zL5_8 : u_lay "ThinkNumber$State" zT5 8 ∈ tb := tb_in (List.mem_append_left _ (List.mem_of_getElem? (i := 193) rfl)) rfl
theorem zL5_7 : u_lay "ThinkNumber$State" zT5 7 ∈ tb := tb_in (List.mem_append_left _ (List.mem_of_getElem? (i := 191) rfl)) rfl
theorem zL5_6 : u_lay "ThinkNumber$State" zT5 6 ∈ tb := tb_in (List.mem_append_left _ (List.mem_of_getElem? (i := 189) rfl)) rfl
theorem zL5_5 : u_lay "ThinkNumber$State" zT5 5 ∈ tb := tb_in (List.mem_append_left _ (List.mem_of_getElem? (i := 187) rfl)) rfl
theorem zL5_4 : u_lay "ThinkNumber$State" zT5 4 ∈ tb := tb_in (List.mem_append_left _ (List.mem_of_getElem? (i := 185) rfl)) rfl
theorem zL5_3 : u_lay "ThinkNumber$State" zT5 3 ∈ tb := tb_in (List.mem_append_left _ (List.mem_of_getElem? (i := 183) rfl)) rfl
theorem zL5_2 : u_lay "ThinkNumber$State" zT5 2 ∈ tb := tb_in (List.mem_append_left _ (List.mem_of_getElem? (i := 181) rfl)) rfl
theorem zL5_1 : u_lay "ThinkNumber$State" zT5 1 ∈ tb := tb_in (List.mem_append_left _ (List.mem_of_getElem? (i := 179) rfl)) rfl
theorem zL5_0 : u_lay "ThinkNumber$State" zT5 0 ∈ tb := tb_in (List.mem_append_left _ (List.mem_of_getElem? (i := 177) rfl)) rfl
theorem zL5 : ∀ w ∈ u_ws "ThinkNumber$State" zT5 9, w ∈ tb := List.forall_mem_cons.mpr ⟨zL5_0, List.forall_mem_cons.mpr ⟨zL5_1, List.forall_mem_cons.mpr ⟨zL5_2, List.forall_mem_cons.mpr ⟨zL5_3, List.forall_mem_cons.mpr ⟨zL5_4, List.forall_mem_cons.mpr ⟨zL5_5, List.forall_mem_cons.mpr ⟨zL5_6, List.forall_mem_cons.mpr ⟨zL5_7, List.forall_mem_cons.mpr ⟨zL5_8, fun _ h => absurd h List.not_mem_nil⟩⟩⟩⟩⟩⟩⟩⟩⟩
theorem zL6_2 : u_lay "ThinkNumber$Values" zT6 2 ∈ tb := tb_in (List.mem_append_left _ (List.mem_of_getElem? (i := 153) rfl)) rfl
theorem zL6_1 : u_lay "ThinkNumber$Values" zT6 1 ∈ tb := tb_in (List.mem_append_left _ (List.mem_of_getElem? (i := 151) rfl)) rfl
theorem zL6_0 : u_lay "ThinkNumber$Values" zT6 0 ∈ tb := tb_in (List.mem_append_left _ (List.mem_of_getElem? (i := 149) rfl)) rfl
theorem zL6 : ∀ w ∈ u_ws "ThinkNumber$Values" zT6 3, w ∈ tb := List.forall_mem_cons.mpr ⟨zL6_0, List.forall_mem_cons.mpr ⟨zL6_1, List.forall_mem_cons.mpr ⟨zL6_2, fun _ h => absurd h List.not_mem_nil⟩⟩⟩
theorem zL7_1 : u_lay "ThinkNumber$Value" zT7 1 ∈ tb := tb_in (List.mem_append_left _ (List.mem_of_getElem? (i := 214) rfl)) rfl
theorem zL7_0 : u_lay "ThinkNumber$Value" zT7 0 ∈ tb := tb_in (List.mem_append_left _ (List.mem_of_getElem? (i := 212) rfl)) rfl
theorem zL7 : ∀ w ∈ u_ws "ThinkNumber$Value" zT7 2, w ∈ tb := List.forall_mem_cons.mpr ⟨zL7_0, List.forall_mem_cons.mpr ⟨zL7_1, fun _ h => absurd h List.not_mem_nil⟩⟩
theorem zL8_4 : u_lay "ThinkNumber$Tally" zT8 4 ∈ tb := tb_in (List.mem_append_left _ (List.mem_of_getElem? (i := 237) rfl)) rfl
theorem zL8_3 : u_lay "ThinkNumber$Tally" zT8 3 ∈ tb := tb_in (List.mem_append_left _ (List.mem_of_getElem? (i := 235) rfl)) rfl
theorem zL8_2 : u_lay "ThinkNumber$Tally" zT8 2 ∈ tb := tb_in (List.mem_append_left _ (List.mem_of_getElem? (i := 233) rfl)) rfl
theorem zL8_1 : u_lay "ThinkNumber$Tally" zT8 1 ∈ tb := tb_in (List.mem_append_left _ (List.mem_of_getElem? (i := 231) rfl)) rfl
theorem zL8_0 : u_lay "ThinkNumber$Tally" zT8 0 ∈ tb := tb_in (List.mem_append_left _ (List.mem_of_getElem? (i := 229) rfl)) rfl
theorem zL8 : ∀ w ∈ u_ws "ThinkNumber$Tally" zT8 5, w ∈ tb := List.forall_mem_cons.mpr ⟨zL8_0, List.forall_mem_cons.mpr ⟨zL8_1, List.forall_mem_cons.mpr ⟨zL8_2, List.forall_mem_cons.mpr ⟨zL8_3, List.forall_mem_cons.mpr ⟨zL8_4, fun _ h => absurd h List.not_mem_nil⟩⟩⟩⟩⟩
theorem zL9_1 : u_lay "ThinkNumber$Sum" zT9 1 ∈ tb := tb_in (List.mem_append_right _ (List.mem_append_left _ (List.mem_of_getElem? (i := 12) rfl))) rfl
theorem zL9_0 : u_lay "ThinkNumber$Sum" zT9 0 ∈ tb := tb_in (List.mem_append_right _ (List.mem_append_left _ (List.mem_of_getElem? (i := 10) rfl))) rfl
theorem zL9 : ∀ w ∈ u_ws "ThinkNumber$Sum" zT9 2, w ∈ tb := List.forall_mem_cons.mpr ⟨zL9_0, List.forall_mem_cons.mpr ⟨zL9_1, fun _ h => absurd h List.not_mem_nil⟩⟩
theorem zL10_5 : u_lay "ThinkNumber$Parting" zT10 5 ∈ tb := tb_in (List.mem_append_right _ (List.mem_append_left _ (List.mem_of_getElem? (i := 37) rfl))) rfl
theorem zL10_4 : u_lay "ThinkNumber$Parting" zT10 4 ∈ tb := tb_in (List.mem_append_right _ (List.mem_append_left _ (List.mem_of_getElem? (i := 35) rfl))) rfl
theorem zL10_3 : u_lay "ThinkNumber$Parting" zT10 3 ∈ tb := tb_in (List.mem_append_right _ (List.mem_append_left _ (List.mem_of_getElem? (i := 33) rfl))) rfl
theorem zL10_2 : u_lay "ThinkNumber$Parting" zT10 2 ∈ tb := tb_in (List.mem_append_right _ (List.mem_append_left _ (List.mem_of_getElem? (i := 31) rfl))) rfl
theorem zL10_1 : u_lay "ThinkNumber$Parting" zT10 1 ∈ tb := tb_in (List.mem_append_right _ (List.mem_append_left _ (List.mem_of_getElem? (i := 29) rfl))) rfl
theorem zL10_0 : u_lay "ThinkNumber$Parting" zT10 0 ∈ tb := tb_in (List.mem_append_right _ (List.mem_append_left _ (List.mem_of_getElem? (i := 27) rfl))) rfl
theorem zL10 : ∀ w ∈ u_ws "ThinkNumber$Parting" zT10 6, w ∈ tb := List.forall_mem_cons.mpr ⟨zL10_0, List.forall_mem_cons.mpr ⟨zL10_1, List.forall_mem_cons.mpr ⟨zL10_2, List.forall_mem_cons.mpr ⟨zL10_3, List.forall_mem_cons.mpr ⟨zL10_4, List.forall_mem_cons.mpr ⟨zL10_5, fun _ h => absurd h List.not_mem_nil⟩⟩⟩⟩⟩⟩
theorem zL11_6 : u_lay "ThinkNumber$Maker" zT11 6 ∈ tb := tb_in (List.mem_append_right _ (List.mem_append_left _ (List.mem_of_getElem? (i := 70) rfl))) rfl
theorem zL11_5 : u_lay "ThinkNumber$Maker" zT11 5 ∈ tb := tb_in (List.mem_append_right _ (List.mem_append_left _ (List.mem_of_getElem? (i := 68) rfl))) rfl
theorem zL11_4 : u_lay "ThinkNumber$Maker" zT11 4 ∈ tb := tb_in (List.mem_append_right _ (List.mem_append_left _ (List.mem_of_getElem? (i := 66) rfl))) rfl
theorem zL11_3 : u_lay "ThinkNumber$Maker" zT11 3 ∈ tb := tb_in (List.mem_append_right _ (List.mem_append_left _ (List.mem_of_getElem? (i := 64) rfl))) rfl
theorem zL11_2 : u_lay "ThinkNumber$Maker" zT11 2 ∈ tb := tb_in (List.mem_append_right _ (List.mem_append_left _ (List.mem_of_getElem? (i := 62) rfl))) rfl
theorem zL11_1 : u_lay "ThinkNumber$Maker" zT11 1 ∈ tb := tb_in (List.mem_append_right _ (List.mem_append_left _ (List.mem_of_getElem? (i := 60) rfl))) rfl
theorem zL11_0 : u_lay "ThinkNumber$Maker" zT11 0 ∈ tb := tb_in (List.mem_append_right _ (List.mem_append_left _ (List.mem_of_getElem? (i := 58) rfl))) rfl
theorem zL11 : ∀ w ∈ u_ws "ThinkNumber$Maker" zT11 7, w ∈ tb := List.forall_mem_cons.mpr ⟨zL11_0, List.forall_mem_cons.mpr ⟨zL11_1, List.forall_mem_cons.mpr ⟨zL11_2, List.forall_mem_cons.mpr ⟨zL11_3, List.forall_mem_cons.mpr ⟨zL11_4, List.forall_mem_cons.mpr ⟨zL11_5, List.forall_mem_cons.mpr ⟨zL11_6, fun _ h => absurd h List.not_mem_nil⟩⟩⟩⟩⟩⟩⟩
theorem zL12_25 : u_lay "ThinkNumberModel" zT12 25 ∈ tb := tb_in (List.mem_append_right _ (List.mem_append_right _ (List.mem_append_right _ (List.mem_append_right _ (List.mem_append_left _ (List.mem_of_getElem? (i := 61) rfl)))))) rfl
theorem zL12_24 : u_lay "ThinkNumberModel" zT12 24 ∈ tb := tb_in (List.mem_append_right _ (List.mem_append_right _ (List.mem_append_right _ (List.mem_append_right _ (List.mem_append_left _ (List.mem_of_getElem? (i := 59) rfl)))))) rfl
theorem zL12_23 : u_lay "ThinkNumberModel" zT12 23 ∈ tb := tb_in (List.mem_append_right _ (List.mem_append_right _ (List.mem_append_right _ (List.mem_append_right _ (List.mem_append_left _ (List.mem_of_getElem? (i := 57) rfl)))))) rfl
theorem zL12_22 : u_lay "ThinkNumberModel" zT12 22 ∈ tb := tb_in (List.mem_append_right _ (List.mem_append_right _ (List.mem_append_right _ (List.mem_append_right _ (List.mem_append_left _ (List.mem_of_getElem? (i := 55) rfl)))))) rfl
theorem zL12_21 : u_lay "ThinkNumberModel" zT12 21 ∈ tb := tb_in (List.mem_append_right _ (List.mem_append_right _ (List.mem_append_right _ (List.mem_append_right _ (List.mem_append_left _ (List.mem_of_getElem? (i := 53) rfl)))))) rfl
theorem zL12_20 : u_lay "ThinkNumberModel" zT12 20 ∈ tb := tb_in (List.mem_append_right _ (List.mem_append_right _ (List.mem_append_right _ (List.mem_append_right _ (List.mem_append_left _ (List.mem_of_getElem? (i := 51) rfl)))))) rfl
theorem zL12_19 : u_lay "ThinkNumberModel" zT12 19 ∈ tb := tb_in (List.mem_append_right _ (List.mem_append_right _ (List.mem_append_right _ (List.mem_append_right _ (List.mem_append_left _ (List.mem_of_getElem? (i := 49) rfl)))))) rfl
theorem zL12_18 : u_lay "ThinkNumberModel" zT12 18 ∈ tb := tb_in (List.mem_append_right _ (List.mem_append_right _ (List.mem_append_right _ (List.mem_append_right _ (List.mem_append_left _ (List.mem_of_getElem? (i := 47) rfl)))))) rfl
theorem zL12_17 : u_lay "ThinkNumberModel" zT12 17 ∈ tb := tb_in (List.mem_append_right _ (List.mem_append_right _ (List.mem_append_right _ (List.mem_append_right _ (List.mem_append_left _ (List.mem_of_getElem? (i := 45) rfl)))))) rfl
theorem zL12_16 : u_lay "ThinkNumberModel" zT12 16 ∈ tb := tb_in (List.mem_append_right _ (List.mem_append_right _ (List.mem_append_right _ (List.mem_append_right _ (List.mem_append_left _ (List.mem_of_getElem? (i := 43) rfl)))))) rfl
theorem zL12_15 : u_lay "ThinkNumberModel" zT12 15 ∈ tb := tb_in (List.mem_append_right _ (List.mem_append_right _ (List.mem_append_right _ (List.mem_append_right _ (List.mem_append_left _ (List.mem_of_getElem? (i := 41) rfl)))))) rfl
theorem zL12_14 : u_lay "ThinkNumberModel" zT12 14 ∈ tb := tb_in (List.mem_append_right _ (List.mem_append_right _ (List.mem_append_right _ (List.mem_append_right _ (List.mem_append_left _ (List.mem_of_getElem? (i := 39) rfl)))))) rfl
theorem zL12_13 : u_lay "ThinkNumberModel" zT12 13 ∈ tb := tb_in (List.mem_append_right _ (List.mem_append_right _ (List.mem_append_right _ (List.mem_append_right _ (List.mem_append_left _ (List.mem_of_getElem? (i := 37) rfl)))))) rfl
theorem zL12_12 : u_lay "ThinkNumberModel" zT12 12 ∈ tb := tb_in (List.mem_append_right _ (List.mem_append_right _ (List.mem_append_right _ (List.mem_append_right _ (List.mem_append_left _ (List.mem_of_getElem? (i := 35) rfl)))))) rfl
theorem zL12_11 : u_lay "ThinkNumberModel" zT12 11 ∈ tb := tb_in (List.mem_append_right _ (List.mem_append_right _ (List.mem_append_right _ (List.mem_append_right _ (List.mem_append_left _ (List.mem_of_getElem? (i := 33) rfl)))))) rfl
theorem zL12_10 : u_lay "ThinkNumberModel" zT12 10 ∈ tb := tb_in (List.mem_append_right _ (List.mem_append_right _ (List.mem_append_right _ (List.mem_append_right _ (List.mem_append_left _ (List.mem_of_getElem? (i := 31) rfl)))))) rfl
theorem zL12_9 : u_lay "ThinkNumberModel" zT12 9 ∈ tb := tb_in (List.mem_append_right _ (List.mem_append_right _ (List.mem_append_right _ (List.mem_append_right _ (List.mem_append_left _ (List.mem_of_getElem? (i := 29) rfl)))))) rfl
theorem zL12_8 : u_lay "ThinkNumberModel" zT12 8 ∈ tb := tb_in (List.mem_append_right _ (List.mem_append_right _ (List.mem_append_right _ (List.mem_append_right _ (List.mem_append_left _ (List.mem_of_getElem? (i := 27) rfl)))))) rfl
theorem zL12_7 : u_lay "ThinkNumberModel" zT12 7 ∈ tb := tb_in (List.mem_append_right _ (List.mem_append_right _ (List.mem_append_right _ (List.mem_append_right _ (List.mem_append_left _ (List.mem_of_getElem? (i := 25) rfl)))))) rfl
theorem zL12_6 : u_lay "ThinkNumberModel" zT12 6 ∈ tb := tb_in (List.mem_append_right _ (List.mem_append_right _ (List.mem_append_right _ (List.mem_append_right _ (List.mem_append_left _ (List.mem_of_getElem? (i := 23) rfl)))))) rfl
theorem zL12_5 : u_lay "ThinkNumberModel" zT12 5 ∈ tb := tb_in (List.mem_append_right _ (List.mem_append_right _ (List.mem_append_right _ (List.mem_append_right _ (List.mem_append_left _ (List.mem_of_getElem? (i := 21) rfl)))))) rfl
theorem zL12_4 : u_lay "ThinkNumberModel" zT12 4 ∈ tb := tb_in (List.mem_append_right _ (List.mem_append_right _ (List.mem_append_right _ (List.mem_append_right _ (List.mem_append_left _ (List.mem_of_getElem? (i := 19) rfl)))))) rfl
theorem zL12_3 : u_lay "ThinkNumberModel" zT12 3 ∈ tb := tb_in (List.mem_append_right _ (List.mem_append_right _ (List.mem_append_right _ (List.mem_append_right _ (List.mem_append_left _ (List.mem_of_getElem? (i := 17) rfl)))))) rfl
theorem zL12_2 : u_lay "ThinkNumberModel" zT12 2 ∈ tb := tb_in (List.mem_append_right _ (List.mem_append_right _ (List.mem_append_right _ (List.mem_append_right _ (List.mem_append_left _ (List.mem_of_getElem? (i := 15) rfl)))))) rfl
theorem zL12_1 : u_lay "ThinkNumberModel" zT12 1 ∈ tb := tb_in (List.mem_append_right _ (List.mem_append_right _ (List.mem_append_right _ (List.mem_append_right _ (List.mem_append_left _ (List.mem_of_getElem? (i := 13) rfl)))))) rfl
theorem zL12_0 : u_lay "ThinkNumberModel" zT12 0 ∈ tb := tb_in (List.mem_append_right _ (List.mem_append_right _ (List.mem_append_right _ (List.mem_append_right _ (List.mem_append_left _ (List.mem_of_getElem? (i := 11) rfl)))))) rfl
theorem zL12 : ∀ w ∈ u_ws "ThinkNumberModel" zT12 26, w ∈ tb := List.forall_mem_cons.mpr ⟨zL12_0, List.forall_mem_cons.mpr ⟨zL12_1, List.forall_mem_cons.mpr ⟨zL12_2, List.forall_mem_cons.mpr ⟨zL12_3, List.forall_mem_cons.mpr ⟨zL12_4, List.forall_mem_cons.mpr ⟨zL12_5, List.forall_mem_cons.mpr ⟨zL12_6, List.forall_mem_cons.mpr ⟨zL12_7, List.forall_mem_cons.mpr ⟨zL12_8, List.forall_mem_cons.mpr ⟨zL12_9, List.forall_mem_cons.mpr ⟨zL12_10, List.forall_mem_cons.mpr ⟨zL12_11, List.forall_mem_cons.mpr ⟨zL12_12, List.forall_mem_cons.mpr ⟨zL12_13, List.forall_mem_cons.mpr ⟨zL12_14, List.forall_mem_cons.mpr ⟨zL12_15, List.forall_mem_cons.mpr ⟨zL12_16, List.forall_mem_cons.mpr ⟨zL12_17, List.forall_mem_cons.mpr ⟨zL12_18, List.forall_mem_cons.mpr ⟨zL12_19, List.forall_mem_cons.mpr ⟨zL12_20, List.forall_mem_cons.mpr ⟨zL12_21, List.forall_mem_cons.mpr ⟨zL12_22, List.forall_mem_cons.mpr ⟨zL12_23, List.forall_mem_cons.mpr ⟨zL12_24, List.forall_mem_cons.mpr ⟨zL12_25, fun _ h => absurd h List.not_mem_nil⟩⟩⟩⟩⟩⟩⟩⟩⟩⟩⟩⟩⟩⟩⟩⟩⟩⟩⟩⟩⟩⟩⟩⟩⟩⟩
abbrev ZMem : Type := (Nat → Nat → Nat → Int32) × (Nat → Nat → Nat → Int64)
abbrev ZG : Type := va_G × (Nat → Nat → Nat) × (Nat → ClassId)
def zcel (g : ZG) (a : Nat → Int32) (b : Nat → Int64) (k i : Nat) : va_E := match k with
  | 0 => .inr (0, [.ref (g.2.1 1 0), .ref (g.2.1 2 0), .ref (g.2.1 21 0), .ref (g.2.1 5 0), .ref (g.2.1 5 1), .ref (g.2.1 7 0), .ref (g.2.1 7 1), .ref (g.2.1 26 2), .ref (g.2.1 8 0), .ref (g.2.1 9 0), .ref (g.2.1 10 0), .ref (g.2.1 11 0)])
  | 1 => .inr (1, [.ref (g.2.1 20 0), .int (a 1)])
  | 2 => .inr (2, [.ref (g.2.1 1 0), .int (a 1), .int (a 2), .int (a 3), .int (a 4), .int (a 5), .int (a 6)])
  | 3 => .inr (3, [.ref (g.2.1 4 i), .ref (g.2.1 24 i), .ref (g.2.1 25 i)])
  | 4 => .inr (4, [.ref (g.2.1 22 i), .ref (g.2.1 23 i), .int (a 2)])
  | 5 => .inr (5, [.int (a 0), .ref (g.2.1 26 i), .ref (g.2.1 6 (3 * i)), .ref (g.2.1 6 (3 * i + 1)), .ref (g.2.1 4 (i + 4)), .ref (g.2.1 27 i), .int (a 6), .int (a 7), .ref (g.2.1 6 (3 * i + 2))])
  | 6 => .inr (6, [.ref (g.2.1 28 i), .ref (g.2.1 29 i), .int (a 2)])
  | 7 => .inr (7, [.long (b 0), .long (b 1)])
  | 8 => .inr (8, [.ref (g.2.1 30 0), .int (a 1), .int (a 2), .int (a 3), .int (a 4)])
  | 9 => .inr (9, [.ref (g.2.1 31 0), .long (b 1)])
  | 10 => .inr (10, [.ref (g.2.1 32 0), .ref (g.2.1 33 0), .ref (g.2.1 34 0), .ref (g.2.1 35 0), .ref (g.2.1 36 0), .int (a 5)])
  | 11 => .inr (11, [.ref (g.2.1 37 0), .ref (g.2.1 26 3), .ref (g.2.1 7 2), .ref (g.2.1 39 0), .int (a 4), .int (a 5), .int (a 6)])
  | 12 => .inr (12, [.ref (g.2.1 40 0), .ref (g.2.1 40 1), .ref (g.2.1 41 0), .ref (g.2.1 41 1), .ref (g.2.1 42 0), .ref (g.2.1 43 0), .int (a 6), .int (a 7), .int (a 8), .int (a 9), .int (a 10), .int (a 11), .int (a 12), .int (a 13), .long (b 14), .long (b 15), .long (b 16), .ref (g.2.1 44 0), .ref (g.2.1 45 0), .ref (g.2.1 46 0), .ref (g.2.1 47 0), .ref (g.2.1 48 0), .ref (g.2.1 49 0), .ref (g.2.1 50 0), .ref (g.2.1 51 0), .ref (g.2.1 52 0)])
  | 20 => .inl (g.2.2 2, 300, .inl a)
  | 21 => .inl (g.2.2 4, 4, .inr (.inr (.inr (.inr (fun j => some (g.2.1 3 j))))))
  | 22 => .inl (g.2.2 0, if i < 4 then 24 else 6, .inl a)
  | 23 => .inl (g.2.2 0, if i < 4 then 24 else 6, .inl a)
  | 24 => .inl (g.2.2 0, 4, .inl a)
  | 25 => .inl (g.2.2 0, 4, .inl a)
  | 26 => .inl (g.2.2 0, 4, .inl a)
  | 27 => .inl (g.2.2 0, 6, .inl a)
  | 28 => .inl (g.2.2 1, if i % 3 = 0 then 24 else if i % 3 = 1 then 6 else 25, .inr (.inl b))
  | 29 => .inl (g.2.2 1, if i % 3 = 0 then 24 else if i % 3 = 1 then 6 else 25, .inr (.inl b))
  | 30 => .inl (g.2.2 1, 157, .inr (.inl b))
  | 31 => .inl (g.2.2 1, 5, .inr (.inl b))
  | 32 => .inl (g.2.2 1, 500, .inr (.inl b))
  | 33 => .inl (g.2.2 1, 500, .inr (.inl b))
  | 34 => .inl (g.2.2 0, 500, .inl a)
  | 35 => .inl (g.2.2 0, 500, .inl a)
  | 36 => .inl (g.2.2 0, 1024, .inl a)
  | 37 => .inl (g.2.2 5, 6, .inr (.inr (.inr (.inr (fun j => some (g.2.1 38 j))))))
  | 38 => .inl (g.2.2 1, 100, .inr (.inl b))
  | 39 => .inl (g.2.2 0, 5, .inl a)
  | 40 => .inl (g.2.2 0, 30, .inl a)
  | 41 => .inl (g.2.2 1, 122, .inr (.inl b))
  | 42 => .inl (g.2.2 0, 244, .inl a)
  | 43 => .inl (g.2.2 0, 300, .inl a)
  | 44 => .inl (g.2.2 0, 4, .inl a)
  | 45 => .inl (g.2.2 1, 6, .inr (.inl b))
  | 46 => .inl (g.2.2 3, 10000, .inl a)
  | 47 => .inl (g.2.2 1, 12000, .inr (.inl b))
  | 48 => .inl (g.2.2 1, 12000, .inr (.inl b))
  | 49 => .inl (g.2.2 0, 500, .inl a)
  | 50 => .inl (g.2.2 0, 1024, .inl a)
  | 51 => .inl (g.2.2 0, 5, .inl a)
  | 52 => .inl (g.2.2 0, 1536, .inl a)
  | _ => .inr (99, [])
def zlen (k i : Nat) : Nat := match k with
  | 20 => 300
  | 21 => 4
  | 22 => if i < 4 then 24 else 6
  | 23 => if i < 4 then 24 else 6
  | 24 => 4
  | 25 => 4
  | 26 => 4
  | 27 => 6
  | 28 => if i % 3 = 0 then 24 else if i % 3 = 1 then 6 else 25
  | 29 => if i % 3 = 0 then 24 else if i % 3 = 1 then 6 else 25
  | 30 => 157
  | 31 => 5
  | 32 => 500
  | 33 => 500
  | 34 => 500
  | 35 => 500
  | 36 => 1024
  | 37 => 6
  | 38 => 100
  | 39 => 5
  | 40 => 30
  | 41 => 122
  | 42 => 244
  | 43 => 300
  | 44 => 4
  | 45 => 6
  | 46 => 10000
  | 47 => 12000
  | 48 => 12000
  | 49 => 500
  | 50 => 1024
  | 51 => 5
  | 52 => 1536
  | _ => 0
def zids : List (Nat × Nat) := [(0, 0), (1, 0), (2, 0), (3, 0), (3, 1), (3, 2), (3, 3), (4, 0), (4, 1), (4, 2), (4, 3), (4, 4), (4, 5), (5, 0), (5, 1), (6, 0), (6, 1), (6, 2), (6, 3), (6, 4), (6, 5), (7, 0), (7, 1), (7, 2), (8, 0), (9, 0), (10, 0), (11, 0), (12, 0), (20, 0), (21, 0), (22, 0), (22, 1), (22, 2), (22, 3), (22, 4), (22, 5), (23, 0), (23, 1), (23, 2), (23, 3), (23, 4), (23, 5), (24, 0), (24, 1), (24, 2), (24, 3), (25, 0), (25, 1), (25, 2), (25, 3), (26, 0), (26, 1), (26, 2), (26, 3), (27, 0), (27, 1), (28, 0), (28, 1), (28, 2), (28, 3), (28, 4), (28, 5), (29, 0), (29, 1), (29, 2), (29, 3), (29, 4), (29, 5), (30, 0), (31, 0), (32, 0), (33, 0), (34, 0), (35, 0), (36, 0), (37, 0), (38, 0), (38, 1), (38, 2), (38, 3), (38, 4), (38, 5), (39, 0), (40, 0), (40, 1), (41, 0), (41, 1), (42, 0), (43, 0), (44, 0), (45, 0), (46, 0), (47, 0), (48, 0), (49, 0), (50, 0), (51, 0), (52, 0)]
def zni (k : Nat) : Nat := match k with
  | 0 => 1
  | 1 => 1
  | 2 => 1
  | 3 => 4
  | 4 => 6
  | 5 => 2
  | 6 => 6
  | 7 => 3
  | 8 => 1
  | 9 => 1
  | 10 => 1
  | 11 => 1
  | 12 => 1
  | 20 => 1
  | 21 => 1
  | 22 => 6
  | 23 => 6
  | 24 => 4
  | 25 => 4
  | 26 => 4
  | 27 => 2
  | 28 => 6
  | 29 => 6
  | 30 => 1
  | 31 => 1
  | 32 => 1
  | 33 => 1
  | 34 => 1
  | 35 => 1
  | 36 => 1
  | 37 => 1
  | 38 => 6
  | 39 => 1
  | 40 => 2
  | 41 => 2
  | 42 => 1
  | 43 => 1
  | 44 => 1
  | 45 => 1
  | 46 => 1
  | 47 => 1
  | 48 => 1
  | 49 => 1
  | 50 => 1
  | 51 => 1
  | 52 => 1
  | _ => 0
theorem zids_nd : zids.Nodup := by decide +kernel
theorem zids_of : ∀ k, k < 60 → ∀ i, i < zni k → (k, i) ∈ zids := by decide +kernel
