/-! names, fields, words: out of the printed names -/
def RX0 : String := "DriftPlans$Kept"
def TX0 : u_T := fun k => match k with
  | 0 => ("DriftPlans$Kept", "shape", "I", true)
  | 1 => ("DriftPlans$Kept", "order", "I", true)
  | 2 => ("DriftPlans$Kept", "guesses", "[I", true)
  | 3 => ("DriftPlans$Kept", "runs", "J", true)
  | _ => ("DriftPlans$Kept", "pinned", "Z", true)
def tyX0 : Nat → FieldType := fun k => match k with
  | 0 => .int
  | 1 => .int
  | 2 => .array .int
  | 3 => .long
  | _ => .boolean
abbrev wsX00 : List Cond := u_ws RX0 TX0 5
theorem nmX0 : ∀ a, a < 5 → ∀ b, b < 5 → a ≠ b → (TX0 a).2.1 ≠ (TX0 b).2.1 := by decide +kernel
theorem tyX0_ok : ∀ k, k < 5 → parseFieldDescriptor (TX0 k).2.2.1 = some (tyX0 k) := by decide +kernel
abbrev cX0_init : ByteArray := prog_2_method_1_code
def yX0_init : MethodName := ⟨RX0, "<init>", "(II[IJZ)V"⟩
def RX1 : String := "DriftPlans$Pad"
def TX1 : u_T := fun k => match k with
  | 0 => ("DriftPlans$Pad", "signs", "[C", true)
  | _ => ("DriftPlans$Pad", "length", "I", false)
def tyX1 : Nat → FieldType := fun k => match k with
  | 0 => .array .char
  | _ => .int
abbrev wsX10 : List Cond := u_ws RX1 TX1 2
theorem nmX1 : ∀ a, a < 2 → ∀ b, b < 2 → a ≠ b → (TX1 a).2.1 ≠ (TX1 b).2.1 := by decide +kernel
theorem tyX1_ok : ∀ k, k < 2 → parseFieldDescriptor (TX1 k).2.2.1 = some (tyX1 k) := by decide +kernel
abbrev cX1_init : ByteArray := prog_3_method_1_code
def yX1_init : MethodName := ⟨RX1, "<init>", "()V"⟩
def RX2 : String := "DriftPlans$Reader"
def TX2 : u_T := fun k => match k with
  | _ => ("", "", "", false)
def tyX2 : Nat → FieldType := fun k => match k with
  | _ => .int
abbrev wsX20 : List Cond := u_ws RX2 TX2 0
theorem nmX2 : ∀ a, a < 0 → ∀ b, b < 0 → a ≠ b → (TX2 a).2.1 ≠ (TX2 b).2.1 := by decide +kernel
theorem tyX2_ok : ∀ k, k < 0 → parseFieldDescriptor (TX2 k).2.2.1 = some (tyX2 k) := by decide +kernel
def RX3 : String := "DriftPlans$Reckoner"
def TX3 : u_T := fun k => match k with
  | 0 => ("DriftPlans$Reckoner", "products", "[J", true)
  | 1 => ("DriftPlans$Reckoner", "leastCosts", "[J", true)
  | _ => ("DriftPlans$Reckoner", "bestOrders", "[I", true)
def tyX3 : Nat → FieldType := fun k => match k with
  | 0 => .array .long
  | 1 => .array .long
  | _ => .array .int
abbrev wsX30 : List Cond := u_ws RX3 TX3 3
theorem nmX3 : ∀ a, a < 3 → ∀ b, b < 3 → a ≠ b → (TX3 a).2.1 ≠ (TX3 b).2.1 := by decide +kernel
theorem tyX3_ok : ∀ k, k < 3 → parseFieldDescriptor (TX3 k).2.2.1 = some (tyX3 k) := by decide +kernel
abbrev cX3_init : ByteArray := prog_5_method_1_code
def yX3_init : MethodName := ⟨RX3, "<init>", "()V"⟩
abbrev cX3_reckon : ByteArray := prog_5_method_2_code
def yX3_reckon : MethodName := ⟨RX3, "reckon", "([I[[I)V"⟩
abbrev cX3_planSet : ByteArray := prog_5_method_3_code
def yX3_planSet : MethodName := ⟨RX3, "planSet", "(I)V"⟩
abbrev cX3_sizeOf : ByteArray := prog_5_method_4_code
def yX3_sizeOf : MethodName := ⟨RX3, "sizeOf", "(I)J"⟩
abbrev cX3_leastBySets : ByteArray := prog_5_method_5_code
def yX3_leastBySets : MethodName := ⟨RX3, "leastBySets", "(I)J"⟩
abbrev cX3_bestOrder : ByteArray := prog_5_method_6_code
def yX3_bestOrder : MethodName := ⟨RX3, "bestOrder", "(I)I"⟩
abbrev cX3_leastByOrders : ByteArray := prog_5_method_7_code
def yX3_leastByOrders : MethodName := ⟨RX3, "leastByOrders", "(I)J"⟩
abbrev cX3_leastOnward : ByteArray := prog_5_method_8_code
def yX3_leastOnward : MethodName := ⟨RX3, "leastOnward", "(LDriftPlans$Reckoner;III)J"⟩
abbrev cX3_costOf : ByteArray := prog_5_method_9_code
def yX3_costOf : MethodName := ⟨RX3, "costOf", "(II)J"⟩
abbrev cX3_excessOf : ByteArray := prog_5_method_10_code
def yX3_excessOf : MethodName := ⟨RX3, "excessOf", "(II)J"⟩
def RX4 : String := "DriftPlans$State"
def TX4 : u_T := fun k => match k with
  | 0 => ("DriftPlans$State", "rows", "[I", true)
  | 1 => ("DriftPlans$State", "guesses", "[I", true)
  | 2 => ("DriftPlans$State", "parts", "[[I", true)
  | 3 => ("DriftPlans$State", "kept", "Ljava/util/ArrayList;", true)
  | 4 => ("DriftPlans$State", "driftLimit", "I", false)
  | 5 => ("DriftPlans$State", "hits", "J", false)
  | 6 => ("DriftPlans$State", "misses", "J", false)
  | 7 => ("DriftPlans$State", "runCosts", "J", false)
  | 8 => ("DriftPlans$State", "makingCosts", "J", false)
  | 9 => ("DriftPlans$State", "driftedOut", "J", false)
  | 10 => ("DriftPlans$State", "pushedOut", "J", false)
  | 11 => ("DriftPlans$State", "joinedOut", "J", false)
  | 12 => ("DriftPlans$State", "forgotten", "J", false)
  | _ => ("DriftPlans$State", "usedOnly", "J", false)
def tyX4 : Nat → FieldType := fun k => match k with
  | 0 => .array .int
  | 1 => .array .int
  | 2 => .array (.array .int)
  | 3 => .object "java/util/ArrayList"
  | 4 => .int
  | 5 => .long
  | 6 => .long
  | 7 => .long
  | 8 => .long
  | 9 => .long
  | 10 => .long
  | 11 => .long
  | 12 => .long
  | _ => .long
abbrev wsX40 : List Cond := u_ws RX4 TX4 14
theorem nmX4 : ∀ a, a < 14 → ∀ b, b < 14 → a ≠ b → (TX4 a).2.1 ≠ (TX4 b).2.1 := by decide +kernel
theorem tyX4_ok : ∀ k, k < 14 → parseFieldDescriptor (TX4 k).2.2.1 = some (tyX4 k) := by decide +kernel
abbrev cX4_init : ByteArray := prog_6_method_1_code
def yX4_init : MethodName := ⟨RX4, "<init>", "()V"⟩
abbrev cX4_init_ : ByteArray := prog_6_method_2_code
def yX4_init_ : MethodName := ⟨RX4, "<init>", "(LDriftPlans$State;)V"⟩
abbrev cX4_placeOf : ByteArray := prog_6_method_3_code
def yX4_placeOf : MethodName := ⟨RX4, "placeOf", "(I)I"⟩
abbrev cX4_keptWith : ByteArray := prog_6_method_4_code
def yX4_keptWith : MethodName := ⟨RX4, "keptWith", "(I)I"⟩
abbrev cX4_countPinned : ByteArray := prog_6_method_5_code
def yX4_countPinned : MethodName := ⟨RX4, "countPinned", "()I"⟩
abbrev cX4_setPinned : ByteArray := prog_6_method_6_code
def yX4_setPinned : MethodName := ⟨RX4, "setPinned", "(IZ)V"⟩
abbrev cX4_useAgain : ByteArray := prog_6_method_7_code
def yX4_useAgain : MethodName := ⟨RX4, "useAgain", "(I)V"⟩
abbrev cX4_keepNew : ByteArray := prog_6_method_8_code
def yX4_keepNew : MethodName := ⟨RX4, "keepNew", "(IIJ)V"⟩
abbrev cX4_pushOneOut : ByteArray := prog_6_method_9_code
def yX4_pushOneOut : MethodName := ⟨RX4, "pushOneOut", "()Z"⟩
abbrev cX4_countTables : ByteArray := prog_6_method_10_code
def yX4_countTables : MethodName := ⟨RX4, "countTables", "(I)I"⟩
abbrev cX4_throwOutDrifted : ByteArray := prog_6_method_11_code
def yX4_throwOutDrifted : MethodName := ⟨RX4, "throwOutDrifted", "()I"⟩
abbrev cX4_throwOutJoins : ByteArray := prog_6_method_12_code
def yX4_throwOutJoins : MethodName := ⟨RX4, "throwOutJoins", "(I)I"⟩
abbrev cX4_driftsOnceCounted : ByteArray := prog_6_method_13_code
def yX4_driftsOnceCounted : MethodName := ⟨RX4, "driftsOnceCounted", "(LDriftPlans$Kept;I)Z"⟩
def RX5 : String := "DriftPlans"
def TX5 : u_T := fun k => match k with
  | 0 => ("DriftPlans", "now", "LDriftPlans$State;", false)
  | 1 => ("DriftPlans", "snapshot", "LDriftPlans$State;", false)
  | 2 => ("DriftPlans", "history", "Ljava/util/ArrayList;", true)
  | 3 => ("DriftPlans", "reckoner", "LDriftPlans$Reckoner;", true)
  | 4 => ("DriftPlans", "pad", "LDriftPlans$Pad;", true)
  | 5 => ("DriftPlans", "stopDeed", "I", false)
  | _ => ("DriftPlans", "stopPlace", "I", false)
def tyX5 : Nat → FieldType := fun k => match k with
  | 0 => .object "DriftPlans$State"
  | 1 => .object "DriftPlans$State"
  | 2 => .object "java/util/ArrayList"
  | 3 => .object "DriftPlans$Reckoner"
  | 4 => .object "DriftPlans$Pad"
  | 5 => .int
  | _ => .int
abbrev wsX50 : List Cond := u_ws RX5 TX5 7
theorem nmX5 : ∀ a, a < 7 → ∀ b, b < 7 → a ≠ b → (TX5 a).2.1 ≠ (TX5 b).2.1 := by decide +kernel
theorem tyX5_ok : ∀ k, k < 7 → parseFieldDescriptor (TX5 k).2.2.1 = some (tyX5 k) := by decide +kernel
abbrev cX5_init : ByteArray := prog_1_method_1_code
def yX5_init : MethodName := ⟨RX5, "<init>", "()V"⟩
abbrev cX5_rows : ByteArray := prog_1_method_2_code
def yX5_rows : MethodName := ⟨RX5, "rows", "(II)I"⟩
abbrev cX5_part : ByteArray := prog_1_method_3_code
def yX5_part : MethodName := ⟨RX5, "part", "(III)I"⟩
abbrev cX5_count : ByteArray := prog_1_method_4_code
def yX5_count : MethodName := ⟨RX5, "count", "(I)I"⟩
abbrev cX5_run : ByteArray := prog_1_method_5_code
def yX5_run : MethodName := ⟨RX5, "run", "(I)I"⟩
abbrev cX5_pin : ByteArray := prog_1_method_6_code
def yX5_pin : MethodName := ⟨RX5, "pin", "(I)I"⟩
abbrev cX5_forget : ByteArray := prog_1_method_7_code
def yX5_forget : MethodName := ⟨RX5, "forget", "(I)I"⟩
abbrev cX5_drift : ByteArray := prog_1_method_8_code
def yX5_drift : MethodName := ⟨RX5, "drift", "(I)I"⟩
abbrev cX5_table : ByteArray := prog_1_method_14_code
def yX5_table : MethodName := ⟨RX5, "table", "(II)I"⟩
abbrev cX5_partOf : ByteArray := prog_1_method_15_code
def yX5_partOf : MethodName := ⟨RX5, "partOf", "(II)I"⟩
abbrev cX5_size : ByteArray := prog_1_method_16_code
def yX5_size : MethodName := ⟨RX5, "size", "(IZ)I"⟩
abbrev cX5_least : ByteArray := prog_1_method_17_code
def yX5_least : MethodName := ⟨RX5, "least", "(IZI)I"⟩
abbrev cX5_best : ByteArray := prog_1_method_18_code
def yX5_best : MethodName := ⟨RX5, "best", "(IZI)I"⟩
abbrev cX5_plan : ByteArray := prog_1_method_19_code
def yX5_plan : MethodName := ⟨RX5, "plan", "(II)I"⟩
abbrev cX5_counted : ByteArray := prog_1_method_20_code
def yX5_counted : MethodName := ⟨RX5, "counted", "(I)I"⟩
abbrev cX5_fitness : ByteArray := prog_1_method_21_code
def yX5_fitness : MethodName := ⟨RX5, "fitness", "()D"⟩
abbrev cX5_remember : ByteArray := prog_1_method_28_code
def yX5_remember : MethodName := ⟨RX5, "remember", "()V"⟩
abbrev cX5_reckoned : ByteArray := prog_1_method_29_code
def yX5_reckoned : MethodName := ⟨RX5, "reckoned", "(Z)LDriftPlans$Reckoner;"⟩
abbrev cX5_runQuery : ByteArray := prog_1_method_30_code
def yX5_runQuery : MethodName := ⟨RX5, "runQuery", "(I)J"⟩
abbrev cX5_told : ByteArray := prog_1_method_32_code
def yX5_told : MethodName := ⟨RX5, "told", "(J)I"⟩
abbrev cX5_isTable : ByteArray := prog_1_method_33_code
def yX5_isTable : MethodName := ⟨RX5, "isTable", "(I)Z"⟩
abbrev cX5_isJoin : ByteArray := prog_1_method_34_code
def yX5_isJoin : MethodName := ⟨RX5, "isJoin", "(II)Z"⟩
abbrev cX5_isSet : ByteArray := prog_1_method_35_code
def yX5_isSet : MethodName := ⟨RX5, "isSet", "(I)Z"⟩
abbrev cX5_bit : ByteArray := prog_1_method_36_code
def yX5_bit : MethodName := ⟨RX5, "bit", "(I)I"⟩
abbrev cX5_has : ByteArray := prog_1_method_37_code
def yX5_has : MethodName := ⟨RX5, "has", "(II)Z"⟩
abbrev cX5_hasAll : ByteArray := prog_1_method_38_code
def yX5_hasAll : MethodName := ⟨RX5, "hasAll", "(II)Z"⟩
abbrev cX5_makingCost : ByteArray := prog_1_method_39_code
def yX5_makingCost : MethodName := ⟨RX5, "makingCost", "(I)J"⟩
abbrev cX5_longerOrder : ByteArray := prog_1_method_40_code
def yX5_longerOrder : MethodName := ⟨RX5, "longerOrder", "(II)I"⟩
abbrev cX5_tableAt : ByteArray := prog_1_method_41_code
def yX5_tableAt : MethodName := ⟨RX5, "tableAt", "(III)I"⟩
abbrev cX5_driftDown : ByteArray := prog_1_method_42_code
def yX5_driftDown : MethodName := ⟨RX5, "driftDown", "(II)I"⟩
def RX6 : String := "DriftPlansModel"
def TX6 : u_T := fun k => match k with
  | _ => ("", "", "", false)
def tyX6 : Nat → FieldType := fun k => match k with
  | _ => .int
abbrev wsX60 : List Cond := u_ws RX6 TX6 0
theorem nmX6 : ∀ a, a < 0 → ∀ b, b < 0 → a ≠ b → (TX6 a).2.1 ≠ (TX6 b).2.1 := by decide +kernel
theorem tyX6_ok : ∀ k, k < 0 → parseFieldDescriptor (TX6 k).2.2.1 = some (tyX6 k) := by decide +kernel
def RJx145de : String := "java/io/Serializable"
def TJx145de : u_T := fun k => match k with
  | _ => ("", "", "", false)
def tyJx145de : Nat → FieldType := fun k => match k with
  | _ => .int
abbrev wsJx145de0 : List Cond := u_ws RJx145de TJx145de 0
theorem nmJx145de : ∀ a, a < 0 → ∀ b, b < 0 → a ≠ b → (TJx145de a).2.1 ≠ (TJx145de b).2.1 := by decide +kernel
theorem tyJx145de_ok : ∀ k, k < 0 → parseFieldDescriptor (TJx145de k).2.2.1 = some (tyJx145de k) := by decide +kernel
def RJx8e188 : String := "java/lang/Cloneable"
def TJx8e188 : u_T := fun k => match k with
  | _ => ("", "", "", false)
def tyJx8e188 : Nat → FieldType := fun k => match k with
  | _ => .int
abbrev wsJx8e1880 : List Cond := u_ws RJx8e188 TJx8e188 0
theorem nmJx8e188 : ∀ a, a < 0 → ∀ b, b < 0 → a ≠ b → (TJx8e188 a).2.1 ≠ (TJx8e188 b).2.1 := by decide +kernel
theorem tyJx8e188_ok : ∀ k, k < 0 → parseFieldDescriptor (TJx8e188 k).2.2.1 = some (tyJx8e188 k) := by decide +kernel
def RJ6 : String := "java/lang/Integer"
def TJ6 : u_T := fun k => match k with
  | _ => ("", "", "", false)
def tyJ6 : Nat → FieldType := fun k => match k with
  | _ => .int
abbrev wsJ60 : List Cond := u_ws RJ6 TJ6 0
theorem nmJ6 : ∀ a, a < 0 → ∀ b, b < 0 → a ≠ b → (TJ6 a).2.1 ≠ (TJ6 b).2.1 := by decide +kernel
theorem tyJ6_ok : ∀ k, k < 0 → parseFieldDescriptor (TJ6 k).2.2.1 = some (tyJ6 k) := by decide +kernel
abbrev cJ6_bitCount_0f7a4 : ByteArray := prog_11_method_49_code
def yJ6_bitCount_0f7a4 : MethodName := ⟨RJ6, "bitCount", "(I)I"⟩
def RJxab1ab : String := "java/lang/Iterable"
def TJxab1ab : u_T := fun k => match k with
  | _ => ("", "", "", false)
def tyJxab1ab : Nat → FieldType := fun k => match k with
  | _ => .int
abbrev wsJxab1ab0 : List Cond := u_ws RJxab1ab TJxab1ab 0
theorem nmJxab1ab : ∀ a, a < 0 → ∀ b, b < 0 → a ≠ b → (TJxab1ab a).2.1 ≠ (TJxab1ab b).2.1 := by decide +kernel
theorem tyJxab1ab_ok : ∀ k, k < 0 → parseFieldDescriptor (TJxab1ab k).2.2.1 = some (tyJxab1ab k) := by decide +kernel
def RJ9 : String := "java/lang/Math"
def TJ9 : u_T := fun k => match k with
  | _ => ("", "", "", false)
def tyJ9 : Nat → FieldType := fun k => match k with
  | _ => .int
abbrev wsJ90 : List Cond := u_ws RJ9 TJ9 0
theorem nmJ9 : ∀ a, a < 0 → ∀ b, b < 0 → a ≠ b → (TJ9 a).2.1 ≠ (TJ9 b).2.1 := by decide +kernel
theorem tyJ9_ok : ∀ k, k < 0 → parseFieldDescriptor (TJ9 k).2.2.1 = some (tyJ9 k) := by decide +kernel
abbrev cJ9_max_7cf53 : ByteArray := prog_13_method_65_code
def yJ9_max_7cf53 : MethodName := ⟨RJ9, "max", "(II)I"⟩
abbrev cJ9_max_f86c9 : ByteArray := prog_13_method_66_code
def yJ9_max_f86c9 : MethodName := ⟨RJ9, "max", "(JJ)J"⟩
abbrev cJ9_min_7cf53 : ByteArray := prog_13_method_69_code
def yJ9_min_7cf53 : MethodName := ⟨RJ9, "min", "(II)I"⟩
abbrev cJ9_min_f86c9 : ByteArray := prog_13_method_70_code
def yJ9_min_f86c9 : MethodName := ⟨RJ9, "min", "(JJ)J"⟩
def RJ10 : String := "java/lang/System"
def TJ10 : u_T := fun k => match k with
  | _ => ("", "", "", false)
def tyJ10 : Nat → FieldType := fun k => match k with
  | _ => .int
abbrev wsJ100 : List Cond := u_ws RJ10 TJ10 0
theorem nmJ10 : ∀ a, a < 0 → ∀ b, b < 0 → a ≠ b → (TJ10 a).2.1 ≠ (TJ10 b).2.1 := by decide +kernel
theorem tyJ10_ok : ∀ k, k < 0 → parseFieldDescriptor (TJ10 k).2.2.1 = some (tyJ10 k) := by decide +kernel
def RJxa1e45 : String := "java/util/AbstractCollection"
def TJxa1e45 : u_T := fun k => match k with
  | _ => ("", "", "", false)
def tyJxa1e45 : Nat → FieldType := fun k => match k with
  | _ => .int
abbrev wsJxa1e450 : List Cond := u_ws RJxa1e45 TJxa1e45 0
theorem nmJxa1e45 : ∀ a, a < 0 → ∀ b, b < 0 → a ≠ b → (TJxa1e45 a).2.1 ≠ (TJxa1e45 b).2.1 := by decide +kernel
theorem tyJxa1e45_ok : ∀ k, k < 0 → parseFieldDescriptor (TJxa1e45 k).2.2.1 = some (tyJxa1e45 k) := by decide +kernel
abbrev cJxa1e45_init_da8c8 : ByteArray := prog_15_method_1_code
def yJxa1e45_init_da8c8 : MethodName := ⟨RJxa1e45, "<init>", "()V"⟩
def RJxc12de : String := "java/util/AbstractList"
def TJxc12de : u_T := fun k => match k with
  | _ => ("", "", "", false)
def tyJxc12de : Nat → FieldType := fun k => match k with
  | _ => .int
abbrev wsJxc12de0 : List Cond := u_ws RJxc12de TJxc12de 0
theorem nmJxc12de : ∀ a, a < 0 → ∀ b, b < 0 → a ≠ b → (TJxc12de a).2.1 ≠ (TJxc12de b).2.1 := by decide +kernel
theorem tyJxc12de_ok : ∀ k, k < 0 → parseFieldDescriptor (TJxc12de k).2.2.1 = some (tyJxc12de k) := by decide +kernel
abbrev cJxc12de_init_da8c8 : ByteArray := prog_16_method_1_code
def yJxc12de_init_da8c8 : MethodName := ⟨RJxc12de, "<init>", "()V"⟩
def RJx4a65c : String := "java/util/ArrayList"
def TJx4a65c : u_T := fun k => match k with
  | 0 => ("java/util/AbstractList", "modCount", "I", false)
  | 1 => ("java/util/ArrayList", "elementData", "[Ljava/lang/Object;", false)
  | _ => ("java/util/ArrayList", "size", "I", false)
def tyJx4a65c : Nat → FieldType := fun k => match k with
  | 0 => .int
  | 1 => .array (.object "java/lang/Object")
  | _ => .int
abbrev wsJx4a65c0 : List Cond := u_ws RJx4a65c TJx4a65c 3
theorem nmJx4a65c : ∀ a, a < 3 → ∀ b, b < 3 → a ≠ b → (TJx4a65c a).2.1 ≠ (TJx4a65c b).2.1 := by decide +kernel
theorem tyJx4a65c_ok : ∀ k, k < 3 → parseFieldDescriptor (TJx4a65c k).2.2.1 = some (tyJx4a65c k) := by decide +kernel
abbrev cJx4a65c_init_da8c8 : ByteArray := prog_17_method_2_code
def yJx4a65c_init_da8c8 : MethodName := ⟨RJx4a65c, "<init>", "()V"⟩
abbrev cJx4a65c_grow_92f84 : ByteArray := prog_17_method_6_code
def yJx4a65c_grow_92f84 : MethodName := ⟨RJx4a65c, "grow", "(I)[Ljava/lang/Object;"⟩
abbrev cJx4a65c_grow_d5877 : ByteArray := prog_17_method_7_code
def yJx4a65c_grow_d5877 : MethodName := ⟨RJx4a65c, "grow", "()[Ljava/lang/Object;"⟩
abbrev cJx4a65c_size_8abf5 : ByteArray := prog_17_method_8_code
def yJx4a65c_size_8abf5 : MethodName := ⟨RJx4a65c, "size", "()I"⟩
abbrev cJx4a65c_elementData_915e3 : ByteArray := prog_17_method_18_code
def yJx4a65c_elementData_915e3 : MethodName := ⟨RJx4a65c, "elementData", "(I)Ljava/lang/Object;"⟩
abbrev cJx4a65c_get_915e3 : ByteArray := prog_17_method_20_code
def yJx4a65c_get_915e3 : MethodName := ⟨RJx4a65c, "get", "(I)Ljava/lang/Object;"⟩
abbrev cJx4a65c_set_bcc79 : ByteArray := prog_17_method_23_code
def yJx4a65c_set_bcc79 : MethodName := ⟨RJx4a65c, "set", "(ILjava/lang/Object;)Ljava/lang/Object;"⟩
abbrev cJx4a65c_add_72be8 : ByteArray := prog_17_method_24_code
def yJx4a65c_add_72be8 : MethodName := ⟨RJx4a65c, "add", "(Ljava/lang/Object;[Ljava/lang/Object;I)V"⟩
abbrev cJx4a65c_add_9ea2d : ByteArray := prog_17_method_25_code
def yJx4a65c_add_9ea2d : MethodName := ⟨RJx4a65c, "add", "(Ljava/lang/Object;)Z"⟩
abbrev cJx4a65c_remove_915e3 : ByteArray := prog_17_method_29_code
def yJx4a65c_remove_915e3 : MethodName := ⟨RJx4a65c, "remove", "(I)Ljava/lang/Object;"⟩
abbrev cJx4a65c_fastRemove_b59b0 : ByteArray := prog_17_method_39_code
def yJx4a65c_fastRemove_b59b0 : MethodName := ⟨RJx4a65c, "fastRemove", "([Ljava/lang/Object;I)V"⟩
def RJ7 : String := "java/util/Arrays"
def TJ7 : u_T := fun k => match k with
  | _ => ("", "", "", false)
def tyJ7 : Nat → FieldType := fun k => match k with
  | _ => .int
abbrev wsJ70 : List Cond := u_ws RJ7 TJ7 0
theorem nmJ7 : ∀ a, a < 0 → ∀ b, b < 0 → a ≠ b → (TJ7 a).2.1 ≠ (TJ7 b).2.1 := by decide +kernel
theorem tyJ7_ok : ∀ k, k < 0 → parseFieldDescriptor (TJ7 k).2.2.1 = some (tyJ7 k) := by decide +kernel
abbrev cJ7_copyOf_1904c : ByteArray := prog_18_method_119_code
def yJ7_copyOf_1904c : MethodName := ⟨RJ7, "copyOf", "([Ljava/lang/Object;I)[Ljava/lang/Object;"⟩
abbrev cJ7_copyOf_6403c : ByteArray := prog_18_method_120_code
def yJ7_copyOf_6403c : MethodName := ⟨RJ7, "copyOf", "([Ljava/lang/Object;ILjava/lang/Class;)[Ljava/lang/Object;"⟩
def RJx5ef63 : String := "java/util/Collection"
def TJx5ef63 : u_T := fun k => match k with
  | _ => ("", "", "", false)
def tyJx5ef63 : Nat → FieldType := fun k => match k with
  | _ => .int
abbrev wsJx5ef630 : List Cond := u_ws RJx5ef63 TJx5ef63 0
theorem nmJx5ef63 : ∀ a, a < 0 → ∀ b, b < 0 → a ≠ b → (TJx5ef63 a).2.1 ≠ (TJx5ef63 b).2.1 := by decide +kernel
theorem tyJx5ef63_ok : ∀ k, k < 0 → parseFieldDescriptor (TJx5ef63 k).2.2.1 = some (tyJx5ef63 k) := by decide +kernel
def RJxbd725 : String := "java/util/List"
def TJxbd725 : u_T := fun k => match k with
  | _ => ("", "", "", false)
def tyJxbd725 : Nat → FieldType := fun k => match k with
  | _ => .int
abbrev wsJxbd7250 : List Cond := u_ws RJxbd725 TJxbd725 0
theorem nmJxbd725 : ∀ a, a < 0 → ∀ b, b < 0 → a ≠ b → (TJxbd725 a).2.1 ≠ (TJxbd725 b).2.1 := by decide +kernel
theorem tyJxbd725_ok : ∀ k, k < 0 → parseFieldDescriptor (TJxbd725 k).2.2.1 = some (tyJxbd725 k) := by decide +kernel
def RJ15 : String := "java/util/Objects"
def TJ15 : u_T := fun k => match k with
  | _ => ("", "", "", false)
def tyJ15 : Nat → FieldType := fun k => match k with
  | _ => .int
abbrev wsJ150 : List Cond := u_ws RJ15 TJ15 0
theorem nmJ15 : ∀ a, a < 0 → ∀ b, b < 0 → a ≠ b → (TJ15 a).2.1 ≠ (TJ15 b).2.1 := by decide +kernel
theorem tyJ15_ok : ∀ k, k < 0 → parseFieldDescriptor (TJ15 k).2.2.1 = some (tyJ15 k) := by decide +kernel
abbrev cJ15_checkIndex_7cf53 : ByteArray := prog_21_method_17_code
def yJ15_checkIndex_7cf53 : MethodName := ⟨RJ15, "checkIndex", "(II)I"⟩
def RJxf0a74 : String := "java/util/RandomAccess"
def TJxf0a74 : u_T := fun k => match k with
  | _ => ("", "", "", false)
def tyJxf0a74 : Nat → FieldType := fun k => match k with
  | _ => .int
abbrev wsJxf0a740 : List Cond := u_ws RJxf0a74 TJxf0a74 0
theorem nmJxf0a74 : ∀ a, a < 0 → ∀ b, b < 0 → a ≠ b → (TJxf0a74 a).2.1 ≠ (TJxf0a74 b).2.1 := by decide +kernel
theorem tyJxf0a74_ok : ∀ k, k < 0 → parseFieldDescriptor (TJxf0a74 k).2.2.1 = some (tyJxf0a74 k) := by decide +kernel
def RJxa66e6 : String := "java/util/SequencedCollection"
def TJxa66e6 : u_T := fun k => match k with
  | _ => ("", "", "", false)
def tyJxa66e6 : Nat → FieldType := fun k => match k with
  | _ => .int
abbrev wsJxa66e60 : List Cond := u_ws RJxa66e6 TJxa66e6 0
theorem nmJxa66e6 : ∀ a, a < 0 → ∀ b, b < 0 → a ≠ b → (TJxa66e6 a).2.1 ≠ (TJxa66e6 b).2.1 := by decide +kernel
theorem tyJxa66e6_ok : ∀ k, k < 0 → parseFieldDescriptor (TJxa66e6 k).2.2.1 = some (tyJxa66e6 k) := by decide +kernel
def RJ8 : String := "jdk/internal/util/ArraysSupport"
def TJ8 : u_T := fun k => match k with
  | _ => ("", "", "", false)
def tyJ8 : Nat → FieldType := fun k => match k with
  | _ => .int
abbrev wsJ80 : List Cond := u_ws RJ8 TJ8 0
theorem nmJ8 : ∀ a, a < 0 → ∀ b, b < 0 → a ≠ b → (TJ8 a).2.1 ≠ (TJ8 b).2.1 := by decide +kernel
theorem tyJ8_ok : ∀ k, k < 0 → parseFieldDescriptor (TJ8 k).2.2.1 = some (tyJ8 k) := by decide +kernel
abbrev cJ8_newLength_cabcc : ByteArray := prog_24_method_27_code
def yJ8_newLength_cabcc : MethodName := ⟨RJ8, "newLength", "(III)I"⟩
abbrev cJ8_hugeLength_7cf53 : ByteArray := prog_24_method_28_code
def yJ8_hugeLength_7cf53 : MethodName := ⟨RJ8, "hugeLength", "(II)I"⟩
def RJ3 : String := "jdk/internal/util/Preconditions"
def TJ3 : u_T := fun k => match k with
  | _ => ("", "", "", false)
def tyJ3 : Nat → FieldType := fun k => match k with
  | _ => .int
abbrev wsJ30 : List Cond := u_ws RJ3 TJ3 0
theorem nmJ3 : ∀ a, a < 0 → ∀ b, b < 0 → a ≠ b → (TJ3 a).2.1 ≠ (TJ3 b).2.1 := by decide +kernel
theorem tyJ3_ok : ∀ k, k < 0 → parseFieldDescriptor (TJ3 k).2.2.1 = some (tyJ3 k) := by decide +kernel
abbrev cJ3_checkIndex_8e157 : ByteArray := prog_25_method_11_code
def yJ3_checkIndex_8e157 : MethodName := ⟨RJ3, "checkIndex", "(IILjava/util/function/BiFunction;)I"⟩
def RL : String := "DriftPlansLaw"
abbrev cL_cell : ByteArray := method_2_code
def yL_cell : MethodName := ⟨RL, "cell", "([II)I"⟩
abbrev cL_size : ByteArray := method_4_code
def yL_size : MethodName := ⟨RL, "size", "([III)J"⟩
abbrev cL_least : ByteArray := method_5_code
def yL_least : MethodName := ⟨RL, "least", "([III[J)J"⟩
abbrev cL_best : ByteArray := method_6_code
def yL_best : MethodName := ⟨RL, "best", "([III[J[I)V"⟩
abbrev cL_rest : ByteArray := method_7_code
def yL_rest : MethodName := ⟨RL, "rest", "([IIII[J)J"⟩
abbrev cL_cost : ByteArray := method_8_code
def yL_cost : MethodName := ⟨RL, "cost", "([I[III)J"⟩
abbrev cL_drifted : ByteArray := method_9_code
def yL_drifted : MethodName := ⟨RL, "drifted", "([I[II)Z"⟩
abbrev cL_out : ByteArray := method_10_code
def yL_out : MethodName := ⟨RL, "out", "([I[II)V"⟩
abbrev cL_place : ByteArray := method_11_code
def yL_place : MethodName := ⟨RL, "place", "([I[II)I"⟩
abbrev cL_thrown : ByteArray := method_12_code
def yL_thrown : MethodName := ⟨RL, "thrown", "([I[I[I)I"⟩
abbrev cL_tables : ByteArray := method_13_code
def yL_tables : MethodName := ⟨RL, "tables", "(I)I"⟩
abbrev cL_run : ByteArray := method_14_code
def yL_run : MethodName := ⟨RL, "run", "([I[I[I[J[JI)J"⟩
abbrev cL_cut : ByteArray := method_15_code
def yL_cut : MethodName := ⟨RL, "cut", "(J)I"⟩
abbrev cL_arePlans : ByteArray := method_16_code
def yL_arePlans : MethodName := ⟨RL, "arePlans", "(LDriftPlans;[I[I[I[J)Z"⟩
abbrev cL_areTold : ByteArray := method_17_code
def yL_areTold : MethodName := ⟨RL, "areTold", "(LDriftPlans;[I[I[I[JI)Z"⟩
abbrev cL_areBest : ByteArray := method_18_code
def yL_areBest : MethodName := ⟨RL, "areBest", "(LDriftPlans;[II[J)Z"⟩
abbrev cL_isPart : ByteArray := method_19_code
def yL_isPart : MethodName := ⟨RL, "isPart", "(LDriftPlans;[I[I[IIII)Z"⟩
abbrev cL_isPinned : ByteArray := method_20_code
def yL_isPinned : MethodName := ⟨RL, "isPinned", "(LDriftPlans;[I[I[II)Z"⟩
abbrev cL_isActed : ByteArray := method_21_code
def yL_isActed : MethodName := ⟨RL, "isActed", "(LDriftPlans;[I[I[I[J[JII)Z"⟩
abbrev cL_law : ByteArray := code
def yL_law : MethodName := ⟨RL, "law", "([I)Z"⟩
def wsL_law_r1 : List Cond := [Cond.classLink RL 60 RX5, Cond.instantiable RX5 7, Cond.initialized RX5, Cond.arrayClass .int, Cond.arrayClass .long, Cond.constant RL 8 (2147483647), Cond.methodLink RL 123 yX5_init, Cond.instanceMethod yX5_init, Cond.code yX5_init cX5_init 1 none, Cond.methodLink RX5 1 objectInit, Cond.instanceMethod objectInit, Cond.code objectInit ⟨#[0xb1]⟩ 1 none, Cond.classLink RX5 7 RX4, Cond.instantiable RX4 14, Cond.initialized RX4, Cond.fieldLink RX5 10 "DriftPlans" "now" "LDriftPlans$State;", Cond.fieldLink RX5 16 "DriftPlans" "snapshot" "LDriftPlans$State;", Cond.classLink RX5 19 RJx4a65c, Cond.instantiable RJx4a65c 3, Cond.initialized RJx4a65c, Cond.fieldLink RX5 22 "DriftPlans" "history" "Ljava/util/ArrayList;", Cond.classLink RX5 26 RX3, Cond.instantiable RX3 3, Cond.initialized RX3]
def wsL_law_r2 : List Cond := [Cond.fieldLink RX5 29 "DriftPlans" "reckoner" "LDriftPlans$Reckoner;", Cond.classLink RX5 33 RX1, Cond.instantiable RX1 2, Cond.initialized RX1, Cond.fieldLink RX5 36 "DriftPlans" "pad" "LDriftPlans$Pad;", Cond.fieldLink RX5 40 "DriftPlans" "stopDeed" "I", Cond.fieldLink RX5 44 "DriftPlans" "stopPlace" "I", Cond.methodLink RX5 9 yX4_init, Cond.instanceMethod yX4_init, Cond.code yX4_init cX4_init 3 none, Cond.methodLink RX4 3 objectInit, Cond.fieldLink RX4 9 "DriftPlans$State" "rows" "[I", Cond.fieldLink RX4 15 "DriftPlans$State" "guesses" "[I", Cond.classLink RX4 18 "[[I", Cond.fieldLink RX4 20 "DriftPlans$State" "parts" "[[I", Cond.classLink RX4 23 RJx4a65c, Cond.fieldLink RX4 26 "DriftPlans$State" "kept" "Ljava/util/ArrayList;", Cond.fieldLink RX4 30 "DriftPlans$State" "driftLimit" "I", Cond.methodLink RX4 25 yJx4a65c_init_da8c8, Cond.instanceMethod yJx4a65c_init_da8c8, Cond.code yJx4a65c_init_da8c8 cJx4a65c_init_da8c8 1 none, Cond.fieldLink RJx4a65c 39 "java/util/ArrayList" "DEFAULTCAPACITY_EMPTY_ELEMENTDATA" "[Ljava/lang/Object;", Cond.fieldLink RJx4a65c 9 "java/util/ArrayList" "elementData" "[Ljava/lang/Object;", Cond.methodLink RJx4a65c 1 yJxc12de_init_da8c8]
def wsL_law_r3 : List Cond := [Cond.instanceMethod yJxc12de_init_da8c8, Cond.initialized RJxc12de, Cond.code yJxc12de_init_da8c8 cJxc12de_init_da8c8 1 none, Cond.fieldLink RJxc12de 7 "java/util/AbstractList" "modCount" "I", Cond.methodLink RJxc12de 1 yJxa1e45_init_da8c8, Cond.instanceMethod yJxa1e45_init_da8c8, Cond.initialized RJxa1e45, Cond.code yJxa1e45_init_da8c8 cJxa1e45_init_da8c8 1 none, Cond.methodLink RJxa1e45 1 objectInit, Cond.methodLink RX5 21 yJx4a65c_init_da8c8, Cond.methodLink RX5 28 yX3_init, Cond.instanceMethod yX3_init, Cond.code yX3_init cX3_init 1 none, Cond.methodLink RX3 3 objectInit, Cond.fieldLink RX3 9 "DriftPlans$Reckoner" "products" "[J", Cond.fieldLink RX3 15 "DriftPlans$Reckoner" "leastCosts" "[J", Cond.fieldLink RX3 18 "DriftPlans$Reckoner" "bestOrders" "[I", Cond.instanceMethod yX1_init, Cond.code yX1_init cX1_init 1 none, Cond.methodLink RX1 3 objectInit, Cond.arrayClass .char, Cond.fieldLink RX1 9 "DriftPlans$Pad" "signs" "[C", Cond.fieldLink RX1 15 "DriftPlans$Pad" "length" "I", Cond.methodLink RL 124 yL_cell]
def wsL_law_r4 : List Cond := [Cond.static yL_cell, Cond.initialized RL, Cond.code yL_cell cL_cell 2 (some .int), Cond.constant RL 7 (40503), Cond.methodLink RL 128 yL_isActed, Cond.static yL_isActed, Cond.code yL_isActed cL_isActed 12 (some .boolean), Cond.methodLink RL 97 yX5_rows, Cond.instanceMethod yX5_rows, Cond.selects RX5 yX5_rows yX5_rows, Cond.code yX5_rows cX5_rows 4 (some .int), Cond.fieldLink RX5 54 "DriftPlans$State" "rows" "[I", Cond.methodLink RX5 47 yX5_isTable, Cond.static yX5_isTable, Cond.code yX5_isTable cX5_isTable 1 (some .boolean), Cond.methodLink RX5 51 yX5_remember, Cond.instanceMethod yX5_remember, Cond.selects RX5 yX5_remember yX5_remember, Cond.code yX5_remember cX5_remember 1 none, Cond.methodLink RX5 247 yX4_init_, Cond.instanceMethod yX4_init_, Cond.code yX4_init_ cX4_init_ 4 none, Cond.classLink RX4 42 "DriftPlans$Kept", Cond.fieldLink RX4 48 "DriftPlans$State" "hits" "J"]
def wsL_law_r5 : List Cond := [Cond.fieldLink RX4 52 "DriftPlans$State" "misses" "J", Cond.fieldLink RX4 55 "DriftPlans$State" "runCosts" "J", Cond.fieldLink RX4 58 "DriftPlans$State" "makingCosts" "J", Cond.fieldLink RX4 61 "DriftPlans$State" "driftedOut" "J", Cond.fieldLink RX4 64 "DriftPlans$State" "pushedOut" "J", Cond.fieldLink RX4 67 "DriftPlans$State" "joinedOut" "J", Cond.fieldLink RX4 70 "DriftPlans$State" "forgotten" "J", Cond.fieldLink RX4 73 "DriftPlans$State" "usedOnly" "J", Cond.methodLink RX4 34 yJx4a65c_size_8abf5, Cond.instanceMethod yJx4a65c_size_8abf5, Cond.selects RJx4a65c yJx4a65c_size_8abf5 yJx4a65c_size_8abf5, Cond.code yJx4a65c_size_8abf5 cJx4a65c_size_8abf5 1 (some .int), Cond.fieldLink RJx4a65c 48 "java/util/ArrayList" "size" "I", Cond.methodLink RX4 38 yJx4a65c_get_915e3, Cond.instanceMethod yJx4a65c_get_915e3, Cond.selects RJx4a65c yJx4a65c_get_915e3 yJx4a65c_get_915e3, Cond.code yJx4a65c_get_915e3 cJx4a65c_get_915e3 2 (some (.object "java/lang/Object")), Cond.methodLink RJx4a65c 118 yJ15_checkIndex_7cf53, Cond.static yJ15_checkIndex_7cf53, Cond.initialized RJ15, Cond.code yJ15_checkIndex_7cf53 cJ15_checkIndex_7cf53 2 (some .int), Cond.methodLink RJ15 105 yJ3_checkIndex_8e157, Cond.static yJ3_checkIndex_8e157, Cond.initialized RJ3]
def wsL_law_r6 : List Cond := [Cond.code yJ3_checkIndex_8e157 cJ3_checkIndex_8e157 3 (some .int), Cond.methodLink RJx4a65c 123 yJx4a65c_elementData_915e3, Cond.instanceMethod yJx4a65c_elementData_915e3, Cond.selects RJx4a65c yJx4a65c_elementData_915e3 yJx4a65c_elementData_915e3, Cond.code yJx4a65c_elementData_915e3 cJx4a65c_elementData_915e3 2 (some (.object "java/lang/Object")), Cond.methodLink RX4 44 yJx4a65c_add_9ea2d, Cond.instanceMethod yJx4a65c_add_9ea2d, Cond.selects RJx4a65c yJx4a65c_add_9ea2d yJx4a65c_add_9ea2d, Cond.code yJx4a65c_add_9ea2d cJx4a65c_add_9ea2d 2 (some .boolean), Cond.fieldLink RJx4a65c 63 "java/util/ArrayList" "modCount" "I", Cond.sameField "java/util/ArrayList" "java/util/AbstractList" "modCount" "I", Cond.methodLink RJx4a65c 131 yJx4a65c_add_72be8, Cond.instanceMethod yJx4a65c_add_72be8, Cond.selects RJx4a65c yJx4a65c_add_72be8 yJx4a65c_add_72be8, Cond.code yJx4a65c_add_72be8 cJx4a65c_add_72be8 4 none, Cond.methodLink RJx4a65c 129 yJx4a65c_grow_d5877, Cond.instanceMethod yJx4a65c_grow_d5877, Cond.selects RJx4a65c yJx4a65c_grow_d5877 yJx4a65c_grow_d5877, Cond.code yJx4a65c_grow_d5877 cJx4a65c_grow_d5877 1 (some (.array (.object "java/lang/Object"))), Cond.methodLink RJx4a65c 69 yJx4a65c_grow_92f84, Cond.instanceMethod yJx4a65c_grow_92f84, Cond.selects RJx4a65c yJx4a65c_grow_92f84 yJx4a65c_grow_92f84, Cond.code yJx4a65c_grow_92f84 cJx4a65c_grow_92f84 4 (some (.array (.object "java/lang/Object"))), Cond.methodLink RJx4a65c 79 Lib.Math.max.name]
def wsL_law_r7 : List Cond := [Cond.static Lib.Math.max.name, Cond.initialized "java/lang/Math", Cond.code Lib.Math.max.name Lib.Math.max.code 2 (some .int), Cond.classLink RJx4a65c 7 "java/lang/Object", Cond.methodLink RJx4a65c 73 yJ8_newLength_cabcc, Cond.static yJ8_newLength_cabcc, Cond.initialized RJ8, Cond.code yJ8_newLength_cabcc cJ8_newLength_cabcc 4 (some .int), Cond.methodLink RJ8 194 Lib.Math.max.name, Cond.constant RJ8 200 (2147483639), Cond.methodLink RJ8 201 yJ8_hugeLength_7cf53, Cond.static yJ8_hugeLength_7cf53, Cond.code yJ8_hugeLength_7cf53 cJ8_hugeLength_7cf53 3 (some .int), Cond.methodLink RJx4a65c 66 yJ7_copyOf_1904c, Cond.static yJ7_copyOf_1904c, Cond.initialized RJ7, Cond.code yJ7_copyOf_1904c cJ7_copyOf_1904c 2 (some (.array (.object "java/lang/Object"))), Cond.methodLink RJ7 86 ⟨"java/lang/Object", "getClass", "()Ljava/lang/Class;"⟩, Cond.selects "[Ljava/lang/Object;" ⟨"java/lang/Object", "getClass", "()Ljava/lang/Class;"⟩ ⟨"java/lang/Object", "getClass", "()Ljava/lang/Class;"⟩, Cond.instanceMethod ⟨"java/lang/Object", "getClass", "()Ljava/lang/Class;"⟩, Cond.native ⟨"java/lang/Object", "getClass", "()Ljava/lang/Class;"⟩, Cond.methodLink RJ7 300 yJ7_copyOf_6403c, Cond.static yJ7_copyOf_6403c, Cond.code yJ7_copyOf_6403c cJ7_copyOf_6403c 4 (some (.array (.object "java/lang/Object")))]
def wsL_law_r8 : List Cond := [Cond.classLink RJ7 110 "[Ljava/lang/Object;", Cond.classLink RJ7 2 "java/lang/Object", Cond.methodLink RJ7 304 Lib.Math.min.name, Cond.static Lib.Math.min.name, Cond.code Lib.Math.min.name Lib.Math.min.code 2 (some .int), Cond.methodLink RJ7 150 arraycopyName, Cond.native arraycopyName, Cond.static arraycopyName, Cond.initialized "java/lang/System", Cond.methodLink RX5 250 yJx4a65c_add_9ea2d, Cond.methodLink RX5 202 yJx4a65c_size_8abf5, Cond.methodLink RX5 115 yJx4a65c_remove_915e3, Cond.instanceMethod yJx4a65c_remove_915e3, Cond.selects RJx4a65c yJx4a65c_remove_915e3 yJx4a65c_remove_915e3, Cond.code yJx4a65c_remove_915e3 cJx4a65c_remove_915e3 4 (some (.object "java/lang/Object")), Cond.methodLink RJx4a65c 144 yJx4a65c_fastRemove_b59b0, Cond.instanceMethod yJx4a65c_fastRemove_b59b0, Cond.selects RJx4a65c yJx4a65c_fastRemove_b59b0 yJx4a65c_fastRemove_b59b0, Cond.code yJx4a65c_fastRemove_b59b0 cJx4a65c_fastRemove_b59b0 4 none, Cond.methodLink RJx4a65c 112 arraycopyName, Cond.methodLink RL 100 yL_isPart, Cond.static yL_isPart, Cond.code yL_isPart cL_isPart 9 (some .boolean), Cond.methodLink RL 90 yX5_part]
def wsL_law_r9 : List Cond := [Cond.instanceMethod yX5_part, Cond.selects RX5 yX5_part yX5_part, Cond.code yX5_part cX5_part 4 (some .int), Cond.fieldLink RX5 62 "DriftPlans$State" "parts" "[[I", Cond.methodLink RX5 58 yX5_isJoin, Cond.static yX5_isJoin, Cond.code yX5_isJoin cX5_isJoin 2 (some .boolean), Cond.methodLink RX5 66 yX5_bit, Cond.static yX5_bit, Cond.code yX5_bit cX5_bit 1 (some .int), Cond.methodLink RX5 70 yX4_throwOutJoins, Cond.instanceMethod yX4_throwOutJoins, Cond.selects RX4 yX4_throwOutJoins yX4_throwOutJoins, Cond.code yX4_throwOutJoins cX4_throwOutJoins 5 (some .int), Cond.fieldLink RX4 83 "DriftPlans$Kept" "pinned" "Z", Cond.fieldLink RX4 76 "DriftPlans$Kept" "shape" "I", Cond.static yX5_hasAll, Cond.code yX5_hasAll cX5_hasAll 2 (some .boolean), Cond.methodLink RX4 101 yJx4a65c_remove_915e3, Cond.methodLink RL 31 yL_out, Cond.static yL_out, Cond.code yL_out cL_out 4 none, Cond.methodLink RL 53 yL_thrown, Cond.static yL_thrown]
def wsL_law_r10 : List Cond := [Cond.code yL_thrown cL_thrown 5 (some .int), Cond.methodLink RL 27 yL_drifted, Cond.static yL_drifted, Cond.code yL_drifted cL_drifted 6 (some .boolean), Cond.methodLink RL 104 yX5_count, Cond.instanceMethod yX5_count, Cond.selects RX5 yX5_count yX5_count, Cond.code yX5_count cX5_count 2 (some .int), Cond.methodLink RX5 73 yX4_countTables, Cond.instanceMethod yX4_countTables, Cond.selects RX4 yX4_countTables yX4_countTables, Cond.code yX4_countTables cX4_countTables 3 (some .int), Cond.static yX5_has, Cond.code yX5_has cX5_has 2 (some .boolean), Cond.methodLink RX4 116 yX4_throwOutDrifted, Cond.instanceMethod yX4_throwOutDrifted, Cond.selects RX4 yX4_throwOutDrifted yX4_throwOutDrifted, Cond.code yX4_throwOutDrifted cX4_throwOutDrifted 4 (some .int), Cond.methodLink RX4 119 yX4_driftsOnceCounted, Cond.instanceMethod yX4_driftsOnceCounted, Cond.selects RX4 yX4_driftsOnceCounted yX4_driftsOnceCounted, Cond.code yX4_driftsOnceCounted cX4_driftsOnceCounted 6 (some .boolean), Cond.fieldLink RX4 90 "DriftPlans$Kept" "guesses" "[I", Cond.methodLink RX4 123 Lib.Math.max.name]
def wsL_law_r11 : List Cond := [Cond.methodLink RX4 129 Lib.Math.min.name, Cond.methodLink RL 107 yL_run, Cond.static yL_run, Cond.code yL_run cL_run 13 (some .long), Cond.constantLong RL 43 (10), Cond.methodLink RL 35 yL_place, Cond.static yL_place, Cond.code yL_place cL_place 4 (some .int), Cond.methodLink RL 39 yL_best, Cond.static yL_best, Cond.code yL_best cL_best 13 none, Cond.methodLink RL 19 yL_least, Cond.static yL_least, Cond.code yL_least cL_least 7 (some .long), Cond.constantLong RL 11 (-1), Cond.methodLink RL 13 yL_size, Cond.static yL_size, Cond.code yL_size cL_size 7 (some .long), Cond.constantLong RL 9 (100), Cond.methodLink RL 23 yL_rest, Cond.static yL_rest, Cond.code yL_rest cL_rest 11 (some .long), Cond.methodLink RL 45 yL_tables, Cond.static yL_tables]
def wsL_law_r12 : List Cond := [Cond.code yL_tables cL_tables 3 (some .int), Cond.methodLink RL 49 yL_cost, Cond.static yL_cost, Cond.code yL_cost cL_cost 8 (some .long), Cond.methodLink RL 111 yX5_run, Cond.instanceMethod yX5_run, Cond.selects RX5 yX5_run yX5_run, Cond.code yX5_run cX5_run 2 (some .int), Cond.methodLink RX5 76 yX5_isSet, Cond.static yX5_isSet, Cond.code yX5_isSet cX5_isSet 1 (some .boolean), Cond.methodLink RX5 79 yX5_runQuery, Cond.instanceMethod yX5_runQuery, Cond.selects RX5 yX5_runQuery yX5_runQuery, Cond.code yX5_runQuery cX5_runQuery 8 (some .long), Cond.fieldLink RX5 90 "DriftPlans$State" "kept" "Ljava/util/ArrayList;", Cond.classLink RX5 97 "DriftPlans$Kept", Cond.fieldLink RX5 188 "DriftPlans$Kept" "order" "I", Cond.fieldLink RX5 214 "DriftPlans$State" "runCosts" "J", Cond.methodLink RX5 87 yX4_placeOf, Cond.instanceMethod yX4_placeOf, Cond.selects RX4 yX4_placeOf yX4_placeOf, Cond.code yX4_placeOf cX4_placeOf 3 (some .int), Cond.methodLink RX5 93 yJx4a65c_get_915e3]
def wsL_law_r13 : List Cond := [Cond.methodLink RX5 258 yX4_useAgain, Cond.instanceMethod yX4_useAgain, Cond.selects RX4 yX4_useAgain yX4_useAgain, Cond.code yX4_useAgain cX4_useAgain 3 none, Cond.classLink RX4 42 RX0, Cond.instantiable RX0 5, Cond.initialized RX0, Cond.fieldLink RX4 87 "DriftPlans$Kept" "order" "I", Cond.fieldLink RX4 91 "DriftPlans$Kept" "runs" "J", Cond.methodLink RX4 94 yX0_init, Cond.instanceMethod yX0_init, Cond.code yX0_init cX0_init 7 none, Cond.methodLink RX0 1 objectInit, Cond.fieldLink RX0 7 "DriftPlans$Kept" "shape" "I", Cond.fieldLink RX0 13 "DriftPlans$Kept" "order" "I", Cond.fieldLink RX0 16 "DriftPlans$Kept" "guesses" "[I", Cond.fieldLink RX0 20 "DriftPlans$Kept" "runs" "J", Cond.fieldLink RX0 24 "DriftPlans$Kept" "pinned" "Z", Cond.methodLink RX5 163 yX5_reckoned, Cond.instanceMethod yX5_reckoned, Cond.selects RX5 yX5_reckoned yX5_reckoned, Cond.code yX5_reckoned cX5_reckoned 2 (some (.object "DriftPlans$Reckoner")), Cond.fieldLink RX5 153 "DriftPlans$State" "guesses" "[I", Cond.methodLink RX5 254 yX3_reckon]
def wsL_law_r14 : List Cond := [Cond.instanceMethod yX3_reckon, Cond.selects RX3 yX3_reckon yX3_reckon, Cond.code yX3_reckon cX3_reckon 8 none, Cond.constantLong RX3 30 (100), Cond.methodLink RX3 32 yX3_planSet, Cond.instanceMethod yX3_planSet, Cond.selects RX3 yX3_planSet yX3_planSet, Cond.code yX3_planSet cX3_planSet 10 none, Cond.constantLong RX3 38 (9223372036854775807), Cond.methodLink RX3 48 Lib.MathLoose.max_long.x, Cond.static Lib.MathLoose.max_long.x, Cond.code Lib.MathLoose.max_long.x Lib.MathLoose.max_long.code 4 (some .long), Cond.static yX5_longerOrder, Cond.code yX5_longerOrder cX5_longerOrder 2 (some .int), Cond.methodLink RX5 181 yX3_bestOrder, Cond.instanceMethod yX3_bestOrder, Cond.selects RX3 yX3_bestOrder yX3_bestOrder, Cond.code yX3_bestOrder cX3_bestOrder 2 (some .int), Cond.methodLink RX5 235 yX5_makingCost, Cond.static yX5_makingCost, Cond.code yX5_makingCost cX5_makingCost 1 (some .long), Cond.constantLong RX5 285 (10), Cond.methodLink RX5 176 yJ6_bitCount_0f7a4, Cond.static yJ6_bitCount_0f7a4]
def wsL_law_r15 : List Cond := [Cond.initialized RJ6, Cond.code yJ6_bitCount_0f7a4 cJ6_bitCount_0f7a4 1 (some .int), Cond.constant RJ6 265 (1431655765), Cond.constant RJ6 266 (858993459), Cond.constant RJ6 267 (252645135), Cond.methodLink RX5 262 yX4_keepNew, Cond.instanceMethod yX4_keepNew, Cond.selects RX4 yX4_keepNew yX4_keepNew, Cond.code yX4_keepNew cX4_keepNew 5 none, Cond.methodLink RX4 108 ⟨"[I", "clone", "()Ljava/lang/Object;"⟩, Cond.sameMethod "[I" "java/lang/Object" "clone" "()Ljava/lang/Object;", Cond.native ⟨"java/lang/Object", "clone", "()Ljava/lang/Object;"⟩, Cond.instanceMethod ⟨"java/lang/Object", "clone", "()Ljava/lang/Object;"⟩, Cond.selects "[I" ⟨"[I", "clone", "()Ljava/lang/Object;"⟩ ⟨"java/lang/Object", "clone", "()Ljava/lang/Object;"⟩, Cond.classLink RX4 109 "[I", Cond.methodLink RX4 104 yX4_pushOneOut, Cond.instanceMethod yX4_pushOneOut, Cond.selects RX4 yX4_pushOneOut yX4_pushOneOut, Cond.code yX4_pushOneOut cX4_pushOneOut 2 (some .boolean), Cond.methodLink RX5 191 yX3_costOf, Cond.instanceMethod yX3_costOf, Cond.selects RX3 yX3_costOf yX3_costOf, Cond.code yX3_costOf cX3_costOf 8 (some .long), Cond.methodLink RX3 65 yJ6_bitCount_0f7a4]
def wsL_law_r16 : List Cond := [Cond.static yX5_tableAt, Cond.code yX5_tableAt cX5_tableAt 3 (some .int), Cond.methodLink RX3 58 yX3_sizeOf, Cond.instanceMethod yX3_sizeOf, Cond.selects RX3 yX3_sizeOf yX3_sizeOf, Cond.code yX3_sizeOf cX3_sizeOf 2 (some .long), Cond.methodLink RX5 83 yX5_told, Cond.static yX5_told, Cond.code yX5_told cX5_told 2 (some .int), Cond.constantLong RX5 279 (1000000000), Cond.methodLink RX5 281 Lib.MathLoose.min_long.x, Cond.static Lib.MathLoose.min_long.x, Cond.code Lib.MathLoose.min_long.x Lib.MathLoose.min_long.code 4 (some .long), Cond.methodLink RL 65 yL_cut, Cond.static yL_cut, Cond.code yL_cut cL_cut 2 (some .int), Cond.constantLong RL 57 (1000000000), Cond.methodLink RL 113 yL_isPinned, Cond.static yL_isPinned, Cond.code yL_isPinned cL_isPinned 8 (some .boolean), Cond.methodLink RL 94 yX5_pin, Cond.instanceMethod yX5_pin, Cond.selects RX5 yX5_pin yX5_pin, Cond.code yX5_pin cX5_pin 4 (some .int)]
def wsL_law_r17 : List Cond := [Cond.fieldLink RX5 99 "DriftPlans$Kept" "pinned" "Z", Cond.methodLink RX5 103 yX4_setPinned, Cond.instanceMethod yX4_setPinned, Cond.selects RX4 yX4_setPinned yX4_setPinned, Cond.code yX4_setPinned cX4_setPinned 4 none, Cond.methodLink RX4 97 yJx4a65c_set_bcc79, Cond.instanceMethod yJx4a65c_set_bcc79, Cond.selects RJx4a65c yJx4a65c_set_bcc79 yJx4a65c_set_bcc79, Cond.code yJx4a65c_set_bcc79 cJx4a65c_set_bcc79 4 (some (.object "java/lang/Object")), Cond.methodLink RX5 107 yX4_throwOutDrifted, Cond.methodLink RL 117 yX5_forget, Cond.instanceMethod yX5_forget, Cond.selects RX5 yX5_forget yX5_forget, Cond.code yX5_forget cX5_forget 3 (some .int), Cond.fieldLink RX5 111 "DriftPlans$State" "forgotten" "J", Cond.fieldLink RX5 118 "DriftPlans$Kept" "runs" "J", Cond.methodLink RL 120 yX5_drift, Cond.instanceMethod yX5_drift, Cond.selects RX5 yX5_drift yX5_drift, Cond.code yX5_drift cX5_drift 2 (some .int), Cond.fieldLink RX5 121 "DriftPlans$State" "driftLimit" "I", Cond.methodLink RL 132 yL_arePlans, Cond.static yL_arePlans, Cond.code yL_arePlans cL_arePlans 18 (some .boolean)]
def wsL_law_r18 : List Cond := [Cond.methodLink RL 59 yX5_plan, Cond.instanceMethod yX5_plan, Cond.selects RX5 yX5_plan yX5_plan, Cond.code yX5_plan cX5_plan 6 (some .int), Cond.methodLink RX5 195 yX3_excessOf, Cond.instanceMethod yX3_excessOf, Cond.selects RX3 yX3_excessOf yX3_excessOf, Cond.code yX3_excessOf cX3_excessOf 3 (some .long), Cond.methodLink RX3 74 yX3_costOf, Cond.methodLink RX3 78 yX3_leastBySets, Cond.instanceMethod yX3_leastBySets, Cond.selects RX3 yX3_leastBySets yX3_leastBySets, Cond.code yX3_leastBySets cX3_leastBySets 2 (some .long), Cond.methodLink RX5 198 yX4_driftsOnceCounted, Cond.methodLink RX5 184 yX5_tableAt, Cond.methodLink RL 69 yX5_counted, Cond.instanceMethod yX5_counted, Cond.selects RX5 yX5_counted yX5_counted, Cond.code yX5_counted cX5_counted 2 (some .int), Cond.fieldLink RX5 208 "DriftPlans$State" "hits" "J", Cond.fieldLink RX5 211 "DriftPlans$State" "misses" "J", Cond.fieldLink RX5 217 "DriftPlans$State" "makingCosts" "J", Cond.fieldLink RX5 220 "DriftPlans$State" "driftedOut" "J", Cond.fieldLink RX5 223 "DriftPlans$State" "pushedOut" "J"]
def wsL_law_r19 : List Cond := [Cond.fieldLink RX5 226 "DriftPlans$State" "joinedOut" "J", Cond.fieldLink RX5 229 "DriftPlans$State" "usedOnly" "J", Cond.fieldLink RX5 128 "DriftPlans$Pad" "length" "I", Cond.methodLink RX5 205 yX4_countPinned, Cond.instanceMethod yX4_countPinned, Cond.selects RX4 yX4_countPinned yX4_countPinned, Cond.code yX4_countPinned cX4_countPinned 3 (some .int), Cond.methodLink RL 72 yX5_fitness, Cond.instanceMethod yX5_fitness, Cond.selects RX5 yX5_fitness yX5_fitness, Cond.code yX5_fitness cX5_fitness 8 (some .double), Cond.fieldLink RX5 232 "DriftPlans$Kept" "shape" "I", Cond.methodLink RX5 173 yX3_leastBySets, Cond.methodLink RL 136 yL_areTold, Cond.static yL_areTold, Cond.code yL_areTold cL_areTold 11 (some .boolean), Cond.methodLink RL 76 yX5_table, Cond.instanceMethod yX5_table, Cond.selects RX5 yX5_table yX5_table, Cond.code yX5_table cX5_table 3 (some .int), Cond.methodLink RX5 156 yX5_driftDown, Cond.static yX5_driftDown, Cond.code yX5_driftDown cX5_driftDown 3 (some .int), Cond.methodLink RX5 287 Lib.Math.min.name]
def wsL_law_r20 : List Cond := [Cond.methodLink RX5 242 Lib.Math.max.name, Cond.methodLink RX5 160 yX4_keptWith, Cond.instanceMethod yX4_keptWith, Cond.selects RX4 yX4_keptWith yX4_keptWith, Cond.code yX4_keptWith cX4_keptWith 4 (some .int), Cond.methodLink RL 79 yX5_partOf, Cond.instanceMethod yX5_partOf, Cond.selects RX5 yX5_partOf yX5_partOf, Cond.code yX5_partOf cX5_partOf 3 (some .int), Cond.methodLink RL 140 yL_areBest, Cond.static yL_areBest, Cond.code yL_areBest cL_areBest 11 (some .boolean), Cond.methodLink RL 82 yX5_best, Cond.instanceMethod yX5_best, Cond.selects RX5 yX5_best yX5_best, Cond.code yX5_best cX5_best 5 (some .int), Cond.methodLink RL 85 yX5_size, Cond.instanceMethod yX5_size, Cond.selects RX5 yX5_size yX5_size, Cond.code yX5_size cX5_size 3 (some .int), Cond.methodLink RX5 167 yX3_sizeOf, Cond.methodLink RL 88 yX5_least, Cond.instanceMethod yX5_least, Cond.selects RX5 yX5_least yX5_least]
def wsL_law_r21 : List Cond := [Cond.code yX5_least cX5_least 5 (some .int), Cond.methodLink RX5 170 yX3_leastByOrders, Cond.instanceMethod yX3_leastByOrders, Cond.selects RX3 yX3_leastByOrders yX3_leastByOrders, Cond.code yX3_leastByOrders cX3_leastByOrders 2 (some .long), Cond.methodLink RX3 54 yX3_leastOnward, Cond.static yX3_leastOnward, Cond.code yX3_leastOnward cX3_leastOnward 10 (some .long), Cond.methodLink RX3 62 Lib.MathLoose.min_long.x]
def wsL_law : List Cond := (wsL_law_r1 ++ (wsL_law_r2 ++ (wsL_law_r3 ++ (wsL_law_r4 ++ (wsL_law_r5 ++ (wsL_law_r6 ++ (wsL_law_r7 ++ (wsL_law_r8 ++ (wsL_law_r9 ++ (wsL_law_r10 ++ (wsL_law_r11 ++ (wsL_law_r12 ++ (wsL_law_r13 ++ (wsL_law_r14 ++ (wsL_law_r15 ++ (wsL_law_r16 ++ (wsL_law_r17 ++ (wsL_law_r18 ++ (wsL_law_r19 ++ (wsL_law_r20 ++ wsL_law_r21)))))))))))))))))))) ++ wsX50 ++ wsX40 ++ wsJx4a65c0 ++ wsX30 ++ wsX10 ++ wsX00 ++ ([] : List Cond)
theorem wt_ {w : Cond} (h : w ∈ tables_1) : w ∈ lw_tbl := List.mem_append_right _ h
theorem wp_ {w : Cond} (h : w ∈ k2_sels lw_privs) : w ∈ lw_tbl := List.mem_append_left _ h
theorem wi_1_0 : (Cond.classLink RL 60 RX5) ∈ lw_tbl := wt_ (List.mem_of_getElem? (i := 16) (by decide +kernel))
theorem wi_1_1 : (Cond.instantiable RX5 7) ∈ lw_tbl := wt_ (List.mem_of_getElem? (i := 17) (by decide +kernel))
theorem wi_1_2 : (Cond.initialized RX5) ∈ lw_tbl := wt_ (List.mem_of_getElem? (i := 1) (by decide +kernel))
theorem wi_1_3 : (Cond.arrayClass .int) ∈ lw_tbl := wt_ (List.mem_of_getElem? (i := 58) (by decide +kernel))
theorem wi_1_4 : (Cond.arrayClass .long) ∈ lw_tbl := wt_ (List.mem_of_getElem? (i := 134) (by decide +kernel))
theorem wi_1_5 : (Cond.constant RL 8 (2147483647)) ∈ lw_tbl := wt_ (List.mem_of_getElem? (i := 579) (by decide +kernel))
theorem wi_1_6 : (Cond.methodLink RL 123 yX5_init) ∈ lw_tbl := wt_ (List.mem_of_getElem? (i := 18) (by decide +kernel))
theorem wi_1_7 : (Cond.instanceMethod yX5_init) ∈ lw_tbl := wt_ (List.mem_of_getElem? (i := 19) (by decide +kernel))
theorem wi_1_8 : (Cond.code yX5_init cX5_init 1 none) ∈ lw_tbl := wt_ (List.mem_append_left _ (List.mem_of_getElem? (i := 20) rfl : _ ∈ tables_1_1))
theorem wi_1_9 : (Cond.methodLink RX5 1 objectInit) ∈ lw_tbl := wt_ (List.mem_of_getElem? (i := 21) (by decide +kernel))
theorem wi_1_10 : (Cond.instanceMethod objectInit) ∈ lw_tbl := wt_ (List.mem_of_getElem? (i := 22) (by decide +kernel))
theorem wi_1_11 : (Cond.code objectInit ⟨#[0xb1]⟩ 1 none) ∈ lw_tbl := wt_ (List.mem_append_left _ (List.mem_of_getElem? (i := 23) rfl : _ ∈ tables_1_1))
theorem wi_1_12 : (Cond.classLink RX5 7 RX4) ∈ lw_tbl := wt_ (List.mem_of_getElem? (i := 24) (by decide +kernel))
theorem wi_1_13 : (Cond.instantiable RX4 14) ∈ lw_tbl := wt_ (List.mem_of_getElem? (i := 25) (by decide +kernel))
theorem wi_1_14 : (Cond.initialized RX4) ∈ lw_tbl := wt_ (List.mem_of_getElem? (i := 2) (by decide +kernel))
theorem wi_1_15 : (Cond.fieldLink RX5 10 "DriftPlans" "now" "LDriftPlans$State;") ∈ lw_tbl := wt_ (List.mem_of_getElem? (i := 150) (by decide +kernel))
theorem wi_1_16 : (Cond.fieldLink RX5 16 "DriftPlans" "snapshot" "LDriftPlans$State;") ∈ lw_tbl := wt_ (List.mem_of_getElem? (i := 151) (by decide +kernel))
theorem wi_1_17 : (Cond.classLink RX5 19 RJx4a65c) ∈ lw_tbl := wt_ (List.mem_of_getElem? (i := 116) (by decide +kernel))
theorem wi_1_18 : (Cond.instantiable RJx4a65c 3) ∈ lw_tbl := wt_ (List.mem_of_getElem? (i := 33) (by decide +kernel))
theorem wi_1_19 : (Cond.initialized RJx4a65c) ∈ lw_tbl := wt_ (List.mem_of_getElem? (i := 5) (by decide +kernel))
theorem wi_1_20 : (Cond.fieldLink RX5 22 "DriftPlans" "history" "Ljava/util/ArrayList;") ∈ lw_tbl := wt_ (List.mem_of_getElem? (i := 152) (by decide +kernel))
theorem wi_1_21 : (Cond.classLink RX5 26 RX3) ∈ lw_tbl := wt_ (List.mem_of_getElem? (i := 118) (by decide +kernel))
theorem wi_1_22 : (Cond.instantiable RX3 3) ∈ lw_tbl := wt_ (List.mem_of_getElem? (i := 119) (by decide +kernel))
theorem wi_1_23 : (Cond.initialized RX3) ∈ lw_tbl := wt_ (List.mem_of_getElem? (i := 6) (by decide +kernel))
theorem wc_1 : ∀ w ∈ wsL_law_r1, w ∈ lw_tbl := List.forall_mem_cons.mpr ⟨wi_1_0, List.forall_mem_cons.mpr ⟨wi_1_1, List.forall_mem_cons.mpr ⟨wi_1_2, List.forall_mem_cons.mpr ⟨wi_1_3, List.forall_mem_cons.mpr ⟨wi_1_4, List.forall_mem_cons.mpr ⟨wi_1_5, List.forall_mem_cons.mpr ⟨wi_1_6, List.forall_mem_cons.mpr ⟨wi_1_7, List.forall_mem_cons.mpr ⟨wi_1_8, List.forall_mem_cons.mpr ⟨wi_1_9, List.forall_mem_cons.mpr ⟨wi_1_10, List.forall_mem_cons.mpr ⟨wi_1_11, List.forall_mem_cons.mpr ⟨wi_1_12, List.forall_mem_cons.mpr ⟨wi_1_13, List.forall_mem_cons.mpr ⟨wi_1_14, List.forall_mem_cons.mpr ⟨wi_1_15, List.forall_mem_cons.mpr ⟨wi_1_16, List.forall_mem_cons.mpr ⟨wi_1_17, List.forall_mem_cons.mpr ⟨wi_1_18, List.forall_mem_cons.mpr ⟨wi_1_19, List.forall_mem_cons.mpr ⟨wi_1_20, List.forall_mem_cons.mpr ⟨wi_1_21, List.forall_mem_cons.mpr ⟨wi_1_22, List.forall_mem_cons.mpr ⟨wi_1_23, (fun _ h => absurd h List.not_mem_nil)⟩⟩⟩⟩⟩⟩⟩⟩⟩⟩⟩⟩⟩⟩⟩⟩⟩⟩⟩⟩⟩⟩⟩⟩
theorem wi_2_0 : (Cond.fieldLink RX5 29 "DriftPlans" "reckoner" "LDriftPlans$Reckoner;") ∈ lw_tbl := wt_ (List.mem_of_getElem? (i := 153) (by decide +kernel))
theorem wi_2_1 : (Cond.classLink RX5 33 RX1) ∈ lw_tbl := wt_ (List.mem_of_getElem? (i := 135) (by decide +kernel))
theorem wi_2_2 : (Cond.instantiable RX1 2) ∈ lw_tbl := wt_ (List.mem_of_getElem? (i := 136) (by decide +kernel))
theorem wi_2_3 : (Cond.initialized RX1) ∈ lw_tbl := wt_ (List.mem_of_getElem? (i := 7) (by decide +kernel))
theorem wi_2_4 : (Cond.fieldLink RX5 36 "DriftPlans" "pad" "LDriftPlans$Pad;") ∈ lw_tbl := wt_ (List.mem_of_getElem? (i := 154) (by decide +kernel))
theorem wi_2_5 : (Cond.fieldLink RX5 40 "DriftPlans" "stopDeed" "I") ∈ lw_tbl := wt_ (List.mem_of_getElem? (i := 155) (by decide +kernel))
theorem wi_2_6 : (Cond.fieldLink RX5 44 "DriftPlans" "stopPlace" "I") ∈ lw_tbl := wt_ (List.mem_of_getElem? (i := 156) (by decide +kernel))
theorem wi_2_7 : (Cond.methodLink RX5 9 yX4_init) ∈ lw_tbl := wt_ (List.mem_of_getElem? (i := 26) (by decide +kernel))
theorem wi_2_8 : (Cond.instanceMethod yX4_init) ∈ lw_tbl := wt_ (List.mem_of_getElem? (i := 27) (by decide +kernel))
theorem wi_2_9 : (Cond.code yX4_init cX4_init 3 none) ∈ lw_tbl := wt_ (List.mem_append_left _ (List.mem_of_getElem? (i := 28) rfl : _ ∈ tables_1_1))
theorem wi_2_10 : (Cond.methodLink RX4 3 objectInit) ∈ lw_tbl := wt_ (List.mem_of_getElem? (i := 29) (by decide +kernel))
theorem wi_2_11 : (Cond.fieldLink RX4 9 "DriftPlans$State" "rows" "[I") ∈ lw_tbl := wt_ (List.mem_of_getElem? (i := 59) (by decide +kernel))
theorem wi_2_12 : (Cond.fieldLink RX4 15 "DriftPlans$State" "guesses" "[I") ∈ lw_tbl := wt_ (List.mem_of_getElem? (i := 61) (by decide +kernel))
theorem wi_2_13 : (Cond.classLink RX4 18 "[[I") ∈ lw_tbl := wt_ (List.mem_of_getElem? (i := 30) (by decide +kernel))
theorem wi_2_14 : (Cond.fieldLink RX4 20 "DriftPlans$State" "parts" "[[I") ∈ lw_tbl := wt_ (List.mem_of_getElem? (i := 63) (by decide +kernel))
theorem wi_2_15 : (Cond.classLink RX4 23 RJx4a65c) ∈ lw_tbl := wt_ (List.mem_of_getElem? (i := 32) (by decide +kernel))
theorem wi_2_16 : (Cond.fieldLink RX4 26 "DriftPlans$State" "kept" "Ljava/util/ArrayList;") ∈ lw_tbl := wt_ (List.mem_of_getElem? (i := 65) (by decide +kernel))
theorem wi_2_17 : (Cond.fieldLink RX4 30 "DriftPlans$State" "driftLimit" "I") ∈ lw_tbl := wt_ (List.mem_of_getElem? (i := 67) (by decide +kernel))
theorem wi_2_18 : (Cond.methodLink RX4 25 yJx4a65c_init_da8c8) ∈ lw_tbl := wt_ (List.mem_of_getElem? (i := 34) (by decide +kernel))
theorem wi_2_19 : (Cond.instanceMethod yJx4a65c_init_da8c8) ∈ lw_tbl := wt_ (List.mem_of_getElem? (i := 35) (by decide +kernel))
theorem wi_2_20 : (Cond.code yJx4a65c_init_da8c8 cJx4a65c_init_da8c8 1 none) ∈ lw_tbl := wt_ (List.mem_append_left _ (List.mem_of_getElem? (i := 36) rfl : _ ∈ tables_1_1))
theorem wi_2_21 : (Cond.fieldLink RJx4a65c 39 "java/util/ArrayList" "DEFAULTCAPACITY_EMPTY_ELEMENTDATA" "[Ljava/lang/Object;") ∈ lw_tbl := wt_ (List.mem_of_getElem? (i := 44) (by decide +kernel))
theorem wi_2_22 : (Cond.fieldLink RJx4a65c 9 "java/util/ArrayList" "elementData" "[Ljava/lang/Object;") ∈ lw_tbl := wt_ (List.mem_of_getElem? (i := 46) (by decide +kernel))
theorem wi_2_23 : (Cond.methodLink RJx4a65c 1 yJxc12de_init_da8c8) ∈ lw_tbl := wt_ (List.mem_of_getElem? (i := 37) (by decide +kernel))
theorem wc_2 : ∀ w ∈ wsL_law_r2, w ∈ lw_tbl := List.forall_mem_cons.mpr ⟨wi_2_0, List.forall_mem_cons.mpr ⟨wi_2_1, List.forall_mem_cons.mpr ⟨wi_2_2, List.forall_mem_cons.mpr ⟨wi_2_3, List.forall_mem_cons.mpr ⟨wi_2_4, List.forall_mem_cons.mpr ⟨wi_2_5, List.forall_mem_cons.mpr ⟨wi_2_6, List.forall_mem_cons.mpr ⟨wi_2_7, List.forall_mem_cons.mpr ⟨wi_2_8, List.forall_mem_cons.mpr ⟨wi_2_9, List.forall_mem_cons.mpr ⟨wi_2_10, List.forall_mem_cons.mpr ⟨wi_2_11, List.forall_mem_cons.mpr ⟨wi_2_12, List.forall_mem_cons.mpr ⟨wi_2_13, List.forall_mem_cons.mpr ⟨wi_2_14, List.forall_mem_cons.mpr ⟨wi_2_15, List.forall_mem_cons.mpr ⟨wi_2_16, List.forall_mem_cons.mpr ⟨wi_2_17, List.forall_mem_cons.mpr ⟨wi_2_18, List.forall_mem_cons.mpr ⟨wi_2_19, List.forall_mem_cons.mpr ⟨wi_2_20, List.forall_mem_cons.mpr ⟨wi_2_21, List.forall_mem_cons.mpr ⟨wi_2_22, List.forall_mem_cons.mpr ⟨wi_2_23, (fun _ h => absurd h List.not_mem_nil)⟩⟩⟩⟩⟩⟩⟩⟩⟩⟩⟩⟩⟩⟩⟩⟩⟩⟩⟩⟩⟩⟩⟩⟩
theorem wi_3_0 : (Cond.instanceMethod yJxc12de_init_da8c8) ∈ lw_tbl := wt_ (List.mem_of_getElem? (i := 38) (by decide +kernel))
theorem wi_3_1 : (Cond.initialized RJxc12de) ∈ lw_tbl := wt_ (List.mem_of_getElem? (i := 4) (by decide +kernel))
theorem wi_3_2 : (Cond.code yJxc12de_init_da8c8 cJxc12de_init_da8c8 1 none) ∈ lw_tbl := wt_ (List.mem_append_left _ (List.mem_of_getElem? (i := 39) rfl : _ ∈ tables_1_1))
theorem wi_3_3 : (Cond.fieldLink RJxc12de 7 "java/util/AbstractList" "modCount" "I") ∈ lw_tbl := wt_ (List.mem_of_getElem? (i := 48) (by decide +kernel))
theorem wi_3_4 : (Cond.methodLink RJxc12de 1 yJxa1e45_init_da8c8) ∈ lw_tbl := wt_ (List.mem_of_getElem? (i := 40) (by decide +kernel))
theorem wi_3_5 : (Cond.instanceMethod yJxa1e45_init_da8c8) ∈ lw_tbl := wt_ (List.mem_of_getElem? (i := 41) (by decide +kernel))
theorem wi_3_6 : (Cond.initialized RJxa1e45) ∈ lw_tbl := wt_ (List.mem_of_getElem? (i := 3) (by decide +kernel))
theorem wi_3_7 : (Cond.code yJxa1e45_init_da8c8 cJxa1e45_init_da8c8 1 none) ∈ lw_tbl := wt_ (List.mem_append_left _ (List.mem_of_getElem? (i := 42) rfl : _ ∈ tables_1_1))
theorem wi_3_8 : (Cond.methodLink RJxa1e45 1 objectInit) ∈ lw_tbl := wt_ (List.mem_of_getElem? (i := 43) (by decide +kernel))
theorem wi_3_9 : (Cond.methodLink RX5 21 yJx4a65c_init_da8c8) ∈ lw_tbl := wt_ (List.mem_of_getElem? (i := 117) (by decide +kernel))
theorem wi_3_10 : (Cond.methodLink RX5 28 yX3_init) ∈ lw_tbl := wt_ (List.mem_of_getElem? (i := 120) (by decide +kernel))
theorem wi_3_11 : (Cond.instanceMethod yX3_init) ∈ lw_tbl := wt_ (List.mem_of_getElem? (i := 121) (by decide +kernel))
theorem wi_3_12 : (Cond.code yX3_init cX3_init 1 none) ∈ lw_tbl := wt_ (List.mem_append_left _ (List.mem_of_getElem? (i := 122) rfl : _ ∈ tables_1_1))
theorem wi_3_13 : (Cond.methodLink RX3 3 objectInit) ∈ lw_tbl := wt_ (List.mem_of_getElem? (i := 123) (by decide +kernel))
theorem wi_3_14 : (Cond.fieldLink RX3 9 "DriftPlans$Reckoner" "products" "[J") ∈ lw_tbl := wt_ (List.mem_of_getElem? (i := 124) (by decide +kernel))
theorem wi_3_15 : (Cond.fieldLink RX3 15 "DriftPlans$Reckoner" "leastCosts" "[J") ∈ lw_tbl := wt_ (List.mem_of_getElem? (i := 125) (by decide +kernel))
theorem wi_3_16 : (Cond.fieldLink RX3 18 "DriftPlans$Reckoner" "bestOrders" "[I") ∈ lw_tbl := wt_ (List.mem_of_getElem? (i := 126) (by decide +kernel))
theorem wi_3_17 : (Cond.instanceMethod yX1_init) ∈ lw_tbl := wt_ (List.mem_of_getElem? (i := 138) (by decide +kernel))
theorem wi_3_18 : (Cond.code yX1_init cX1_init 1 none) ∈ lw_tbl := wt_ (List.mem_append_left _ (List.mem_of_getElem? (i := 139) rfl : _ ∈ tables_1_1))
theorem wi_3_19 : (Cond.methodLink RX1 3 objectInit) ∈ lw_tbl := wt_ (List.mem_of_getElem? (i := 140) (by decide +kernel))
theorem wi_3_20 : (Cond.arrayClass .char) ∈ lw_tbl := wt_ (List.mem_of_getElem? (i := 149) (by decide +kernel))
theorem wi_3_21 : (Cond.fieldLink RX1 9 "DriftPlans$Pad" "signs" "[C") ∈ lw_tbl := wt_ (List.mem_of_getElem? (i := 141) (by decide +kernel))
theorem wi_3_22 : (Cond.fieldLink RX1 15 "DriftPlans$Pad" "length" "I") ∈ lw_tbl := wt_ (List.mem_of_getElem? (i := 142) (by decide +kernel))
theorem wi_3_23 : (Cond.methodLink RL 124 yL_cell) ∈ lw_tbl := wt_ (List.mem_of_getElem? (i := 172) (by decide +kernel))
theorem wc_3 : ∀ w ∈ wsL_law_r3, w ∈ lw_tbl := List.forall_mem_cons.mpr ⟨wi_3_0, List.forall_mem_cons.mpr ⟨wi_3_1, List.forall_mem_cons.mpr ⟨wi_3_2, List.forall_mem_cons.mpr ⟨wi_3_3, List.forall_mem_cons.mpr ⟨wi_3_4, List.forall_mem_cons.mpr ⟨wi_3_5, List.forall_mem_cons.mpr ⟨wi_3_6, List.forall_mem_cons.mpr ⟨wi_3_7, List.forall_mem_cons.mpr ⟨wi_3_8, List.forall_mem_cons.mpr ⟨wi_3_9, List.forall_mem_cons.mpr ⟨wi_3_10, List.forall_mem_cons.mpr ⟨wi_3_11, List.forall_mem_cons.mpr ⟨wi_3_12, List.forall_mem_cons.mpr ⟨wi_3_13, List.forall_mem_cons.mpr ⟨wi_3_14, List.forall_mem_cons.mpr ⟨wi_3_15, List.forall_mem_cons.mpr ⟨wi_3_16, List.forall_mem_cons.mpr ⟨wi_3_17, List.forall_mem_cons.mpr ⟨wi_3_18, List.forall_mem_cons.mpr ⟨wi_3_19, List.forall_mem_cons.mpr ⟨wi_3_20, List.forall_mem_cons.mpr ⟨wi_3_21, List.forall_mem_cons.mpr ⟨wi_3_22, List.forall_mem_cons.mpr ⟨wi_3_23, (fun _ h => absurd h List.not_mem_nil)⟩⟩⟩⟩⟩⟩⟩⟩⟩⟩⟩⟩⟩⟩⟩⟩⟩⟩⟩⟩⟩⟩⟩⟩
theorem wi_4_0 : (Cond.static yL_cell) ∈ lw_tbl := wt_ (List.mem_of_getElem? (i := 173) (by decide +kernel))
theorem wi_4_1 : (Cond.initialized RL) ∈ lw_tbl := wt_ (List.mem_of_getElem? (i := 0) (by decide +kernel))
theorem wi_4_2 : (Cond.code yL_cell cL_cell 2 (some .int)) ∈ lw_tbl := wt_ (List.mem_append_left _ (List.mem_of_getElem? (i := 174) rfl : _ ∈ tables_1_1))
theorem wi_4_3 : (Cond.constant RL 7 (40503)) ∈ lw_tbl := wt_ (List.mem_of_getElem? (i := 175) (by decide +kernel))
theorem wi_4_4 : (Cond.methodLink RL 128 yL_isActed) ∈ lw_tbl := wt_ (List.mem_of_getElem? (i := 383) (by decide +kernel))
theorem wi_4_5 : (Cond.static yL_isActed) ∈ lw_tbl := wt_ (List.mem_of_getElem? (i := 384) (by decide +kernel))
theorem wi_4_6 : (Cond.code yL_isActed cL_isActed 12 (some .boolean)) ∈ lw_tbl := wt_ (List.mem_append_right _ (List.mem_append_left _ (List.mem_of_getElem? (i := 145) rfl : _ ∈ tables_1_2)))
theorem wi_4_7 : (Cond.methodLink RL 97 yX5_rows) ∈ lw_tbl := wt_ (List.mem_of_getElem? (i := 386) (by decide +kernel))
theorem wi_4_8 : (Cond.instanceMethod yX5_rows) ∈ lw_tbl := wt_ (List.mem_of_getElem? (i := 387) (by decide +kernel))
theorem wi_4_9 : (Cond.selects RX5 yX5_rows yX5_rows) ∈ lw_tbl := wt_ (List.mem_of_getElem? (i := 388) (by decide +kernel))
theorem wi_4_10 : (Cond.code yX5_rows cX5_rows 4 (some .int)) ∈ lw_tbl := wt_ (List.mem_append_right _ (List.mem_append_left _ (List.mem_of_getElem? (i := 149) rfl : _ ∈ tables_1_2)))
theorem wi_4_11 : (Cond.fieldLink RX5 54 "DriftPlans$State" "rows" "[I") ∈ lw_tbl := wt_ (List.mem_of_getElem? (i := 60) (by decide +kernel))
theorem wi_4_12 : (Cond.methodLink RX5 47 yX5_isTable) ∈ lw_tbl := wt_ (List.mem_of_getElem? (i := 323) (by decide +kernel))
theorem wi_4_13 : (Cond.static yX5_isTable) ∈ lw_tbl := wt_ (List.mem_of_getElem? (i := 324) (by decide +kernel))
theorem wi_4_14 : (Cond.code yX5_isTable cX5_isTable 1 (some .boolean)) ∈ lw_tbl := wt_ (List.mem_append_right _ (List.mem_append_left _ (List.mem_of_getElem? (i := 85) rfl : _ ∈ tables_1_2)))
theorem wi_4_15 : (Cond.methodLink RX5 51 yX5_remember) ∈ lw_tbl := wt_ (List.mem_of_getElem? (i := 390) (by decide +kernel))
theorem wi_4_16 : (Cond.instanceMethod yX5_remember) ∈ lw_tbl := wt_ (List.mem_of_getElem? (i := 392) (by decide +kernel))
theorem wi_4_17 : (Cond.selects RX5 yX5_remember yX5_remember) ∈ lw_tbl := wp_ (List.mem_of_getElem? (i := 2) (by decide +kernel))
theorem wi_4_18 : (Cond.code yX5_remember cX5_remember 1 none) ∈ lw_tbl := wt_ (List.mem_append_right _ (List.mem_append_left _ (List.mem_of_getElem? (i := 153) rfl : _ ∈ tables_1_2)))
theorem wi_4_19 : (Cond.methodLink RX5 247 yX4_init_) ∈ lw_tbl := wt_ (List.mem_of_getElem? (i := 394) (by decide +kernel))
theorem wi_4_20 : (Cond.instanceMethod yX4_init_) ∈ lw_tbl := wt_ (List.mem_of_getElem? (i := 395) (by decide +kernel))
theorem wi_4_21 : (Cond.code yX4_init_ cX4_init_ 4 none) ∈ lw_tbl := wt_ (List.mem_append_right _ (List.mem_append_left _ (List.mem_of_getElem? (i := 156) rfl : _ ∈ tables_1_2)))
theorem wi_4_22 : (Cond.classLink RX4 42 "DriftPlans$Kept") ∈ lw_tbl := wt_ (List.mem_of_getElem? (i := 219) (by decide +kernel))
theorem wi_4_23 : (Cond.fieldLink RX4 48 "DriftPlans$State" "hits" "J") ∈ lw_tbl := wt_ (List.mem_of_getElem? (i := 69) (by decide +kernel))
theorem wc_4 : ∀ w ∈ wsL_law_r4, w ∈ lw_tbl := List.forall_mem_cons.mpr ⟨wi_4_0, List.forall_mem_cons.mpr ⟨wi_4_1, List.forall_mem_cons.mpr ⟨wi_4_2, List.forall_mem_cons.mpr ⟨wi_4_3, List.forall_mem_cons.mpr ⟨wi_4_4, List.forall_mem_cons.mpr ⟨wi_4_5, List.forall_mem_cons.mpr ⟨wi_4_6, List.forall_mem_cons.mpr ⟨wi_4_7, List.forall_mem_cons.mpr ⟨wi_4_8, List.forall_mem_cons.mpr ⟨wi_4_9, List.forall_mem_cons.mpr ⟨wi_4_10, List.forall_mem_cons.mpr ⟨wi_4_11, List.forall_mem_cons.mpr ⟨wi_4_12, List.forall_mem_cons.mpr ⟨wi_4_13, List.forall_mem_cons.mpr ⟨wi_4_14, List.forall_mem_cons.mpr ⟨wi_4_15, List.forall_mem_cons.mpr ⟨wi_4_16, List.forall_mem_cons.mpr ⟨wi_4_17, List.forall_mem_cons.mpr ⟨wi_4_18, List.forall_mem_cons.mpr ⟨wi_4_19, List.forall_mem_cons.mpr ⟨wi_4_20, List.forall_mem_cons.mpr ⟨wi_4_21, List.forall_mem_cons.mpr ⟨wi_4_22, List.forall_mem_cons.mpr ⟨wi_4_23, (fun _ h => absurd h List.not_mem_nil)⟩⟩⟩⟩⟩⟩⟩⟩⟩⟩⟩⟩⟩⟩⟩⟩⟩⟩⟩⟩⟩⟩⟩⟩
theorem wi_5_0 : (Cond.fieldLink RX4 52 "DriftPlans$State" "misses" "J") ∈ lw_tbl := wt_ (List.mem_of_getElem? (i := 71) (by decide +kernel))
theorem wi_5_1 : (Cond.fieldLink RX4 55 "DriftPlans$State" "runCosts" "J") ∈ lw_tbl := wt_ (List.mem_of_getElem? (i := 73) (by decide +kernel))
theorem wi_5_2 : (Cond.fieldLink RX4 58 "DriftPlans$State" "makingCosts" "J") ∈ lw_tbl := wt_ (List.mem_of_getElem? (i := 75) (by decide +kernel))
theorem wi_5_3 : (Cond.fieldLink RX4 61 "DriftPlans$State" "driftedOut" "J") ∈ lw_tbl := wt_ (List.mem_of_getElem? (i := 77) (by decide +kernel))
theorem wi_5_4 : (Cond.fieldLink RX4 64 "DriftPlans$State" "pushedOut" "J") ∈ lw_tbl := wt_ (List.mem_of_getElem? (i := 79) (by decide +kernel))
theorem wi_5_5 : (Cond.fieldLink RX4 67 "DriftPlans$State" "joinedOut" "J") ∈ lw_tbl := wt_ (List.mem_of_getElem? (i := 81) (by decide +kernel))
theorem wi_5_6 : (Cond.fieldLink RX4 70 "DriftPlans$State" "forgotten" "J") ∈ lw_tbl := wt_ (List.mem_of_getElem? (i := 83) (by decide +kernel))
theorem wi_5_7 : (Cond.fieldLink RX4 73 "DriftPlans$State" "usedOnly" "J") ∈ lw_tbl := wt_ (List.mem_of_getElem? (i := 85) (by decide +kernel))
theorem wi_5_8 : (Cond.methodLink RX4 34 yJx4a65c_size_8abf5) ∈ lw_tbl := wt_ (List.mem_of_getElem? (i := 201) (by decide +kernel))
theorem wi_5_9 : (Cond.instanceMethod yJx4a65c_size_8abf5) ∈ lw_tbl := wt_ (List.mem_of_getElem? (i := 202) (by decide +kernel))
theorem wi_5_10 : (Cond.selects RJx4a65c yJx4a65c_size_8abf5 yJx4a65c_size_8abf5) ∈ lw_tbl := wt_ (List.mem_of_getElem? (i := 203) (by decide +kernel))
theorem wi_5_11 : (Cond.code yJx4a65c_size_8abf5 cJx4a65c_size_8abf5 1 (some .int)) ∈ lw_tbl := wt_ (List.mem_append_left _ (List.mem_of_getElem? (i := 204) rfl : _ ∈ tables_1_1))
theorem wi_5_12 : (Cond.fieldLink RJx4a65c 48 "java/util/ArrayList" "size" "I") ∈ lw_tbl := wt_ (List.mem_of_getElem? (i := 47) (by decide +kernel))
theorem wi_5_13 : (Cond.methodLink RX4 38 yJx4a65c_get_915e3) ∈ lw_tbl := wt_ (List.mem_of_getElem? (i := 205) (by decide +kernel))
theorem wi_5_14 : (Cond.instanceMethod yJx4a65c_get_915e3) ∈ lw_tbl := wt_ (List.mem_of_getElem? (i := 206) (by decide +kernel))
theorem wi_5_15 : (Cond.selects RJx4a65c yJx4a65c_get_915e3 yJx4a65c_get_915e3) ∈ lw_tbl := wt_ (List.mem_of_getElem? (i := 207) (by decide +kernel))
theorem wi_5_16 : (Cond.code yJx4a65c_get_915e3 cJx4a65c_get_915e3 2 (some (.object "java/lang/Object"))) ∈ lw_tbl := wt_ (List.mem_append_left _ (List.mem_of_getElem? (i := 208) rfl : _ ∈ tables_1_1))
theorem wi_5_17 : (Cond.methodLink RJx4a65c 118 yJ15_checkIndex_7cf53) ∈ lw_tbl := wt_ (List.mem_of_getElem? (i := 209) (by decide +kernel))
theorem wi_5_18 : (Cond.static yJ15_checkIndex_7cf53) ∈ lw_tbl := wt_ (List.mem_of_getElem? (i := 210) (by decide +kernel))
theorem wi_5_19 : (Cond.initialized RJ15) ∈ lw_tbl := wt_ (List.mem_of_getElem? (i := 8) (by decide +kernel))
theorem wi_5_20 : (Cond.code yJ15_checkIndex_7cf53 cJ15_checkIndex_7cf53 2 (some .int)) ∈ lw_tbl := wt_ (List.mem_append_left _ (List.mem_of_getElem? (i := 211) rfl : _ ∈ tables_1_1))
theorem wi_5_21 : (Cond.methodLink RJ15 105 yJ3_checkIndex_8e157) ∈ lw_tbl := wt_ (List.mem_of_getElem? (i := 212) (by decide +kernel))
theorem wi_5_22 : (Cond.static yJ3_checkIndex_8e157) ∈ lw_tbl := wt_ (List.mem_of_getElem? (i := 213) (by decide +kernel))
theorem wi_5_23 : (Cond.initialized RJ3) ∈ lw_tbl := wt_ (List.mem_of_getElem? (i := 9) (by decide +kernel))
theorem wc_5 : ∀ w ∈ wsL_law_r5, w ∈ lw_tbl := List.forall_mem_cons.mpr ⟨wi_5_0, List.forall_mem_cons.mpr ⟨wi_5_1, List.forall_mem_cons.mpr ⟨wi_5_2, List.forall_mem_cons.mpr ⟨wi_5_3, List.forall_mem_cons.mpr ⟨wi_5_4, List.forall_mem_cons.mpr ⟨wi_5_5, List.forall_mem_cons.mpr ⟨wi_5_6, List.forall_mem_cons.mpr ⟨wi_5_7, List.forall_mem_cons.mpr ⟨wi_5_8, List.forall_mem_cons.mpr ⟨wi_5_9, List.forall_mem_cons.mpr ⟨wi_5_10, List.forall_mem_cons.mpr ⟨wi_5_11, List.forall_mem_cons.mpr ⟨wi_5_12, List.forall_mem_cons.mpr ⟨wi_5_13, List.forall_mem_cons.mpr ⟨wi_5_14, List.forall_mem_cons.mpr ⟨wi_5_15, List.forall_mem_cons.mpr ⟨wi_5_16, List.forall_mem_cons.mpr ⟨wi_5_17, List.forall_mem_cons.mpr ⟨wi_5_18, List.forall_mem_cons.mpr ⟨wi_5_19, List.forall_mem_cons.mpr ⟨wi_5_20, List.forall_mem_cons.mpr ⟨wi_5_21, List.forall_mem_cons.mpr ⟨wi_5_22, List.forall_mem_cons.mpr ⟨wi_5_23, (fun _ h => absurd h List.not_mem_nil)⟩⟩⟩⟩⟩⟩⟩⟩⟩⟩⟩⟩⟩⟩⟩⟩⟩⟩⟩⟩⟩⟩⟩⟩
theorem wi_6_0 : (Cond.code yJ3_checkIndex_8e157 cJ3_checkIndex_8e157 3 (some .int)) ∈ lw_tbl := wt_ (List.mem_append_left _ (List.mem_of_getElem? (i := 214) rfl : _ ∈ tables_1_1))
theorem wi_6_1 : (Cond.methodLink RJx4a65c 123 yJx4a65c_elementData_915e3) ∈ lw_tbl := wt_ (List.mem_of_getElem? (i := 215) (by decide +kernel))
theorem wi_6_2 : (Cond.instanceMethod yJx4a65c_elementData_915e3) ∈ lw_tbl := wt_ (List.mem_of_getElem? (i := 216) (by decide +kernel))
theorem wi_6_3 : (Cond.selects RJx4a65c yJx4a65c_elementData_915e3 yJx4a65c_elementData_915e3) ∈ lw_tbl := wt_ (List.mem_of_getElem? (i := 217) (by decide +kernel))
theorem wi_6_4 : (Cond.code yJx4a65c_elementData_915e3 cJx4a65c_elementData_915e3 2 (some (.object "java/lang/Object"))) ∈ lw_tbl := wt_ (List.mem_append_left _ (List.mem_of_getElem? (i := 218) rfl : _ ∈ tables_1_1))
theorem wi_6_5 : (Cond.methodLink RX4 44 yJx4a65c_add_9ea2d) ∈ lw_tbl := wt_ (List.mem_of_getElem? (i := 397) (by decide +kernel))
theorem wi_6_6 : (Cond.instanceMethod yJx4a65c_add_9ea2d) ∈ lw_tbl := wt_ (List.mem_of_getElem? (i := 398) (by decide +kernel))
theorem wi_6_7 : (Cond.selects RJx4a65c yJx4a65c_add_9ea2d yJx4a65c_add_9ea2d) ∈ lw_tbl := wt_ (List.mem_of_getElem? (i := 399) (by decide +kernel))
theorem wi_6_8 : (Cond.code yJx4a65c_add_9ea2d cJx4a65c_add_9ea2d 2 (some .boolean)) ∈ lw_tbl := wt_ (List.mem_append_right _ (List.mem_append_left _ (List.mem_of_getElem? (i := 160) rfl : _ ∈ tables_1_2)))
theorem wi_6_9 : (Cond.fieldLink RJx4a65c 63 "java/util/ArrayList" "modCount" "I") ∈ lw_tbl := wt_ (List.mem_of_getElem? (i := 49) (by decide +kernel))
theorem wi_6_10 : (Cond.sameField "java/util/ArrayList" "java/util/AbstractList" "modCount" "I") ∈ lw_tbl := wt_ (List.mem_of_getElem? (i := 50) (by decide +kernel))
theorem wi_6_11 : (Cond.methodLink RJx4a65c 131 yJx4a65c_add_72be8) ∈ lw_tbl := wt_ (List.mem_of_getElem? (i := 401) (by decide +kernel))
theorem wi_6_12 : (Cond.instanceMethod yJx4a65c_add_72be8) ∈ lw_tbl := wt_ (List.mem_of_getElem? (i := 403) (by decide +kernel))
theorem wi_6_13 : (Cond.selects RJx4a65c yJx4a65c_add_72be8 yJx4a65c_add_72be8) ∈ lw_tbl := wp_ (List.mem_of_getElem? (i := 3) (by decide +kernel))
theorem wi_6_14 : (Cond.code yJx4a65c_add_72be8 cJx4a65c_add_72be8 4 none) ∈ lw_tbl := wt_ (List.mem_append_right _ (List.mem_append_left _ (List.mem_of_getElem? (i := 164) rfl : _ ∈ tables_1_2)))
theorem wi_6_15 : (Cond.methodLink RJx4a65c 129 yJx4a65c_grow_d5877) ∈ lw_tbl := wt_ (List.mem_of_getElem? (i := 405) (by decide +kernel))
theorem wi_6_16 : (Cond.instanceMethod yJx4a65c_grow_d5877) ∈ lw_tbl := wt_ (List.mem_of_getElem? (i := 407) (by decide +kernel))
theorem wi_6_17 : (Cond.selects RJx4a65c yJx4a65c_grow_d5877 yJx4a65c_grow_d5877) ∈ lw_tbl := wp_ (List.mem_of_getElem? (i := 4) (by decide +kernel))
theorem wi_6_18 : (Cond.code yJx4a65c_grow_d5877 cJx4a65c_grow_d5877 1 (some (.array (.object "java/lang/Object")))) ∈ lw_tbl := wt_ (List.mem_append_right _ (List.mem_append_left _ (List.mem_of_getElem? (i := 168) rfl : _ ∈ tables_1_2)))
theorem wi_6_19 : (Cond.methodLink RJx4a65c 69 yJx4a65c_grow_92f84) ∈ lw_tbl := wt_ (List.mem_of_getElem? (i := 409) (by decide +kernel))
theorem wi_6_20 : (Cond.instanceMethod yJx4a65c_grow_92f84) ∈ lw_tbl := wt_ (List.mem_of_getElem? (i := 411) (by decide +kernel))
theorem wi_6_21 : (Cond.selects RJx4a65c yJx4a65c_grow_92f84 yJx4a65c_grow_92f84) ∈ lw_tbl := wp_ (List.mem_of_getElem? (i := 5) (by decide +kernel))
theorem wi_6_22 : (Cond.code yJx4a65c_grow_92f84 cJx4a65c_grow_92f84 4 (some (.array (.object "java/lang/Object")))) ∈ lw_tbl := wt_ (List.mem_append_right _ (List.mem_append_left _ (List.mem_of_getElem? (i := 172) rfl : _ ∈ tables_1_2)))
theorem wi_6_23 : (Cond.methodLink RJx4a65c 79 Lib.Math.max.name) ∈ lw_tbl := wt_ (List.mem_of_getElem? (i := 444) (by decide +kernel))
theorem wc_6 : ∀ w ∈ wsL_law_r6, w ∈ lw_tbl := List.forall_mem_cons.mpr ⟨wi_6_0, List.forall_mem_cons.mpr ⟨wi_6_1, List.forall_mem_cons.mpr ⟨wi_6_2, List.forall_mem_cons.mpr ⟨wi_6_3, List.forall_mem_cons.mpr ⟨wi_6_4, List.forall_mem_cons.mpr ⟨wi_6_5, List.forall_mem_cons.mpr ⟨wi_6_6, List.forall_mem_cons.mpr ⟨wi_6_7, List.forall_mem_cons.mpr ⟨wi_6_8, List.forall_mem_cons.mpr ⟨wi_6_9, List.forall_mem_cons.mpr ⟨wi_6_10, List.forall_mem_cons.mpr ⟨wi_6_11, List.forall_mem_cons.mpr ⟨wi_6_12, List.forall_mem_cons.mpr ⟨wi_6_13, List.forall_mem_cons.mpr ⟨wi_6_14, List.forall_mem_cons.mpr ⟨wi_6_15, List.forall_mem_cons.mpr ⟨wi_6_16, List.forall_mem_cons.mpr ⟨wi_6_17, List.forall_mem_cons.mpr ⟨wi_6_18, List.forall_mem_cons.mpr ⟨wi_6_19, List.forall_mem_cons.mpr ⟨wi_6_20, List.forall_mem_cons.mpr ⟨wi_6_21, List.forall_mem_cons.mpr ⟨wi_6_22, List.forall_mem_cons.mpr ⟨wi_6_23, (fun _ h => absurd h List.not_mem_nil)⟩⟩⟩⟩⟩⟩⟩⟩⟩⟩⟩⟩⟩⟩⟩⟩⟩⟩⟩⟩⟩⟩⟩⟩
theorem wi_7_0 : (Cond.static Lib.Math.max.name) ∈ lw_tbl := wt_ (List.mem_of_getElem? (i := 288) (by decide +kernel))
theorem wi_7_1 : (Cond.initialized "java/lang/Math") ∈ lw_tbl := wt_ (List.mem_of_getElem? (i := 11) (by decide +kernel))
theorem wi_7_2 : (Cond.code Lib.Math.max.name Lib.Math.max.code 2 (some .int)) ∈ lw_tbl := wt_ (List.mem_append_right _ (List.mem_append_left _ (List.mem_of_getElem? (i := 49) rfl : _ ∈ tables_1_2)))
theorem wi_7_3 : (Cond.classLink RJx4a65c 7 "java/lang/Object") ∈ lw_tbl := wt_ (List.mem_of_getElem? (i := 445) (by decide +kernel))
theorem wi_7_4 : (Cond.methodLink RJx4a65c 73 yJ8_newLength_cabcc) ∈ lw_tbl := wt_ (List.mem_of_getElem? (i := 413) (by decide +kernel))
theorem wi_7_5 : (Cond.static yJ8_newLength_cabcc) ∈ lw_tbl := wt_ (List.mem_of_getElem? (i := 414) (by decide +kernel))
theorem wi_7_6 : (Cond.initialized RJ8) ∈ lw_tbl := wt_ (List.mem_of_getElem? (i := 10) (by decide +kernel))
theorem wi_7_7 : (Cond.code yJ8_newLength_cabcc cJ8_newLength_cabcc 4 (some .int)) ∈ lw_tbl := wt_ (List.mem_append_right _ (List.mem_append_left _ (List.mem_of_getElem? (i := 175) rfl : _ ∈ tables_1_2)))
theorem wi_7_8 : (Cond.methodLink RJ8 194 Lib.Math.max.name) ∈ lw_tbl := wt_ (List.mem_of_getElem? (i := 416) (by decide +kernel))
theorem wi_7_9 : (Cond.constant RJ8 200 (2147483639)) ∈ lw_tbl := wt_ (List.mem_of_getElem? (i := 417) (by decide +kernel))
theorem wi_7_10 : (Cond.methodLink RJ8 201 yJ8_hugeLength_7cf53) ∈ lw_tbl := wt_ (List.mem_of_getElem? (i := 418) (by decide +kernel))
theorem wi_7_11 : (Cond.static yJ8_hugeLength_7cf53) ∈ lw_tbl := wt_ (List.mem_of_getElem? (i := 419) (by decide +kernel))
theorem wi_7_12 : (Cond.code yJ8_hugeLength_7cf53 cJ8_hugeLength_7cf53 3 (some .int)) ∈ lw_tbl := wt_ (List.mem_append_right _ (List.mem_append_left _ (List.mem_of_getElem? (i := 180) rfl : _ ∈ tables_1_2)))
theorem wi_7_13 : (Cond.methodLink RJx4a65c 66 yJ7_copyOf_1904c) ∈ lw_tbl := wt_ (List.mem_of_getElem? (i := 421) (by decide +kernel))
theorem wi_7_14 : (Cond.static yJ7_copyOf_1904c) ∈ lw_tbl := wt_ (List.mem_of_getElem? (i := 422) (by decide +kernel))
theorem wi_7_15 : (Cond.initialized RJ7) ∈ lw_tbl := wt_ (List.mem_of_getElem? (i := 12) (by decide +kernel))
theorem wi_7_16 : (Cond.code yJ7_copyOf_1904c cJ7_copyOf_1904c 2 (some (.array (.object "java/lang/Object")))) ∈ lw_tbl := wt_ (List.mem_append_right _ (List.mem_append_left _ (List.mem_of_getElem? (i := 183) rfl : _ ∈ tables_1_2)))
theorem wi_7_17 : (Cond.methodLink RJ7 86 ⟨"java/lang/Object", "getClass", "()Ljava/lang/Class;"⟩) ∈ lw_tbl := wt_ (List.mem_of_getElem? (i := 424) (by decide +kernel))
theorem wi_7_18 : (Cond.selects "[Ljava/lang/Object;" ⟨"java/lang/Object", "getClass", "()Ljava/lang/Class;"⟩ ⟨"java/lang/Object", "getClass", "()Ljava/lang/Class;"⟩) ∈ lw_tbl := wt_ (List.mem_of_getElem? (i := 587) (by decide +kernel))
theorem wi_7_19 : (Cond.instanceMethod ⟨"java/lang/Object", "getClass", "()Ljava/lang/Class;"⟩) ∈ lw_tbl := wt_ (List.mem_of_getElem? (i := 425) (by decide +kernel))
theorem wi_7_20 : (Cond.native ⟨"java/lang/Object", "getClass", "()Ljava/lang/Class;"⟩) ∈ lw_tbl := wt_ (List.mem_of_getElem? (i := 433) (by decide +kernel))
theorem wi_7_21 : (Cond.methodLink RJ7 300 yJ7_copyOf_6403c) ∈ lw_tbl := wt_ (List.mem_of_getElem? (i := 434) (by decide +kernel))
theorem wi_7_22 : (Cond.static yJ7_copyOf_6403c) ∈ lw_tbl := wt_ (List.mem_of_getElem? (i := 435) (by decide +kernel))
theorem wi_7_23 : (Cond.code yJ7_copyOf_6403c cJ7_copyOf_6403c 4 (some (.array (.object "java/lang/Object")))) ∈ lw_tbl := wt_ (List.mem_append_right _ (List.mem_append_left _ (List.mem_of_getElem? (i := 196) rfl : _ ∈ tables_1_2)))
theorem wc_7 : ∀ w ∈ wsL_law_r7, w ∈ lw_tbl := List.forall_mem_cons.mpr ⟨wi_7_0, List.forall_mem_cons.mpr ⟨wi_7_1, List.forall_mem_cons.mpr ⟨wi_7_2, List.forall_mem_cons.mpr ⟨wi_7_3, List.forall_mem_cons.mpr ⟨wi_7_4, List.forall_mem_cons.mpr ⟨wi_7_5, List.forall_mem_cons.mpr ⟨wi_7_6, List.forall_mem_cons.mpr ⟨wi_7_7, List.forall_mem_cons.mpr ⟨wi_7_8, List.forall_mem_cons.mpr ⟨wi_7_9, List.forall_mem_cons.mpr ⟨wi_7_10, List.forall_mem_cons.mpr ⟨wi_7_11, List.forall_mem_cons.mpr ⟨wi_7_12, List.forall_mem_cons.mpr ⟨wi_7_13, List.forall_mem_cons.mpr ⟨wi_7_14, List.forall_mem_cons.mpr ⟨wi_7_15, List.forall_mem_cons.mpr ⟨wi_7_16, List.forall_mem_cons.mpr ⟨wi_7_17, List.forall_mem_cons.mpr ⟨wi_7_18, List.forall_mem_cons.mpr ⟨wi_7_19, List.forall_mem_cons.mpr ⟨wi_7_20, List.forall_mem_cons.mpr ⟨wi_7_21, List.forall_mem_cons.mpr ⟨wi_7_22, List.forall_mem_cons.mpr ⟨wi_7_23, (fun _ h => absurd h List.not_mem_nil)⟩⟩⟩⟩⟩⟩⟩⟩⟩⟩⟩⟩⟩⟩⟩⟩⟩⟩⟩⟩⟩⟩⟩⟩
theorem wi_8_0 : (Cond.classLink RJ7 110 "[Ljava/lang/Object;") ∈ lw_tbl := wt_ (List.mem_of_getElem? (i := 437) (by decide +kernel))
theorem wi_8_1 : (Cond.classLink RJ7 2 "java/lang/Object") ∈ lw_tbl := wt_ (List.mem_of_getElem? (i := 439) (by decide +kernel))
theorem wi_8_2 : (Cond.methodLink RJ7 304 Lib.Math.min.name) ∈ lw_tbl := wt_ (List.mem_of_getElem? (i := 440) (by decide +kernel))
theorem wi_8_3 : (Cond.static Lib.Math.min.name) ∈ lw_tbl := wt_ (List.mem_of_getElem? (i := 291) (by decide +kernel))
theorem wi_8_4 : (Cond.code Lib.Math.min.name Lib.Math.min.code 2 (some .int)) ∈ lw_tbl := wt_ (List.mem_append_right _ (List.mem_append_left _ (List.mem_of_getElem? (i := 52) rfl : _ ∈ tables_1_2)))
theorem wi_8_5 : (Cond.methodLink RJ7 150 arraycopyName) ∈ lw_tbl := wt_ (List.mem_of_getElem? (i := 441) (by decide +kernel))
theorem wi_8_6 : (Cond.native arraycopyName) ∈ lw_tbl := wt_ (List.mem_of_getElem? (i := 443) (by decide +kernel))
theorem wi_8_7 : (Cond.static arraycopyName) ∈ lw_tbl := wt_ (List.mem_of_getElem? (i := 442) (by decide +kernel))
theorem wi_8_8 : (Cond.initialized "java/lang/System") ∈ lw_tbl := wt_ (List.mem_of_getElem? (i := 13) (by decide +kernel))
theorem wi_8_9 : (Cond.methodLink RX5 250 yJx4a65c_add_9ea2d) ∈ lw_tbl := wt_ (List.mem_of_getElem? (i := 446) (by decide +kernel))
theorem wi_8_10 : (Cond.methodLink RX5 202 yJx4a65c_size_8abf5) ∈ lw_tbl := wt_ (List.mem_of_getElem? (i := 306) (by decide +kernel))
theorem wi_8_11 : (Cond.methodLink RX5 115 yJx4a65c_remove_915e3) ∈ lw_tbl := wt_ (List.mem_of_getElem? (i := 447) (by decide +kernel))
theorem wi_8_12 : (Cond.instanceMethod yJx4a65c_remove_915e3) ∈ lw_tbl := wt_ (List.mem_of_getElem? (i := 448) (by decide +kernel))
theorem wi_8_13 : (Cond.selects RJx4a65c yJx4a65c_remove_915e3 yJx4a65c_remove_915e3) ∈ lw_tbl := wt_ (List.mem_of_getElem? (i := 449) (by decide +kernel))
theorem wi_8_14 : (Cond.code yJx4a65c_remove_915e3 cJx4a65c_remove_915e3 4 (some (.object "java/lang/Object"))) ∈ lw_tbl := wt_ (List.mem_append_right _ (List.mem_append_left _ (List.mem_of_getElem? (i := 210) rfl : _ ∈ tables_1_2)))
theorem wi_8_15 : (Cond.methodLink RJx4a65c 144 yJx4a65c_fastRemove_b59b0) ∈ lw_tbl := wt_ (List.mem_of_getElem? (i := 451) (by decide +kernel))
theorem wi_8_16 : (Cond.instanceMethod yJx4a65c_fastRemove_b59b0) ∈ lw_tbl := wt_ (List.mem_of_getElem? (i := 453) (by decide +kernel))
theorem wi_8_17 : (Cond.selects RJx4a65c yJx4a65c_fastRemove_b59b0 yJx4a65c_fastRemove_b59b0) ∈ lw_tbl := wp_ (List.mem_of_getElem? (i := 6) (by decide +kernel))
theorem wi_8_18 : (Cond.code yJx4a65c_fastRemove_b59b0 cJx4a65c_fastRemove_b59b0 4 none) ∈ lw_tbl := wt_ (List.mem_append_right _ (List.mem_append_left _ (List.mem_of_getElem? (i := 214) rfl : _ ∈ tables_1_2)))
theorem wi_8_19 : (Cond.methodLink RJx4a65c 112 arraycopyName) ∈ lw_tbl := wt_ (List.mem_of_getElem? (i := 455) (by decide +kernel))
theorem wi_8_20 : (Cond.methodLink RL 100 yL_isPart) ∈ lw_tbl := wt_ (List.mem_of_getElem? (i := 456) (by decide +kernel))
theorem wi_8_21 : (Cond.static yL_isPart) ∈ lw_tbl := wt_ (List.mem_of_getElem? (i := 457) (by decide +kernel))
theorem wi_8_22 : (Cond.code yL_isPart cL_isPart 9 (some .boolean)) ∈ lw_tbl := wt_ (List.mem_append_right _ (List.mem_append_left _ (List.mem_of_getElem? (i := 218) rfl : _ ∈ tables_1_2)))
theorem wi_8_23 : (Cond.methodLink RL 90 yX5_part) ∈ lw_tbl := wt_ (List.mem_of_getElem? (i := 459) (by decide +kernel))
theorem wc_8 : ∀ w ∈ wsL_law_r8, w ∈ lw_tbl := List.forall_mem_cons.mpr ⟨wi_8_0, List.forall_mem_cons.mpr ⟨wi_8_1, List.forall_mem_cons.mpr ⟨wi_8_2, List.forall_mem_cons.mpr ⟨wi_8_3, List.forall_mem_cons.mpr ⟨wi_8_4, List.forall_mem_cons.mpr ⟨wi_8_5, List.forall_mem_cons.mpr ⟨wi_8_6, List.forall_mem_cons.mpr ⟨wi_8_7, List.forall_mem_cons.mpr ⟨wi_8_8, List.forall_mem_cons.mpr ⟨wi_8_9, List.forall_mem_cons.mpr ⟨wi_8_10, List.forall_mem_cons.mpr ⟨wi_8_11, List.forall_mem_cons.mpr ⟨wi_8_12, List.forall_mem_cons.mpr ⟨wi_8_13, List.forall_mem_cons.mpr ⟨wi_8_14, List.forall_mem_cons.mpr ⟨wi_8_15, List.forall_mem_cons.mpr ⟨wi_8_16, List.forall_mem_cons.mpr ⟨wi_8_17, List.forall_mem_cons.mpr ⟨wi_8_18, List.forall_mem_cons.mpr ⟨wi_8_19, List.forall_mem_cons.mpr ⟨wi_8_20, List.forall_mem_cons.mpr ⟨wi_8_21, List.forall_mem_cons.mpr ⟨wi_8_22, List.forall_mem_cons.mpr ⟨wi_8_23, (fun _ h => absurd h List.not_mem_nil)⟩⟩⟩⟩⟩⟩⟩⟩⟩⟩⟩⟩⟩⟩⟩⟩⟩⟩⟩⟩⟩⟩⟩⟩
theorem wi_9_0 : (Cond.instanceMethod yX5_part) ∈ lw_tbl := wt_ (List.mem_of_getElem? (i := 460) (by decide +kernel))
theorem wi_9_1 : (Cond.selects RX5 yX5_part yX5_part) ∈ lw_tbl := wt_ (List.mem_of_getElem? (i := 461) (by decide +kernel))
theorem wi_9_2 : (Cond.code yX5_part cX5_part 4 (some .int)) ∈ lw_tbl := wt_ (List.mem_append_right _ (List.mem_append_left _ (List.mem_of_getElem? (i := 222) rfl : _ ∈ tables_1_2)))
theorem wi_9_3 : (Cond.fieldLink RX5 62 "DriftPlans$State" "parts" "[[I") ∈ lw_tbl := wt_ (List.mem_of_getElem? (i := 64) (by decide +kernel))
theorem wi_9_4 : (Cond.methodLink RX5 58 yX5_isJoin) ∈ lw_tbl := wt_ (List.mem_of_getElem? (i := 343) (by decide +kernel))
theorem wi_9_5 : (Cond.static yX5_isJoin) ∈ lw_tbl := wt_ (List.mem_of_getElem? (i := 344) (by decide +kernel))
theorem wi_9_6 : (Cond.code yX5_isJoin cX5_isJoin 2 (some .boolean)) ∈ lw_tbl := wt_ (List.mem_append_right _ (List.mem_append_left _ (List.mem_of_getElem? (i := 105) rfl : _ ∈ tables_1_2)))
theorem wi_9_7 : (Cond.methodLink RX5 66 yX5_bit) ∈ lw_tbl := wt_ (List.mem_of_getElem? (i := 331) (by decide +kernel))
theorem wi_9_8 : (Cond.static yX5_bit) ∈ lw_tbl := wt_ (List.mem_of_getElem? (i := 231) (by decide +kernel))
theorem wi_9_9 : (Cond.code yX5_bit cX5_bit 1 (some .int)) ∈ lw_tbl := wt_ (List.mem_append_left _ (List.mem_of_getElem? (i := 232) rfl : _ ∈ tables_1_1))
theorem wi_9_10 : (Cond.methodLink RX5 70 yX4_throwOutJoins) ∈ lw_tbl := wt_ (List.mem_of_getElem? (i := 463) (by decide +kernel))
theorem wi_9_11 : (Cond.instanceMethod yX4_throwOutJoins) ∈ lw_tbl := wt_ (List.mem_of_getElem? (i := 464) (by decide +kernel))
theorem wi_9_12 : (Cond.selects RX4 yX4_throwOutJoins yX4_throwOutJoins) ∈ lw_tbl := wt_ (List.mem_of_getElem? (i := 465) (by decide +kernel))
theorem wi_9_13 : (Cond.code yX4_throwOutJoins cX4_throwOutJoins 5 (some .int)) ∈ lw_tbl := wt_ (List.mem_append_right _ (List.mem_append_left _ (List.mem_of_getElem? (i := 226) rfl : _ ∈ tables_1_2)))
theorem wi_9_14 : (Cond.fieldLink RX4 83 "DriftPlans$Kept" "pinned" "Z") ∈ lw_tbl := wt_ (List.mem_of_getElem? (i := 523) (by decide +kernel))
theorem wi_9_15 : (Cond.fieldLink RX4 76 "DriftPlans$Kept" "shape" "I") ∈ lw_tbl := wt_ (List.mem_of_getElem? (i := 512) (by decide +kernel))
theorem wi_9_16 : (Cond.static yX5_hasAll) ∈ lw_tbl := wt_ (List.mem_of_getElem? (i := 337) (by decide +kernel))
theorem wi_9_17 : (Cond.code yX5_hasAll cX5_hasAll 2 (some .boolean)) ∈ lw_tbl := wt_ (List.mem_append_right _ (List.mem_append_left _ (List.mem_of_getElem? (i := 98) rfl : _ ∈ tables_1_2)))
theorem wi_9_18 : (Cond.methodLink RX4 101 yJx4a65c_remove_915e3) ∈ lw_tbl := wt_ (List.mem_of_getElem? (i := 467) (by decide +kernel))
theorem wi_9_19 : (Cond.methodLink RL 31 yL_out) ∈ lw_tbl := wt_ (List.mem_of_getElem? (i := 468) (by decide +kernel))
theorem wi_9_20 : (Cond.static yL_out) ∈ lw_tbl := wt_ (List.mem_of_getElem? (i := 469) (by decide +kernel))
theorem wi_9_21 : (Cond.code yL_out cL_out 4 none) ∈ lw_tbl := wt_ (List.mem_append_right _ (List.mem_append_left _ (List.mem_of_getElem? (i := 230) rfl : _ ∈ tables_1_2)))
theorem wi_9_22 : (Cond.methodLink RL 53 yL_thrown) ∈ lw_tbl := wt_ (List.mem_of_getElem? (i := 471) (by decide +kernel))
theorem wi_9_23 : (Cond.static yL_thrown) ∈ lw_tbl := wt_ (List.mem_of_getElem? (i := 472) (by decide +kernel))
theorem wc_9 : ∀ w ∈ wsL_law_r9, w ∈ lw_tbl := List.forall_mem_cons.mpr ⟨wi_9_0, List.forall_mem_cons.mpr ⟨wi_9_1, List.forall_mem_cons.mpr ⟨wi_9_2, List.forall_mem_cons.mpr ⟨wi_9_3, List.forall_mem_cons.mpr ⟨wi_9_4, List.forall_mem_cons.mpr ⟨wi_9_5, List.forall_mem_cons.mpr ⟨wi_9_6, List.forall_mem_cons.mpr ⟨wi_9_7, List.forall_mem_cons.mpr ⟨wi_9_8, List.forall_mem_cons.mpr ⟨wi_9_9, List.forall_mem_cons.mpr ⟨wi_9_10, List.forall_mem_cons.mpr ⟨wi_9_11, List.forall_mem_cons.mpr ⟨wi_9_12, List.forall_mem_cons.mpr ⟨wi_9_13, List.forall_mem_cons.mpr ⟨wi_9_14, List.forall_mem_cons.mpr ⟨wi_9_15, List.forall_mem_cons.mpr ⟨wi_9_16, List.forall_mem_cons.mpr ⟨wi_9_17, List.forall_mem_cons.mpr ⟨wi_9_18, List.forall_mem_cons.mpr ⟨wi_9_19, List.forall_mem_cons.mpr ⟨wi_9_20, List.forall_mem_cons.mpr ⟨wi_9_21, List.forall_mem_cons.mpr ⟨wi_9_22, List.forall_mem_cons.mpr ⟨wi_9_23, (fun _ h => absurd h List.not_mem_nil)⟩⟩⟩⟩⟩⟩⟩⟩⟩⟩⟩⟩⟩⟩⟩⟩⟩⟩⟩⟩⟩⟩⟩⟩
theorem wi_10_0 : (Cond.code yL_thrown cL_thrown 5 (some .int)) ∈ lw_tbl := wt_ (List.mem_append_right _ (List.mem_append_left _ (List.mem_of_getElem? (i := 233) rfl : _ ∈ tables_1_2)))
theorem wi_10_1 : (Cond.methodLink RL 27 yL_drifted) ∈ lw_tbl := wt_ (List.mem_of_getElem? (i := 299) (by decide +kernel))
theorem wi_10_2 : (Cond.static yL_drifted) ∈ lw_tbl := wt_ (List.mem_of_getElem? (i := 300) (by decide +kernel))
theorem wi_10_3 : (Cond.code yL_drifted cL_drifted 6 (some .boolean)) ∈ lw_tbl := wt_ (List.mem_append_right _ (List.mem_append_left _ (List.mem_of_getElem? (i := 61) rfl : _ ∈ tables_1_2)))
theorem wi_10_4 : (Cond.methodLink RL 104 yX5_count) ∈ lw_tbl := wt_ (List.mem_of_getElem? (i := 474) (by decide +kernel))
theorem wi_10_5 : (Cond.instanceMethod yX5_count) ∈ lw_tbl := wt_ (List.mem_of_getElem? (i := 475) (by decide +kernel))
theorem wi_10_6 : (Cond.selects RX5 yX5_count yX5_count) ∈ lw_tbl := wt_ (List.mem_of_getElem? (i := 476) (by decide +kernel))
theorem wi_10_7 : (Cond.code yX5_count cX5_count 2 (some .int)) ∈ lw_tbl := wt_ (List.mem_append_right _ (List.mem_append_left _ (List.mem_of_getElem? (i := 237) rfl : _ ∈ tables_1_2)))
theorem wi_10_8 : (Cond.methodLink RX5 73 yX4_countTables) ∈ lw_tbl := wt_ (List.mem_of_getElem? (i := 478) (by decide +kernel))
theorem wi_10_9 : (Cond.instanceMethod yX4_countTables) ∈ lw_tbl := wt_ (List.mem_of_getElem? (i := 479) (by decide +kernel))
theorem wi_10_10 : (Cond.selects RX4 yX4_countTables yX4_countTables) ∈ lw_tbl := wt_ (List.mem_of_getElem? (i := 480) (by decide +kernel))
theorem wi_10_11 : (Cond.code yX4_countTables cX4_countTables 3 (some .int)) ∈ lw_tbl := wt_ (List.mem_append_right _ (List.mem_append_right _ (List.mem_of_getElem? (i := 1) rfl : _ ∈ tables_1_3)))
theorem wi_10_12 : (Cond.static yX5_has) ∈ lw_tbl := wt_ (List.mem_of_getElem? (i := 234) (by decide +kernel))
theorem wi_10_13 : (Cond.code yX5_has cX5_has 2 (some .boolean)) ∈ lw_tbl := wt_ (List.mem_append_left _ (List.mem_of_getElem? (i := 235) rfl : _ ∈ tables_1_1))
theorem wi_10_14 : (Cond.methodLink RX4 116 yX4_throwOutDrifted) ∈ lw_tbl := wt_ (List.mem_of_getElem? (i := 482) (by decide +kernel))
theorem wi_10_15 : (Cond.instanceMethod yX4_throwOutDrifted) ∈ lw_tbl := wt_ (List.mem_of_getElem? (i := 483) (by decide +kernel))
theorem wi_10_16 : (Cond.selects RX4 yX4_throwOutDrifted yX4_throwOutDrifted) ∈ lw_tbl := wt_ (List.mem_of_getElem? (i := 484) (by decide +kernel))
theorem wi_10_17 : (Cond.code yX4_throwOutDrifted cX4_throwOutDrifted 4 (some .int)) ∈ lw_tbl := wt_ (List.mem_append_right _ (List.mem_append_right _ (List.mem_of_getElem? (i := 5) rfl : _ ∈ tables_1_3)))
theorem wi_10_18 : (Cond.methodLink RX4 119 yX4_driftsOnceCounted) ∈ lw_tbl := wt_ (List.mem_of_getElem? (i := 486) (by decide +kernel))
theorem wi_10_19 : (Cond.instanceMethod yX4_driftsOnceCounted) ∈ lw_tbl := wt_ (List.mem_of_getElem? (i := 283) (by decide +kernel))
theorem wi_10_20 : (Cond.selects RX4 yX4_driftsOnceCounted yX4_driftsOnceCounted) ∈ lw_tbl := wt_ (List.mem_of_getElem? (i := 284) (by decide +kernel))
theorem wi_10_21 : (Cond.code yX4_driftsOnceCounted cX4_driftsOnceCounted 6 (some .boolean)) ∈ lw_tbl := wt_ (List.mem_append_right _ (List.mem_append_left _ (List.mem_of_getElem? (i := 45) rfl : _ ∈ tables_1_2)))
theorem wi_10_22 : (Cond.fieldLink RX4 90 "DriftPlans$Kept" "guesses" "[I") ∈ lw_tbl := wt_ (List.mem_of_getElem? (i := 518) (by decide +kernel))
theorem wi_10_23 : (Cond.methodLink RX4 123 Lib.Math.max.name) ∈ lw_tbl := wt_ (List.mem_of_getElem? (i := 287) (by decide +kernel))
theorem wc_10 : ∀ w ∈ wsL_law_r10, w ∈ lw_tbl := List.forall_mem_cons.mpr ⟨wi_10_0, List.forall_mem_cons.mpr ⟨wi_10_1, List.forall_mem_cons.mpr ⟨wi_10_2, List.forall_mem_cons.mpr ⟨wi_10_3, List.forall_mem_cons.mpr ⟨wi_10_4, List.forall_mem_cons.mpr ⟨wi_10_5, List.forall_mem_cons.mpr ⟨wi_10_6, List.forall_mem_cons.mpr ⟨wi_10_7, List.forall_mem_cons.mpr ⟨wi_10_8, List.forall_mem_cons.mpr ⟨wi_10_9, List.forall_mem_cons.mpr ⟨wi_10_10, List.forall_mem_cons.mpr ⟨wi_10_11, List.forall_mem_cons.mpr ⟨wi_10_12, List.forall_mem_cons.mpr ⟨wi_10_13, List.forall_mem_cons.mpr ⟨wi_10_14, List.forall_mem_cons.mpr ⟨wi_10_15, List.forall_mem_cons.mpr ⟨wi_10_16, List.forall_mem_cons.mpr ⟨wi_10_17, List.forall_mem_cons.mpr ⟨wi_10_18, List.forall_mem_cons.mpr ⟨wi_10_19, List.forall_mem_cons.mpr ⟨wi_10_20, List.forall_mem_cons.mpr ⟨wi_10_21, List.forall_mem_cons.mpr ⟨wi_10_22, List.forall_mem_cons.mpr ⟨wi_10_23, (fun _ h => absurd h List.not_mem_nil)⟩⟩⟩⟩⟩⟩⟩⟩⟩⟩⟩⟩⟩⟩⟩⟩⟩⟩⟩⟩⟩⟩⟩⟩
theorem wi_11_0 : (Cond.methodLink RX4 129 Lib.Math.min.name) ∈ lw_tbl := wt_ (List.mem_of_getElem? (i := 290) (by decide +kernel))
theorem wi_11_1 : (Cond.methodLink RL 107 yL_run) ∈ lw_tbl := wt_ (List.mem_of_getElem? (i := 487) (by decide +kernel))
theorem wi_11_2 : (Cond.static yL_run) ∈ lw_tbl := wt_ (List.mem_of_getElem? (i := 488) (by decide +kernel))
theorem wi_11_3 : (Cond.code yL_run cL_run 13 (some .long)) ∈ lw_tbl := wt_ (List.mem_append_right _ (List.mem_append_right _ (List.mem_of_getElem? (i := 9) rfl : _ ∈ tables_1_3)))
theorem wi_11_4 : (Cond.constantLong RL 43 (10)) ∈ lw_tbl := wt_ (List.mem_of_getElem? (i := 490) (by decide +kernel))
theorem wi_11_5 : (Cond.methodLink RL 35 yL_place) ∈ lw_tbl := wt_ (List.mem_of_getElem? (i := 346) (by decide +kernel))
theorem wi_11_6 : (Cond.static yL_place) ∈ lw_tbl := wt_ (List.mem_of_getElem? (i := 347) (by decide +kernel))
theorem wi_11_7 : (Cond.code yL_place cL_place 4 (some .int)) ∈ lw_tbl := wt_ (List.mem_append_right _ (List.mem_append_left _ (List.mem_of_getElem? (i := 108) rfl : _ ∈ tables_1_2)))
theorem wi_11_8 : (Cond.methodLink RL 39 yL_best) ∈ lw_tbl := wt_ (List.mem_of_getElem? (i := 377) (by decide +kernel))
theorem wi_11_9 : (Cond.static yL_best) ∈ lw_tbl := wt_ (List.mem_of_getElem? (i := 378) (by decide +kernel))
theorem wi_11_10 : (Cond.code yL_best cL_best 13 none) ∈ lw_tbl := wt_ (List.mem_append_right _ (List.mem_append_left _ (List.mem_of_getElem? (i := 139) rfl : _ ∈ tables_1_2)))
theorem wi_11_11 : (Cond.methodLink RL 19 yL_least) ∈ lw_tbl := wt_ (List.mem_of_getElem? (i := 186) (by decide +kernel))
theorem wi_11_12 : (Cond.static yL_least) ∈ lw_tbl := wt_ (List.mem_of_getElem? (i := 187) (by decide +kernel))
theorem wi_11_13 : (Cond.code yL_least cL_least 7 (some .long)) ∈ lw_tbl := wt_ (List.mem_append_left _ (List.mem_of_getElem? (i := 188) rfl : _ ∈ tables_1_1))
theorem wi_11_14 : (Cond.constantLong RL 11 (-1)) ∈ lw_tbl := wt_ (List.mem_of_getElem? (i := 189) (by decide +kernel))
theorem wi_11_15 : (Cond.methodLink RL 13 yL_size) ∈ lw_tbl := wt_ (List.mem_of_getElem? (i := 182) (by decide +kernel))
theorem wi_11_16 : (Cond.static yL_size) ∈ lw_tbl := wt_ (List.mem_of_getElem? (i := 183) (by decide +kernel))
theorem wi_11_17 : (Cond.code yL_size cL_size 7 (some .long)) ∈ lw_tbl := wt_ (List.mem_append_left _ (List.mem_of_getElem? (i := 184) rfl : _ ∈ tables_1_1))
theorem wi_11_18 : (Cond.constantLong RL 9 (100)) ∈ lw_tbl := wt_ (List.mem_of_getElem? (i := 185) (by decide +kernel))
theorem wi_11_19 : (Cond.methodLink RL 23 yL_rest) ∈ lw_tbl := wt_ (List.mem_of_getElem? (i := 380) (by decide +kernel))
theorem wi_11_20 : (Cond.static yL_rest) ∈ lw_tbl := wt_ (List.mem_of_getElem? (i := 381) (by decide +kernel))
theorem wi_11_21 : (Cond.code yL_rest cL_rest 11 (some .long)) ∈ lw_tbl := wt_ (List.mem_append_right _ (List.mem_append_left _ (List.mem_of_getElem? (i := 142) rfl : _ ∈ tables_1_2)))
theorem wi_11_22 : (Cond.methodLink RL 45 yL_tables) ∈ lw_tbl := wt_ (List.mem_of_getElem? (i := 491) (by decide +kernel))
theorem wi_11_23 : (Cond.static yL_tables) ∈ lw_tbl := wt_ (List.mem_of_getElem? (i := 492) (by decide +kernel))
theorem wc_11 : ∀ w ∈ wsL_law_r11, w ∈ lw_tbl := List.forall_mem_cons.mpr ⟨wi_11_0, List.forall_mem_cons.mpr ⟨wi_11_1, List.forall_mem_cons.mpr ⟨wi_11_2, List.forall_mem_cons.mpr ⟨wi_11_3, List.forall_mem_cons.mpr ⟨wi_11_4, List.forall_mem_cons.mpr ⟨wi_11_5, List.forall_mem_cons.mpr ⟨wi_11_6, List.forall_mem_cons.mpr ⟨wi_11_7, List.forall_mem_cons.mpr ⟨wi_11_8, List.forall_mem_cons.mpr ⟨wi_11_9, List.forall_mem_cons.mpr ⟨wi_11_10, List.forall_mem_cons.mpr ⟨wi_11_11, List.forall_mem_cons.mpr ⟨wi_11_12, List.forall_mem_cons.mpr ⟨wi_11_13, List.forall_mem_cons.mpr ⟨wi_11_14, List.forall_mem_cons.mpr ⟨wi_11_15, List.forall_mem_cons.mpr ⟨wi_11_16, List.forall_mem_cons.mpr ⟨wi_11_17, List.forall_mem_cons.mpr ⟨wi_11_18, List.forall_mem_cons.mpr ⟨wi_11_19, List.forall_mem_cons.mpr ⟨wi_11_20, List.forall_mem_cons.mpr ⟨wi_11_21, List.forall_mem_cons.mpr ⟨wi_11_22, List.forall_mem_cons.mpr ⟨wi_11_23, (fun _ h => absurd h List.not_mem_nil)⟩⟩⟩⟩⟩⟩⟩⟩⟩⟩⟩⟩⟩⟩⟩⟩⟩⟩⟩⟩⟩⟩⟩⟩
theorem wi_12_0 : (Cond.code yL_tables cL_tables 3 (some .int)) ∈ lw_tbl := wt_ (List.mem_append_right _ (List.mem_append_right _ (List.mem_of_getElem? (i := 13) rfl : _ ∈ tables_1_3)))
theorem wi_12_1 : (Cond.methodLink RL 49 yL_cost) ∈ lw_tbl := wt_ (List.mem_of_getElem? (i := 179) (by decide +kernel))
theorem wi_12_2 : (Cond.static yL_cost) ∈ lw_tbl := wt_ (List.mem_of_getElem? (i := 180) (by decide +kernel))
theorem wi_12_3 : (Cond.code yL_cost cL_cost 8 (some .long)) ∈ lw_tbl := wt_ (List.mem_append_left _ (List.mem_of_getElem? (i := 181) rfl : _ ∈ tables_1_1))
theorem wi_12_4 : (Cond.methodLink RL 111 yX5_run) ∈ lw_tbl := wt_ (List.mem_of_getElem? (i := 494) (by decide +kernel))
theorem wi_12_5 : (Cond.instanceMethod yX5_run) ∈ lw_tbl := wt_ (List.mem_of_getElem? (i := 495) (by decide +kernel))
theorem wi_12_6 : (Cond.selects RX5 yX5_run yX5_run) ∈ lw_tbl := wt_ (List.mem_of_getElem? (i := 496) (by decide +kernel))
theorem wi_12_7 : (Cond.code yX5_run cX5_run 2 (some .int)) ∈ lw_tbl := wt_ (List.mem_append_right _ (List.mem_append_right _ (List.mem_of_getElem? (i := 17) rfl : _ ∈ tables_1_3)))
theorem wi_12_8 : (Cond.methodLink RX5 76 yX5_isSet) ∈ lw_tbl := wt_ (List.mem_of_getElem? (i := 194) (by decide +kernel))
theorem wi_12_9 : (Cond.static yX5_isSet) ∈ lw_tbl := wt_ (List.mem_of_getElem? (i := 195) (by decide +kernel))
theorem wi_12_10 : (Cond.code yX5_isSet cX5_isSet 1 (some .boolean)) ∈ lw_tbl := wt_ (List.mem_append_left _ (List.mem_of_getElem? (i := 196) rfl : _ ∈ tables_1_1))
theorem wi_12_11 : (Cond.methodLink RX5 79 yX5_runQuery) ∈ lw_tbl := wt_ (List.mem_of_getElem? (i := 498) (by decide +kernel))
theorem wi_12_12 : (Cond.instanceMethod yX5_runQuery) ∈ lw_tbl := wt_ (List.mem_of_getElem? (i := 500) (by decide +kernel))
theorem wi_12_13 : (Cond.selects RX5 yX5_runQuery yX5_runQuery) ∈ lw_tbl := wp_ (List.mem_of_getElem? (i := 7) (by decide +kernel))
theorem wi_12_14 : (Cond.code yX5_runQuery cX5_runQuery 8 (some .long)) ∈ lw_tbl := wt_ (List.mem_append_right _ (List.mem_append_right _ (List.mem_of_getElem? (i := 21) rfl : _ ∈ tables_1_3)))
theorem wi_12_15 : (Cond.fieldLink RX5 90 "DriftPlans$State" "kept" "Ljava/util/ArrayList;") ∈ lw_tbl := wt_ (List.mem_of_getElem? (i := 66) (by decide +kernel))
theorem wi_12_16 : (Cond.classLink RX5 97 "DriftPlans$Kept") ∈ lw_tbl := wt_ (List.mem_of_getElem? (i := 221) (by decide +kernel))
theorem wi_12_17 : (Cond.fieldLink RX5 188 "DriftPlans$Kept" "order" "I") ∈ lw_tbl := wt_ (List.mem_of_getElem? (i := 516) (by decide +kernel))
theorem wi_12_18 : (Cond.fieldLink RX5 214 "DriftPlans$State" "runCosts" "J") ∈ lw_tbl := wt_ (List.mem_of_getElem? (i := 74) (by decide +kernel))
theorem wi_12_19 : (Cond.methodLink RX5 87 yX4_placeOf) ∈ lw_tbl := wt_ (List.mem_of_getElem? (i := 197) (by decide +kernel))
theorem wi_12_20 : (Cond.instanceMethod yX4_placeOf) ∈ lw_tbl := wt_ (List.mem_of_getElem? (i := 198) (by decide +kernel))
theorem wi_12_21 : (Cond.selects RX4 yX4_placeOf yX4_placeOf) ∈ lw_tbl := wt_ (List.mem_of_getElem? (i := 199) (by decide +kernel))
theorem wi_12_22 : (Cond.code yX4_placeOf cX4_placeOf 3 (some .int)) ∈ lw_tbl := wt_ (List.mem_append_left _ (List.mem_of_getElem? (i := 200) rfl : _ ∈ tables_1_1))
theorem wi_12_23 : (Cond.methodLink RX5 93 yJx4a65c_get_915e3) ∈ lw_tbl := wt_ (List.mem_of_getElem? (i := 220) (by decide +kernel))
theorem wc_12 : ∀ w ∈ wsL_law_r12, w ∈ lw_tbl := List.forall_mem_cons.mpr ⟨wi_12_0, List.forall_mem_cons.mpr ⟨wi_12_1, List.forall_mem_cons.mpr ⟨wi_12_2, List.forall_mem_cons.mpr ⟨wi_12_3, List.forall_mem_cons.mpr ⟨wi_12_4, List.forall_mem_cons.mpr ⟨wi_12_5, List.forall_mem_cons.mpr ⟨wi_12_6, List.forall_mem_cons.mpr ⟨wi_12_7, List.forall_mem_cons.mpr ⟨wi_12_8, List.forall_mem_cons.mpr ⟨wi_12_9, List.forall_mem_cons.mpr ⟨wi_12_10, List.forall_mem_cons.mpr ⟨wi_12_11, List.forall_mem_cons.mpr ⟨wi_12_12, List.forall_mem_cons.mpr ⟨wi_12_13, List.forall_mem_cons.mpr ⟨wi_12_14, List.forall_mem_cons.mpr ⟨wi_12_15, List.forall_mem_cons.mpr ⟨wi_12_16, List.forall_mem_cons.mpr ⟨wi_12_17, List.forall_mem_cons.mpr ⟨wi_12_18, List.forall_mem_cons.mpr ⟨wi_12_19, List.forall_mem_cons.mpr ⟨wi_12_20, List.forall_mem_cons.mpr ⟨wi_12_21, List.forall_mem_cons.mpr ⟨wi_12_22, List.forall_mem_cons.mpr ⟨wi_12_23, (fun _ h => absurd h List.not_mem_nil)⟩⟩⟩⟩⟩⟩⟩⟩⟩⟩⟩⟩⟩⟩⟩⟩⟩⟩⟩⟩⟩⟩⟩⟩
theorem wi_13_0 : (Cond.methodLink RX5 258 yX4_useAgain) ∈ lw_tbl := wt_ (List.mem_of_getElem? (i := 502) (by decide +kernel))
theorem wi_13_1 : (Cond.instanceMethod yX4_useAgain) ∈ lw_tbl := wt_ (List.mem_of_getElem? (i := 503) (by decide +kernel))
theorem wi_13_2 : (Cond.selects RX4 yX4_useAgain yX4_useAgain) ∈ lw_tbl := wt_ (List.mem_of_getElem? (i := 504) (by decide +kernel))
theorem wi_13_3 : (Cond.code yX4_useAgain cX4_useAgain 3 none) ∈ lw_tbl := wt_ (List.mem_append_right _ (List.mem_append_right _ (List.mem_of_getElem? (i := 25) rfl : _ ∈ tables_1_3)))
theorem wi_13_4 : (Cond.classLink RX4 42 RX0) ∈ lw_tbl := wt_ (List.mem_of_getElem? (i := 219) (by decide +kernel))
theorem wi_13_5 : (Cond.instantiable RX0 5) ∈ lw_tbl := wt_ (List.mem_of_getElem? (i := 506) (by decide +kernel))
theorem wi_13_6 : (Cond.initialized RX0) ∈ lw_tbl := wt_ (List.mem_of_getElem? (i := 14) (by decide +kernel))
theorem wi_13_7 : (Cond.fieldLink RX4 87 "DriftPlans$Kept" "order" "I") ∈ lw_tbl := wt_ (List.mem_of_getElem? (i := 515) (by decide +kernel))
theorem wi_13_8 : (Cond.fieldLink RX4 91 "DriftPlans$Kept" "runs" "J") ∈ lw_tbl := wt_ (List.mem_of_getElem? (i := 520) (by decide +kernel))
theorem wi_13_9 : (Cond.methodLink RX4 94 yX0_init) ∈ lw_tbl := wt_ (List.mem_of_getElem? (i := 507) (by decide +kernel))
theorem wi_13_10 : (Cond.instanceMethod yX0_init) ∈ lw_tbl := wt_ (List.mem_of_getElem? (i := 508) (by decide +kernel))
theorem wi_13_11 : (Cond.code yX0_init cX0_init 7 none) ∈ lw_tbl := wt_ (List.mem_append_right _ (List.mem_append_right _ (List.mem_of_getElem? (i := 29) rfl : _ ∈ tables_1_3)))
theorem wi_13_12 : (Cond.methodLink RX0 1 objectInit) ∈ lw_tbl := wt_ (List.mem_of_getElem? (i := 510) (by decide +kernel))
theorem wi_13_13 : (Cond.fieldLink RX0 7 "DriftPlans$Kept" "shape" "I") ∈ lw_tbl := wt_ (List.mem_of_getElem? (i := 511) (by decide +kernel))
theorem wi_13_14 : (Cond.fieldLink RX0 13 "DriftPlans$Kept" "order" "I") ∈ lw_tbl := wt_ (List.mem_of_getElem? (i := 514) (by decide +kernel))
theorem wi_13_15 : (Cond.fieldLink RX0 16 "DriftPlans$Kept" "guesses" "[I") ∈ lw_tbl := wt_ (List.mem_of_getElem? (i := 517) (by decide +kernel))
theorem wi_13_16 : (Cond.fieldLink RX0 20 "DriftPlans$Kept" "runs" "J") ∈ lw_tbl := wt_ (List.mem_of_getElem? (i := 519) (by decide +kernel))
theorem wi_13_17 : (Cond.fieldLink RX0 24 "DriftPlans$Kept" "pinned" "Z") ∈ lw_tbl := wt_ (List.mem_of_getElem? (i := 522) (by decide +kernel))
theorem wi_13_18 : (Cond.methodLink RX5 163 yX5_reckoned) ∈ lw_tbl := wt_ (List.mem_of_getElem? (i := 222) (by decide +kernel))
theorem wi_13_19 : (Cond.instanceMethod yX5_reckoned) ∈ lw_tbl := wt_ (List.mem_of_getElem? (i := 224) (by decide +kernel))
theorem wi_13_20 : (Cond.selects RX5 yX5_reckoned yX5_reckoned) ∈ lw_tbl := wp_ (List.mem_of_getElem? (i := 0) (by decide +kernel))
theorem wi_13_21 : (Cond.code yX5_reckoned cX5_reckoned 2 (some (.object "DriftPlans$Reckoner"))) ∈ lw_tbl := wt_ (List.mem_append_left _ (List.mem_of_getElem? (i := 225) rfl : _ ∈ tables_1_1))
theorem wi_13_22 : (Cond.fieldLink RX5 153 "DriftPlans$State" "guesses" "[I") ∈ lw_tbl := wt_ (List.mem_of_getElem? (i := 62) (by decide +kernel))
theorem wi_13_23 : (Cond.methodLink RX5 254 yX3_reckon) ∈ lw_tbl := wt_ (List.mem_of_getElem? (i := 226) (by decide +kernel))
theorem wc_13 : ∀ w ∈ wsL_law_r13, w ∈ lw_tbl := List.forall_mem_cons.mpr ⟨wi_13_0, List.forall_mem_cons.mpr ⟨wi_13_1, List.forall_mem_cons.mpr ⟨wi_13_2, List.forall_mem_cons.mpr ⟨wi_13_3, List.forall_mem_cons.mpr ⟨wi_13_4, List.forall_mem_cons.mpr ⟨wi_13_5, List.forall_mem_cons.mpr ⟨wi_13_6, List.forall_mem_cons.mpr ⟨wi_13_7, List.forall_mem_cons.mpr ⟨wi_13_8, List.forall_mem_cons.mpr ⟨wi_13_9, List.forall_mem_cons.mpr ⟨wi_13_10, List.forall_mem_cons.mpr ⟨wi_13_11, List.forall_mem_cons.mpr ⟨wi_13_12, List.forall_mem_cons.mpr ⟨wi_13_13, List.forall_mem_cons.mpr ⟨wi_13_14, List.forall_mem_cons.mpr ⟨wi_13_15, List.forall_mem_cons.mpr ⟨wi_13_16, List.forall_mem_cons.mpr ⟨wi_13_17, List.forall_mem_cons.mpr ⟨wi_13_18, List.forall_mem_cons.mpr ⟨wi_13_19, List.forall_mem_cons.mpr ⟨wi_13_20, List.forall_mem_cons.mpr ⟨wi_13_21, List.forall_mem_cons.mpr ⟨wi_13_22, List.forall_mem_cons.mpr ⟨wi_13_23, (fun _ h => absurd h List.not_mem_nil)⟩⟩⟩⟩⟩⟩⟩⟩⟩⟩⟩⟩⟩⟩⟩⟩⟩⟩⟩⟩⟩⟩⟩⟩
theorem wi_14_0 : (Cond.instanceMethod yX3_reckon) ∈ lw_tbl := wt_ (List.mem_of_getElem? (i := 227) (by decide +kernel))
theorem wi_14_1 : (Cond.selects RX3 yX3_reckon yX3_reckon) ∈ lw_tbl := wt_ (List.mem_of_getElem? (i := 228) (by decide +kernel))
theorem wi_14_2 : (Cond.code yX3_reckon cX3_reckon 8 none) ∈ lw_tbl := wt_ (List.mem_append_left _ (List.mem_of_getElem? (i := 229) rfl : _ ∈ tables_1_1))
theorem wi_14_3 : (Cond.constantLong RX3 30 (100)) ∈ lw_tbl := wt_ (List.mem_of_getElem? (i := 236) (by decide +kernel))
theorem wi_14_4 : (Cond.methodLink RX3 32 yX3_planSet) ∈ lw_tbl := wt_ (List.mem_of_getElem? (i := 237) (by decide +kernel))
theorem wi_14_5 : (Cond.instanceMethod yX3_planSet) ∈ lw_tbl := wt_ (List.mem_of_getElem? (i := 239) (by decide +kernel))
theorem wi_14_6 : (Cond.selects RX3 yX3_planSet yX3_planSet) ∈ lw_tbl := wp_ (List.mem_of_getElem? (i := 1) (by decide +kernel))
theorem wi_14_7 : (Cond.code yX3_planSet cX3_planSet 10 none) ∈ lw_tbl := wt_ (List.mem_append_right _ (List.mem_append_left _ (List.mem_of_getElem? (i := 0) rfl : _ ∈ tables_1_2)))
theorem wi_14_8 : (Cond.constantLong RX3 38 (9223372036854775807)) ∈ lw_tbl := wt_ (List.mem_of_getElem? (i := 241) (by decide +kernel))
theorem wi_14_9 : (Cond.methodLink RX3 48 Lib.MathLoose.max_long.x) ∈ lw_tbl := wt_ (List.mem_of_getElem? (i := 246) (by decide +kernel))
theorem wi_14_10 : (Cond.static Lib.MathLoose.max_long.x) ∈ lw_tbl := wt_ (List.mem_of_getElem? (i := 247) (by decide +kernel))
theorem wi_14_11 : (Cond.code Lib.MathLoose.max_long.x Lib.MathLoose.max_long.code 4 (some .long)) ∈ lw_tbl := wt_ (List.mem_append_right _ (List.mem_append_left _ (List.mem_of_getElem? (i := 8) rfl : _ ∈ tables_1_2)))
theorem wi_14_12 : (Cond.static yX5_longerOrder) ∈ lw_tbl := wt_ (List.mem_of_getElem? (i := 243) (by decide +kernel))
theorem wi_14_13 : (Cond.code yX5_longerOrder cX5_longerOrder 2 (some .int)) ∈ lw_tbl := wt_ (List.mem_append_right _ (List.mem_append_left _ (List.mem_of_getElem? (i := 4) rfl : _ ∈ tables_1_2)))
theorem wi_14_14 : (Cond.methodLink RX5 181 yX3_bestOrder) ∈ lw_tbl := wt_ (List.mem_of_getElem? (i := 356) (by decide +kernel))
theorem wi_14_15 : (Cond.instanceMethod yX3_bestOrder) ∈ lw_tbl := wt_ (List.mem_of_getElem? (i := 357) (by decide +kernel))
theorem wi_14_16 : (Cond.selects RX3 yX3_bestOrder yX3_bestOrder) ∈ lw_tbl := wt_ (List.mem_of_getElem? (i := 358) (by decide +kernel))
theorem wi_14_17 : (Cond.code yX3_bestOrder cX3_bestOrder 2 (some .int)) ∈ lw_tbl := wt_ (List.mem_append_right _ (List.mem_append_left _ (List.mem_of_getElem? (i := 119) rfl : _ ∈ tables_1_2)))
theorem wi_14_18 : (Cond.methodLink RX5 235 yX5_makingCost) ∈ lw_tbl := wt_ (List.mem_of_getElem? (i := 536) (by decide +kernel))
theorem wi_14_19 : (Cond.static yX5_makingCost) ∈ lw_tbl := wt_ (List.mem_of_getElem? (i := 537) (by decide +kernel))
theorem wi_14_20 : (Cond.code yX5_makingCost cX5_makingCost 1 (some .long)) ∈ lw_tbl := wt_ (List.mem_append_right _ (List.mem_append_right _ (List.mem_of_getElem? (i := 58) rfl : _ ∈ tables_1_3)))
theorem wi_14_21 : (Cond.constantLong RX5 285 (10)) ∈ lw_tbl := wt_ (List.mem_of_getElem? (i := 539) (by decide +kernel))
theorem wi_14_22 : (Cond.methodLink RX5 176 yJ6_bitCount_0f7a4) ∈ lw_tbl := wt_ (List.mem_of_getElem? (i := 293) (by decide +kernel))
theorem wi_14_23 : (Cond.static yJ6_bitCount_0f7a4) ∈ lw_tbl := wt_ (List.mem_of_getElem? (i := 254) (by decide +kernel))
theorem wc_14 : ∀ w ∈ wsL_law_r14, w ∈ lw_tbl := List.forall_mem_cons.mpr ⟨wi_14_0, List.forall_mem_cons.mpr ⟨wi_14_1, List.forall_mem_cons.mpr ⟨wi_14_2, List.forall_mem_cons.mpr ⟨wi_14_3, List.forall_mem_cons.mpr ⟨wi_14_4, List.forall_mem_cons.mpr ⟨wi_14_5, List.forall_mem_cons.mpr ⟨wi_14_6, List.forall_mem_cons.mpr ⟨wi_14_7, List.forall_mem_cons.mpr ⟨wi_14_8, List.forall_mem_cons.mpr ⟨wi_14_9, List.forall_mem_cons.mpr ⟨wi_14_10, List.forall_mem_cons.mpr ⟨wi_14_11, List.forall_mem_cons.mpr ⟨wi_14_12, List.forall_mem_cons.mpr ⟨wi_14_13, List.forall_mem_cons.mpr ⟨wi_14_14, List.forall_mem_cons.mpr ⟨wi_14_15, List.forall_mem_cons.mpr ⟨wi_14_16, List.forall_mem_cons.mpr ⟨wi_14_17, List.forall_mem_cons.mpr ⟨wi_14_18, List.forall_mem_cons.mpr ⟨wi_14_19, List.forall_mem_cons.mpr ⟨wi_14_20, List.forall_mem_cons.mpr ⟨wi_14_21, List.forall_mem_cons.mpr ⟨wi_14_22, List.forall_mem_cons.mpr ⟨wi_14_23, (fun _ h => absurd h List.not_mem_nil)⟩⟩⟩⟩⟩⟩⟩⟩⟩⟩⟩⟩⟩⟩⟩⟩⟩⟩⟩⟩⟩⟩⟩⟩
theorem wi_15_0 : (Cond.initialized RJ6) ∈ lw_tbl := wt_ (List.mem_of_getElem? (i := 15) (by decide +kernel))
theorem wi_15_1 : (Cond.code yJ6_bitCount_0f7a4 cJ6_bitCount_0f7a4 1 (some .int)) ∈ lw_tbl := wt_ (List.mem_append_right _ (List.mem_append_left _ (List.mem_of_getElem? (i := 15) rfl : _ ∈ tables_1_2)))
theorem wi_15_2 : (Cond.constant RJ6 265 (1431655765)) ∈ lw_tbl := wt_ (List.mem_of_getElem? (i := 256) (by decide +kernel))
theorem wi_15_3 : (Cond.constant RJ6 266 (858993459)) ∈ lw_tbl := wt_ (List.mem_of_getElem? (i := 257) (by decide +kernel))
theorem wi_15_4 : (Cond.constant RJ6 267 (252645135)) ∈ lw_tbl := wt_ (List.mem_of_getElem? (i := 258) (by decide +kernel))
theorem wi_15_5 : (Cond.methodLink RX5 262 yX4_keepNew) ∈ lw_tbl := wt_ (List.mem_of_getElem? (i := 540) (by decide +kernel))
theorem wi_15_6 : (Cond.instanceMethod yX4_keepNew) ∈ lw_tbl := wt_ (List.mem_of_getElem? (i := 541) (by decide +kernel))
theorem wi_15_7 : (Cond.selects RX4 yX4_keepNew yX4_keepNew) ∈ lw_tbl := wt_ (List.mem_of_getElem? (i := 542) (by decide +kernel))
theorem wi_15_8 : (Cond.code yX4_keepNew cX4_keepNew 5 none) ∈ lw_tbl := wt_ (List.mem_append_right _ (List.mem_append_right _ (List.mem_of_getElem? (i := 63) rfl : _ ∈ tables_1_3)))
theorem wi_15_9 : (Cond.methodLink RX4 108 ⟨"[I", "clone", "()Ljava/lang/Object;"⟩) ∈ lw_tbl := wt_ (List.mem_of_getElem? (i := 548) (by decide +kernel))
theorem wi_15_10 : (Cond.sameMethod "[I" "java/lang/Object" "clone" "()Ljava/lang/Object;") ∈ lw_tbl := wt_ (List.mem_of_getElem? (i := 549) (by decide +kernel))
theorem wi_15_11 : (Cond.native ⟨"java/lang/Object", "clone", "()Ljava/lang/Object;"⟩) ∈ lw_tbl := wt_ (List.mem_of_getElem? (i := 550) (by decide +kernel))
theorem wi_15_12 : (Cond.instanceMethod ⟨"java/lang/Object", "clone", "()Ljava/lang/Object;"⟩) ∈ lw_tbl := wt_ (List.mem_of_getElem? (i := 551) (by decide +kernel))
theorem wi_15_13 : (Cond.selects "[I" ⟨"[I", "clone", "()Ljava/lang/Object;"⟩ ⟨"java/lang/Object", "clone", "()Ljava/lang/Object;"⟩) ∈ lw_tbl := wt_ (List.mem_of_getElem? (i := 552) (by decide +kernel))
theorem wi_15_14 : (Cond.classLink RX4 109 "[I") ∈ lw_tbl := wt_ (List.mem_of_getElem? (i := 554) (by decide +kernel))
theorem wi_15_15 : (Cond.methodLink RX4 104 yX4_pushOneOut) ∈ lw_tbl := wt_ (List.mem_of_getElem? (i := 544) (by decide +kernel))
theorem wi_15_16 : (Cond.instanceMethod yX4_pushOneOut) ∈ lw_tbl := wt_ (List.mem_of_getElem? (i := 546) (by decide +kernel))
theorem wi_15_17 : (Cond.selects RX4 yX4_pushOneOut yX4_pushOneOut) ∈ lw_tbl := wp_ (List.mem_of_getElem? (i := 8) (by decide +kernel))
theorem wi_15_18 : (Cond.code yX4_pushOneOut cX4_pushOneOut 2 (some .boolean)) ∈ lw_tbl := wt_ (List.mem_append_right _ (List.mem_append_right _ (List.mem_of_getElem? (i := 67) rfl : _ ∈ tables_1_3)))
theorem wi_15_19 : (Cond.methodLink RX5 191 yX3_costOf) ∈ lw_tbl := wt_ (List.mem_of_getElem? (i := 249) (by decide +kernel))
theorem wi_15_20 : (Cond.instanceMethod yX3_costOf) ∈ lw_tbl := wt_ (List.mem_of_getElem? (i := 250) (by decide +kernel))
theorem wi_15_21 : (Cond.selects RX3 yX3_costOf yX3_costOf) ∈ lw_tbl := wt_ (List.mem_of_getElem? (i := 251) (by decide +kernel))
theorem wi_15_22 : (Cond.code yX3_costOf cX3_costOf 8 (some .long)) ∈ lw_tbl := wt_ (List.mem_append_right _ (List.mem_append_left _ (List.mem_of_getElem? (i := 12) rfl : _ ∈ tables_1_2)))
theorem wi_15_23 : (Cond.methodLink RX3 65 yJ6_bitCount_0f7a4) ∈ lw_tbl := wt_ (List.mem_of_getElem? (i := 253) (by decide +kernel))
theorem wc_15 : ∀ w ∈ wsL_law_r15, w ∈ lw_tbl := List.forall_mem_cons.mpr ⟨wi_15_0, List.forall_mem_cons.mpr ⟨wi_15_1, List.forall_mem_cons.mpr ⟨wi_15_2, List.forall_mem_cons.mpr ⟨wi_15_3, List.forall_mem_cons.mpr ⟨wi_15_4, List.forall_mem_cons.mpr ⟨wi_15_5, List.forall_mem_cons.mpr ⟨wi_15_6, List.forall_mem_cons.mpr ⟨wi_15_7, List.forall_mem_cons.mpr ⟨wi_15_8, List.forall_mem_cons.mpr ⟨wi_15_9, List.forall_mem_cons.mpr ⟨wi_15_10, List.forall_mem_cons.mpr ⟨wi_15_11, List.forall_mem_cons.mpr ⟨wi_15_12, List.forall_mem_cons.mpr ⟨wi_15_13, List.forall_mem_cons.mpr ⟨wi_15_14, List.forall_mem_cons.mpr ⟨wi_15_15, List.forall_mem_cons.mpr ⟨wi_15_16, List.forall_mem_cons.mpr ⟨wi_15_17, List.forall_mem_cons.mpr ⟨wi_15_18, List.forall_mem_cons.mpr ⟨wi_15_19, List.forall_mem_cons.mpr ⟨wi_15_20, List.forall_mem_cons.mpr ⟨wi_15_21, List.forall_mem_cons.mpr ⟨wi_15_22, List.forall_mem_cons.mpr ⟨wi_15_23, (fun _ h => absurd h List.not_mem_nil)⟩⟩⟩⟩⟩⟩⟩⟩⟩⟩⟩⟩⟩⟩⟩⟩⟩⟩⟩⟩⟩⟩⟩⟩
theorem wi_16_0 : (Cond.static yX5_tableAt) ∈ lw_tbl := wt_ (List.mem_of_getElem? (i := 260) (by decide +kernel))
theorem wi_16_1 : (Cond.code yX5_tableAt cX5_tableAt 3 (some .int)) ∈ lw_tbl := wt_ (List.mem_append_right _ (List.mem_append_left _ (List.mem_of_getElem? (i := 21) rfl : _ ∈ tables_1_2)))
theorem wi_16_2 : (Cond.methodLink RX3 58 yX3_sizeOf) ∈ lw_tbl := wt_ (List.mem_of_getElem? (i := 262) (by decide +kernel))
theorem wi_16_3 : (Cond.instanceMethod yX3_sizeOf) ∈ lw_tbl := wt_ (List.mem_of_getElem? (i := 263) (by decide +kernel))
theorem wi_16_4 : (Cond.selects RX3 yX3_sizeOf yX3_sizeOf) ∈ lw_tbl := wt_ (List.mem_of_getElem? (i := 264) (by decide +kernel))
theorem wi_16_5 : (Cond.code yX3_sizeOf cX3_sizeOf 2 (some .long)) ∈ lw_tbl := wt_ (List.mem_append_right _ (List.mem_append_left _ (List.mem_of_getElem? (i := 25) rfl : _ ∈ tables_1_2)))
theorem wi_16_6 : (Cond.methodLink RX5 83 yX5_told) ∈ lw_tbl := wt_ (List.mem_of_getElem? (i := 266) (by decide +kernel))
theorem wi_16_7 : (Cond.static yX5_told) ∈ lw_tbl := wt_ (List.mem_of_getElem? (i := 267) (by decide +kernel))
theorem wi_16_8 : (Cond.code yX5_told cX5_told 2 (some .int)) ∈ lw_tbl := wt_ (List.mem_append_right _ (List.mem_append_left _ (List.mem_of_getElem? (i := 28) rfl : _ ∈ tables_1_2)))
theorem wi_16_9 : (Cond.constantLong RX5 279 (1000000000)) ∈ lw_tbl := wt_ (List.mem_of_getElem? (i := 269) (by decide +kernel))
theorem wi_16_10 : (Cond.methodLink RX5 281 Lib.MathLoose.min_long.x) ∈ lw_tbl := wt_ (List.mem_of_getElem? (i := 270) (by decide +kernel))
theorem wi_16_11 : (Cond.static Lib.MathLoose.min_long.x) ∈ lw_tbl := wt_ (List.mem_of_getElem? (i := 271) (by decide +kernel))
theorem wi_16_12 : (Cond.code Lib.MathLoose.min_long.x Lib.MathLoose.min_long.code 4 (some .long)) ∈ lw_tbl := wt_ (List.mem_append_right _ (List.mem_append_left _ (List.mem_of_getElem? (i := 32) rfl : _ ∈ tables_1_2)))
theorem wi_16_13 : (Cond.methodLink RL 65 yL_cut) ∈ lw_tbl := wt_ (List.mem_of_getElem? (i := 295) (by decide +kernel))
theorem wi_16_14 : (Cond.static yL_cut) ∈ lw_tbl := wt_ (List.mem_of_getElem? (i := 296) (by decide +kernel))
theorem wi_16_15 : (Cond.code yL_cut cL_cut 2 (some .int)) ∈ lw_tbl := wt_ (List.mem_append_right _ (List.mem_append_left _ (List.mem_of_getElem? (i := 57) rfl : _ ∈ tables_1_2)))
theorem wi_16_16 : (Cond.constantLong RL 57 (1000000000)) ∈ lw_tbl := wt_ (List.mem_of_getElem? (i := 298) (by decide +kernel))
theorem wi_16_17 : (Cond.methodLink RL 113 yL_isPinned) ∈ lw_tbl := wt_ (List.mem_of_getElem? (i := 555) (by decide +kernel))
theorem wi_16_18 : (Cond.static yL_isPinned) ∈ lw_tbl := wt_ (List.mem_of_getElem? (i := 556) (by decide +kernel))
theorem wi_16_19 : (Cond.code yL_isPinned cL_isPinned 8 (some .boolean)) ∈ lw_tbl := wt_ (List.mem_append_right _ (List.mem_append_right _ (List.mem_of_getElem? (i := 77) rfl : _ ∈ tables_1_3)))
theorem wi_16_20 : (Cond.methodLink RL 94 yX5_pin) ∈ lw_tbl := wt_ (List.mem_of_getElem? (i := 558) (by decide +kernel))
theorem wi_16_21 : (Cond.instanceMethod yX5_pin) ∈ lw_tbl := wt_ (List.mem_of_getElem? (i := 559) (by decide +kernel))
theorem wi_16_22 : (Cond.selects RX5 yX5_pin yX5_pin) ∈ lw_tbl := wt_ (List.mem_of_getElem? (i := 560) (by decide +kernel))
theorem wi_16_23 : (Cond.code yX5_pin cX5_pin 4 (some .int)) ∈ lw_tbl := wt_ (List.mem_append_right _ (List.mem_append_right _ (List.mem_of_getElem? (i := 81) rfl : _ ∈ tables_1_3)))
theorem wc_16 : ∀ w ∈ wsL_law_r16, w ∈ lw_tbl := List.forall_mem_cons.mpr ⟨wi_16_0, List.forall_mem_cons.mpr ⟨wi_16_1, List.forall_mem_cons.mpr ⟨wi_16_2, List.forall_mem_cons.mpr ⟨wi_16_3, List.forall_mem_cons.mpr ⟨wi_16_4, List.forall_mem_cons.mpr ⟨wi_16_5, List.forall_mem_cons.mpr ⟨wi_16_6, List.forall_mem_cons.mpr ⟨wi_16_7, List.forall_mem_cons.mpr ⟨wi_16_8, List.forall_mem_cons.mpr ⟨wi_16_9, List.forall_mem_cons.mpr ⟨wi_16_10, List.forall_mem_cons.mpr ⟨wi_16_11, List.forall_mem_cons.mpr ⟨wi_16_12, List.forall_mem_cons.mpr ⟨wi_16_13, List.forall_mem_cons.mpr ⟨wi_16_14, List.forall_mem_cons.mpr ⟨wi_16_15, List.forall_mem_cons.mpr ⟨wi_16_16, List.forall_mem_cons.mpr ⟨wi_16_17, List.forall_mem_cons.mpr ⟨wi_16_18, List.forall_mem_cons.mpr ⟨wi_16_19, List.forall_mem_cons.mpr ⟨wi_16_20, List.forall_mem_cons.mpr ⟨wi_16_21, List.forall_mem_cons.mpr ⟨wi_16_22, List.forall_mem_cons.mpr ⟨wi_16_23, (fun _ h => absurd h List.not_mem_nil)⟩⟩⟩⟩⟩⟩⟩⟩⟩⟩⟩⟩⟩⟩⟩⟩⟩⟩⟩⟩⟩⟩⟩⟩
theorem wi_17_0 : (Cond.fieldLink RX5 99 "DriftPlans$Kept" "pinned" "Z") ∈ lw_tbl := wt_ (List.mem_of_getElem? (i := 524) (by decide +kernel))
theorem wi_17_1 : (Cond.methodLink RX5 103 yX4_setPinned) ∈ lw_tbl := wt_ (List.mem_of_getElem? (i := 562) (by decide +kernel))
theorem wi_17_2 : (Cond.instanceMethod yX4_setPinned) ∈ lw_tbl := wt_ (List.mem_of_getElem? (i := 563) (by decide +kernel))
theorem wi_17_3 : (Cond.selects RX4 yX4_setPinned yX4_setPinned) ∈ lw_tbl := wt_ (List.mem_of_getElem? (i := 564) (by decide +kernel))
theorem wi_17_4 : (Cond.code yX4_setPinned cX4_setPinned 4 none) ∈ lw_tbl := wt_ (List.mem_append_right _ (List.mem_append_right _ (List.mem_of_getElem? (i := 85) rfl : _ ∈ tables_1_3)))
theorem wi_17_5 : (Cond.methodLink RX4 97 yJx4a65c_set_bcc79) ∈ lw_tbl := wt_ (List.mem_of_getElem? (i := 566) (by decide +kernel))
theorem wi_17_6 : (Cond.instanceMethod yJx4a65c_set_bcc79) ∈ lw_tbl := wt_ (List.mem_of_getElem? (i := 567) (by decide +kernel))
theorem wi_17_7 : (Cond.selects RJx4a65c yJx4a65c_set_bcc79 yJx4a65c_set_bcc79) ∈ lw_tbl := wt_ (List.mem_of_getElem? (i := 568) (by decide +kernel))
theorem wi_17_8 : (Cond.code yJx4a65c_set_bcc79 cJx4a65c_set_bcc79 4 (some (.object "java/lang/Object"))) ∈ lw_tbl := wt_ (List.mem_append_right _ (List.mem_append_right _ (List.mem_of_getElem? (i := 89) rfl : _ ∈ tables_1_3)))
theorem wi_17_9 : (Cond.methodLink RX5 107 yX4_throwOutDrifted) ∈ lw_tbl := wt_ (List.mem_of_getElem? (i := 570) (by decide +kernel))
theorem wi_17_10 : (Cond.methodLink RL 117 yX5_forget) ∈ lw_tbl := wt_ (List.mem_of_getElem? (i := 571) (by decide +kernel))
theorem wi_17_11 : (Cond.instanceMethod yX5_forget) ∈ lw_tbl := wt_ (List.mem_of_getElem? (i := 572) (by decide +kernel))
theorem wi_17_12 : (Cond.selects RX5 yX5_forget yX5_forget) ∈ lw_tbl := wt_ (List.mem_of_getElem? (i := 573) (by decide +kernel))
theorem wi_17_13 : (Cond.code yX5_forget cX5_forget 3 (some .int)) ∈ lw_tbl := wt_ (List.mem_append_right _ (List.mem_append_right _ (List.mem_of_getElem? (i := 94) rfl : _ ∈ tables_1_3)))
theorem wi_17_14 : (Cond.fieldLink RX5 111 "DriftPlans$State" "forgotten" "J") ∈ lw_tbl := wt_ (List.mem_of_getElem? (i := 84) (by decide +kernel))
theorem wi_17_15 : (Cond.fieldLink RX5 118 "DriftPlans$Kept" "runs" "J") ∈ lw_tbl := wt_ (List.mem_of_getElem? (i := 521) (by decide +kernel))
theorem wi_17_16 : (Cond.methodLink RL 120 yX5_drift) ∈ lw_tbl := wt_ (List.mem_of_getElem? (i := 575) (by decide +kernel))
theorem wi_17_17 : (Cond.instanceMethod yX5_drift) ∈ lw_tbl := wt_ (List.mem_of_getElem? (i := 576) (by decide +kernel))
theorem wi_17_18 : (Cond.selects RX5 yX5_drift yX5_drift) ∈ lw_tbl := wt_ (List.mem_of_getElem? (i := 577) (by decide +kernel))
theorem wi_17_19 : (Cond.code yX5_drift cX5_drift 2 (some .int)) ∈ lw_tbl := wt_ (List.mem_append_right _ (List.mem_append_right _ (List.mem_of_getElem? (i := 98) rfl : _ ∈ tables_1_3)))
theorem wi_17_20 : (Cond.fieldLink RX5 121 "DriftPlans$State" "driftLimit" "I") ∈ lw_tbl := wt_ (List.mem_of_getElem? (i := 68) (by decide +kernel))
theorem wi_17_21 : (Cond.methodLink RL 132 yL_arePlans) ∈ lw_tbl := wt_ (List.mem_of_getElem? (i := 176) (by decide +kernel))
theorem wi_17_22 : (Cond.static yL_arePlans) ∈ lw_tbl := wt_ (List.mem_of_getElem? (i := 177) (by decide +kernel))
theorem wi_17_23 : (Cond.code yL_arePlans cL_arePlans 18 (some .boolean)) ∈ lw_tbl := wt_ (List.mem_append_left _ (List.mem_of_getElem? (i := 178) rfl : _ ∈ tables_1_1))
theorem wc_17 : ∀ w ∈ wsL_law_r17, w ∈ lw_tbl := List.forall_mem_cons.mpr ⟨wi_17_0, List.forall_mem_cons.mpr ⟨wi_17_1, List.forall_mem_cons.mpr ⟨wi_17_2, List.forall_mem_cons.mpr ⟨wi_17_3, List.forall_mem_cons.mpr ⟨wi_17_4, List.forall_mem_cons.mpr ⟨wi_17_5, List.forall_mem_cons.mpr ⟨wi_17_6, List.forall_mem_cons.mpr ⟨wi_17_7, List.forall_mem_cons.mpr ⟨wi_17_8, List.forall_mem_cons.mpr ⟨wi_17_9, List.forall_mem_cons.mpr ⟨wi_17_10, List.forall_mem_cons.mpr ⟨wi_17_11, List.forall_mem_cons.mpr ⟨wi_17_12, List.forall_mem_cons.mpr ⟨wi_17_13, List.forall_mem_cons.mpr ⟨wi_17_14, List.forall_mem_cons.mpr ⟨wi_17_15, List.forall_mem_cons.mpr ⟨wi_17_16, List.forall_mem_cons.mpr ⟨wi_17_17, List.forall_mem_cons.mpr ⟨wi_17_18, List.forall_mem_cons.mpr ⟨wi_17_19, List.forall_mem_cons.mpr ⟨wi_17_20, List.forall_mem_cons.mpr ⟨wi_17_21, List.forall_mem_cons.mpr ⟨wi_17_22, List.forall_mem_cons.mpr ⟨wi_17_23, (fun _ h => absurd h List.not_mem_nil)⟩⟩⟩⟩⟩⟩⟩⟩⟩⟩⟩⟩⟩⟩⟩⟩⟩⟩⟩⟩⟩⟩⟩⟩
theorem wi_18_0 : (Cond.methodLink RL 59 yX5_plan) ∈ lw_tbl := wt_ (List.mem_of_getElem? (i := 190) (by decide +kernel))
theorem wi_18_1 : (Cond.instanceMethod yX5_plan) ∈ lw_tbl := wt_ (List.mem_of_getElem? (i := 191) (by decide +kernel))
theorem wi_18_2 : (Cond.selects RX5 yX5_plan yX5_plan) ∈ lw_tbl := wt_ (List.mem_of_getElem? (i := 192) (by decide +kernel))
theorem wi_18_3 : (Cond.code yX5_plan cX5_plan 6 (some .int)) ∈ lw_tbl := wt_ (List.mem_append_left _ (List.mem_of_getElem? (i := 193) rfl : _ ∈ tables_1_1))
theorem wi_18_4 : (Cond.methodLink RX5 195 yX3_excessOf) ∈ lw_tbl := wt_ (List.mem_of_getElem? (i := 273) (by decide +kernel))
theorem wi_18_5 : (Cond.instanceMethod yX3_excessOf) ∈ lw_tbl := wt_ (List.mem_of_getElem? (i := 274) (by decide +kernel))
theorem wi_18_6 : (Cond.selects RX3 yX3_excessOf yX3_excessOf) ∈ lw_tbl := wt_ (List.mem_of_getElem? (i := 275) (by decide +kernel))
theorem wi_18_7 : (Cond.code yX3_excessOf cX3_excessOf 3 (some .long)) ∈ lw_tbl := wt_ (List.mem_append_right _ (List.mem_append_left _ (List.mem_of_getElem? (i := 36) rfl : _ ∈ tables_1_2)))
theorem wi_18_8 : (Cond.methodLink RX3 74 yX3_costOf) ∈ lw_tbl := wt_ (List.mem_of_getElem? (i := 277) (by decide +kernel))
theorem wi_18_9 : (Cond.methodLink RX3 78 yX3_leastBySets) ∈ lw_tbl := wt_ (List.mem_of_getElem? (i := 278) (by decide +kernel))
theorem wi_18_10 : (Cond.instanceMethod yX3_leastBySets) ∈ lw_tbl := wt_ (List.mem_of_getElem? (i := 279) (by decide +kernel))
theorem wi_18_11 : (Cond.selects RX3 yX3_leastBySets yX3_leastBySets) ∈ lw_tbl := wt_ (List.mem_of_getElem? (i := 280) (by decide +kernel))
theorem wi_18_12 : (Cond.code yX3_leastBySets cX3_leastBySets 2 (some .long)) ∈ lw_tbl := wt_ (List.mem_append_right _ (List.mem_append_left _ (List.mem_of_getElem? (i := 41) rfl : _ ∈ tables_1_2)))
theorem wi_18_13 : (Cond.methodLink RX5 198 yX4_driftsOnceCounted) ∈ lw_tbl := wt_ (List.mem_of_getElem? (i := 282) (by decide +kernel))
theorem wi_18_14 : (Cond.methodLink RX5 184 yX5_tableAt) ∈ lw_tbl := wt_ (List.mem_of_getElem? (i := 294) (by decide +kernel))
theorem wi_18_15 : (Cond.methodLink RL 69 yX5_counted) ∈ lw_tbl := wt_ (List.mem_of_getElem? (i := 302) (by decide +kernel))
theorem wi_18_16 : (Cond.instanceMethod yX5_counted) ∈ lw_tbl := wt_ (List.mem_of_getElem? (i := 303) (by decide +kernel))
theorem wi_18_17 : (Cond.selects RX5 yX5_counted yX5_counted) ∈ lw_tbl := wt_ (List.mem_of_getElem? (i := 304) (by decide +kernel))
theorem wi_18_18 : (Cond.code yX5_counted cX5_counted 2 (some .int)) ∈ lw_tbl := wt_ (List.mem_append_right _ (List.mem_append_left _ (List.mem_of_getElem? (i := 65) rfl : _ ∈ tables_1_2)))
theorem wi_18_19 : (Cond.fieldLink RX5 208 "DriftPlans$State" "hits" "J") ∈ lw_tbl := wt_ (List.mem_of_getElem? (i := 70) (by decide +kernel))
theorem wi_18_20 : (Cond.fieldLink RX5 211 "DriftPlans$State" "misses" "J") ∈ lw_tbl := wt_ (List.mem_of_getElem? (i := 72) (by decide +kernel))
theorem wi_18_21 : (Cond.fieldLink RX5 217 "DriftPlans$State" "makingCosts" "J") ∈ lw_tbl := wt_ (List.mem_of_getElem? (i := 76) (by decide +kernel))
theorem wi_18_22 : (Cond.fieldLink RX5 220 "DriftPlans$State" "driftedOut" "J") ∈ lw_tbl := wt_ (List.mem_of_getElem? (i := 78) (by decide +kernel))
theorem wi_18_23 : (Cond.fieldLink RX5 223 "DriftPlans$State" "pushedOut" "J") ∈ lw_tbl := wt_ (List.mem_of_getElem? (i := 80) (by decide +kernel))
theorem wc_18 : ∀ w ∈ wsL_law_r18, w ∈ lw_tbl := List.forall_mem_cons.mpr ⟨wi_18_0, List.forall_mem_cons.mpr ⟨wi_18_1, List.forall_mem_cons.mpr ⟨wi_18_2, List.forall_mem_cons.mpr ⟨wi_18_3, List.forall_mem_cons.mpr ⟨wi_18_4, List.forall_mem_cons.mpr ⟨wi_18_5, List.forall_mem_cons.mpr ⟨wi_18_6, List.forall_mem_cons.mpr ⟨wi_18_7, List.forall_mem_cons.mpr ⟨wi_18_8, List.forall_mem_cons.mpr ⟨wi_18_9, List.forall_mem_cons.mpr ⟨wi_18_10, List.forall_mem_cons.mpr ⟨wi_18_11, List.forall_mem_cons.mpr ⟨wi_18_12, List.forall_mem_cons.mpr ⟨wi_18_13, List.forall_mem_cons.mpr ⟨wi_18_14, List.forall_mem_cons.mpr ⟨wi_18_15, List.forall_mem_cons.mpr ⟨wi_18_16, List.forall_mem_cons.mpr ⟨wi_18_17, List.forall_mem_cons.mpr ⟨wi_18_18, List.forall_mem_cons.mpr ⟨wi_18_19, List.forall_mem_cons.mpr ⟨wi_18_20, List.forall_mem_cons.mpr ⟨wi_18_21, List.forall_mem_cons.mpr ⟨wi_18_22, List.forall_mem_cons.mpr ⟨wi_18_23, (fun _ h => absurd h List.not_mem_nil)⟩⟩⟩⟩⟩⟩⟩⟩⟩⟩⟩⟩⟩⟩⟩⟩⟩⟩⟩⟩⟩⟩⟩⟩
theorem wi_19_0 : (Cond.fieldLink RX5 226 "DriftPlans$State" "joinedOut" "J") ∈ lw_tbl := wt_ (List.mem_of_getElem? (i := 82) (by decide +kernel))
theorem wi_19_1 : (Cond.fieldLink RX5 229 "DriftPlans$State" "usedOnly" "J") ∈ lw_tbl := wt_ (List.mem_of_getElem? (i := 86) (by decide +kernel))
theorem wi_19_2 : (Cond.fieldLink RX5 128 "DriftPlans$Pad" "length" "I") ∈ lw_tbl := wt_ (List.mem_of_getElem? (i := 143) (by decide +kernel))
theorem wi_19_3 : (Cond.methodLink RX5 205 yX4_countPinned) ∈ lw_tbl := wt_ (List.mem_of_getElem? (i := 307) (by decide +kernel))
theorem wi_19_4 : (Cond.instanceMethod yX4_countPinned) ∈ lw_tbl := wt_ (List.mem_of_getElem? (i := 308) (by decide +kernel))
theorem wi_19_5 : (Cond.selects RX4 yX4_countPinned yX4_countPinned) ∈ lw_tbl := wt_ (List.mem_of_getElem? (i := 309) (by decide +kernel))
theorem wi_19_6 : (Cond.code yX4_countPinned cX4_countPinned 3 (some .int)) ∈ lw_tbl := wt_ (List.mem_append_right _ (List.mem_append_left _ (List.mem_of_getElem? (i := 70) rfl : _ ∈ tables_1_2)))
theorem wi_19_7 : (Cond.methodLink RL 72 yX5_fitness) ∈ lw_tbl := wt_ (List.mem_of_getElem? (i := 311) (by decide +kernel))
theorem wi_19_8 : (Cond.instanceMethod yX5_fitness) ∈ lw_tbl := wt_ (List.mem_of_getElem? (i := 312) (by decide +kernel))
theorem wi_19_9 : (Cond.selects RX5 yX5_fitness yX5_fitness) ∈ lw_tbl := wt_ (List.mem_of_getElem? (i := 313) (by decide +kernel))
theorem wi_19_10 : (Cond.code yX5_fitness cX5_fitness 8 (some .double)) ∈ lw_tbl := wt_ (List.mem_append_right _ (List.mem_append_left _ (List.mem_of_getElem? (i := 74) rfl : _ ∈ tables_1_2)))
theorem wi_19_11 : (Cond.fieldLink RX5 232 "DriftPlans$Kept" "shape" "I") ∈ lw_tbl := wt_ (List.mem_of_getElem? (i := 513) (by decide +kernel))
theorem wi_19_12 : (Cond.methodLink RX5 173 yX3_leastBySets) ∈ lw_tbl := wt_ (List.mem_of_getElem? (i := 315) (by decide +kernel))
theorem wi_19_13 : (Cond.methodLink RL 136 yL_areTold) ∈ lw_tbl := wt_ (List.mem_of_getElem? (i := 316) (by decide +kernel))
theorem wi_19_14 : (Cond.static yL_areTold) ∈ lw_tbl := wt_ (List.mem_of_getElem? (i := 317) (by decide +kernel))
theorem wi_19_15 : (Cond.code yL_areTold cL_areTold 11 (some .boolean)) ∈ lw_tbl := wt_ (List.mem_append_right _ (List.mem_append_left _ (List.mem_of_getElem? (i := 78) rfl : _ ∈ tables_1_2)))
theorem wi_19_16 : (Cond.methodLink RL 76 yX5_table) ∈ lw_tbl := wt_ (List.mem_of_getElem? (i := 319) (by decide +kernel))
theorem wi_19_17 : (Cond.instanceMethod yX5_table) ∈ lw_tbl := wt_ (List.mem_of_getElem? (i := 320) (by decide +kernel))
theorem wi_19_18 : (Cond.selects RX5 yX5_table yX5_table) ∈ lw_tbl := wt_ (List.mem_of_getElem? (i := 321) (by decide +kernel))
theorem wi_19_19 : (Cond.code yX5_table cX5_table 3 (some .int)) ∈ lw_tbl := wt_ (List.mem_append_right _ (List.mem_append_left _ (List.mem_of_getElem? (i := 82) rfl : _ ∈ tables_1_2)))
theorem wi_19_20 : (Cond.methodLink RX5 156 yX5_driftDown) ∈ lw_tbl := wt_ (List.mem_of_getElem? (i := 326) (by decide +kernel))
theorem wi_19_21 : (Cond.static yX5_driftDown) ∈ lw_tbl := wt_ (List.mem_of_getElem? (i := 327) (by decide +kernel))
theorem wi_19_22 : (Cond.code yX5_driftDown cX5_driftDown 3 (some .int)) ∈ lw_tbl := wt_ (List.mem_append_right _ (List.mem_append_left _ (List.mem_of_getElem? (i := 88) rfl : _ ∈ tables_1_2)))
theorem wi_19_23 : (Cond.methodLink RX5 287 Lib.Math.min.name) ∈ lw_tbl := wt_ (List.mem_of_getElem? (i := 329) (by decide +kernel))
theorem wc_19 : ∀ w ∈ wsL_law_r19, w ∈ lw_tbl := List.forall_mem_cons.mpr ⟨wi_19_0, List.forall_mem_cons.mpr ⟨wi_19_1, List.forall_mem_cons.mpr ⟨wi_19_2, List.forall_mem_cons.mpr ⟨wi_19_3, List.forall_mem_cons.mpr ⟨wi_19_4, List.forall_mem_cons.mpr ⟨wi_19_5, List.forall_mem_cons.mpr ⟨wi_19_6, List.forall_mem_cons.mpr ⟨wi_19_7, List.forall_mem_cons.mpr ⟨wi_19_8, List.forall_mem_cons.mpr ⟨wi_19_9, List.forall_mem_cons.mpr ⟨wi_19_10, List.forall_mem_cons.mpr ⟨wi_19_11, List.forall_mem_cons.mpr ⟨wi_19_12, List.forall_mem_cons.mpr ⟨wi_19_13, List.forall_mem_cons.mpr ⟨wi_19_14, List.forall_mem_cons.mpr ⟨wi_19_15, List.forall_mem_cons.mpr ⟨wi_19_16, List.forall_mem_cons.mpr ⟨wi_19_17, List.forall_mem_cons.mpr ⟨wi_19_18, List.forall_mem_cons.mpr ⟨wi_19_19, List.forall_mem_cons.mpr ⟨wi_19_20, List.forall_mem_cons.mpr ⟨wi_19_21, List.forall_mem_cons.mpr ⟨wi_19_22, List.forall_mem_cons.mpr ⟨wi_19_23, (fun _ h => absurd h List.not_mem_nil)⟩⟩⟩⟩⟩⟩⟩⟩⟩⟩⟩⟩⟩⟩⟩⟩⟩⟩⟩⟩⟩⟩⟩⟩
theorem wi_20_0 : (Cond.methodLink RX5 242 Lib.Math.max.name) ∈ lw_tbl := wt_ (List.mem_of_getElem? (i := 330) (by decide +kernel))
theorem wi_20_1 : (Cond.methodLink RX5 160 yX4_keptWith) ∈ lw_tbl := wt_ (List.mem_of_getElem? (i := 332) (by decide +kernel))
theorem wi_20_2 : (Cond.instanceMethod yX4_keptWith) ∈ lw_tbl := wt_ (List.mem_of_getElem? (i := 333) (by decide +kernel))
theorem wi_20_3 : (Cond.selects RX4 yX4_keptWith yX4_keptWith) ∈ lw_tbl := wt_ (List.mem_of_getElem? (i := 334) (by decide +kernel))
theorem wi_20_4 : (Cond.code yX4_keptWith cX4_keptWith 4 (some .int)) ∈ lw_tbl := wt_ (List.mem_append_right _ (List.mem_append_left _ (List.mem_of_getElem? (i := 95) rfl : _ ∈ tables_1_2)))
theorem wi_20_5 : (Cond.methodLink RL 79 yX5_partOf) ∈ lw_tbl := wt_ (List.mem_of_getElem? (i := 339) (by decide +kernel))
theorem wi_20_6 : (Cond.instanceMethod yX5_partOf) ∈ lw_tbl := wt_ (List.mem_of_getElem? (i := 340) (by decide +kernel))
theorem wi_20_7 : (Cond.selects RX5 yX5_partOf yX5_partOf) ∈ lw_tbl := wt_ (List.mem_of_getElem? (i := 341) (by decide +kernel))
theorem wi_20_8 : (Cond.code yX5_partOf cX5_partOf 3 (some .int)) ∈ lw_tbl := wt_ (List.mem_append_right _ (List.mem_append_left _ (List.mem_of_getElem? (i := 102) rfl : _ ∈ tables_1_2)))
theorem wi_20_9 : (Cond.methodLink RL 140 yL_areBest) ∈ lw_tbl := wt_ (List.mem_of_getElem? (i := 349) (by decide +kernel))
theorem wi_20_10 : (Cond.static yL_areBest) ∈ lw_tbl := wt_ (List.mem_of_getElem? (i := 350) (by decide +kernel))
theorem wi_20_11 : (Cond.code yL_areBest cL_areBest 11 (some .boolean)) ∈ lw_tbl := wt_ (List.mem_append_right _ (List.mem_append_left _ (List.mem_of_getElem? (i := 111) rfl : _ ∈ tables_1_2)))
theorem wi_20_12 : (Cond.methodLink RL 82 yX5_best) ∈ lw_tbl := wt_ (List.mem_of_getElem? (i := 352) (by decide +kernel))
theorem wi_20_13 : (Cond.instanceMethod yX5_best) ∈ lw_tbl := wt_ (List.mem_of_getElem? (i := 353) (by decide +kernel))
theorem wi_20_14 : (Cond.selects RX5 yX5_best yX5_best) ∈ lw_tbl := wt_ (List.mem_of_getElem? (i := 354) (by decide +kernel))
theorem wi_20_15 : (Cond.code yX5_best cX5_best 5 (some .int)) ∈ lw_tbl := wt_ (List.mem_append_right _ (List.mem_append_left _ (List.mem_of_getElem? (i := 115) rfl : _ ∈ tables_1_2)))
theorem wi_20_16 : (Cond.methodLink RL 85 yX5_size) ∈ lw_tbl := wt_ (List.mem_of_getElem? (i := 360) (by decide +kernel))
theorem wi_20_17 : (Cond.instanceMethod yX5_size) ∈ lw_tbl := wt_ (List.mem_of_getElem? (i := 361) (by decide +kernel))
theorem wi_20_18 : (Cond.selects RX5 yX5_size yX5_size) ∈ lw_tbl := wt_ (List.mem_of_getElem? (i := 362) (by decide +kernel))
theorem wi_20_19 : (Cond.code yX5_size cX5_size 3 (some .int)) ∈ lw_tbl := wt_ (List.mem_append_right _ (List.mem_append_left _ (List.mem_of_getElem? (i := 123) rfl : _ ∈ tables_1_2)))
theorem wi_20_20 : (Cond.methodLink RX5 167 yX3_sizeOf) ∈ lw_tbl := wt_ (List.mem_of_getElem? (i := 364) (by decide +kernel))
theorem wi_20_21 : (Cond.methodLink RL 88 yX5_least) ∈ lw_tbl := wt_ (List.mem_of_getElem? (i := 365) (by decide +kernel))
theorem wi_20_22 : (Cond.instanceMethod yX5_least) ∈ lw_tbl := wt_ (List.mem_of_getElem? (i := 366) (by decide +kernel))
theorem wi_20_23 : (Cond.selects RX5 yX5_least yX5_least) ∈ lw_tbl := wt_ (List.mem_of_getElem? (i := 367) (by decide +kernel))
theorem wc_20 : ∀ w ∈ wsL_law_r20, w ∈ lw_tbl := List.forall_mem_cons.mpr ⟨wi_20_0, List.forall_mem_cons.mpr ⟨wi_20_1, List.forall_mem_cons.mpr ⟨wi_20_2, List.forall_mem_cons.mpr ⟨wi_20_3, List.forall_mem_cons.mpr ⟨wi_20_4, List.forall_mem_cons.mpr ⟨wi_20_5, List.forall_mem_cons.mpr ⟨wi_20_6, List.forall_mem_cons.mpr ⟨wi_20_7, List.forall_mem_cons.mpr ⟨wi_20_8, List.forall_mem_cons.mpr ⟨wi_20_9, List.forall_mem_cons.mpr ⟨wi_20_10, List.forall_mem_cons.mpr ⟨wi_20_11, List.forall_mem_cons.mpr ⟨wi_20_12, List.forall_mem_cons.mpr ⟨wi_20_13, List.forall_mem_cons.mpr ⟨wi_20_14, List.forall_mem_cons.mpr ⟨wi_20_15, List.forall_mem_cons.mpr ⟨wi_20_16, List.forall_mem_cons.mpr ⟨wi_20_17, List.forall_mem_cons.mpr ⟨wi_20_18, List.forall_mem_cons.mpr ⟨wi_20_19, List.forall_mem_cons.mpr ⟨wi_20_20, List.forall_mem_cons.mpr ⟨wi_20_21, List.forall_mem_cons.mpr ⟨wi_20_22, List.forall_mem_cons.mpr ⟨wi_20_23, (fun _ h => absurd h List.not_mem_nil)⟩⟩⟩⟩⟩⟩⟩⟩⟩⟩⟩⟩⟩⟩⟩⟩⟩⟩⟩⟩⟩⟩⟩⟩
theorem wi_21_0 : (Cond.code yX5_least cX5_least 5 (some .int)) ∈ lw_tbl := wt_ (List.mem_append_right _ (List.mem_append_left _ (List.mem_of_getElem? (i := 128) rfl : _ ∈ tables_1_2)))
theorem wi_21_1 : (Cond.methodLink RX5 170 yX3_leastByOrders) ∈ lw_tbl := wt_ (List.mem_of_getElem? (i := 369) (by decide +kernel))
theorem wi_21_2 : (Cond.instanceMethod yX3_leastByOrders) ∈ lw_tbl := wt_ (List.mem_of_getElem? (i := 370) (by decide +kernel))
theorem wi_21_3 : (Cond.selects RX3 yX3_leastByOrders yX3_leastByOrders) ∈ lw_tbl := wt_ (List.mem_of_getElem? (i := 371) (by decide +kernel))
theorem wi_21_4 : (Cond.code yX3_leastByOrders cX3_leastByOrders 2 (some .long)) ∈ lw_tbl := wt_ (List.mem_append_right _ (List.mem_append_left _ (List.mem_of_getElem? (i := 132) rfl : _ ∈ tables_1_2)))
theorem wi_21_5 : (Cond.methodLink RX3 54 yX3_leastOnward) ∈ lw_tbl := wt_ (List.mem_of_getElem? (i := 373) (by decide +kernel))
theorem wi_21_6 : (Cond.static yX3_leastOnward) ∈ lw_tbl := wt_ (List.mem_of_getElem? (i := 374) (by decide +kernel))
theorem wi_21_7 : (Cond.code yX3_leastOnward cX3_leastOnward 10 (some .long)) ∈ lw_tbl := wt_ (List.mem_append_right _ (List.mem_append_left _ (List.mem_of_getElem? (i := 135) rfl : _ ∈ tables_1_2)))
theorem wi_21_8 : (Cond.methodLink RX3 62 Lib.MathLoose.min_long.x) ∈ lw_tbl := wt_ (List.mem_of_getElem? (i := 376) (by decide +kernel))
theorem wc_21 : ∀ w ∈ wsL_law_r21, w ∈ lw_tbl := List.forall_mem_cons.mpr ⟨wi_21_0, List.forall_mem_cons.mpr ⟨wi_21_1, List.forall_mem_cons.mpr ⟨wi_21_2, List.forall_mem_cons.mpr ⟨wi_21_3, List.forall_mem_cons.mpr ⟨wi_21_4, List.forall_mem_cons.mpr ⟨wi_21_5, List.forall_mem_cons.mpr ⟨wi_21_6, List.forall_mem_cons.mpr ⟨wi_21_7, List.forall_mem_cons.mpr ⟨wi_21_8, (fun _ h => absurd h List.not_mem_nil)⟩⟩⟩⟩⟩⟩⟩⟩⟩
theorem wl_X5_0 : (Cond.lays RX5 "DriftPlans" "now" "LDriftPlans$State;") ∈ lw_tbl := wt_ (List.mem_of_getElem? (i := 157) (by decide +kernel))
theorem wl_X5_1 : (Cond.lays RX5 "DriftPlans" "snapshot" "LDriftPlans$State;") ∈ lw_tbl := wt_ (List.mem_of_getElem? (i := 159) (by decide +kernel))
theorem wl_X5_2 : (Cond.laysFinal RX5 "DriftPlans" "history" "Ljava/util/ArrayList;") ∈ lw_tbl := wt_ (List.mem_of_getElem? (i := 161) (by decide +kernel))
theorem wl_X5_3 : (Cond.laysFinal RX5 "DriftPlans" "reckoner" "LDriftPlans$Reckoner;") ∈ lw_tbl := wt_ (List.mem_of_getElem? (i := 163) (by decide +kernel))
theorem wl_X5_4 : (Cond.laysFinal RX5 "DriftPlans" "pad" "LDriftPlans$Pad;") ∈ lw_tbl := wt_ (List.mem_of_getElem? (i := 165) (by decide +kernel))
theorem wl_X5_5 : (Cond.lays RX5 "DriftPlans" "stopDeed" "I") ∈ lw_tbl := wt_ (List.mem_of_getElem? (i := 167) (by decide +kernel))
theorem wl_X5_6 : (Cond.lays RX5 "DriftPlans" "stopPlace" "I") ∈ lw_tbl := wt_ (List.mem_of_getElem? (i := 169) (by decide +kernel))
theorem wcl_X5 : ∀ w ∈ wsX50, w ∈ lw_tbl := by
  show ∀ w ∈ [Cond.lays RX5 "DriftPlans" "now" "LDriftPlans$State;", Cond.lays RX5 "DriftPlans" "snapshot" "LDriftPlans$State;", Cond.laysFinal RX5 "DriftPlans" "history" "Ljava/util/ArrayList;", Cond.laysFinal RX5 "DriftPlans" "reckoner" "LDriftPlans$Reckoner;", Cond.laysFinal RX5 "DriftPlans" "pad" "LDriftPlans$Pad;", Cond.lays RX5 "DriftPlans" "stopDeed" "I", Cond.lays RX5 "DriftPlans" "stopPlace" "I"], w ∈ lw_tbl
  exact List.forall_mem_cons.mpr ⟨wl_X5_0, List.forall_mem_cons.mpr ⟨wl_X5_1, List.forall_mem_cons.mpr ⟨wl_X5_2, List.forall_mem_cons.mpr ⟨wl_X5_3, List.forall_mem_cons.mpr ⟨wl_X5_4, List.forall_mem_cons.mpr ⟨wl_X5_5, List.forall_mem_cons.mpr ⟨wl_X5_6, (fun _ h => absurd h List.not_mem_nil)⟩⟩⟩⟩⟩⟩⟩
theorem wl_X4_0 : (Cond.laysFinal RX4 "DriftPlans$State" "rows" "[I") ∈ lw_tbl := wt_ (List.mem_of_getElem? (i := 87) (by decide +kernel))
theorem wl_X4_1 : (Cond.laysFinal RX4 "DriftPlans$State" "guesses" "[I") ∈ lw_tbl := wt_ (List.mem_of_getElem? (i := 89) (by decide +kernel))
theorem wl_X4_2 : (Cond.laysFinal RX4 "DriftPlans$State" "parts" "[[I") ∈ lw_tbl := wt_ (List.mem_of_getElem? (i := 91) (by decide +kernel))
theorem wl_X4_3 : (Cond.laysFinal RX4 "DriftPlans$State" "kept" "Ljava/util/ArrayList;") ∈ lw_tbl := wt_ (List.mem_of_getElem? (i := 93) (by decide +kernel))
theorem wl_X4_4 : (Cond.lays RX4 "DriftPlans$State" "driftLimit" "I") ∈ lw_tbl := wt_ (List.mem_of_getElem? (i := 95) (by decide +kernel))
theorem wl_X4_5 : (Cond.lays RX4 "DriftPlans$State" "hits" "J") ∈ lw_tbl := wt_ (List.mem_of_getElem? (i := 97) (by decide +kernel))
theorem wl_X4_6 : (Cond.lays RX4 "DriftPlans$State" "misses" "J") ∈ lw_tbl := wt_ (List.mem_of_getElem? (i := 99) (by decide +kernel))
theorem wl_X4_7 : (Cond.lays RX4 "DriftPlans$State" "runCosts" "J") ∈ lw_tbl := wt_ (List.mem_of_getElem? (i := 101) (by decide +kernel))
theorem wl_X4_8 : (Cond.lays RX4 "DriftPlans$State" "makingCosts" "J") ∈ lw_tbl := wt_ (List.mem_of_getElem? (i := 103) (by decide +kernel))
theorem wl_X4_9 : (Cond.lays RX4 "DriftPlans$State" "driftedOut" "J") ∈ lw_tbl := wt_ (List.mem_of_getElem? (i := 105) (by decide +kernel))
theorem wl_X4_10 : (Cond.lays RX4 "DriftPlans$State" "pushedOut" "J") ∈ lw_tbl := wt_ (List.mem_of_getElem? (i := 107) (by decide +kernel))
theorem wl_X4_11 : (Cond.lays RX4 "DriftPlans$State" "joinedOut" "J") ∈ lw_tbl := wt_ (List.mem_of_getElem? (i := 109) (by decide +kernel))
theorem wl_X4_12 : (Cond.lays RX4 "DriftPlans$State" "forgotten" "J") ∈ lw_tbl := wt_ (List.mem_of_getElem? (i := 111) (by decide +kernel))
theorem wl_X4_13 : (Cond.lays RX4 "DriftPlans$State" "usedOnly" "J") ∈ lw_tbl := wt_ (List.mem_of_getElem? (i := 113) (by decide +kernel))
theorem wcl_X4 : ∀ w ∈ wsX40, w ∈ lw_tbl := by
  show ∀ w ∈ [Cond.laysFinal RX4 "DriftPlans$State" "rows" "[I", Cond.laysFinal RX4 "DriftPlans$State" "guesses" "[I", Cond.laysFinal RX4 "DriftPlans$State" "parts" "[[I", Cond.laysFinal RX4 "DriftPlans$State" "kept" "Ljava/util/ArrayList;", Cond.lays RX4 "DriftPlans$State" "driftLimit" "I", Cond.lays RX4 "DriftPlans$State" "hits" "J", Cond.lays RX4 "DriftPlans$State" "misses" "J", Cond.lays RX4 "DriftPlans$State" "runCosts" "J", Cond.lays RX4 "DriftPlans$State" "makingCosts" "J", Cond.lays RX4 "DriftPlans$State" "driftedOut" "J", Cond.lays RX4 "DriftPlans$State" "pushedOut" "J", Cond.lays RX4 "DriftPlans$State" "joinedOut" "J", Cond.lays RX4 "DriftPlans$State" "forgotten" "J", Cond.lays RX4 "DriftPlans$State" "usedOnly" "J"], w ∈ lw_tbl
  exact List.forall_mem_cons.mpr ⟨wl_X4_0, List.forall_mem_cons.mpr ⟨wl_X4_1, List.forall_mem_cons.mpr ⟨wl_X4_2, List.forall_mem_cons.mpr ⟨wl_X4_3, List.forall_mem_cons.mpr ⟨wl_X4_4, List.forall_mem_cons.mpr ⟨wl_X4_5, List.forall_mem_cons.mpr ⟨wl_X4_6, List.forall_mem_cons.mpr ⟨wl_X4_7, List.forall_mem_cons.mpr ⟨wl_X4_8, List.forall_mem_cons.mpr ⟨wl_X4_9, List.forall_mem_cons.mpr ⟨wl_X4_10, List.forall_mem_cons.mpr ⟨wl_X4_11, List.forall_mem_cons.mpr ⟨wl_X4_12, List.forall_mem_cons.mpr ⟨wl_X4_13, (fun _ h => absurd h List.not_mem_nil)⟩⟩⟩⟩⟩⟩⟩⟩⟩⟩⟩⟩⟩⟩
theorem wl_Jx4a65c_0 : (Cond.lays RJx4a65c "java/util/AbstractList" "modCount" "I") ∈ lw_tbl := wt_ (List.mem_of_getElem? (i := 55) (by decide +kernel))
theorem wl_Jx4a65c_1 : (Cond.lays RJx4a65c "java/util/ArrayList" "elementData" "[Ljava/lang/Object;") ∈ lw_tbl := wt_ (List.mem_of_getElem? (i := 51) (by decide +kernel))
theorem wl_Jx4a65c_2 : (Cond.lays RJx4a65c "java/util/ArrayList" "size" "I") ∈ lw_tbl := wt_ (List.mem_of_getElem? (i := 53) (by decide +kernel))
theorem wcl_Jx4a65c : ∀ w ∈ wsJx4a65c0, w ∈ lw_tbl := by
  show ∀ w ∈ [Cond.lays RJx4a65c "java/util/AbstractList" "modCount" "I", Cond.lays RJx4a65c "java/util/ArrayList" "elementData" "[Ljava/lang/Object;", Cond.lays RJx4a65c "java/util/ArrayList" "size" "I"], w ∈ lw_tbl
  exact List.forall_mem_cons.mpr ⟨wl_Jx4a65c_0, List.forall_mem_cons.mpr ⟨wl_Jx4a65c_1, List.forall_mem_cons.mpr ⟨wl_Jx4a65c_2, (fun _ h => absurd h List.not_mem_nil)⟩⟩⟩
theorem wl_X3_0 : (Cond.laysFinal RX3 "DriftPlans$Reckoner" "products" "[J") ∈ lw_tbl := wt_ (List.mem_of_getElem? (i := 127) (by decide +kernel))
theorem wl_X3_1 : (Cond.laysFinal RX3 "DriftPlans$Reckoner" "leastCosts" "[J") ∈ lw_tbl := wt_ (List.mem_of_getElem? (i := 129) (by decide +kernel))
theorem wl_X3_2 : (Cond.laysFinal RX3 "DriftPlans$Reckoner" "bestOrders" "[I") ∈ lw_tbl := wt_ (List.mem_of_getElem? (i := 131) (by decide +kernel))
theorem wcl_X3 : ∀ w ∈ wsX30, w ∈ lw_tbl := by
  show ∀ w ∈ [Cond.laysFinal RX3 "DriftPlans$Reckoner" "products" "[J", Cond.laysFinal RX3 "DriftPlans$Reckoner" "leastCosts" "[J", Cond.laysFinal RX3 "DriftPlans$Reckoner" "bestOrders" "[I"], w ∈ lw_tbl
  exact List.forall_mem_cons.mpr ⟨wl_X3_0, List.forall_mem_cons.mpr ⟨wl_X3_1, List.forall_mem_cons.mpr ⟨wl_X3_2, (fun _ h => absurd h List.not_mem_nil)⟩⟩⟩
theorem wl_X1_0 : (Cond.laysFinal RX1 "DriftPlans$Pad" "signs" "[C") ∈ lw_tbl := wt_ (List.mem_of_getElem? (i := 144) (by decide +kernel))
theorem wl_X1_1 : (Cond.lays RX1 "DriftPlans$Pad" "length" "I") ∈ lw_tbl := wt_ (List.mem_of_getElem? (i := 146) (by decide +kernel))
theorem wcl_X1 : ∀ w ∈ wsX10, w ∈ lw_tbl := by
  show ∀ w ∈ [Cond.laysFinal RX1 "DriftPlans$Pad" "signs" "[C", Cond.lays RX1 "DriftPlans$Pad" "length" "I"], w ∈ lw_tbl
  exact List.forall_mem_cons.mpr ⟨wl_X1_0, List.forall_mem_cons.mpr ⟨wl_X1_1, (fun _ h => absurd h List.not_mem_nil)⟩⟩
theorem wl_X0_0 : (Cond.laysFinal RX0 "DriftPlans$Kept" "shape" "I") ∈ lw_tbl := wt_ (List.mem_of_getElem? (i := 525) (by decide +kernel))
theorem wl_X0_1 : (Cond.laysFinal RX0 "DriftPlans$Kept" "order" "I") ∈ lw_tbl := wt_ (List.mem_of_getElem? (i := 527) (by decide +kernel))
theorem wl_X0_2 : (Cond.laysFinal RX0 "DriftPlans$Kept" "guesses" "[I") ∈ lw_tbl := wt_ (List.mem_of_getElem? (i := 529) (by decide +kernel))
theorem wl_X0_3 : (Cond.laysFinal RX0 "DriftPlans$Kept" "runs" "J") ∈ lw_tbl := wt_ (List.mem_of_getElem? (i := 531) (by decide +kernel))
theorem wl_X0_4 : (Cond.laysFinal RX0 "DriftPlans$Kept" "pinned" "Z") ∈ lw_tbl := wt_ (List.mem_of_getElem? (i := 533) (by decide +kernel))
theorem wcl_X0 : ∀ w ∈ wsX00, w ∈ lw_tbl := by
  show ∀ w ∈ [Cond.laysFinal RX0 "DriftPlans$Kept" "shape" "I", Cond.laysFinal RX0 "DriftPlans$Kept" "order" "I", Cond.laysFinal RX0 "DriftPlans$Kept" "guesses" "[I", Cond.laysFinal RX0 "DriftPlans$Kept" "runs" "J", Cond.laysFinal RX0 "DriftPlans$Kept" "pinned" "Z"], w ∈ lw_tbl
  exact List.forall_mem_cons.mpr ⟨wl_X0_0, List.forall_mem_cons.mpr ⟨wl_X0_1, List.forall_mem_cons.mpr ⟨wl_X0_2, List.forall_mem_cons.mpr ⟨wl_X0_3, List.forall_mem_cons.mpr ⟨wl_X0_4, (fun _ h => absurd h List.not_mem_nil)⟩⟩⟩⟩⟩
theorem wa_ {P : Cond → Prop} {a b : List Cond} (ha : ∀ w ∈ a, P w) (hb : ∀ w ∈ b, P w) : ∀ w ∈ a ++ b, P w := fun w h => (List.mem_append.mp h).elim (ha w) (hb w)
theorem wsL_law_in : ∀ w ∈ wsL_law, w ∈ lw_tbl := wa_ (wa_ (wa_ (wa_ (wa_ (wa_ (wa_ (wa_ wc_1 (wa_ wc_2 (wa_ wc_3 (wa_ wc_4 (wa_ wc_5 (wa_ wc_6 (wa_ wc_7 (wa_ wc_8 (wa_ wc_9 (wa_ wc_10 (wa_ wc_11 (wa_ wc_12 (wa_ wc_13 (wa_ wc_14 (wa_ wc_15 (wa_ wc_16 (wa_ wc_17 (wa_ wc_18 (wa_ wc_19 (wa_ wc_20 (wc_21))))))))))))))))))))) wcl_X5) wcl_X4) wcl_Jx4a65c) wcl_X3) wcl_X1) wcl_X0) (fun _ h => absurd h List.not_mem_nil)
theorem inlX0 : ∀ w ∈ wsX00, w ∈ wsL_law := fun _ h => List.mem_append_left _ (List.mem_append_right _ h)
theorem inX0 : ∀ w ∈ wsX00, w ∈ lw_tbl := fun w h => wsL_law_in w (inlX0 w h)
theorem inlX1 : ∀ w ∈ wsX10, w ∈ wsL_law := fun _ h => List.mem_append_left _ (List.mem_append_left _ (List.mem_append_right _ h))
theorem inX1 : ∀ w ∈ wsX10, w ∈ lw_tbl := fun w h => wsL_law_in w (inlX1 w h)
theorem inX2 : ∀ w ∈ wsX20, w ∈ lw_tbl := by decide +kernel
theorem inlX3 : ∀ w ∈ wsX30, w ∈ wsL_law := fun _ h => List.mem_append_left _ (List.mem_append_left _ (List.mem_append_left _ (List.mem_append_right _ h)))
theorem inX3 : ∀ w ∈ wsX30, w ∈ lw_tbl := fun w h => wsL_law_in w (inlX3 w h)
theorem inlX4 : ∀ w ∈ wsX40, w ∈ wsL_law := fun _ h => List.mem_append_left _ (List.mem_append_left _ (List.mem_append_left _ (List.mem_append_left _ (List.mem_append_left _ (List.mem_append_right _ h)))))
theorem inX4 : ∀ w ∈ wsX40, w ∈ lw_tbl := fun w h => wsL_law_in w (inlX4 w h)
theorem inlX5 : ∀ w ∈ wsX50, w ∈ wsL_law := fun _ h => List.mem_append_left _ (List.mem_append_left _ (List.mem_append_left _ (List.mem_append_left _ (List.mem_append_left _ (List.mem_append_left _ (List.mem_append_right _ h))))))
theorem inX5 : ∀ w ∈ wsX50, w ∈ lw_tbl := fun w h => wsL_law_in w (inlX5 w h)
theorem inX6 : ∀ w ∈ wsX60, w ∈ lw_tbl := by decide +kernel
theorem inJx145de : ∀ w ∈ wsJx145de0, w ∈ lw_tbl := by decide +kernel
theorem inJx8e188 : ∀ w ∈ wsJx8e1880, w ∈ lw_tbl := by decide +kernel
theorem inJ6 : ∀ w ∈ wsJ60, w ∈ lw_tbl := by decide +kernel
theorem inJxab1ab : ∀ w ∈ wsJxab1ab0, w ∈ lw_tbl := by decide +kernel
theorem inJ9 : ∀ w ∈ wsJ90, w ∈ lw_tbl := by decide +kernel
theorem inJ10 : ∀ w ∈ wsJ100, w ∈ lw_tbl := by decide +kernel
theorem inJxa1e45 : ∀ w ∈ wsJxa1e450, w ∈ lw_tbl := by decide +kernel
theorem inJxc12de : ∀ w ∈ wsJxc12de0, w ∈ lw_tbl := by decide +kernel
theorem inlJx4a65c : ∀ w ∈ wsJx4a65c0, w ∈ wsL_law := fun _ h => List.mem_append_left _ (List.mem_append_left _ (List.mem_append_left _ (List.mem_append_left _ (List.mem_append_right _ h))))
theorem inJx4a65c : ∀ w ∈ wsJx4a65c0, w ∈ lw_tbl := fun w h => wsL_law_in w (inlJx4a65c w h)
theorem inJ7 : ∀ w ∈ wsJ70, w ∈ lw_tbl := by decide +kernel
theorem inJx5ef63 : ∀ w ∈ wsJx5ef630, w ∈ lw_tbl := by decide +kernel
theorem inJxbd725 : ∀ w ∈ wsJxbd7250, w ∈ lw_tbl := by decide +kernel
theorem inJ15 : ∀ w ∈ wsJ150, w ∈ lw_tbl := by decide +kernel
theorem inJxf0a74 : ∀ w ∈ wsJxf0a740, w ∈ lw_tbl := by decide +kernel
theorem inJxa66e6 : ∀ w ∈ wsJxa66e60, w ∈ lw_tbl := by decide +kernel
theorem inJ8 : ∀ w ∈ wsJ80, w ∈ lw_tbl := by decide +kernel
theorem inJ3 : ∀ w ∈ wsJ30, w ∈ lw_tbl := by decide +kernel
theorem wr_1 : ∀ w ∈ wsL_law_r1, w ∈ wsL_law := fun _ h => List.mem_append_left _ (List.mem_append_left _ (List.mem_append_left _ (List.mem_append_left _ (List.mem_append_left _ (List.mem_append_left _ (List.mem_append_left _ (List.mem_append_left _ h)))))))
theorem wr_2 : ∀ w ∈ wsL_law_r2, w ∈ wsL_law := fun _ h => List.mem_append_left _ (List.mem_append_left _ (List.mem_append_left _ (List.mem_append_left _ (List.mem_append_left _ (List.mem_append_left _ (List.mem_append_left _ (List.mem_append_right _ (List.mem_append_left _ h))))))))
theorem wr_3 : ∀ w ∈ wsL_law_r3, w ∈ wsL_law := fun _ h => List.mem_append_left _ (List.mem_append_left _ (List.mem_append_left _ (List.mem_append_left _ (List.mem_append_left _ (List.mem_append_left _ (List.mem_append_left _ (List.mem_append_right _ (List.mem_append_right _ (List.mem_append_left _ h)))))))))
theorem wr_4 : ∀ w ∈ wsL_law_r4, w ∈ wsL_law := fun _ h => List.mem_append_left _ (List.mem_append_left _ (List.mem_append_left _ (List.mem_append_left _ (List.mem_append_left _ (List.mem_append_left _ (List.mem_append_left _ (List.mem_append_right _ (List.mem_append_right _ (List.mem_append_right _ (List.mem_append_left _ h))))))))))
theorem wr_5 : ∀ w ∈ wsL_law_r5, w ∈ wsL_law := fun _ h => List.mem_append_left _ (List.mem_append_left _ (List.mem_append_left _ (List.mem_append_left _ (List.mem_append_left _ (List.mem_append_left _ (List.mem_append_left _ (List.mem_append_right _ (List.mem_append_right _ (List.mem_append_right _ (List.mem_append_right _ (List.mem_append_left _ h)))))))))))
theorem wr_6 : ∀ w ∈ wsL_law_r6, w ∈ wsL_law := fun _ h => List.mem_append_left _ (List.mem_append_left _ (List.mem_append_left _ (List.mem_append_left _ (List.mem_append_left _ (List.mem_append_left _ (List.mem_append_left _ (List.mem_append_right _ (List.mem_append_right _ (List.mem_append_right _ (List.mem_append_right _ (List.mem_append_right _ (List.mem_append_left _ h))))))))))))
theorem wr_7 : ∀ w ∈ wsL_law_r7, w ∈ wsL_law := fun _ h => List.mem_append_left _ (List.mem_append_left _ (List.mem_append_left _ (List.mem_append_left _ (List.mem_append_left _ (List.mem_append_left _ (List.mem_append_left _ (List.mem_append_right _ (List.mem_append_right _ (List.mem_append_right _ (List.mem_append_right _ (List.mem_append_right _ (List.mem_append_right _ (List.mem_append_left _ h)))))))))))))
theorem wr_8 : ∀ w ∈ wsL_law_r8, w ∈ wsL_law := fun _ h => List.mem_append_left _ (List.mem_append_left _ (List.mem_append_left _ (List.mem_append_left _ (List.mem_append_left _ (List.mem_append_left _ (List.mem_append_left _ (List.mem_append_right _ (List.mem_append_right _ (List.mem_append_right _ (List.mem_append_right _ (List.mem_append_right _ (List.mem_append_right _ (List.mem_append_right _ (List.mem_append_left _ h))))))))))))))
theorem wr_9 : ∀ w ∈ wsL_law_r9, w ∈ wsL_law := fun _ h => List.mem_append_left _ (List.mem_append_left _ (List.mem_append_left _ (List.mem_append_left _ (List.mem_append_left _ (List.mem_append_left _ (List.mem_append_left _ (List.mem_append_right _ (List.mem_append_right _ (List.mem_append_right _ (List.mem_append_right _ (List.mem_append_right _ (List.mem_append_right _ (List.mem_append_right _ (List.mem_append_right _ (List.mem_append_left _ h)))))))))))))))
theorem wr_10 : ∀ w ∈ wsL_law_r10, w ∈ wsL_law := fun _ h => List.mem_append_left _ (List.mem_append_left _ (List.mem_append_left _ (List.mem_append_left _ (List.mem_append_left _ (List.mem_append_left _ (List.mem_append_left _ (List.mem_append_right _ (List.mem_append_right _ (List.mem_append_right _ (List.mem_append_right _ (List.mem_append_right _ (List.mem_append_right _ (List.mem_append_right _ (List.mem_append_right _ (List.mem_append_right _ (List.mem_append_left _ h))))))))))))))))
theorem wr_11 : ∀ w ∈ wsL_law_r11, w ∈ wsL_law := fun _ h => List.mem_append_left _ (List.mem_append_left _ (List.mem_append_left _ (List.mem_append_left _ (List.mem_append_left _ (List.mem_append_left _ (List.mem_append_left _ (List.mem_append_right _ (List.mem_append_right _ (List.mem_append_right _ (List.mem_append_right _ (List.mem_append_right _ (List.mem_append_right _ (List.mem_append_right _ (List.mem_append_right _ (List.mem_append_right _ (List.mem_append_right _ (List.mem_append_left _ h)))))))))))))))))
theorem wr_12 : ∀ w ∈ wsL_law_r12, w ∈ wsL_law := fun _ h => List.mem_append_left _ (List.mem_append_left _ (List.mem_append_left _ (List.mem_append_left _ (List.mem_append_left _ (List.mem_append_left _ (List.mem_append_left _ (List.mem_append_right _ (List.mem_append_right _ (List.mem_append_right _ (List.mem_append_right _ (List.mem_append_right _ (List.mem_append_right _ (List.mem_append_right _ (List.mem_append_right _ (List.mem_append_right _ (List.mem_append_right _ (List.mem_append_right _ (List.mem_append_left _ h))))))))))))))))))
theorem wr_13 : ∀ w ∈ wsL_law_r13, w ∈ wsL_law := fun _ h => List.mem_append_left _ (List.mem_append_left _ (List.mem_append_left _ (List.mem_append_left _ (List.mem_append_left _ (List.mem_append_left _ (List.mem_append_left _ (List.mem_append_right _ (List.mem_append_right _ (List.mem_append_right _ (List.mem_append_right _ (List.mem_append_right _ (List.mem_append_right _ (List.mem_append_right _ (List.mem_append_right _ (List.mem_append_right _ (List.mem_append_right _ (List.mem_append_right _ (List.mem_append_right _ (List.mem_append_left _ h)))))))))))))))))))
theorem wr_14 : ∀ w ∈ wsL_law_r14, w ∈ wsL_law := fun _ h => List.mem_append_left _ (List.mem_append_left _ (List.mem_append_left _ (List.mem_append_left _ (List.mem_append_left _ (List.mem_append_left _ (List.mem_append_left _ (List.mem_append_right _ (List.mem_append_right _ (List.mem_append_right _ (List.mem_append_right _ (List.mem_append_right _ (List.mem_append_right _ (List.mem_append_right _ (List.mem_append_right _ (List.mem_append_right _ (List.mem_append_right _ (List.mem_append_right _ (List.mem_append_right _ (List.mem_append_right _ (List.mem_append_left _ h))))))))))))))))))))
theorem wr_15 : ∀ w ∈ wsL_law_r15, w ∈ wsL_law := fun _ h => List.mem_append_left _ (List.mem_append_left _ (List.mem_append_left _ (List.mem_append_left _ (List.mem_append_left _ (List.mem_append_left _ (List.mem_append_left _ (List.mem_append_right _ (List.mem_append_right _ (List.mem_append_right _ (List.mem_append_right _ (List.mem_append_right _ (List.mem_append_right _ (List.mem_append_right _ (List.mem_append_right _ (List.mem_append_right _ (List.mem_append_right _ (List.mem_append_right _ (List.mem_append_right _ (List.mem_append_right _ (List.mem_append_right _ (List.mem_append_left _ h)))))))))))))))))))))
theorem wr_16 : ∀ w ∈ wsL_law_r16, w ∈ wsL_law := fun _ h => List.mem_append_left _ (List.mem_append_left _ (List.mem_append_left _ (List.mem_append_left _ (List.mem_append_left _ (List.mem_append_left _ (List.mem_append_left _ (List.mem_append_right _ (List.mem_append_right _ (List.mem_append_right _ (List.mem_append_right _ (List.mem_append_right _ (List.mem_append_right _ (List.mem_append_right _ (List.mem_append_right _ (List.mem_append_right _ (List.mem_append_right _ (List.mem_append_right _ (List.mem_append_right _ (List.mem_append_right _ (List.mem_append_right _ (List.mem_append_right _ (List.mem_append_left _ h))))))))))))))))))))))
theorem wr_17 : ∀ w ∈ wsL_law_r17, w ∈ wsL_law := fun _ h => List.mem_append_left _ (List.mem_append_left _ (List.mem_append_left _ (List.mem_append_left _ (List.mem_append_left _ (List.mem_append_left _ (List.mem_append_left _ (List.mem_append_right _ (List.mem_append_right _ (List.mem_append_right _ (List.mem_append_right _ (List.mem_append_right _ (List.mem_append_right _ (List.mem_append_right _ (List.mem_append_right _ (List.mem_append_right _ (List.mem_append_right _ (List.mem_append_right _ (List.mem_append_right _ (List.mem_append_right _ (List.mem_append_right _ (List.mem_append_right _ (List.mem_append_right _ (List.mem_append_left _ h)))))))))))))))))))))))
theorem wr_18 : ∀ w ∈ wsL_law_r18, w ∈ wsL_law := fun _ h => List.mem_append_left _ (List.mem_append_left _ (List.mem_append_left _ (List.mem_append_left _ (List.mem_append_left _ (List.mem_append_left _ (List.mem_append_left _ (List.mem_append_right _ (List.mem_append_right _ (List.mem_append_right _ (List.mem_append_right _ (List.mem_append_right _ (List.mem_append_right _ (List.mem_append_right _ (List.mem_append_right _ (List.mem_append_right _ (List.mem_append_right _ (List.mem_append_right _ (List.mem_append_right _ (List.mem_append_right _ (List.mem_append_right _ (List.mem_append_right _ (List.mem_append_right _ (List.mem_append_right _ (List.mem_append_left _ h))))))))))))))))))))))))
theorem wr_19 : ∀ w ∈ wsL_law_r19, w ∈ wsL_law := fun _ h => List.mem_append_left _ (List.mem_append_left _ (List.mem_append_left _ (List.mem_append_left _ (List.mem_append_left _ (List.mem_append_left _ (List.mem_append_left _ (List.mem_append_right _ (List.mem_append_right _ (List.mem_append_right _ (List.mem_append_right _ (List.mem_append_right _ (List.mem_append_right _ (List.mem_append_right _ (List.mem_append_right _ (List.mem_append_right _ (List.mem_append_right _ (List.mem_append_right _ (List.mem_append_right _ (List.mem_append_right _ (List.mem_append_right _ (List.mem_append_right _ (List.mem_append_right _ (List.mem_append_right _ (List.mem_append_right _ (List.mem_append_left _ h)))))))))))))))))))))))))
theorem wr_20 : ∀ w ∈ wsL_law_r20, w ∈ wsL_law := fun _ h => List.mem_append_left _ (List.mem_append_left _ (List.mem_append_left _ (List.mem_append_left _ (List.mem_append_left _ (List.mem_append_left _ (List.mem_append_left _ (List.mem_append_right _ (List.mem_append_right _ (List.mem_append_right _ (List.mem_append_right _ (List.mem_append_right _ (List.mem_append_right _ (List.mem_append_right _ (List.mem_append_right _ (List.mem_append_right _ (List.mem_append_right _ (List.mem_append_right _ (List.mem_append_right _ (List.mem_append_right _ (List.mem_append_right _ (List.mem_append_right _ (List.mem_append_right _ (List.mem_append_right _ (List.mem_append_right _ (List.mem_append_right _ (List.mem_append_left _ h))))))))))))))))))))))))))
theorem wr_21 : ∀ w ∈ wsL_law_r21, w ∈ wsL_law := fun _ h => List.mem_append_left _ (List.mem_append_left _ (List.mem_append_left _ (List.mem_append_left _ (List.mem_append_left _ (List.mem_append_left _ (List.mem_append_left _ (List.mem_append_right _ (List.mem_append_right _ (List.mem_append_right _ (List.mem_append_right _ (List.mem_append_right _ (List.mem_append_right _ (List.mem_append_right _ (List.mem_append_right _ (List.mem_append_right _ (List.mem_append_right _ (List.mem_append_right _ (List.mem_append_right _ (List.mem_append_right _ (List.mem_append_right _ (List.mem_append_right _ (List.mem_append_right _ (List.mem_append_right _ (List.mem_append_right _ (List.mem_append_right _ (List.mem_append_right _ (h)))))))))))))))))))))))))))
theorem q_1_0 : (Cond.classLink RL 60 RX5) ∈ wsL_law := wr_1 _ (List.mem_of_getElem? (i := 0) rfl)
theorem q_1_1 : (Cond.instantiable RX5 7) ∈ wsL_law := wr_1 _ (List.mem_of_getElem? (i := 1) rfl)
theorem q_1_2 : (Cond.initialized RX5) ∈ wsL_law := wr_1 _ (List.mem_of_getElem? (i := 2) rfl)
theorem q_1_3 : (Cond.arrayClass .int) ∈ wsL_law := wr_1 _ (List.mem_of_getElem? (i := 3) rfl)
theorem q_1_4 : (Cond.arrayClass .long) ∈ wsL_law := wr_1 _ (List.mem_of_getElem? (i := 4) rfl)
theorem q_1_5 : (Cond.constant RL 8 (2147483647)) ∈ wsL_law := wr_1 _ (List.mem_of_getElem? (i := 5) rfl)
theorem q_1_6 : (Cond.methodLink RL 123 yX5_init) ∈ wsL_law := wr_1 _ (List.mem_of_getElem? (i := 6) rfl)
theorem q_1_7 : (Cond.instanceMethod yX5_init) ∈ wsL_law := wr_1 _ (List.mem_of_getElem? (i := 7) rfl)
theorem q_1_8 : (Cond.code yX5_init cX5_init 1 none) ∈ wsL_law := wr_1 _ (List.mem_of_getElem? (i := 8) rfl)
theorem q_1_9 : (Cond.methodLink RX5 1 objectInit) ∈ wsL_law := wr_1 _ (List.mem_of_getElem? (i := 9) rfl)
theorem q_1_10 : (Cond.instanceMethod objectInit) ∈ wsL_law := wr_1 _ (List.mem_of_getElem? (i := 10) rfl)
theorem q_1_11 : (Cond.code objectInit ⟨#[0xb1]⟩ 1 none) ∈ wsL_law := wr_1 _ (List.mem_of_getElem? (i := 11) rfl)
theorem q_1_12 : (Cond.classLink RX5 7 RX4) ∈ wsL_law := wr_1 _ (List.mem_of_getElem? (i := 12) rfl)
theorem q_1_13 : (Cond.instantiable RX4 14) ∈ wsL_law := wr_1 _ (List.mem_of_getElem? (i := 13) rfl)
theorem q_1_14 : (Cond.initialized RX4) ∈ wsL_law := wr_1 _ (List.mem_of_getElem? (i := 14) rfl)
theorem q_1_15 : (Cond.fieldLink RX5 10 "DriftPlans" "now" "LDriftPlans$State;") ∈ wsL_law := wr_1 _ (List.mem_of_getElem? (i := 15) rfl)
theorem q_1_16 : (Cond.fieldLink RX5 16 "DriftPlans" "snapshot" "LDriftPlans$State;") ∈ wsL_law := wr_1 _ (List.mem_of_getElem? (i := 16) rfl)
theorem q_1_17 : (Cond.classLink RX5 19 RJx4a65c) ∈ wsL_law := wr_1 _ (List.mem_of_getElem? (i := 17) rfl)
theorem q_1_18 : (Cond.instantiable RJx4a65c 3) ∈ wsL_law := wr_1 _ (List.mem_of_getElem? (i := 18) rfl)
theorem q_1_19 : (Cond.initialized RJx4a65c) ∈ wsL_law := wr_1 _ (List.mem_of_getElem? (i := 19) rfl)
theorem q_1_20 : (Cond.fieldLink RX5 22 "DriftPlans" "history" "Ljava/util/ArrayList;") ∈ wsL_law := wr_1 _ (List.mem_of_getElem? (i := 20) rfl)
theorem q_1_21 : (Cond.classLink RX5 26 RX3) ∈ wsL_law := wr_1 _ (List.mem_of_getElem? (i := 21) rfl)
theorem q_1_22 : (Cond.instantiable RX3 3) ∈ wsL_law := wr_1 _ (List.mem_of_getElem? (i := 22) rfl)
theorem q_1_23 : (Cond.initialized RX3) ∈ wsL_law := wr_1 _ (List.mem_of_getElem? (i := 23) rfl)
theorem q_2_0 : (Cond.fieldLink RX5 29 "DriftPlans" "reckoner" "LDriftPlans$Reckoner;") ∈ wsL_law := wr_2 _ (List.mem_of_getElem? (i := 0) rfl)
theorem q_2_1 : (Cond.classLink RX5 33 RX1) ∈ wsL_law := wr_2 _ (List.mem_of_getElem? (i := 1) rfl)
theorem q_2_2 : (Cond.instantiable RX1 2) ∈ wsL_law := wr_2 _ (List.mem_of_getElem? (i := 2) rfl)
theorem q_2_3 : (Cond.initialized RX1) ∈ wsL_law := wr_2 _ (List.mem_of_getElem? (i := 3) rfl)
theorem q_2_4 : (Cond.fieldLink RX5 36 "DriftPlans" "pad" "LDriftPlans$Pad;") ∈ wsL_law := wr_2 _ (List.mem_of_getElem? (i := 4) rfl)
theorem q_2_5 : (Cond.fieldLink RX5 40 "DriftPlans" "stopDeed" "I") ∈ wsL_law := wr_2 _ (List.mem_of_getElem? (i := 5) rfl)
theorem q_2_6 : (Cond.fieldLink RX5 44 "DriftPlans" "stopPlace" "I") ∈ wsL_law := wr_2 _ (List.mem_of_getElem? (i := 6) rfl)
theorem q_2_7 : (Cond.methodLink RX5 9 yX4_init) ∈ wsL_law := wr_2 _ (List.mem_of_getElem? (i := 7) rfl)
theorem q_2_8 : (Cond.instanceMethod yX4_init) ∈ wsL_law := wr_2 _ (List.mem_of_getElem? (i := 8) rfl)
theorem q_2_9 : (Cond.code yX4_init cX4_init 3 none) ∈ wsL_law := wr_2 _ (List.mem_of_getElem? (i := 9) rfl)
theorem q_2_10 : (Cond.methodLink RX4 3 objectInit) ∈ wsL_law := wr_2 _ (List.mem_of_getElem? (i := 10) rfl)
theorem q_2_11 : (Cond.fieldLink RX4 9 "DriftPlans$State" "rows" "[I") ∈ wsL_law := wr_2 _ (List.mem_of_getElem? (i := 11) rfl)
theorem q_2_12 : (Cond.fieldLink RX4 15 "DriftPlans$State" "guesses" "[I") ∈ wsL_law := wr_2 _ (List.mem_of_getElem? (i := 12) rfl)
theorem q_2_13 : (Cond.classLink RX4 18 "[[I") ∈ wsL_law := wr_2 _ (List.mem_of_getElem? (i := 13) rfl)
theorem q_2_14 : (Cond.fieldLink RX4 20 "DriftPlans$State" "parts" "[[I") ∈ wsL_law := wr_2 _ (List.mem_of_getElem? (i := 14) rfl)
theorem q_2_15 : (Cond.classLink RX4 23 RJx4a65c) ∈ wsL_law := wr_2 _ (List.mem_of_getElem? (i := 15) rfl)
theorem q_2_16 : (Cond.fieldLink RX4 26 "DriftPlans$State" "kept" "Ljava/util/ArrayList;") ∈ wsL_law := wr_2 _ (List.mem_of_getElem? (i := 16) rfl)
theorem q_2_17 : (Cond.fieldLink RX4 30 "DriftPlans$State" "driftLimit" "I") ∈ wsL_law := wr_2 _ (List.mem_of_getElem? (i := 17) rfl)
theorem q_2_18 : (Cond.methodLink RX4 25 yJx4a65c_init_da8c8) ∈ wsL_law := wr_2 _ (List.mem_of_getElem? (i := 18) rfl)
theorem q_2_19 : (Cond.instanceMethod yJx4a65c_init_da8c8) ∈ wsL_law := wr_2 _ (List.mem_of_getElem? (i := 19) rfl)
theorem q_2_20 : (Cond.code yJx4a65c_init_da8c8 cJx4a65c_init_da8c8 1 none) ∈ wsL_law := wr_2 _ (List.mem_of_getElem? (i := 20) rfl)
theorem q_2_21 : (Cond.fieldLink RJx4a65c 39 "java/util/ArrayList" "DEFAULTCAPACITY_EMPTY_ELEMENTDATA" "[Ljava/lang/Object;") ∈ wsL_law := wr_2 _ (List.mem_of_getElem? (i := 21) rfl)
theorem q_2_22 : (Cond.fieldLink RJx4a65c 9 "java/util/ArrayList" "elementData" "[Ljava/lang/Object;") ∈ wsL_law := wr_2 _ (List.mem_of_getElem? (i := 22) rfl)
theorem q_2_23 : (Cond.methodLink RJx4a65c 1 yJxc12de_init_da8c8) ∈ wsL_law := wr_2 _ (List.mem_of_getElem? (i := 23) rfl)
theorem q_3_0 : (Cond.instanceMethod yJxc12de_init_da8c8) ∈ wsL_law := wr_3 _ (List.mem_of_getElem? (i := 0) rfl)
theorem q_3_1 : (Cond.initialized RJxc12de) ∈ wsL_law := wr_3 _ (List.mem_of_getElem? (i := 1) rfl)
theorem q_3_2 : (Cond.code yJxc12de_init_da8c8 cJxc12de_init_da8c8 1 none) ∈ wsL_law := wr_3 _ (List.mem_of_getElem? (i := 2) rfl)
theorem q_3_3 : (Cond.fieldLink RJxc12de 7 "java/util/AbstractList" "modCount" "I") ∈ wsL_law := wr_3 _ (List.mem_of_getElem? (i := 3) rfl)
theorem q_3_4 : (Cond.methodLink RJxc12de 1 yJxa1e45_init_da8c8) ∈ wsL_law := wr_3 _ (List.mem_of_getElem? (i := 4) rfl)
theorem q_3_5 : (Cond.instanceMethod yJxa1e45_init_da8c8) ∈ wsL_law := wr_3 _ (List.mem_of_getElem? (i := 5) rfl)
theorem q_3_6 : (Cond.initialized RJxa1e45) ∈ wsL_law := wr_3 _ (List.mem_of_getElem? (i := 6) rfl)
theorem q_3_7 : (Cond.code yJxa1e45_init_da8c8 cJxa1e45_init_da8c8 1 none) ∈ wsL_law := wr_3 _ (List.mem_of_getElem? (i := 7) rfl)
theorem q_3_8 : (Cond.methodLink RJxa1e45 1 objectInit) ∈ wsL_law := wr_3 _ (List.mem_of_getElem? (i := 8) rfl)
theorem q_3_9 : (Cond.methodLink RX5 21 yJx4a65c_init_da8c8) ∈ wsL_law := wr_3 _ (List.mem_of_getElem? (i := 9) rfl)
theorem q_3_10 : (Cond.methodLink RX5 28 yX3_init) ∈ wsL_law := wr_3 _ (List.mem_of_getElem? (i := 10) rfl)
theorem q_3_11 : (Cond.instanceMethod yX3_init) ∈ wsL_law := wr_3 _ (List.mem_of_getElem? (i := 11) rfl)
theorem q_3_12 : (Cond.code yX3_init cX3_init 1 none) ∈ wsL_law := wr_3 _ (List.mem_of_getElem? (i := 12) rfl)
theorem q_3_13 : (Cond.methodLink RX3 3 objectInit) ∈ wsL_law := wr_3 _ (List.mem_of_getElem? (i := 13) rfl)
theorem q_3_14 : (Cond.fieldLink RX3 9 "DriftPlans$Reckoner" "products" "[J") ∈ wsL_law := wr_3 _ (List.mem_of_getElem? (i := 14) rfl)
theorem q_3_15 : (Cond.fieldLink RX3 15 "DriftPlans$Reckoner" "leastCosts" "[J") ∈ wsL_law := wr_3 _ (List.mem_of_getElem? (i := 15) rfl)
theorem q_3_16 : (Cond.fieldLink RX3 18 "DriftPlans$Reckoner" "bestOrders" "[I") ∈ wsL_law := wr_3 _ (List.mem_of_getElem? (i := 16) rfl)
theorem q_3_17 : (Cond.instanceMethod yX1_init) ∈ wsL_law := wr_3 _ (List.mem_of_getElem? (i := 17) rfl)
theorem q_3_18 : (Cond.code yX1_init cX1_init 1 none) ∈ wsL_law := wr_3 _ (List.mem_of_getElem? (i := 18) rfl)
theorem q_3_19 : (Cond.methodLink RX1 3 objectInit) ∈ wsL_law := wr_3 _ (List.mem_of_getElem? (i := 19) rfl)
theorem q_3_20 : (Cond.arrayClass .char) ∈ wsL_law := wr_3 _ (List.mem_of_getElem? (i := 20) rfl)
theorem q_3_21 : (Cond.fieldLink RX1 9 "DriftPlans$Pad" "signs" "[C") ∈ wsL_law := wr_3 _ (List.mem_of_getElem? (i := 21) rfl)
theorem q_3_22 : (Cond.fieldLink RX1 15 "DriftPlans$Pad" "length" "I") ∈ wsL_law := wr_3 _ (List.mem_of_getElem? (i := 22) rfl)
theorem q_3_23 : (Cond.methodLink RL 124 yL_cell) ∈ wsL_law := wr_3 _ (List.mem_of_getElem? (i := 23) rfl)
theorem q_4_0 : (Cond.static yL_cell) ∈ wsL_law := wr_4 _ (List.mem_of_getElem? (i := 0) rfl)
theorem q_4_1 : (Cond.initialized RL) ∈ wsL_law := wr_4 _ (List.mem_of_getElem? (i := 1) rfl)
theorem q_4_2 : (Cond.code yL_cell cL_cell 2 (some .int)) ∈ wsL_law := wr_4 _ (List.mem_of_getElem? (i := 2) rfl)
theorem q_4_3 : (Cond.constant RL 7 (40503)) ∈ wsL_law := wr_4 _ (List.mem_of_getElem? (i := 3) rfl)
theorem q_4_4 : (Cond.methodLink RL 128 yL_isActed) ∈ wsL_law := wr_4 _ (List.mem_of_getElem? (i := 4) rfl)
theorem q_4_5 : (Cond.static yL_isActed) ∈ wsL_law := wr_4 _ (List.mem_of_getElem? (i := 5) rfl)
theorem q_4_6 : (Cond.code yL_isActed cL_isActed 12 (some .boolean)) ∈ wsL_law := wr_4 _ (List.mem_of_getElem? (i := 6) rfl)
theorem q_4_7 : (Cond.methodLink RL 97 yX5_rows) ∈ wsL_law := wr_4 _ (List.mem_of_getElem? (i := 7) rfl)
theorem q_4_8 : (Cond.instanceMethod yX5_rows) ∈ wsL_law := wr_4 _ (List.mem_of_getElem? (i := 8) rfl)
theorem q_4_9 : (Cond.selects RX5 yX5_rows yX5_rows) ∈ wsL_law := wr_4 _ (List.mem_of_getElem? (i := 9) rfl)
theorem q_4_10 : (Cond.code yX5_rows cX5_rows 4 (some .int)) ∈ wsL_law := wr_4 _ (List.mem_of_getElem? (i := 10) rfl)
theorem q_4_11 : (Cond.fieldLink RX5 54 "DriftPlans$State" "rows" "[I") ∈ wsL_law := wr_4 _ (List.mem_of_getElem? (i := 11) rfl)
theorem q_4_12 : (Cond.methodLink RX5 47 yX5_isTable) ∈ wsL_law := wr_4 _ (List.mem_of_getElem? (i := 12) rfl)
theorem q_4_13 : (Cond.static yX5_isTable) ∈ wsL_law := wr_4 _ (List.mem_of_getElem? (i := 13) rfl)
theorem q_4_14 : (Cond.code yX5_isTable cX5_isTable 1 (some .boolean)) ∈ wsL_law := wr_4 _ (List.mem_of_getElem? (i := 14) rfl)
theorem q_4_15 : (Cond.methodLink RX5 51 yX5_remember) ∈ wsL_law := wr_4 _ (List.mem_of_getElem? (i := 15) rfl)
theorem q_4_16 : (Cond.instanceMethod yX5_remember) ∈ wsL_law := wr_4 _ (List.mem_of_getElem? (i := 16) rfl)
theorem q_4_17 : (Cond.selects RX5 yX5_remember yX5_remember) ∈ wsL_law := wr_4 _ (List.mem_of_getElem? (i := 17) rfl)
theorem q_4_18 : (Cond.code yX5_remember cX5_remember 1 none) ∈ wsL_law := wr_4 _ (List.mem_of_getElem? (i := 18) rfl)
theorem q_4_19 : (Cond.methodLink RX5 247 yX4_init_) ∈ wsL_law := wr_4 _ (List.mem_of_getElem? (i := 19) rfl)
theorem q_4_20 : (Cond.instanceMethod yX4_init_) ∈ wsL_law := wr_4 _ (List.mem_of_getElem? (i := 20) rfl)
theorem q_4_21 : (Cond.code yX4_init_ cX4_init_ 4 none) ∈ wsL_law := wr_4 _ (List.mem_of_getElem? (i := 21) rfl)
theorem q_4_22 : (Cond.classLink RX4 42 "DriftPlans$Kept") ∈ wsL_law := wr_4 _ (List.mem_of_getElem? (i := 22) rfl)
theorem q_4_23 : (Cond.fieldLink RX4 48 "DriftPlans$State" "hits" "J") ∈ wsL_law := wr_4 _ (List.mem_of_getElem? (i := 23) rfl)
theorem q_5_0 : (Cond.fieldLink RX4 52 "DriftPlans$State" "misses" "J") ∈ wsL_law := wr_5 _ (List.mem_of_getElem? (i := 0) rfl)
theorem q_5_1 : (Cond.fieldLink RX4 55 "DriftPlans$State" "runCosts" "J") ∈ wsL_law := wr_5 _ (List.mem_of_getElem? (i := 1) rfl)
theorem q_5_2 : (Cond.fieldLink RX4 58 "DriftPlans$State" "makingCosts" "J") ∈ wsL_law := wr_5 _ (List.mem_of_getElem? (i := 2) rfl)
theorem q_5_3 : (Cond.fieldLink RX4 61 "DriftPlans$State" "driftedOut" "J") ∈ wsL_law := wr_5 _ (List.mem_of_getElem? (i := 3) rfl)
theorem q_5_4 : (Cond.fieldLink RX4 64 "DriftPlans$State" "pushedOut" "J") ∈ wsL_law := wr_5 _ (List.mem_of_getElem? (i := 4) rfl)
theorem q_5_5 : (Cond.fieldLink RX4 67 "DriftPlans$State" "joinedOut" "J") ∈ wsL_law := wr_5 _ (List.mem_of_getElem? (i := 5) rfl)
theorem q_5_6 : (Cond.fieldLink RX4 70 "DriftPlans$State" "forgotten" "J") ∈ wsL_law := wr_5 _ (List.mem_of_getElem? (i := 6) rfl)
theorem q_5_7 : (Cond.fieldLink RX4 73 "DriftPlans$State" "usedOnly" "J") ∈ wsL_law := wr_5 _ (List.mem_of_getElem? (i := 7) rfl)
theorem q_5_8 : (Cond.methodLink RX4 34 yJx4a65c_size_8abf5) ∈ wsL_law := wr_5 _ (List.mem_of_getElem? (i := 8) rfl)
theorem q_5_9 : (Cond.instanceMethod yJx4a65c_size_8abf5) ∈ wsL_law := wr_5 _ (List.mem_of_getElem? (i := 9) rfl)
theorem q_5_10 : (Cond.selects RJx4a65c yJx4a65c_size_8abf5 yJx4a65c_size_8abf5) ∈ wsL_law := wr_5 _ (List.mem_of_getElem? (i := 10) rfl)
theorem q_5_11 : (Cond.code yJx4a65c_size_8abf5 cJx4a65c_size_8abf5 1 (some .int)) ∈ wsL_law := wr_5 _ (List.mem_of_getElem? (i := 11) rfl)
theorem q_5_12 : (Cond.fieldLink RJx4a65c 48 "java/util/ArrayList" "size" "I") ∈ wsL_law := wr_5 _ (List.mem_of_getElem? (i := 12) rfl)
theorem q_5_13 : (Cond.methodLink RX4 38 yJx4a65c_get_915e3) ∈ wsL_law := wr_5 _ (List.mem_of_getElem? (i := 13) rfl)
theorem q_5_14 : (Cond.instanceMethod yJx4a65c_get_915e3) ∈ wsL_law := wr_5 _ (List.mem_of_getElem? (i := 14) rfl)
theorem q_5_15 : (Cond.selects RJx4a65c yJx4a65c_get_915e3 yJx4a65c_get_915e3) ∈ wsL_law := wr_5 _ (List.mem_of_getElem? (i := 15) rfl)
theorem q_5_16 : (Cond.code yJx4a65c_get_915e3 cJx4a65c_get_915e3 2 (some (.object "java/lang/Object"))) ∈ wsL_law := wr_5 _ (List.mem_of_getElem? (i := 16) rfl)
theorem q_5_17 : (Cond.methodLink RJx4a65c 118 yJ15_checkIndex_7cf53) ∈ wsL_law := wr_5 _ (List.mem_of_getElem? (i := 17) rfl)
theorem q_5_18 : (Cond.static yJ15_checkIndex_7cf53) ∈ wsL_law := wr_5 _ (List.mem_of_getElem? (i := 18) rfl)
theorem q_5_19 : (Cond.initialized RJ15) ∈ wsL_law := wr_5 _ (List.mem_of_getElem? (i := 19) rfl)
theorem q_5_20 : (Cond.code yJ15_checkIndex_7cf53 cJ15_checkIndex_7cf53 2 (some .int)) ∈ wsL_law := wr_5 _ (List.mem_of_getElem? (i := 20) rfl)
theorem q_5_21 : (Cond.methodLink RJ15 105 yJ3_checkIndex_8e157) ∈ wsL_law := wr_5 _ (List.mem_of_getElem? (i := 21) rfl)
theorem q_5_22 : (Cond.static yJ3_checkIndex_8e157) ∈ wsL_law := wr_5 _ (List.mem_of_getElem? (i := 22) rfl)
theorem q_5_23 : (Cond.initialized RJ3) ∈ wsL_law := wr_5 _ (List.mem_of_getElem? (i := 23) rfl)
theorem q_6_0 : (Cond.code yJ3_checkIndex_8e157 cJ3_checkIndex_8e157 3 (some .int)) ∈ wsL_law := wr_6 _ (List.mem_of_getElem? (i := 0) rfl)
theorem q_6_1 : (Cond.methodLink RJx4a65c 123 yJx4a65c_elementData_915e3) ∈ wsL_law := wr_6 _ (List.mem_of_getElem? (i := 1) rfl)
theorem q_6_2 : (Cond.instanceMethod yJx4a65c_elementData_915e3) ∈ wsL_law := wr_6 _ (List.mem_of_getElem? (i := 2) rfl)
theorem q_6_3 : (Cond.selects RJx4a65c yJx4a65c_elementData_915e3 yJx4a65c_elementData_915e3) ∈ wsL_law := wr_6 _ (List.mem_of_getElem? (i := 3) rfl)
theorem q_6_4 : (Cond.code yJx4a65c_elementData_915e3 cJx4a65c_elementData_915e3 2 (some (.object "java/lang/Object"))) ∈ wsL_law := wr_6 _ (List.mem_of_getElem? (i := 4) rfl)
theorem q_6_5 : (Cond.methodLink RX4 44 yJx4a65c_add_9ea2d) ∈ wsL_law := wr_6 _ (List.mem_of_getElem? (i := 5) rfl)
theorem q_6_6 : (Cond.instanceMethod yJx4a65c_add_9ea2d) ∈ wsL_law := wr_6 _ (List.mem_of_getElem? (i := 6) rfl)
theorem q_6_7 : (Cond.selects RJx4a65c yJx4a65c_add_9ea2d yJx4a65c_add_9ea2d) ∈ wsL_law := wr_6 _ (List.mem_of_getElem? (i := 7) rfl)
theorem q_6_8 : (Cond.code yJx4a65c_add_9ea2d cJx4a65c_add_9ea2d 2 (some .boolean)) ∈ wsL_law := wr_6 _ (List.mem_of_getElem? (i := 8) rfl)
theorem q_6_9 : (Cond.fieldLink RJx4a65c 63 "java/util/ArrayList" "modCount" "I") ∈ wsL_law := wr_6 _ (List.mem_of_getElem? (i := 9) rfl)
theorem q_6_10 : (Cond.sameField "java/util/ArrayList" "java/util/AbstractList" "modCount" "I") ∈ wsL_law := wr_6 _ (List.mem_of_getElem? (i := 10) rfl)
theorem q_6_11 : (Cond.methodLink RJx4a65c 131 yJx4a65c_add_72be8) ∈ wsL_law := wr_6 _ (List.mem_of_getElem? (i := 11) rfl)
theorem q_6_12 : (Cond.instanceMethod yJx4a65c_add_72be8) ∈ wsL_law := wr_6 _ (List.mem_of_getElem? (i := 12) rfl)
theorem q_6_13 : (Cond.selects RJx4a65c yJx4a65c_add_72be8 yJx4a65c_add_72be8) ∈ wsL_law := wr_6 _ (List.mem_of_getElem? (i := 13) rfl)
theorem q_6_14 : (Cond.code yJx4a65c_add_72be8 cJx4a65c_add_72be8 4 none) ∈ wsL_law := wr_6 _ (List.mem_of_getElem? (i := 14) rfl)
theorem q_6_15 : (Cond.methodLink RJx4a65c 129 yJx4a65c_grow_d5877) ∈ wsL_law := wr_6 _ (List.mem_of_getElem? (i := 15) rfl)
theorem q_6_16 : (Cond.instanceMethod yJx4a65c_grow_d5877) ∈ wsL_law := wr_6 _ (List.mem_of_getElem? (i := 16) rfl)
theorem q_6_17 : (Cond.selects RJx4a65c yJx4a65c_grow_d5877 yJx4a65c_grow_d5877) ∈ wsL_law := wr_6 _ (List.mem_of_getElem? (i := 17) rfl)
theorem q_6_18 : (Cond.code yJx4a65c_grow_d5877 cJx4a65c_grow_d5877 1 (some (.array (.object "java/lang/Object")))) ∈ wsL_law := wr_6 _ (List.mem_of_getElem? (i := 18) rfl)
theorem q_6_19 : (Cond.methodLink RJx4a65c 69 yJx4a65c_grow_92f84) ∈ wsL_law := wr_6 _ (List.mem_of_getElem? (i := 19) rfl)
theorem q_6_20 : (Cond.instanceMethod yJx4a65c_grow_92f84) ∈ wsL_law := wr_6 _ (List.mem_of_getElem? (i := 20) rfl)
theorem q_6_21 : (Cond.selects RJx4a65c yJx4a65c_grow_92f84 yJx4a65c_grow_92f84) ∈ wsL_law := wr_6 _ (List.mem_of_getElem? (i := 21) rfl)
theorem q_6_22 : (Cond.code yJx4a65c_grow_92f84 cJx4a65c_grow_92f84 4 (some (.array (.object "java/lang/Object")))) ∈ wsL_law := wr_6 _ (List.mem_of_getElem? (i := 22) rfl)
theorem q_6_23 : (Cond.methodLink RJx4a65c 79 Lib.Math.max.name) ∈ wsL_law := wr_6 _ (List.mem_of_getElem? (i := 23) rfl)
theorem q_7_0 : (Cond.static Lib.Math.max.name) ∈ wsL_law := wr_7 _ (List.mem_of_getElem? (i := 0) rfl)
theorem q_7_1 : (Cond.initialized "java/lang/Math") ∈ wsL_law := wr_7 _ (List.mem_of_getElem? (i := 1) rfl)
theorem q_7_2 : (Cond.code Lib.Math.max.name Lib.Math.max.code 2 (some .int)) ∈ wsL_law := wr_7 _ (List.mem_of_getElem? (i := 2) rfl)
theorem q_7_3 : (Cond.classLink RJx4a65c 7 "java/lang/Object") ∈ wsL_law := wr_7 _ (List.mem_of_getElem? (i := 3) rfl)
theorem q_7_4 : (Cond.methodLink RJx4a65c 73 yJ8_newLength_cabcc) ∈ wsL_law := wr_7 _ (List.mem_of_getElem? (i := 4) rfl)
theorem q_7_5 : (Cond.static yJ8_newLength_cabcc) ∈ wsL_law := wr_7 _ (List.mem_of_getElem? (i := 5) rfl)
theorem q_7_6 : (Cond.initialized RJ8) ∈ wsL_law := wr_7 _ (List.mem_of_getElem? (i := 6) rfl)
theorem q_7_7 : (Cond.code yJ8_newLength_cabcc cJ8_newLength_cabcc 4 (some .int)) ∈ wsL_law := wr_7 _ (List.mem_of_getElem? (i := 7) rfl)
theorem q_7_8 : (Cond.methodLink RJ8 194 Lib.Math.max.name) ∈ wsL_law := wr_7 _ (List.mem_of_getElem? (i := 8) rfl)
theorem q_7_9 : (Cond.constant RJ8 200 (2147483639)) ∈ wsL_law := wr_7 _ (List.mem_of_getElem? (i := 9) rfl)
theorem q_7_10 : (Cond.methodLink RJ8 201 yJ8_hugeLength_7cf53) ∈ wsL_law := wr_7 _ (List.mem_of_getElem? (i := 10) rfl)
theorem q_7_11 : (Cond.static yJ8_hugeLength_7cf53) ∈ wsL_law := wr_7 _ (List.mem_of_getElem? (i := 11) rfl)
theorem q_7_12 : (Cond.code yJ8_hugeLength_7cf53 cJ8_hugeLength_7cf53 3 (some .int)) ∈ wsL_law := wr_7 _ (List.mem_of_getElem? (i := 12) rfl)
theorem q_7_13 : (Cond.methodLink RJx4a65c 66 yJ7_copyOf_1904c) ∈ wsL_law := wr_7 _ (List.mem_of_getElem? (i := 13) rfl)
theorem q_7_14 : (Cond.static yJ7_copyOf_1904c) ∈ wsL_law := wr_7 _ (List.mem_of_getElem? (i := 14) rfl)
theorem q_7_15 : (Cond.initialized RJ7) ∈ wsL_law := wr_7 _ (List.mem_of_getElem? (i := 15) rfl)
theorem q_7_16 : (Cond.code yJ7_copyOf_1904c cJ7_copyOf_1904c 2 (some (.array (.object "java/lang/Object")))) ∈ wsL_law := wr_7 _ (List.mem_of_getElem? (i := 16) rfl)
theorem q_7_17 : (Cond.methodLink RJ7 86 ⟨"java/lang/Object", "getClass", "()Ljava/lang/Class;"⟩) ∈ wsL_law := wr_7 _ (List.mem_of_getElem? (i := 17) rfl)
theorem q_7_18 : (Cond.selects "[Ljava/lang/Object;" ⟨"java/lang/Object", "getClass", "()Ljava/lang/Class;"⟩ ⟨"java/lang/Object", "getClass", "()Ljava/lang/Class;"⟩) ∈ wsL_law := wr_7 _ (List.mem_of_getElem? (i := 18) rfl)
theorem q_7_19 : (Cond.instanceMethod ⟨"java/lang/Object", "getClass", "()Ljava/lang/Class;"⟩) ∈ wsL_law := wr_7 _ (List.mem_of_getElem? (i := 19) rfl)
theorem q_7_20 : (Cond.native ⟨"java/lang/Object", "getClass", "()Ljava/lang/Class;"⟩) ∈ wsL_law := wr_7 _ (List.mem_of_getElem? (i := 20) rfl)
theorem q_7_21 : (Cond.methodLink RJ7 300 yJ7_copyOf_6403c) ∈ wsL_law := wr_7 _ (List.mem_of_getElem? (i := 21) rfl)
theorem q_7_22 : (Cond.static yJ7_copyOf_6403c) ∈ wsL_law := wr_7 _ (List.mem_of_getElem? (i := 22) rfl)
theorem q_7_23 : (Cond.code yJ7_copyOf_6403c cJ7_copyOf_6403c 4 (some (.array (.object "java/lang/Object")))) ∈ wsL_law := wr_7 _ (List.mem_of_getElem? (i := 23) rfl)
theorem q_8_0 : (Cond.classLink RJ7 110 "[Ljava/lang/Object;") ∈ wsL_law := wr_8 _ (List.mem_of_getElem? (i := 0) rfl)
theorem q_8_1 : (Cond.classLink RJ7 2 "java/lang/Object") ∈ wsL_law := wr_8 _ (List.mem_of_getElem? (i := 1) rfl)
theorem q_8_2 : (Cond.methodLink RJ7 304 Lib.Math.min.name) ∈ wsL_law := wr_8 _ (List.mem_of_getElem? (i := 2) rfl)
theorem q_8_3 : (Cond.static Lib.Math.min.name) ∈ wsL_law := wr_8 _ (List.mem_of_getElem? (i := 3) rfl)
theorem q_8_4 : (Cond.code Lib.Math.min.name Lib.Math.min.code 2 (some .int)) ∈ wsL_law := wr_8 _ (List.mem_of_getElem? (i := 4) rfl)
theorem q_8_5 : (Cond.methodLink RJ7 150 arraycopyName) ∈ wsL_law := wr_8 _ (List.mem_of_getElem? (i := 5) rfl)
theorem q_8_6 : (Cond.native arraycopyName) ∈ wsL_law := wr_8 _ (List.mem_of_getElem? (i := 6) rfl)
theorem q_8_7 : (Cond.static arraycopyName) ∈ wsL_law := wr_8 _ (List.mem_of_getElem? (i := 7) rfl)
theorem q_8_8 : (Cond.initialized "java/lang/System") ∈ wsL_law := wr_8 _ (List.mem_of_getElem? (i := 8) rfl)
theorem q_8_9 : (Cond.methodLink RX5 250 yJx4a65c_add_9ea2d) ∈ wsL_law := wr_8 _ (List.mem_of_getElem? (i := 9) rfl)
theorem q_8_10 : (Cond.methodLink RX5 202 yJx4a65c_size_8abf5) ∈ wsL_law := wr_8 _ (List.mem_of_getElem? (i := 10) rfl)
theorem q_8_11 : (Cond.methodLink RX5 115 yJx4a65c_remove_915e3) ∈ wsL_law := wr_8 _ (List.mem_of_getElem? (i := 11) rfl)
theorem q_8_12 : (Cond.instanceMethod yJx4a65c_remove_915e3) ∈ wsL_law := wr_8 _ (List.mem_of_getElem? (i := 12) rfl)
theorem q_8_13 : (Cond.selects RJx4a65c yJx4a65c_remove_915e3 yJx4a65c_remove_915e3) ∈ wsL_law := wr_8 _ (List.mem_of_getElem? (i := 13) rfl)
theorem q_8_14 : (Cond.code yJx4a65c_remove_915e3 cJx4a65c_remove_915e3 4 (some (.object "java/lang/Object"))) ∈ wsL_law := wr_8 _ (List.mem_of_getElem? (i := 14) rfl)
theorem q_8_15 : (Cond.methodLink RJx4a65c 144 yJx4a65c_fastRemove_b59b0) ∈ wsL_law := wr_8 _ (List.mem_of_getElem? (i := 15) rfl)
theorem q_8_16 : (Cond.instanceMethod yJx4a65c_fastRemove_b59b0) ∈ wsL_law := wr_8 _ (List.mem_of_getElem? (i := 16) rfl)
theorem q_8_17 : (Cond.selects RJx4a65c yJx4a65c_fastRemove_b59b0 yJx4a65c_fastRemove_b59b0) ∈ wsL_law := wr_8 _ (List.mem_of_getElem? (i := 17) rfl)
theorem q_8_18 : (Cond.code yJx4a65c_fastRemove_b59b0 cJx4a65c_fastRemove_b59b0 4 none) ∈ wsL_law := wr_8 _ (List.mem_of_getElem? (i := 18) rfl)
theorem q_8_19 : (Cond.methodLink RJx4a65c 112 arraycopyName) ∈ wsL_law := wr_8 _ (List.mem_of_getElem? (i := 19) rfl)
theorem q_8_20 : (Cond.methodLink RL 100 yL_isPart) ∈ wsL_law := wr_8 _ (List.mem_of_getElem? (i := 20) rfl)
theorem q_8_21 : (Cond.static yL_isPart) ∈ wsL_law := wr_8 _ (List.mem_of_getElem? (i := 21) rfl)
theorem q_8_22 : (Cond.code yL_isPart cL_isPart 9 (some .boolean)) ∈ wsL_law := wr_8 _ (List.mem_of_getElem? (i := 22) rfl)
theorem q_8_23 : (Cond.methodLink RL 90 yX5_part) ∈ wsL_law := wr_8 _ (List.mem_of_getElem? (i := 23) rfl)
theorem q_9_0 : (Cond.instanceMethod yX5_part) ∈ wsL_law := wr_9 _ (List.mem_of_getElem? (i := 0) rfl)
theorem q_9_1 : (Cond.selects RX5 yX5_part yX5_part) ∈ wsL_law := wr_9 _ (List.mem_of_getElem? (i := 1) rfl)
theorem q_9_2 : (Cond.code yX5_part cX5_part 4 (some .int)) ∈ wsL_law := wr_9 _ (List.mem_of_getElem? (i := 2) rfl)
theorem q_9_3 : (Cond.fieldLink RX5 62 "DriftPlans$State" "parts" "[[I") ∈ wsL_law := wr_9 _ (List.mem_of_getElem? (i := 3) rfl)
theorem q_9_4 : (Cond.methodLink RX5 58 yX5_isJoin) ∈ wsL_law := wr_9 _ (List.mem_of_getElem? (i := 4) rfl)
theorem q_9_5 : (Cond.static yX5_isJoin) ∈ wsL_law := wr_9 _ (List.mem_of_getElem? (i := 5) rfl)
theorem q_9_6 : (Cond.code yX5_isJoin cX5_isJoin 2 (some .boolean)) ∈ wsL_law := wr_9 _ (List.mem_of_getElem? (i := 6) rfl)
theorem q_9_7 : (Cond.methodLink RX5 66 yX5_bit) ∈ wsL_law := wr_9 _ (List.mem_of_getElem? (i := 7) rfl)
theorem q_9_8 : (Cond.static yX5_bit) ∈ wsL_law := wr_9 _ (List.mem_of_getElem? (i := 8) rfl)
theorem q_9_9 : (Cond.code yX5_bit cX5_bit 1 (some .int)) ∈ wsL_law := wr_9 _ (List.mem_of_getElem? (i := 9) rfl)
theorem q_9_10 : (Cond.methodLink RX5 70 yX4_throwOutJoins) ∈ wsL_law := wr_9 _ (List.mem_of_getElem? (i := 10) rfl)
theorem q_9_11 : (Cond.instanceMethod yX4_throwOutJoins) ∈ wsL_law := wr_9 _ (List.mem_of_getElem? (i := 11) rfl)
theorem q_9_12 : (Cond.selects RX4 yX4_throwOutJoins yX4_throwOutJoins) ∈ wsL_law := wr_9 _ (List.mem_of_getElem? (i := 12) rfl)
theorem q_9_13 : (Cond.code yX4_throwOutJoins cX4_throwOutJoins 5 (some .int)) ∈ wsL_law := wr_9 _ (List.mem_of_getElem? (i := 13) rfl)
theorem q_9_14 : (Cond.fieldLink RX4 83 "DriftPlans$Kept" "pinned" "Z") ∈ wsL_law := wr_9 _ (List.mem_of_getElem? (i := 14) rfl)
theorem q_9_15 : (Cond.fieldLink RX4 76 "DriftPlans$Kept" "shape" "I") ∈ wsL_law := wr_9 _ (List.mem_of_getElem? (i := 15) rfl)
theorem q_9_16 : (Cond.static yX5_hasAll) ∈ wsL_law := wr_9 _ (List.mem_of_getElem? (i := 16) rfl)
theorem q_9_17 : (Cond.code yX5_hasAll cX5_hasAll 2 (some .boolean)) ∈ wsL_law := wr_9 _ (List.mem_of_getElem? (i := 17) rfl)
theorem q_9_18 : (Cond.methodLink RX4 101 yJx4a65c_remove_915e3) ∈ wsL_law := wr_9 _ (List.mem_of_getElem? (i := 18) rfl)
theorem q_9_19 : (Cond.methodLink RL 31 yL_out) ∈ wsL_law := wr_9 _ (List.mem_of_getElem? (i := 19) rfl)
theorem q_9_20 : (Cond.static yL_out) ∈ wsL_law := wr_9 _ (List.mem_of_getElem? (i := 20) rfl)
theorem q_9_21 : (Cond.code yL_out cL_out 4 none) ∈ wsL_law := wr_9 _ (List.mem_of_getElem? (i := 21) rfl)
theorem q_9_22 : (Cond.methodLink RL 53 yL_thrown) ∈ wsL_law := wr_9 _ (List.mem_of_getElem? (i := 22) rfl)
theorem q_9_23 : (Cond.static yL_thrown) ∈ wsL_law := wr_9 _ (List.mem_of_getElem? (i := 23) rfl)
theorem q_10_0 : (Cond.code yL_thrown cL_thrown 5 (some .int)) ∈ wsL_law := wr_10 _ (List.mem_of_getElem? (i := 0) rfl)
theorem q_10_1 : (Cond.methodLink RL 27 yL_drifted) ∈ wsL_law := wr_10 _ (List.mem_of_getElem? (i := 1) rfl)
theorem q_10_2 : (Cond.static yL_drifted) ∈ wsL_law := wr_10 _ (List.mem_of_getElem? (i := 2) rfl)
theorem q_10_3 : (Cond.code yL_drifted cL_drifted 6 (some .boolean)) ∈ wsL_law := wr_10 _ (List.mem_of_getElem? (i := 3) rfl)
theorem q_10_4 : (Cond.methodLink RL 104 yX5_count) ∈ wsL_law := wr_10 _ (List.mem_of_getElem? (i := 4) rfl)
theorem q_10_5 : (Cond.instanceMethod yX5_count) ∈ wsL_law := wr_10 _ (List.mem_of_getElem? (i := 5) rfl)
theorem q_10_6 : (Cond.selects RX5 yX5_count yX5_count) ∈ wsL_law := wr_10 _ (List.mem_of_getElem? (i := 6) rfl)
theorem q_10_7 : (Cond.code yX5_count cX5_count 2 (some .int)) ∈ wsL_law := wr_10 _ (List.mem_of_getElem? (i := 7) rfl)
theorem q_10_8 : (Cond.methodLink RX5 73 yX4_countTables) ∈ wsL_law := wr_10 _ (List.mem_of_getElem? (i := 8) rfl)
theorem q_10_9 : (Cond.instanceMethod yX4_countTables) ∈ wsL_law := wr_10 _ (List.mem_of_getElem? (i := 9) rfl)
theorem q_10_10 : (Cond.selects RX4 yX4_countTables yX4_countTables) ∈ wsL_law := wr_10 _ (List.mem_of_getElem? (i := 10) rfl)
theorem q_10_11 : (Cond.code yX4_countTables cX4_countTables 3 (some .int)) ∈ wsL_law := wr_10 _ (List.mem_of_getElem? (i := 11) rfl)
theorem q_10_12 : (Cond.static yX5_has) ∈ wsL_law := wr_10 _ (List.mem_of_getElem? (i := 12) rfl)
theorem q_10_13 : (Cond.code yX5_has cX5_has 2 (some .boolean)) ∈ wsL_law := wr_10 _ (List.mem_of_getElem? (i := 13) rfl)
theorem q_10_14 : (Cond.methodLink RX4 116 yX4_throwOutDrifted) ∈ wsL_law := wr_10 _ (List.mem_of_getElem? (i := 14) rfl)
theorem q_10_15 : (Cond.instanceMethod yX4_throwOutDrifted) ∈ wsL_law := wr_10 _ (List.mem_of_getElem? (i := 15) rfl)
theorem q_10_16 : (Cond.selects RX4 yX4_throwOutDrifted yX4_throwOutDrifted) ∈ wsL_law := wr_10 _ (List.mem_of_getElem? (i := 16) rfl)
theorem q_10_17 : (Cond.code yX4_throwOutDrifted cX4_throwOutDrifted 4 (some .int)) ∈ wsL_law := wr_10 _ (List.mem_of_getElem? (i := 17) rfl)
theorem q_10_18 : (Cond.methodLink RX4 119 yX4_driftsOnceCounted) ∈ wsL_law := wr_10 _ (List.mem_of_getElem? (i := 18) rfl)
theorem q_10_19 : (Cond.instanceMethod yX4_driftsOnceCounted) ∈ wsL_law := wr_10 _ (List.mem_of_getElem? (i := 19) rfl)
theorem q_10_20 : (Cond.selects RX4 yX4_driftsOnceCounted yX4_driftsOnceCounted) ∈ wsL_law := wr_10 _ (List.mem_of_getElem? (i := 20) rfl)
theorem q_10_21 : (Cond.code yX4_driftsOnceCounted cX4_driftsOnceCounted 6 (some .boolean)) ∈ wsL_law := wr_10 _ (List.mem_of_getElem? (i := 21) rfl)
theorem q_10_22 : (Cond.fieldLink RX4 90 "DriftPlans$Kept" "guesses" "[I") ∈ wsL_law := wr_10 _ (List.mem_of_getElem? (i := 22) rfl)
theorem q_10_23 : (Cond.methodLink RX4 123 Lib.Math.max.name) ∈ wsL_law := wr_10 _ (List.mem_of_getElem? (i := 23) rfl)
theorem q_11_0 : (Cond.methodLink RX4 129 Lib.Math.min.name) ∈ wsL_law := wr_11 _ (List.mem_of_getElem? (i := 0) rfl)
theorem q_11_1 : (Cond.methodLink RL 107 yL_run) ∈ wsL_law := wr_11 _ (List.mem_of_getElem? (i := 1) rfl)
theorem q_11_2 : (Cond.static yL_run) ∈ wsL_law := wr_11 _ (List.mem_of_getElem? (i := 2) rfl)
theorem q_11_3 : (Cond.code yL_run cL_run 13 (some .long)) ∈ wsL_law := wr_11 _ (List.mem_of_getElem? (i := 3) rfl)
theorem q_11_4 : (Cond.constantLong RL 43 (10)) ∈ wsL_law := wr_11 _ (List.mem_of_getElem? (i := 4) rfl)
theorem q_11_5 : (Cond.methodLink RL 35 yL_place) ∈ wsL_law := wr_11 _ (List.mem_of_getElem? (i := 5) rfl)
theorem q_11_6 : (Cond.static yL_place) ∈ wsL_law := wr_11 _ (List.mem_of_getElem? (i := 6) rfl)
theorem q_11_7 : (Cond.code yL_place cL_place 4 (some .int)) ∈ wsL_law := wr_11 _ (List.mem_of_getElem? (i := 7) rfl)
theorem q_11_8 : (Cond.methodLink RL 39 yL_best) ∈ wsL_law := wr_11 _ (List.mem_of_getElem? (i := 8) rfl)
theorem q_11_9 : (Cond.static yL_best) ∈ wsL_law := wr_11 _ (List.mem_of_getElem? (i := 9) rfl)
theorem q_11_10 : (Cond.code yL_best cL_best 13 none) ∈ wsL_law := wr_11 _ (List.mem_of_getElem? (i := 10) rfl)
theorem q_11_11 : (Cond.methodLink RL 19 yL_least) ∈ wsL_law := wr_11 _ (List.mem_of_getElem? (i := 11) rfl)
theorem q_11_12 : (Cond.static yL_least) ∈ wsL_law := wr_11 _ (List.mem_of_getElem? (i := 12) rfl)
theorem q_11_13 : (Cond.code yL_least cL_least 7 (some .long)) ∈ wsL_law := wr_11 _ (List.mem_of_getElem? (i := 13) rfl)
theorem q_11_14 : (Cond.constantLong RL 11 (-1)) ∈ wsL_law := wr_11 _ (List.mem_of_getElem? (i := 14) rfl)
theorem q_11_15 : (Cond.methodLink RL 13 yL_size) ∈ wsL_law := wr_11 _ (List.mem_of_getElem? (i := 15) rfl)
theorem q_11_16 : (Cond.static yL_size) ∈ wsL_law := wr_11 _ (List.mem_of_getElem? (i := 16) rfl)
theorem q_11_17 : (Cond.code yL_size cL_size 7 (some .long)) ∈ wsL_law := wr_11 _ (List.mem_of_getElem? (i := 17) rfl)
theorem q_11_18 : (Cond.constantLong RL 9 (100)) ∈ wsL_law := wr_11 _ (List.mem_of_getElem? (i := 18) rfl)
theorem q_11_19 : (Cond.methodLink RL 23 yL_rest) ∈ wsL_law := wr_11 _ (List.mem_of_getElem? (i := 19) rfl)
theorem q_11_20 : (Cond.static yL_rest) ∈ wsL_law := wr_11 _ (List.mem_of_getElem? (i := 20) rfl)
theorem q_11_21 : (Cond.code yL_rest cL_rest 11 (some .long)) ∈ wsL_law := wr_11 _ (List.mem_of_getElem? (i := 21) rfl)
theorem q_11_22 : (Cond.methodLink RL 45 yL_tables) ∈ wsL_law := wr_11 _ (List.mem_of_getElem? (i := 22) rfl)
theorem q_11_23 : (Cond.static yL_tables) ∈ wsL_law := wr_11 _ (List.mem_of_getElem? (i := 23) rfl)
theorem q_12_0 : (Cond.code yL_tables cL_tables 3 (some .int)) ∈ wsL_law := wr_12 _ (List.mem_of_getElem? (i := 0) rfl)
theorem q_12_1 : (Cond.methodLink RL 49 yL_cost) ∈ wsL_law := wr_12 _ (List.mem_of_getElem? (i := 1) rfl)
theorem q_12_2 : (Cond.static yL_cost) ∈ wsL_law := wr_12 _ (List.mem_of_getElem? (i := 2) rfl)
theorem q_12_3 : (Cond.code yL_cost cL_cost 8 (some .long)) ∈ wsL_law := wr_12 _ (List.mem_of_getElem? (i := 3) rfl)
theorem q_12_4 : (Cond.methodLink RL 111 yX5_run) ∈ wsL_law := wr_12 _ (List.mem_of_getElem? (i := 4) rfl)
theorem q_12_5 : (Cond.instanceMethod yX5_run) ∈ wsL_law := wr_12 _ (List.mem_of_getElem? (i := 5) rfl)
theorem q_12_6 : (Cond.selects RX5 yX5_run yX5_run) ∈ wsL_law := wr_12 _ (List.mem_of_getElem? (i := 6) rfl)
theorem q_12_7 : (Cond.code yX5_run cX5_run 2 (some .int)) ∈ wsL_law := wr_12 _ (List.mem_of_getElem? (i := 7) rfl)
theorem q_12_8 : (Cond.methodLink RX5 76 yX5_isSet) ∈ wsL_law := wr_12 _ (List.mem_of_getElem? (i := 8) rfl)
theorem q_12_9 : (Cond.static yX5_isSet) ∈ wsL_law := wr_12 _ (List.mem_of_getElem? (i := 9) rfl)
theorem q_12_10 : (Cond.code yX5_isSet cX5_isSet 1 (some .boolean)) ∈ wsL_law := wr_12 _ (List.mem_of_getElem? (i := 10) rfl)
theorem q_12_11 : (Cond.methodLink RX5 79 yX5_runQuery) ∈ wsL_law := wr_12 _ (List.mem_of_getElem? (i := 11) rfl)
theorem q_12_12 : (Cond.instanceMethod yX5_runQuery) ∈ wsL_law := wr_12 _ (List.mem_of_getElem? (i := 12) rfl)
theorem q_12_13 : (Cond.selects RX5 yX5_runQuery yX5_runQuery) ∈ wsL_law := wr_12 _ (List.mem_of_getElem? (i := 13) rfl)
theorem q_12_14 : (Cond.code yX5_runQuery cX5_runQuery 8 (some .long)) ∈ wsL_law := wr_12 _ (List.mem_of_getElem? (i := 14) rfl)
theorem q_12_15 : (Cond.fieldLink RX5 90 "DriftPlans$State" "kept" "Ljava/util/ArrayList;") ∈ wsL_law := wr_12 _ (List.mem_of_getElem? (i := 15) rfl)
theorem q_12_16 : (Cond.classLink RX5 97 "DriftPlans$Kept") ∈ wsL_law := wr_12 _ (List.mem_of_getElem? (i := 16) rfl)
theorem q_12_17 : (Cond.fieldLink RX5 188 "DriftPlans$Kept" "order" "I") ∈ wsL_law := wr_12 _ (List.mem_of_getElem? (i := 17) rfl)
theorem q_12_18 : (Cond.fieldLink RX5 214 "DriftPlans$State" "runCosts" "J") ∈ wsL_law := wr_12 _ (List.mem_of_getElem? (i := 18) rfl)
theorem q_12_19 : (Cond.methodLink RX5 87 yX4_placeOf) ∈ wsL_law := wr_12 _ (List.mem_of_getElem? (i := 19) rfl)
theorem q_12_20 : (Cond.instanceMethod yX4_placeOf) ∈ wsL_law := wr_12 _ (List.mem_of_getElem? (i := 20) rfl)
theorem q_12_21 : (Cond.selects RX4 yX4_placeOf yX4_placeOf) ∈ wsL_law := wr_12 _ (List.mem_of_getElem? (i := 21) rfl)
theorem q_12_22 : (Cond.code yX4_placeOf cX4_placeOf 3 (some .int)) ∈ wsL_law := wr_12 _ (List.mem_of_getElem? (i := 22) rfl)
theorem q_12_23 : (Cond.methodLink RX5 93 yJx4a65c_get_915e3) ∈ wsL_law := wr_12 _ (List.mem_of_getElem? (i := 23) rfl)
theorem q_13_0 : (Cond.methodLink RX5 258 yX4_useAgain) ∈ wsL_law := wr_13 _ (List.mem_of_getElem? (i := 0) rfl)
theorem q_13_1 : (Cond.instanceMethod yX4_useAgain) ∈ wsL_law := wr_13 _ (List.mem_of_getElem? (i := 1) rfl)
theorem q_13_2 : (Cond.selects RX4 yX4_useAgain yX4_useAgain) ∈ wsL_law := wr_13 _ (List.mem_of_getElem? (i := 2) rfl)
theorem q_13_3 : (Cond.code yX4_useAgain cX4_useAgain 3 none) ∈ wsL_law := wr_13 _ (List.mem_of_getElem? (i := 3) rfl)
theorem q_13_4 : (Cond.classLink RX4 42 RX0) ∈ wsL_law := wr_13 _ (List.mem_of_getElem? (i := 4) rfl)
theorem q_13_5 : (Cond.instantiable RX0 5) ∈ wsL_law := wr_13 _ (List.mem_of_getElem? (i := 5) rfl)
theorem q_13_6 : (Cond.initialized RX0) ∈ wsL_law := wr_13 _ (List.mem_of_getElem? (i := 6) rfl)
theorem q_13_7 : (Cond.fieldLink RX4 87 "DriftPlans$Kept" "order" "I") ∈ wsL_law := wr_13 _ (List.mem_of_getElem? (i := 7) rfl)
theorem q_13_8 : (Cond.fieldLink RX4 91 "DriftPlans$Kept" "runs" "J") ∈ wsL_law := wr_13 _ (List.mem_of_getElem? (i := 8) rfl)
theorem q_13_9 : (Cond.methodLink RX4 94 yX0_init) ∈ wsL_law := wr_13 _ (List.mem_of_getElem? (i := 9) rfl)
theorem q_13_10 : (Cond.instanceMethod yX0_init) ∈ wsL_law := wr_13 _ (List.mem_of_getElem? (i := 10) rfl)
theorem q_13_11 : (Cond.code yX0_init cX0_init 7 none) ∈ wsL_law := wr_13 _ (List.mem_of_getElem? (i := 11) rfl)
theorem q_13_12 : (Cond.methodLink RX0 1 objectInit) ∈ wsL_law := wr_13 _ (List.mem_of_getElem? (i := 12) rfl)
theorem q_13_13 : (Cond.fieldLink RX0 7 "DriftPlans$Kept" "shape" "I") ∈ wsL_law := wr_13 _ (List.mem_of_getElem? (i := 13) rfl)
theorem q_13_14 : (Cond.fieldLink RX0 13 "DriftPlans$Kept" "order" "I") ∈ wsL_law := wr_13 _ (List.mem_of_getElem? (i := 14) rfl)
theorem q_13_15 : (Cond.fieldLink RX0 16 "DriftPlans$Kept" "guesses" "[I") ∈ wsL_law := wr_13 _ (List.mem_of_getElem? (i := 15) rfl)
theorem q_13_16 : (Cond.fieldLink RX0 20 "DriftPlans$Kept" "runs" "J") ∈ wsL_law := wr_13 _ (List.mem_of_getElem? (i := 16) rfl)
theorem q_13_17 : (Cond.fieldLink RX0 24 "DriftPlans$Kept" "pinned" "Z") ∈ wsL_law := wr_13 _ (List.mem_of_getElem? (i := 17) rfl)
theorem q_13_18 : (Cond.methodLink RX5 163 yX5_reckoned) ∈ wsL_law := wr_13 _ (List.mem_of_getElem? (i := 18) rfl)
theorem q_13_19 : (Cond.instanceMethod yX5_reckoned) ∈ wsL_law := wr_13 _ (List.mem_of_getElem? (i := 19) rfl)
theorem q_13_20 : (Cond.selects RX5 yX5_reckoned yX5_reckoned) ∈ wsL_law := wr_13 _ (List.mem_of_getElem? (i := 20) rfl)
theorem q_13_21 : (Cond.code yX5_reckoned cX5_reckoned 2 (some (.object "DriftPlans$Reckoner"))) ∈ wsL_law := wr_13 _ (List.mem_of_getElem? (i := 21) rfl)
theorem q_13_22 : (Cond.fieldLink RX5 153 "DriftPlans$State" "guesses" "[I") ∈ wsL_law := wr_13 _ (List.mem_of_getElem? (i := 22) rfl)
theorem q_13_23 : (Cond.methodLink RX5 254 yX3_reckon) ∈ wsL_law := wr_13 _ (List.mem_of_getElem? (i := 23) rfl)
theorem q_14_0 : (Cond.instanceMethod yX3_reckon) ∈ wsL_law := wr_14 _ (List.mem_of_getElem? (i := 0) rfl)
theorem q_14_1 : (Cond.selects RX3 yX3_reckon yX3_reckon) ∈ wsL_law := wr_14 _ (List.mem_of_getElem? (i := 1) rfl)
theorem q_14_2 : (Cond.code yX3_reckon cX3_reckon 8 none) ∈ wsL_law := wr_14 _ (List.mem_of_getElem? (i := 2) rfl)
theorem q_14_3 : (Cond.constantLong RX3 30 (100)) ∈ wsL_law := wr_14 _ (List.mem_of_getElem? (i := 3) rfl)
theorem q_14_4 : (Cond.methodLink RX3 32 yX3_planSet) ∈ wsL_law := wr_14 _ (List.mem_of_getElem? (i := 4) rfl)
theorem q_14_5 : (Cond.instanceMethod yX3_planSet) ∈ wsL_law := wr_14 _ (List.mem_of_getElem? (i := 5) rfl)
theorem q_14_6 : (Cond.selects RX3 yX3_planSet yX3_planSet) ∈ wsL_law := wr_14 _ (List.mem_of_getElem? (i := 6) rfl)
theorem q_14_7 : (Cond.code yX3_planSet cX3_planSet 10 none) ∈ wsL_law := wr_14 _ (List.mem_of_getElem? (i := 7) rfl)
theorem q_14_8 : (Cond.constantLong RX3 38 (9223372036854775807)) ∈ wsL_law := wr_14 _ (List.mem_of_getElem? (i := 8) rfl)
theorem q_14_9 : (Cond.methodLink RX3 48 Lib.MathLoose.max_long.x) ∈ wsL_law := wr_14 _ (List.mem_of_getElem? (i := 9) rfl)
theorem q_14_10 : (Cond.static Lib.MathLoose.max_long.x) ∈ wsL_law := wr_14 _ (List.mem_of_getElem? (i := 10) rfl)
theorem q_14_11 : (Cond.code Lib.MathLoose.max_long.x Lib.MathLoose.max_long.code 4 (some .long)) ∈ wsL_law := wr_14 _ (List.mem_of_getElem? (i := 11) rfl)
theorem q_14_12 : (Cond.static yX5_longerOrder) ∈ wsL_law := wr_14 _ (List.mem_of_getElem? (i := 12) rfl)
theorem q_14_13 : (Cond.code yX5_longerOrder cX5_longerOrder 2 (some .int)) ∈ wsL_law := wr_14 _ (List.mem_of_getElem? (i := 13) rfl)
theorem q_14_14 : (Cond.methodLink RX5 181 yX3_bestOrder) ∈ wsL_law := wr_14 _ (List.mem_of_getElem? (i := 14) rfl)
theorem q_14_15 : (Cond.instanceMethod yX3_bestOrder) ∈ wsL_law := wr_14 _ (List.mem_of_getElem? (i := 15) rfl)
theorem q_14_16 : (Cond.selects RX3 yX3_bestOrder yX3_bestOrder) ∈ wsL_law := wr_14 _ (List.mem_of_getElem? (i := 16) rfl)
theorem q_14_17 : (Cond.code yX3_bestOrder cX3_bestOrder 2 (some .int)) ∈ wsL_law := wr_14 _ (List.mem_of_getElem? (i := 17) rfl)
theorem q_14_18 : (Cond.methodLink RX5 235 yX5_makingCost) ∈ wsL_law := wr_14 _ (List.mem_of_getElem? (i := 18) rfl)
theorem q_14_19 : (Cond.static yX5_makingCost) ∈ wsL_law := wr_14 _ (List.mem_of_getElem? (i := 19) rfl)
theorem q_14_20 : (Cond.code yX5_makingCost cX5_makingCost 1 (some .long)) ∈ wsL_law := wr_14 _ (List.mem_of_getElem? (i := 20) rfl)
theorem q_14_21 : (Cond.constantLong RX5 285 (10)) ∈ wsL_law := wr_14 _ (List.mem_of_getElem? (i := 21) rfl)
theorem q_14_22 : (Cond.methodLink RX5 176 yJ6_bitCount_0f7a4) ∈ wsL_law := wr_14 _ (List.mem_of_getElem? (i := 22) rfl)
theorem q_14_23 : (Cond.static yJ6_bitCount_0f7a4) ∈ wsL_law := wr_14 _ (List.mem_of_getElem? (i := 23) rfl)
theorem q_15_0 : (Cond.initialized RJ6) ∈ wsL_law := wr_15 _ (List.mem_of_getElem? (i := 0) rfl)
theorem q_15_1 : (Cond.code yJ6_bitCount_0f7a4 cJ6_bitCount_0f7a4 1 (some .int)) ∈ wsL_law := wr_15 _ (List.mem_of_getElem? (i := 1) rfl)
theorem q_15_2 : (Cond.constant RJ6 265 (1431655765)) ∈ wsL_law := wr_15 _ (List.mem_of_getElem? (i := 2) rfl)
theorem q_15_3 : (Cond.constant RJ6 266 (858993459)) ∈ wsL_law := wr_15 _ (List.mem_of_getElem? (i := 3) rfl)
theorem q_15_4 : (Cond.constant RJ6 267 (252645135)) ∈ wsL_law := wr_15 _ (List.mem_of_getElem? (i := 4) rfl)
theorem q_15_5 : (Cond.methodLink RX5 262 yX4_keepNew) ∈ wsL_law := wr_15 _ (List.mem_of_getElem? (i := 5) rfl)
theorem q_15_6 : (Cond.instanceMethod yX4_keepNew) ∈ wsL_law := wr_15 _ (List.mem_of_getElem? (i := 6) rfl)
theorem q_15_7 : (Cond.selects RX4 yX4_keepNew yX4_keepNew) ∈ wsL_law := wr_15 _ (List.mem_of_getElem? (i := 7) rfl)
theorem q_15_8 : (Cond.code yX4_keepNew cX4_keepNew 5 none) ∈ wsL_law := wr_15 _ (List.mem_of_getElem? (i := 8) rfl)
theorem q_15_9 : (Cond.methodLink RX4 108 ⟨"[I", "clone", "()Ljava/lang/Object;"⟩) ∈ wsL_law := wr_15 _ (List.mem_of_getElem? (i := 9) rfl)
theorem q_15_10 : (Cond.sameMethod "[I" "java/lang/Object" "clone" "()Ljava/lang/Object;") ∈ wsL_law := wr_15 _ (List.mem_of_getElem? (i := 10) rfl)
theorem q_15_11 : (Cond.native ⟨"java/lang/Object", "clone", "()Ljava/lang/Object;"⟩) ∈ wsL_law := wr_15 _ (List.mem_of_getElem? (i := 11) rfl)
theorem q_15_12 : (Cond.instanceMethod ⟨"java/lang/Object", "clone", "()Ljava/lang/Object;"⟩) ∈ wsL_law := wr_15 _ (List.mem_of_getElem? (i := 12) rfl)
theorem q_15_13 : (Cond.selects "[I" ⟨"[I", "clone", "()Ljava/lang/Object;"⟩ ⟨"java/lang/Object", "clone", "()Ljava/lang/Object;"⟩) ∈ wsL_law := wr_15 _ (List.mem_of_getElem? (i := 13) rfl)
theorem q_15_14 : (Cond.classLink RX4 109 "[I") ∈ wsL_law := wr_15 _ (List.mem_of_getElem? (i := 14) rfl)
theorem q_15_15 : (Cond.methodLink RX4 104 yX4_pushOneOut) ∈ wsL_law := wr_15 _ (List.mem_of_getElem? (i := 15) rfl)
theorem q_15_16 : (Cond.instanceMethod yX4_pushOneOut) ∈ wsL_law := wr_15 _ (List.mem_of_getElem? (i := 16) rfl)
theorem q_15_17 : (Cond.selects RX4 yX4_pushOneOut yX4_pushOneOut) ∈ wsL_law := wr_15 _ (List.mem_of_getElem? (i := 17) rfl)
theorem q_15_18 : (Cond.code yX4_pushOneOut cX4_pushOneOut 2 (some .boolean)) ∈ wsL_law := wr_15 _ (List.mem_of_getElem? (i := 18) rfl)
theorem q_15_19 : (Cond.methodLink RX5 191 yX3_costOf) ∈ wsL_law := wr_15 _ (List.mem_of_getElem? (i := 19) rfl)
theorem q_15_20 : (Cond.instanceMethod yX3_costOf) ∈ wsL_law := wr_15 _ (List.mem_of_getElem? (i := 20) rfl)
theorem q_15_21 : (Cond.selects RX3 yX3_costOf yX3_costOf) ∈ wsL_law := wr_15 _ (List.mem_of_getElem? (i := 21) rfl)
theorem q_15_22 : (Cond.code yX3_costOf cX3_costOf 8 (some .long)) ∈ wsL_law := wr_15 _ (List.mem_of_getElem? (i := 22) rfl)
theorem q_15_23 : (Cond.methodLink RX3 65 yJ6_bitCount_0f7a4) ∈ wsL_law := wr_15 _ (List.mem_of_getElem? (i := 23) rfl)
theorem q_16_0 : (Cond.static yX5_tableAt) ∈ wsL_law := wr_16 _ (List.mem_of_getElem? (i := 0) rfl)
theorem q_16_1 : (Cond.code yX5_tableAt cX5_tableAt 3 (some .int)) ∈ wsL_law := wr_16 _ (List.mem_of_getElem? (i := 1) rfl)
theorem q_16_2 : (Cond.methodLink RX3 58 yX3_sizeOf) ∈ wsL_law := wr_16 _ (List.mem_of_getElem? (i := 2) rfl)
theorem q_16_3 : (Cond.instanceMethod yX3_sizeOf) ∈ wsL_law := wr_16 _ (List.mem_of_getElem? (i := 3) rfl)
theorem q_16_4 : (Cond.selects RX3 yX3_sizeOf yX3_sizeOf) ∈ wsL_law := wr_16 _ (List.mem_of_getElem? (i := 4) rfl)
theorem q_16_5 : (Cond.code yX3_sizeOf cX3_sizeOf 2 (some .long)) ∈ wsL_law := wr_16 _ (List.mem_of_getElem? (i := 5) rfl)
theorem q_16_6 : (Cond.methodLink RX5 83 yX5_told) ∈ wsL_law := wr_16 _ (List.mem_of_getElem? (i := 6) rfl)
theorem q_16_7 : (Cond.static yX5_told) ∈ wsL_law := wr_16 _ (List.mem_of_getElem? (i := 7) rfl)
theorem q_16_8 : (Cond.code yX5_told cX5_told 2 (some .int)) ∈ wsL_law := wr_16 _ (List.mem_of_getElem? (i := 8) rfl)
theorem q_16_9 : (Cond.constantLong RX5 279 (1000000000)) ∈ wsL_law := wr_16 _ (List.mem_of_getElem? (i := 9) rfl)
theorem q_16_10 : (Cond.methodLink RX5 281 Lib.MathLoose.min_long.x) ∈ wsL_law := wr_16 _ (List.mem_of_getElem? (i := 10) rfl)
theorem q_16_11 : (Cond.static Lib.MathLoose.min_long.x) ∈ wsL_law := wr_16 _ (List.mem_of_getElem? (i := 11) rfl)
theorem q_16_12 : (Cond.code Lib.MathLoose.min_long.x Lib.MathLoose.min_long.code 4 (some .long)) ∈ wsL_law := wr_16 _ (List.mem_of_getElem? (i := 12) rfl)
theorem q_16_13 : (Cond.methodLink RL 65 yL_cut) ∈ wsL_law := wr_16 _ (List.mem_of_getElem? (i := 13) rfl)
theorem q_16_14 : (Cond.static yL_cut) ∈ wsL_law := wr_16 _ (List.mem_of_getElem? (i := 14) rfl)
theorem q_16_15 : (Cond.code yL_cut cL_cut 2 (some .int)) ∈ wsL_law := wr_16 _ (List.mem_of_getElem? (i := 15) rfl)
theorem q_16_16 : (Cond.constantLong RL 57 (1000000000)) ∈ wsL_law := wr_16 _ (List.mem_of_getElem? (i := 16) rfl)
theorem q_16_17 : (Cond.methodLink RL 113 yL_isPinned) ∈ wsL_law := wr_16 _ (List.mem_of_getElem? (i := 17) rfl)
theorem q_16_18 : (Cond.static yL_isPinned) ∈ wsL_law := wr_16 _ (List.mem_of_getElem? (i := 18) rfl)
theorem q_16_19 : (Cond.code yL_isPinned cL_isPinned 8 (some .boolean)) ∈ wsL_law := wr_16 _ (List.mem_of_getElem? (i := 19) rfl)
theorem q_16_20 : (Cond.methodLink RL 94 yX5_pin) ∈ wsL_law := wr_16 _ (List.mem_of_getElem? (i := 20) rfl)
theorem q_16_21 : (Cond.instanceMethod yX5_pin) ∈ wsL_law := wr_16 _ (List.mem_of_getElem? (i := 21) rfl)
theorem q_16_22 : (Cond.selects RX5 yX5_pin yX5_pin) ∈ wsL_law := wr_16 _ (List.mem_of_getElem? (i := 22) rfl)
theorem q_16_23 : (Cond.code yX5_pin cX5_pin 4 (some .int)) ∈ wsL_law := wr_16 _ (List.mem_of_getElem? (i := 23) rfl)
theorem q_17_0 : (Cond.fieldLink RX5 99 "DriftPlans$Kept" "pinned" "Z") ∈ wsL_law := wr_17 _ (List.mem_of_getElem? (i := 0) rfl)
theorem q_17_1 : (Cond.methodLink RX5 103 yX4_setPinned) ∈ wsL_law := wr_17 _ (List.mem_of_getElem? (i := 1) rfl)
theorem q_17_2 : (Cond.instanceMethod yX4_setPinned) ∈ wsL_law := wr_17 _ (List.mem_of_getElem? (i := 2) rfl)
theorem q_17_3 : (Cond.selects RX4 yX4_setPinned yX4_setPinned) ∈ wsL_law := wr_17 _ (List.mem_of_getElem? (i := 3) rfl)
theorem q_17_4 : (Cond.code yX4_setPinned cX4_setPinned 4 none) ∈ wsL_law := wr_17 _ (List.mem_of_getElem? (i := 4) rfl)
theorem q_17_5 : (Cond.methodLink RX4 97 yJx4a65c_set_bcc79) ∈ wsL_law := wr_17 _ (List.mem_of_getElem? (i := 5) rfl)
theorem q_17_6 : (Cond.instanceMethod yJx4a65c_set_bcc79) ∈ wsL_law := wr_17 _ (List.mem_of_getElem? (i := 6) rfl)
theorem q_17_7 : (Cond.selects RJx4a65c yJx4a65c_set_bcc79 yJx4a65c_set_bcc79) ∈ wsL_law := wr_17 _ (List.mem_of_getElem? (i := 7) rfl)
theorem q_17_8 : (Cond.code yJx4a65c_set_bcc79 cJx4a65c_set_bcc79 4 (some (.object "java/lang/Object"))) ∈ wsL_law := wr_17 _ (List.mem_of_getElem? (i := 8) rfl)
theorem q_17_9 : (Cond.methodLink RX5 107 yX4_throwOutDrifted) ∈ wsL_law := wr_17 _ (List.mem_of_getElem? (i := 9) rfl)
theorem q_17_10 : (Cond.methodLink RL 117 yX5_forget) ∈ wsL_law := wr_17 _ (List.mem_of_getElem? (i := 10) rfl)
theorem q_17_11 : (Cond.instanceMethod yX5_forget) ∈ wsL_law := wr_17 _ (List.mem_of_getElem? (i := 11) rfl)
theorem q_17_12 : (Cond.selects RX5 yX5_forget yX5_forget) ∈ wsL_law := wr_17 _ (List.mem_of_getElem? (i := 12) rfl)
theorem q_17_13 : (Cond.code yX5_forget cX5_forget 3 (some .int)) ∈ wsL_law := wr_17 _ (List.mem_of_getElem? (i := 13) rfl)
theorem q_17_14 : (Cond.fieldLink RX5 111 "DriftPlans$State" "forgotten" "J") ∈ wsL_law := wr_17 _ (List.mem_of_getElem? (i := 14) rfl)
theorem q_17_15 : (Cond.fieldLink RX5 118 "DriftPlans$Kept" "runs" "J") ∈ wsL_law := wr_17 _ (List.mem_of_getElem? (i := 15) rfl)
theorem q_17_16 : (Cond.methodLink RL 120 yX5_drift) ∈ wsL_law := wr_17 _ (List.mem_of_getElem? (i := 16) rfl)
theorem q_17_17 : (Cond.instanceMethod yX5_drift) ∈ wsL_law := wr_17 _ (List.mem_of_getElem? (i := 17) rfl)
theorem q_17_18 : (Cond.selects RX5 yX5_drift yX5_drift) ∈ wsL_law := wr_17 _ (List.mem_of_getElem? (i := 18) rfl)
theorem q_17_19 : (Cond.code yX5_drift cX5_drift 2 (some .int)) ∈ wsL_law := wr_17 _ (List.mem_of_getElem? (i := 19) rfl)
theorem q_17_20 : (Cond.fieldLink RX5 121 "DriftPlans$State" "driftLimit" "I") ∈ wsL_law := wr_17 _ (List.mem_of_getElem? (i := 20) rfl)
theorem q_17_21 : (Cond.methodLink RL 132 yL_arePlans) ∈ wsL_law := wr_17 _ (List.mem_of_getElem? (i := 21) rfl)
theorem q_17_22 : (Cond.static yL_arePlans) ∈ wsL_law := wr_17 _ (List.mem_of_getElem? (i := 22) rfl)
theorem q_17_23 : (Cond.code yL_arePlans cL_arePlans 18 (some .boolean)) ∈ wsL_law := wr_17 _ (List.mem_of_getElem? (i := 23) rfl)
theorem q_18_0 : (Cond.methodLink RL 59 yX5_plan) ∈ wsL_law := wr_18 _ (List.mem_of_getElem? (i := 0) rfl)
theorem q_18_1 : (Cond.instanceMethod yX5_plan) ∈ wsL_law := wr_18 _ (List.mem_of_getElem? (i := 1) rfl)
theorem q_18_2 : (Cond.selects RX5 yX5_plan yX5_plan) ∈ wsL_law := wr_18 _ (List.mem_of_getElem? (i := 2) rfl)
theorem q_18_3 : (Cond.code yX5_plan cX5_plan 6 (some .int)) ∈ wsL_law := wr_18 _ (List.mem_of_getElem? (i := 3) rfl)
theorem q_18_4 : (Cond.methodLink RX5 195 yX3_excessOf) ∈ wsL_law := wr_18 _ (List.mem_of_getElem? (i := 4) rfl)
theorem q_18_5 : (Cond.instanceMethod yX3_excessOf) ∈ wsL_law := wr_18 _ (List.mem_of_getElem? (i := 5) rfl)
theorem q_18_6 : (Cond.selects RX3 yX3_excessOf yX3_excessOf) ∈ wsL_law := wr_18 _ (List.mem_of_getElem? (i := 6) rfl)
theorem q_18_7 : (Cond.code yX3_excessOf cX3_excessOf 3 (some .long)) ∈ wsL_law := wr_18 _ (List.mem_of_getElem? (i := 7) rfl)
theorem q_18_8 : (Cond.methodLink RX3 74 yX3_costOf) ∈ wsL_law := wr_18 _ (List.mem_of_getElem? (i := 8) rfl)
theorem q_18_9 : (Cond.methodLink RX3 78 yX3_leastBySets) ∈ wsL_law := wr_18 _ (List.mem_of_getElem? (i := 9) rfl)
theorem q_18_10 : (Cond.instanceMethod yX3_leastBySets) ∈ wsL_law := wr_18 _ (List.mem_of_getElem? (i := 10) rfl)
theorem q_18_11 : (Cond.selects RX3 yX3_leastBySets yX3_leastBySets) ∈ wsL_law := wr_18 _ (List.mem_of_getElem? (i := 11) rfl)
theorem q_18_12 : (Cond.code yX3_leastBySets cX3_leastBySets 2 (some .long)) ∈ wsL_law := wr_18 _ (List.mem_of_getElem? (i := 12) rfl)
theorem q_18_13 : (Cond.methodLink RX5 198 yX4_driftsOnceCounted) ∈ wsL_law := wr_18 _ (List.mem_of_getElem? (i := 13) rfl)
theorem q_18_14 : (Cond.methodLink RX5 184 yX5_tableAt) ∈ wsL_law := wr_18 _ (List.mem_of_getElem? (i := 14) rfl)
theorem q_18_15 : (Cond.methodLink RL 69 yX5_counted) ∈ wsL_law := wr_18 _ (List.mem_of_getElem? (i := 15) rfl)
theorem q_18_16 : (Cond.instanceMethod yX5_counted) ∈ wsL_law := wr_18 _ (List.mem_of_getElem? (i := 16) rfl)
theorem q_18_17 : (Cond.selects RX5 yX5_counted yX5_counted) ∈ wsL_law := wr_18 _ (List.mem_of_getElem? (i := 17) rfl)
theorem q_18_18 : (Cond.code yX5_counted cX5_counted 2 (some .int)) ∈ wsL_law := wr_18 _ (List.mem_of_getElem? (i := 18) rfl)
theorem q_18_19 : (Cond.fieldLink RX5 208 "DriftPlans$State" "hits" "J") ∈ wsL_law := wr_18 _ (List.mem_of_getElem? (i := 19) rfl)
theorem q_18_20 : (Cond.fieldLink RX5 211 "DriftPlans$State" "misses" "J") ∈ wsL_law := wr_18 _ (List.mem_of_getElem? (i := 20) rfl)
theorem q_18_21 : (Cond.fieldLink RX5 217 "DriftPlans$State" "makingCosts" "J") ∈ wsL_law := wr_18 _ (List.mem_of_getElem? (i := 21) rfl)
theorem q_18_22 : (Cond.fieldLink RX5 220 "DriftPlans$State" "driftedOut" "J") ∈ wsL_law := wr_18 _ (List.mem_of_getElem? (i := 22) rfl)
theorem q_18_23 : (Cond.fieldLink RX5 223 "DriftPlans$State" "pushedOut" "J") ∈ wsL_law := wr_18 _ (List.mem_of_getElem? (i := 23) rfl)
theorem q_19_0 : (Cond.fieldLink RX5 226 "DriftPlans$State" "joinedOut" "J") ∈ wsL_law := wr_19 _ (List.mem_of_getElem? (i := 0) rfl)
theorem q_19_1 : (Cond.fieldLink RX5 229 "DriftPlans$State" "usedOnly" "J") ∈ wsL_law := wr_19 _ (List.mem_of_getElem? (i := 1) rfl)
theorem q_19_2 : (Cond.fieldLink RX5 128 "DriftPlans$Pad" "length" "I") ∈ wsL_law := wr_19 _ (List.mem_of_getElem? (i := 2) rfl)
theorem q_19_3 : (Cond.methodLink RX5 205 yX4_countPinned) ∈ wsL_law := wr_19 _ (List.mem_of_getElem? (i := 3) rfl)
theorem q_19_4 : (Cond.instanceMethod yX4_countPinned) ∈ wsL_law := wr_19 _ (List.mem_of_getElem? (i := 4) rfl)
theorem q_19_5 : (Cond.selects RX4 yX4_countPinned yX4_countPinned) ∈ wsL_law := wr_19 _ (List.mem_of_getElem? (i := 5) rfl)
theorem q_19_6 : (Cond.code yX4_countPinned cX4_countPinned 3 (some .int)) ∈ wsL_law := wr_19 _ (List.mem_of_getElem? (i := 6) rfl)
theorem q_19_7 : (Cond.methodLink RL 72 yX5_fitness) ∈ wsL_law := wr_19 _ (List.mem_of_getElem? (i := 7) rfl)
theorem q_19_8 : (Cond.instanceMethod yX5_fitness) ∈ wsL_law := wr_19 _ (List.mem_of_getElem? (i := 8) rfl)
theorem q_19_9 : (Cond.selects RX5 yX5_fitness yX5_fitness) ∈ wsL_law := wr_19 _ (List.mem_of_getElem? (i := 9) rfl)
theorem q_19_10 : (Cond.code yX5_fitness cX5_fitness 8 (some .double)) ∈ wsL_law := wr_19 _ (List.mem_of_getElem? (i := 10) rfl)
theorem q_19_11 : (Cond.fieldLink RX5 232 "DriftPlans$Kept" "shape" "I") ∈ wsL_law := wr_19 _ (List.mem_of_getElem? (i := 11) rfl)
theorem q_19_12 : (Cond.methodLink RX5 173 yX3_leastBySets) ∈ wsL_law := wr_19 _ (List.mem_of_getElem? (i := 12) rfl)
theorem q_19_13 : (Cond.methodLink RL 136 yL_areTold) ∈ wsL_law := wr_19 _ (List.mem_of_getElem? (i := 13) rfl)
theorem q_19_14 : (Cond.static yL_areTold) ∈ wsL_law := wr_19 _ (List.mem_of_getElem? (i := 14) rfl)
theorem q_19_15 : (Cond.code yL_areTold cL_areTold 11 (some .boolean)) ∈ wsL_law := wr_19 _ (List.mem_of_getElem? (i := 15) rfl)
theorem q_19_16 : (Cond.methodLink RL 76 yX5_table) ∈ wsL_law := wr_19 _ (List.mem_of_getElem? (i := 16) rfl)
theorem q_19_17 : (Cond.instanceMethod yX5_table) ∈ wsL_law := wr_19 _ (List.mem_of_getElem? (i := 17) rfl)
theorem q_19_18 : (Cond.selects RX5 yX5_table yX5_table) ∈ wsL_law := wr_19 _ (List.mem_of_getElem? (i := 18) rfl)
theorem q_19_19 : (Cond.code yX5_table cX5_table 3 (some .int)) ∈ wsL_law := wr_19 _ (List.mem_of_getElem? (i := 19) rfl)
theorem q_19_20 : (Cond.methodLink RX5 156 yX5_driftDown) ∈ wsL_law := wr_19 _ (List.mem_of_getElem? (i := 20) rfl)
theorem q_19_21 : (Cond.static yX5_driftDown) ∈ wsL_law := wr_19 _ (List.mem_of_getElem? (i := 21) rfl)
theorem q_19_22 : (Cond.code yX5_driftDown cX5_driftDown 3 (some .int)) ∈ wsL_law := wr_19 _ (List.mem_of_getElem? (i := 22) rfl)
theorem q_19_23 : (Cond.methodLink RX5 287 Lib.Math.min.name) ∈ wsL_law := wr_19 _ (List.mem_of_getElem? (i := 23) rfl)
theorem q_20_0 : (Cond.methodLink RX5 242 Lib.Math.max.name) ∈ wsL_law := wr_20 _ (List.mem_of_getElem? (i := 0) rfl)
theorem q_20_1 : (Cond.methodLink RX5 160 yX4_keptWith) ∈ wsL_law := wr_20 _ (List.mem_of_getElem? (i := 1) rfl)
theorem q_20_2 : (Cond.instanceMethod yX4_keptWith) ∈ wsL_law := wr_20 _ (List.mem_of_getElem? (i := 2) rfl)
theorem q_20_3 : (Cond.selects RX4 yX4_keptWith yX4_keptWith) ∈ wsL_law := wr_20 _ (List.mem_of_getElem? (i := 3) rfl)
theorem q_20_4 : (Cond.code yX4_keptWith cX4_keptWith 4 (some .int)) ∈ wsL_law := wr_20 _ (List.mem_of_getElem? (i := 4) rfl)
theorem q_20_5 : (Cond.methodLink RL 79 yX5_partOf) ∈ wsL_law := wr_20 _ (List.mem_of_getElem? (i := 5) rfl)
theorem q_20_6 : (Cond.instanceMethod yX5_partOf) ∈ wsL_law := wr_20 _ (List.mem_of_getElem? (i := 6) rfl)
theorem q_20_7 : (Cond.selects RX5 yX5_partOf yX5_partOf) ∈ wsL_law := wr_20 _ (List.mem_of_getElem? (i := 7) rfl)
theorem q_20_8 : (Cond.code yX5_partOf cX5_partOf 3 (some .int)) ∈ wsL_law := wr_20 _ (List.mem_of_getElem? (i := 8) rfl)
theorem q_20_9 : (Cond.methodLink RL 140 yL_areBest) ∈ wsL_law := wr_20 _ (List.mem_of_getElem? (i := 9) rfl)
theorem q_20_10 : (Cond.static yL_areBest) ∈ wsL_law := wr_20 _ (List.mem_of_getElem? (i := 10) rfl)
theorem q_20_11 : (Cond.code yL_areBest cL_areBest 11 (some .boolean)) ∈ wsL_law := wr_20 _ (List.mem_of_getElem? (i := 11) rfl)
theorem q_20_12 : (Cond.methodLink RL 82 yX5_best) ∈ wsL_law := wr_20 _ (List.mem_of_getElem? (i := 12) rfl)
theorem q_20_13 : (Cond.instanceMethod yX5_best) ∈ wsL_law := wr_20 _ (List.mem_of_getElem? (i := 13) rfl)
theorem q_20_14 : (Cond.selects RX5 yX5_best yX5_best) ∈ wsL_law := wr_20 _ (List.mem_of_getElem? (i := 14) rfl)
theorem q_20_15 : (Cond.code yX5_best cX5_best 5 (some .int)) ∈ wsL_law := wr_20 _ (List.mem_of_getElem? (i := 15) rfl)
theorem q_20_16 : (Cond.methodLink RL 85 yX5_size) ∈ wsL_law := wr_20 _ (List.mem_of_getElem? (i := 16) rfl)
theorem q_20_17 : (Cond.instanceMethod yX5_size) ∈ wsL_law := wr_20 _ (List.mem_of_getElem? (i := 17) rfl)
theorem q_20_18 : (Cond.selects RX5 yX5_size yX5_size) ∈ wsL_law := wr_20 _ (List.mem_of_getElem? (i := 18) rfl)
theorem q_20_19 : (Cond.code yX5_size cX5_size 3 (some .int)) ∈ wsL_law := wr_20 _ (List.mem_of_getElem? (i := 19) rfl)
theorem q_20_20 : (Cond.methodLink RX5 167 yX3_sizeOf) ∈ wsL_law := wr_20 _ (List.mem_of_getElem? (i := 20) rfl)
theorem q_20_21 : (Cond.methodLink RL 88 yX5_least) ∈ wsL_law := wr_20 _ (List.mem_of_getElem? (i := 21) rfl)
theorem q_20_22 : (Cond.instanceMethod yX5_least) ∈ wsL_law := wr_20 _ (List.mem_of_getElem? (i := 22) rfl)
theorem q_20_23 : (Cond.selects RX5 yX5_least yX5_least) ∈ wsL_law := wr_20 _ (List.mem_of_getElem? (i := 23) rfl)
theorem q_21_0 : (Cond.code yX5_least cX5_least 5 (some .int)) ∈ wsL_law := wr_21 _ (List.mem_of_getElem? (i := 0) rfl)
theorem q_21_1 : (Cond.methodLink RX5 170 yX3_leastByOrders) ∈ wsL_law := wr_21 _ (List.mem_of_getElem? (i := 1) rfl)
theorem q_21_2 : (Cond.instanceMethod yX3_leastByOrders) ∈ wsL_law := wr_21 _ (List.mem_of_getElem? (i := 2) rfl)
theorem q_21_3 : (Cond.selects RX3 yX3_leastByOrders yX3_leastByOrders) ∈ wsL_law := wr_21 _ (List.mem_of_getElem? (i := 3) rfl)
theorem q_21_4 : (Cond.code yX3_leastByOrders cX3_leastByOrders 2 (some .long)) ∈ wsL_law := wr_21 _ (List.mem_of_getElem? (i := 4) rfl)
theorem q_21_5 : (Cond.methodLink RX3 54 yX3_leastOnward) ∈ wsL_law := wr_21 _ (List.mem_of_getElem? (i := 5) rfl)
theorem q_21_6 : (Cond.static yX3_leastOnward) ∈ wsL_law := wr_21 _ (List.mem_of_getElem? (i := 6) rfl)
theorem q_21_7 : (Cond.code yX3_leastOnward cX3_leastOnward 10 (some .long)) ∈ wsL_law := wr_21 _ (List.mem_of_getElem? (i := 7) rfl)
theorem q_21_8 : (Cond.methodLink RX3 62 Lib.MathLoose.min_long.x) ∈ wsL_law := wr_21 _ (List.mem_of_getElem? (i := 8) rfl)
