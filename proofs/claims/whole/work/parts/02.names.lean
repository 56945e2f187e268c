def RX0 : String := "ComparatorNetworks$Chains"
def TX0 : u_T := fun k => match k with
  | 0 => ("ComparatorNetworks$Chains", "best", "[I", true)
  | _ => ("ComparatorNetworks$Chains", "exchanges", "[J", true)
def tyX0 : Nat → FieldType := fun k => match k with
  | 0 => .array .int
  | _ => .array .long
theorem nmX0 : ∀ a, a < 2 → ∀ b, b < 2 → a ≠ b → (TX0 a).2.1 ≠ (TX0 b).2.1 := by decide +kernel
theorem tyX0_ok : ∀ k, k < 2 → parseFieldDescriptor (TX0 k).2.2.1 = some (tyX0 k) := by decide +kernel
def RX1 : String := "ComparatorNetworks$Extensions"
def TX1 : u_T := fun k => match k with
  | 0 => ("ComparatorNetworks$Extensions", "firstWire", "[I", true)
  | 1 => ("ComparatorNetworks$Extensions", "secondWire", "[I", true)
  | 2 => ("ComparatorNetworks$Extensions", "outputsThen", "[I", true)
  | 3 => ("ComparatorNetworks$Extensions", "count", "I", false)
  | 4 => ("ComparatorNetworks$Extensions", "unsorted", "[I", true)
  | _ => ("ComparatorNetworks$Extensions", "unsortedThen", "[I", true)
def tyX1 : Nat → FieldType := fun k => match k with
  | 0 => .array .int
  | 1 => .array .int
  | 2 => .array .int
  | 3 => .int
  | 4 => .array .int
  | _ => .array .int
theorem nmX1 : ∀ a, a < 6 → ∀ b, b < 6 → a ≠ b → (TX1 a).2.1 ≠ (TX1 b).2.1 := by decide +kernel
theorem tyX1_ok : ∀ k, k < 6 → parseFieldDescriptor (TX1 k).2.2.1 = some (tyX1 k) := by decide +kernel
def RX2 : String := "ComparatorNetworks$History"
def TX2 : u_T := fun k => match k with
  | 0 => ("ComparatorNetworks$History", "before", "[LComparatorNetworks$Network;", true)
  | 1 => ("ComparatorNetworks$History", "changed", "[I", true)
  | 2 => ("ComparatorNetworks$History", "next", "I", false)
  | _ => ("ComparatorNetworks$History", "kept", "I", false)
def tyX2 : Nat → FieldType := fun k => match k with
  | 0 => .array (.object "ComparatorNetworks$Network")
  | 1 => .array .int
  | 2 => .int
  | _ => .int
theorem nmX2 : ∀ a, a < 4 → ∀ b, b < 4 → a ≠ b → (TX2 a).2.1 ≠ (TX2 b).2.1 := by decide +kernel
theorem tyX2_ok : ∀ k, k < 4 → parseFieldDescriptor (TX2 k).2.2.1 = some (tyX2 k) := by decide +kernel
def RX3 : String := "ComparatorNetworks$Network"
def TX3 : u_T := fun k => match k with
  | 0 => ("ComparatorNetworks$Network", "wireCount", "I", false)
  | 1 => ("ComparatorNetworks$Network", "count", "I", false)
  | 2 => ("ComparatorNetworks$Network", "first", "[I", true)
  | 3 => ("ComparatorNetworks$Network", "second", "[I", true)
  | _ => ("ComparatorNetworks$Network", "layersPassed", "[I", true)
def tyX3 : Nat → FieldType := fun k => match k with
  | 0 => .int
  | 1 => .int
  | 2 => .array .int
  | 3 => .array .int
  | _ => .array .int
theorem nmX3 : ∀ a, a < 5 → ∀ b, b < 5 → a ≠ b → (TX3 a).2.1 ≠ (TX3 b).2.1 := by decide +kernel
theorem tyX3_ok : ∀ k, k < 5 → parseFieldDescriptor (TX3 k).2.2.1 = some (tyX3 k) := by decide +kernel
def RX4 : String := "ComparatorNetworks$OutputSet"
def TX4 : u_T := fun k => match k with
  | 0 => ("ComparatorNetworks$OutputSet", "has", "[Z", true)
  | 1 => ("ComparatorNetworks$OutputSet", "members", "[I", true)
  | 2 => ("ComparatorNetworks$OutputSet", "wireCount", "I", false)
  | _ => ("ComparatorNetworks$OutputSet", "count", "I", false)
def tyX4 : Nat → FieldType := fun k => match k with
  | 0 => .array .boolean
  | 1 => .array .int
  | 2 => .int
  | _ => .int
theorem nmX4 : ∀ a, a < 4 → ∀ b, b < 4 → a ≠ b → (TX4 a).2.1 ≠ (TX4 b).2.1 := by decide +kernel
theorem tyX4_ok : ∀ k, k < 4 → parseFieldDescriptor (TX4 k).2.2.1 = some (tyX4 k) := by decide +kernel
def RX5 : String := "ComparatorNetworks$Renaming"
def TX5 : u_T := fun k => match k with
  | 0 => ("ComparatorNetworks$Renaming", "target", "[I", true)
  | _ => ("ComparatorNetworks$Renaming", "source", "[I", true)
def tyX5 : Nat → FieldType := fun k => match k with
  | 0 => .array .int
  | _ => .array .int
theorem nmX5 : ∀ a, a < 2 → ∀ b, b < 2 → a ≠ b → (TX5 a).2.1 ≠ (TX5 b).2.1 := by decide +kernel
theorem tyX5_ok : ∀ k, k < 2 → parseFieldDescriptor (TX5 k).2.2.1 = some (tyX5 k) := by decide +kernel
def RX6 : String := "ComparatorNetworks$Shelf"
def TX6 : u_T := fun k => match k with
  | 0 => ("ComparatorNetworks$Shelf", "kind", "I", false)
  | 1 => ("ComparatorNetworks$Shelf", "a", "I", false)
  | _ => ("ComparatorNetworks$Shelf", "b", "I", false)
def tyX6 : Nat → FieldType := fun k => match k with
  | 0 => .int
  | 1 => .int
  | _ => .int
theorem nmX6 : ∀ a, a < 3 → ∀ b, b < 3 → a ≠ b → (TX6 a).2.1 ≠ (TX6 b).2.1 := by decide +kernel
theorem tyX6_ok : ∀ k, k < 3 → parseFieldDescriptor (TX6 k).2.2.1 = some (tyX6 k) := by decide +kernel
def RX7 : String := "ComparatorNetworks$Sweep"
def TX7 : u_T := fun k => match k with
  | 0 => ("ComparatorNetworks$Sweep", "lanes", "[J", true)
  | 1 => ("ComparatorNetworks$Sweep", "wireCount", "I", false)
  | _ => ("ComparatorNetworks$Sweep", "words", "I", false)
def tyX7 : Nat → FieldType := fun k => match k with
  | 0 => .array .long
  | 1 => .int
  | _ => .int
theorem nmX7 : ∀ a, a < 3 → ∀ b, b < 3 → a ≠ b → (TX7 a).2.1 ≠ (TX7 b).2.1 := by decide +kernel
theorem tyX7_ok : ∀ k, k < 3 → parseFieldDescriptor (TX7 k).2.2.1 = some (tyX7 k) := by decide +kernel
def RX8 : String := "ComparatorNetworks$Text"
def TX8 : u_T := fun k => match k with
  | 0 => ("ComparatorNetworks$Text", "codes", "[I", true)
  | _ => ("ComparatorNetworks$Text", "length", "I", false)
def tyX8 : Nat → FieldType := fun k => match k with
  | 0 => .array .int
  | _ => .int
theorem nmX8 : ∀ a, a < 2 → ∀ b, b < 2 → a ≠ b → (TX8 a).2.1 ≠ (TX8 b).2.1 := by decide +kernel
theorem tyX8_ok : ∀ k, k < 2 → parseFieldDescriptor (TX8 k).2.2.1 = some (tyX8 k) := by decide +kernel
def RX9 : String := "ComparatorNetworks$Trial"
def TX9 : u_T := fun k => match k with
  | 0 => ("ComparatorNetworks$Trial", "happened", "Z", false)
  | 1 => ("ComparatorNetworks$Trial", "wireCount", "I", false)
  | 2 => ("ComparatorNetworks$Trial", "values", "[I", true)
  | _ => ("ComparatorNetworks$Trial", "origins", "[I", true)
def tyX9 : Nat → FieldType := fun k => match k with
  | 0 => .boolean
  | 1 => .int
  | 2 => .array .int
  | _ => .array .int
theorem nmX9 : ∀ a, a < 4 → ∀ b, b < 4 → a ≠ b → (TX9 a).2.1 ≠ (TX9 b).2.1 := by decide +kernel
theorem tyX9_ok : ∀ k, k < 4 → parseFieldDescriptor (TX9 k).2.2.1 = some (tyX9 k) := by decide +kernel
def RX10 : String := "ComparatorNetworks"
def TX10 : u_T := fun k => match k with
  | 0 => ("ComparatorNetworks", "networks", "[LComparatorNetworks$Network;", true)
  | 1 => ("ComparatorNetworks", "spare", "LComparatorNetworks$Network;", true)
  | 2 => ("ComparatorNetworks", "history", "LComparatorNetworks$History;", true)
  | 3 => ("ComparatorNetworks", "text", "LComparatorNetworks$Text;", true)
  | 4 => ("ComparatorNetworks", "keys", "[I", true)
  | 5 => ("ComparatorNetworks", "trial", "LComparatorNetworks$Trial;", true)
  | 6 => ("ComparatorNetworks", "shelves", "[LComparatorNetworks$Shelf;", true)
  | 7 => ("ComparatorNetworks", "sweep", "LComparatorNetworks$Sweep;", true)
  | 8 => ("ComparatorNetworks", "outputs", "LComparatorNetworks$OutputSet;", true)
  | 9 => ("ComparatorNetworks", "otherOutputs", "LComparatorNetworks$OutputSet;", true)
  | 10 => ("ComparatorNetworks", "extensions", "LComparatorNetworks$Extensions;", true)
  | 11 => ("ComparatorNetworks", "chains", "LComparatorNetworks$Chains;", true)
  | _ => ("ComparatorNetworks", "renaming", "LComparatorNetworks$Renaming;", true)
def tyX10 : Nat → FieldType := fun k => match k with
  | 0 => .array (.object "ComparatorNetworks$Network")
  | 1 => .object "ComparatorNetworks$Network"
  | 2 => .object "ComparatorNetworks$History"
  | 3 => .object "ComparatorNetworks$Text"
  | 4 => .array .int
  | 5 => .object "ComparatorNetworks$Trial"
  | 6 => .array (.object "ComparatorNetworks$Shelf")
  | 7 => .object "ComparatorNetworks$Sweep"
  | 8 => .object "ComparatorNetworks$OutputSet"
  | 9 => .object "ComparatorNetworks$OutputSet"
  | 10 => .object "ComparatorNetworks$Extensions"
  | 11 => .object "ComparatorNetworks$Chains"
  | _ => .object "ComparatorNetworks$Renaming"
theorem nmX10 : ∀ a, a < 13 → ∀ b, b < 13 → a ≠ b → (TX10 a).2.1 ≠ (TX10 b).2.1 := by decide +kernel
theorem tyX10_ok : ∀ k, k < 13 → parseFieldDescriptor (TX10 k).2.2.1 = some (tyX10 k) := by decide +kernel
def RX11 : String := "ComparatorNetworksModel"
def TX11 : u_T := fun k => match k with
  | 0 => ("ComparatorNetworksModel", "n", "[I", true)
  | 1 => ("ComparatorNetworksModel", "size", "[I", true)
  | 2 => ("ComparatorNetworksModel", "from", "[I", true)
  | 3 => ("ComparatorNetworksModel", "to", "[I", true)
  | 4 => ("ComparatorNetworksModel", "keys", "[I", true)
  | 5 => ("ComparatorNetworksModel", "value", "[I", true)
  | 6 => ("ComparatorNetworksModel", "origin", "[I", true)
  | 7 => ("ComparatorNetworksModel", "runN", "I", false)
  | 8 => ("ComparatorNetworksModel", "text", "[I", true)
  | 9 => ("ComparatorNetworksModel", "textN", "I", false)
  | 10 => ("ComparatorNetworksModel", "kept", "[I", true)
  | 11 => ("ComparatorNetworksModel", "changes", "I", false)
  | 12 => ("ComparatorNetworksModel", "kind", "[I", true)
  | 13 => ("ComparatorNetworksModel", "blockA", "[I", true)
  | 14 => ("ComparatorNetworksModel", "blockB", "[I", true)
  | 15 => ("ComparatorNetworksModel", "layers", "[I", true)
  | 16 => ("ComparatorNetworksModel", "readFrom", "[I", true)
  | 17 => ("ComparatorNetworksModel", "readTo", "[I", true)
  | 18 => ("ComparatorNetworksModel", "at", "I", false)
  | 19 => ("ComparatorNetworksModel", "used", "I", false)
  | 20 => ("ComparatorNetworksModel", "isFaulty", "Z", false)
  | 21 => ("ComparatorNetworksModel", "out", "[Z", true)
  | 22 => ("ComparatorNetworksModel", "other", "[Z", true)
  | 23 => ("ComparatorNetworksModel", "perm", "[I", true)
  | 24 => ("ComparatorNetworksModel", "carried", "[I", true)
  | 25 => ("ComparatorNetworksModel", "sorted", "I", false)
  | 26 => ("ComparatorNetworksModel", "firstBad", "I", false)
  | 27 => ("ComparatorNetworksModel", "mostAtOnce", "I", false)
  | 28 => ("ComparatorNetworksModel", "exchanged", "J", false)
  | 29 => ("ComparatorNetworksModel", "listed", "[I", true)
  | 30 => ("ComparatorNetworksModel", "begun", "[Z", true)
  | 31 => ("ComparatorNetworksModel", "madeFrom", "[I", true)
  | 32 => ("ComparatorNetworksModel", "madeTo", "[I", true)
  | _ => ("ComparatorNetworksModel", "made", "I", false)
def tyX11 : Nat → FieldType := fun k => match k with
  | 0 => .array .int
  | 1 => .array .int
  | 2 => .array .int
  | 3 => .array .int
  | 4 => .array .int
  | 5 => .array .int
  | 6 => .array .int
  | 7 => .int
  | 8 => .array .int
  | 9 => .int
  | 10 => .array .int
  | 11 => .int
  | 12 => .array .int
  | 13 => .array .int
  | 14 => .array .int
  | 15 => .array .int
  | 16 => .array .int
  | 17 => .array .int
  | 18 => .int
  | 19 => .int
  | 20 => .boolean
  | 21 => .array .boolean
  | 22 => .array .boolean
  | 23 => .array .int
  | 24 => .array .int
  | 25 => .int
  | 26 => .int
  | 27 => .int
  | 28 => .long
  | 29 => .array .int
  | 30 => .array .boolean
  | 31 => .array .int
  | 32 => .array .int
  | _ => .int
theorem nmX11 : ∀ a, a < 34 → ∀ b, b < 34 → a ≠ b → (TX11 a).2.1 ≠ (TX11 b).2.1 := by decide +kernel
theorem tyX11_ok : ∀ k, k < 34 → parseFieldDescriptor (TX11 k).2.2.1 = some (tyX11 k) := by decide +kernel
def RJ6 : String := "java/lang/Integer"
def RJ13 : String := "java/lang/Long"
def RJ9 : String := "java/lang/Math"
def RJ7 : String := "java/util/Arrays"
def RL : String := "ComparatorNetworksLaw"
abbrev vwCl : List vw_C := [(RX0, TX0, 2), (RX1, TX1, 6), (RX2, TX2, 4), (RX3, TX3, 5), (RX4, TX4, 4), (RX5, TX5, 2), (RX6, TX6, 3), (RX7, TX7, 3), (RX8, TX8, 2), (RX9, TX9, 4), (RX10, TX10, 13), (RX11, TX11, 34)]
abbrev MD : Type := MethodName × ByteArray × Nat × Option FieldType × Option (Nat × Nat × (Nat → Int32))
def yX0_init : MethodName := ⟨RX0, "<init>", "()V"⟩
abbrev mX0_init : MD := (yX0_init, prog_2_method_1_code, 1, none, none)
def yX0_countWithoutFailure : MethodName := ⟨RX0, "countWithoutFailure", "(LComparatorNetworks$Sweep;)I"⟩
abbrev mX0_countWithoutFailure : MD := (yX0_countWithoutFailure, prog_2_method_2_code, 5, (some .int), none)
def yX0_leastWithFailure : MethodName := ⟨RX0, "leastWithFailure", "(LComparatorNetworks$Sweep;)I"⟩
abbrev mX0_leastWithFailure : MD := (yX0_leastWithFailure, prog_2_method_3_code, 5, (some .int), none)
def yX0_leastThrough : MethodName := ⟨RX0, "leastThrough", "(II)I"⟩
abbrev mX0_leastThrough : MD := (yX0_leastThrough, prog_2_method_4_code, 7, (some .int), none)
def yX0_noteExchanges : MethodName := ⟨RX0, "noteExchanges", "(LComparatorNetworks$Network;)V"⟩
abbrev mX0_noteExchanges : MD := (yX0_noteExchanges, prog_2_method_5_code, 3, none, none)
def yX0_begun : MethodName := ⟨RX0, "begun", "(II)I"⟩
abbrev mX0_begun : MD := (yX0_begun, prog_2_method_6_code, 3, (some .int), none)
def yX0_allExchanges : MethodName := ⟨RX0, "allExchanges", "(LComparatorNetworks$Network;)J"⟩
abbrev mX0_allExchanges : MD := (yX0_allExchanges, prog_2_method_7_code, 10, (some .long), none)
def yX0_greatestExchanges : MethodName := ⟨RX0, "greatestExchanges", "(LComparatorNetworks$Network;)I"⟩
abbrev mX0_greatestExchanges : MD := (yX0_greatestExchanges, prog_2_method_8_code, 6, (some .int), none)
def yX1_init : MethodName := ⟨RX1, "<init>", "()V"⟩
abbrev mX1_init : MD := (yX1_init, prog_3_method_1_code, 1, none, none)
def yX1_rankAll : MethodName := ⟨RX1, "rankAll", "(LComparatorNetworks$OutputSet;)V"⟩
abbrev mX1_rankAll : MD := (yX1_rankAll, prog_3_method_2_code, 4, none, none)
def yX1_rankOne : MethodName := ⟨RX1, "rankOne", "(III)V"⟩
abbrev mX1_rankOne : MD := (yX1_rankOne, prog_3_method_3_code, 5, none, none)
def yX1_codeAt : MethodName := ⟨RX1, "codeAt", "(I)I"⟩
abbrev mX1_codeAt : MD := (yX1_codeAt, prog_3_method_4_code, 2, (some .int), none)
def yX1_outputsAt : MethodName := ⟨RX1, "outputsAt", "(I)I"⟩
abbrev mX1_outputsAt : MD := (yX1_outputsAt, prog_3_method_5_code, 2, (some .int), none)
def yX1_leastToSort : MethodName := ⟨RX1, "leastToSort", "(LComparatorNetworks$OutputSet;I)I"⟩
abbrev mX1_leastToSort : MD := (yX1_leastToSort, prog_3_method_6_code, 5, (some .int), none)
def yX1_oneSorts : MethodName := ⟨RX1, "oneSorts", "([III)Z"⟩
abbrev mX1_oneSorts : MD := (yX1_oneSorts, prog_3_method_7_code, 5, (some .boolean), none)
def yX1_pairSorts : MethodName := ⟨RX1, "pairSorts", "([IIIII)Z"⟩
abbrev mX1_pairSorts : MD := (yX1_pairSorts, prog_3_method_8_code, 6, (some .boolean), none)
def yX1_twoSort : MethodName := ⟨RX1, "twoSort", "(II)Z"⟩
abbrev mX1_twoSort : MD := (yX1_twoSort, prog_3_method_9_code, 6, (some .boolean), none)
def yX1_keepUnsorted : MethodName := ⟨RX1, "keepUnsorted", "(IIII)I"⟩
abbrev mX1_keepUnsorted : MD := (yX1_keepUnsorted, prog_3_method_10_code, 8, (some .int), none)
def yX2_init : MethodName := ⟨RX2, "<init>", "()V"⟩
abbrev mX2_init : MD := (yX2_init, prog_4_method_1_code, 2, none, none)
def yX2_keep : MethodName := ⟨RX2, "keep", "(ILComparatorNetworks$Network;)V"⟩
abbrev mX2_keep : MD := (yX2_keep, prog_4_method_2_code, 3, none, none)
def yX2_takeBack : MethodName := ⟨RX2, "takeBack", "([LComparatorNetworks$Network;)I"⟩
abbrev mX2_takeBack : MD := (yX2_takeBack, prog_4_method_3_code, 3, (some .int), none)
def yX3_init : MethodName := ⟨RX3, "<init>", "()V"⟩
abbrev mX3_init : MD := (yX3_init, prog_5_method_1_code, 1, none, none)
def yX3_hasWire : MethodName := ⟨RX3, "hasWire", "(I)Z"⟩
abbrev mX3_hasWire : MD := (yX3_hasWire, prog_5_method_2_code, 2, (some .boolean), none)
def yX3_hasPosition : MethodName := ⟨RX3, "hasPosition", "(I)Z"⟩
abbrev mX3_hasPosition : MD := (yX3_hasPosition, prog_5_method_3_code, 2, (some .boolean), none)
def yX3_restart : MethodName := ⟨RX3, "restart", "(I)V"⟩
abbrev mX3_restart : MD := (yX3_restart, prog_5_method_4_code, 2, none, none)
def yX3_takeOver : MethodName := ⟨RX3, "takeOver", "(LComparatorNetworks$Network;)V"⟩
abbrev mX3_takeOver : MD := (yX3_takeOver, prog_5_method_5_code, 2, none, none)
def yX3_codeAt : MethodName := ⟨RX3, "codeAt", "(I)I"⟩
abbrev mX3_codeAt : MD := (yX3_codeAt, prog_5_method_6_code, 2, (some .int), none)
def yX3_refusal : MethodName := ⟨RX3, "refusal", "(II)I"⟩
abbrev mX3_refusal : MD := (yX3_refusal, prog_5_method_7_code, 3, (some .int), none)
def yX3_push : MethodName := ⟨RX3, "push", "(II)V"⟩
abbrev mX3_push : MD := (yX3_push, prog_5_method_8_code, 3, none, none)
def yX3_pushAt : MethodName := ⟨RX3, "pushAt", "(III)V"⟩
abbrev mX3_pushAt : MD := (yX3_pushAt, prog_5_method_9_code, 5, none, none)
def yX3_pushAll : MethodName := ⟨RX3, "pushAll", "(LComparatorNetworks$Network;I)V"⟩
abbrev mX3_pushAll : MD := (yX3_pushAll, prog_5_method_10_code, 5, none, none)
def yX3_pushNeighbours : MethodName := ⟨RX3, "pushNeighbours", "(I)V"⟩
abbrev mX3_pushNeighbours : MD := (yX3_pushNeighbours, prog_5_method_11_code, 3, none, none)
def yX3_drop : MethodName := ⟨RX3, "drop", "(I)V"⟩
abbrev mX3_drop : MD := (yX3_drop, prog_5_method_12_code, 3, none, none)
def yX3_levelAt : MethodName := ⟨RX3, "levelAt", "(I)I"⟩
abbrev mX3_levelAt : MD := (yX3_levelAt, prog_5_method_13_code, 2, (some .int), none)
def yX3_levels : MethodName := ⟨RX3, "levels", "()I"⟩
abbrev mX3_levels : MD := (yX3_levels, prog_5_method_14_code, 3, (some .int), none)
def yX3_passLayers : MethodName := ⟨RX3, "passLayers", "(I)V"⟩
abbrev mX3_passLayers : MD := (yX3_passLayers, prog_5_method_15_code, 4, none, none)
def yX3_carry : MethodName := ⟨RX3, "carry", "(I)I"⟩
abbrev mX3_carry : MD := (yX3_carry, prog_5_method_16_code, 4, (some .int), none)
def yX3_exchangesFor : MethodName := ⟨RX3, "exchangesFor", "(I)J"⟩
abbrev mX3_exchangesFor : MD := (yX3_exchangesFor, prog_5_method_17_code, 7, (some .long), none)
def yX3_turnAll : MethodName := ⟨RX3, "turnAll", "()I"⟩
abbrev mX3_turnAll : MD := (yX3_turnAll, prog_5_method_18_code, 5, (some .int), none)
def yX3_swapWiresBehind : MethodName := ⟨RX3, "swapWiresBehind", "(III)V"⟩
abbrev mX3_swapWiresBehind : MD := (yX3_swapWiresBehind, prog_5_method_19_code, 5, none, none)
def yX3_swapped : MethodName := ⟨RX3, "swapped", "(III)I"⟩
abbrev mX3_swapped : MD := (yX3_swapped, prog_5_method_20_code, 3, (some .int), none)
def yX3_reflect : MethodName := ⟨RX3, "reflect", "()V"⟩
abbrev mX3_reflect : MD := (yX3_reflect, prog_5_method_21_code, 3, none, none)
def yX4_init : MethodName := ⟨RX4, "<init>", "()V"⟩
abbrev mX4_init : MD := (yX4_init, prog_6_method_1_code, 1, none, none)
def yX4_gather : MethodName := ⟨RX4, "gather", "(LComparatorNetworks$Sweep;)V"⟩
abbrev mX4_gather : MD := (yX4_gather, prog_6_method_2_code, 4, none, none)
def yX4_equalTo : MethodName := ⟨RX4, "equalTo", "(LComparatorNetworks$OutputSet;)Z"⟩
abbrev mX4_equalTo : MD := (yX4_equalTo, prog_6_method_3_code, 3, (some .boolean), none)
def yX4_countAfter : MethodName := ⟨RX4, "countAfter", "(II)I"⟩
abbrev mX4_countAfter : MD := (yX4_countAfter, prog_6_method_4_code, 6, (some .int), none)
def yX5_init : MethodName := ⟨RX5, "<init>", "()V"⟩
abbrev mX5_init : MD := (yX5_init, prog_7_method_1_code, 1, none, none)
def yX5_makes : MethodName := ⟨RX5, "makes", "(LComparatorNetworks$Network;LComparatorNetworks$Network;)Z"⟩
abbrev mX5_makes : MD := (yX5_makes, prog_7_method_2_code, 4, (some .boolean), none)
def yX5_link : MethodName := ⟨RX5, "link", "(II)Z"⟩
abbrev mX5_link : MD := (yX5_link, prog_7_method_3_code, 3, (some .boolean), none)
def yX5_putsInto : MethodName := ⟨RX5, "putsInto", "(LComparatorNetworks$OutputSet;LComparatorNetworks$OutputSet;)Z"⟩
abbrev mX5_putsInto : MD := (yX5_putsInto, prog_7_method_4_code, 3, (some .boolean), none)
def yX5_search : MethodName := ⟨RX5, "search", "(LComparatorNetworks$OutputSet;LComparatorNetworks$OutputSet;[III)Z"⟩
abbrev mX5_search : MD := (yX5_search, prog_7_method_5_code, 6, (some .boolean), none)
def yX5_movesInto : MethodName := ⟨RX5, "movesInto", "(LComparatorNetworks$OutputSet;LComparatorNetworks$OutputSet;[I)Z"⟩
abbrev mX5_movesInto : MD := (yX5_movesInto, prog_7_method_6_code, 6, (some .boolean), none)
def yX6_init : MethodName := ⟨RX6, "<init>", "()V"⟩
abbrev mX6_init : MD := (yX6_init, prog_8_method_1_code, 1, none, none)
def yX6_allows : MethodName := ⟨RX6, "allows", "(III)Z"⟩
abbrev mX6_allows : MD := (yX6_allows, prog_8_method_2_code, 3, (some .boolean), none)
def yX6_isTaken : MethodName := ⟨RX6, "isTaken", "()Z"⟩
abbrev mX6_isTaken : MD := (yX6_isTaken, prog_8_method_3_code, 1, (some .boolean), none)
def yX6_hold : MethodName := ⟨RX6, "hold", "(III)V"⟩
abbrev mX6_hold : MD := (yX6_hold, prog_8_method_4_code, 4, none, none)
def yX6_release : MethodName := ⟨RX6, "release", "()V"⟩
abbrev mX6_release : MD := (yX6_release, prog_8_method_5_code, 1, none, none)
def yX6_isOfKind : MethodName := ⟨RX6, "isOfKind", "(I)Z"⟩
abbrev mX6_isOfKind : MD := (yX6_isOfKind, prog_8_method_6_code, 4, (some .boolean), none)
def yX6_fits : MethodName := ⟨RX6, "fits", "(I)Z"⟩
abbrev mX6_fits : MD := (yX6_fits, prog_8_method_7_code, 3, (some .boolean), none)
def yX6_pushOnto : MethodName := ⟨RX6, "pushOnto", "(LComparatorNetworks$Network;)V"⟩
abbrev mX6_pushOnto : MD := (yX6_pushOnto, prog_8_method_8_code, 2, none, none)
def yX6_pushRepeated : MethodName := ⟨RX6, "pushRepeated", "(LComparatorNetworks$Network;)V"⟩
abbrev mX6_pushRepeated : MD := (yX6_pushRepeated, prog_8_method_9_code, 3, none, none)
def yX7_init : MethodName := ⟨RX7, "<init>", "()V"⟩
abbrev mX7_init : MD := (yX7_init, prog_9_method_1_code, 1, none, none)
def yX7_start : MethodName := ⟨RX7, "start", "(I)V"⟩
abbrev mX7_start : MD := (yX7_start, prog_9_method_2_code, 4, none, none)
def yX7_inputLane : MethodName := ⟨RX7, "inputLane", "(II)J"⟩
abbrev mX7_inputLane : MD := (yX7_inputLane, prog_9_method_3_code, 2, (some .long), none)
def yX7_pass : MethodName := ⟨RX7, "pass", "(II)V"⟩
abbrev mX7_pass : MD := (yX7_pass, prog_9_method_4_code, 8, none, none)
def yX7_passAll : MethodName := ⟨RX7, "passAll", "(LComparatorNetworks$Network;I)V"⟩
abbrev mX7_passAll : MD := (yX7_passAll, prog_9_method_5_code, 4, none, none)
def yX7_exchanges : MethodName := ⟨RX7, "exchanges", "(II)Z"⟩
abbrev mX7_exchanges : MD := (yX7_exchanges, prog_9_method_6_code, 4, (some .boolean), none)
def yX7_failures : MethodName := ⟨RX7, "failures", "(I)J"⟩
abbrev mX7_failures : MD := (yX7_failures, prog_9_method_7_code, 5, (some .long), none)
def yX7_lowestFailure : MethodName := ⟨RX7, "lowestFailure", "()I"⟩
abbrev mX7_lowestFailure : MD := (yX7_lowestFailure, prog_9_method_8_code, 6, (some .int), none)
def yX7_valueAt : MethodName := ⟨RX7, "valueAt", "(II)I"⟩
abbrev mX7_valueAt : MD := (yX7_valueAt, prog_9_method_9_code, 3, (some .int), none)
def yX7_outputFor : MethodName := ⟨RX7, "outputFor", "(I)I"⟩
abbrev mX7_outputFor : MD := (yX7_outputFor, prog_9_method_10_code, 4, (some .int), none)
def yX7_selects : MethodName := ⟨RX7, "selects", "(I)Z"⟩
abbrev mX7_selects : MD := (yX7_selects, prog_9_method_11_code, 4, (some .boolean), none)
def yX8_init : MethodName := ⟨RX8, "<init>", "()V"⟩
abbrev mX8_init : MD := (yX8_init, prog_10_method_1_code, 1, none, none)
def yX8_put : MethodName := ⟨RX8, "put", "(I)I"⟩
abbrev mX8_put : MD := (yX8_put, prog_10_method_2_code, 2, (some .int), none)
def yX8_empty : MethodName := ⟨RX8, "empty", "()I"⟩
abbrev mX8_empty : MD := (yX8_empty, prog_10_method_3_code, 2, (some .int), none)
def yX8_readInto : MethodName := ⟨RX8, "readInto", "(LComparatorNetworks$Network;)I"⟩
abbrev mX8_readInto : MD := (yX8_readInto, prog_10_method_4_code, 8, (some .int), none)
def yX8_canContinue : MethodName := ⟨RX8, "canContinue", "(IILComparatorNetworks$Network;I)Z"⟩
abbrev mX8_canContinue : MD := (yX8_canContinue, prog_10_method_5_code, 5, (some .boolean), none)
def yX9_init : MethodName := ⟨RX9, "<init>", "()V"⟩
abbrev mX9_init : MD := (yX9_init, prog_11_method_1_code, 1, none, none)
def yX9_hadWire : MethodName := ⟨RX9, "hadWire", "(I)Z"⟩
abbrev mX9_hadWire : MD := (yX9_hadWire, prog_11_method_2_code, 2, (some .boolean), none)
def yX9_perform : MethodName := ⟨RX9, "perform", "(LComparatorNetworks$Network;[I)I"⟩
abbrev mX9_perform : MD := (yX9_perform, prog_11_method_3_code, 5, (some .int), none)
def yX9_swap : MethodName := ⟨RX9, "swap", "([III)V"⟩
abbrev mX9_swap : MD := (yX9_swap, prog_11_method_4_code, 4, none, none)
def yX9_keptOrder : MethodName := ⟨RX9, "keptOrder", "()Z"⟩
abbrev mX9_keptOrder : MD := (yX9_keptOrder, prog_11_method_5_code, 3, (some .boolean), none)
def yX10_init : MethodName := ⟨RX10, "<init>", "()V"⟩
abbrev mX10_init : MD := (yX10_init, prog_1_method_1_code, 2, none, none)
def yX10_reset : MethodName := ⟨RX10, "reset", "(II)I"⟩
abbrev mX10_reset : MD := (yX10_reset, prog_1_method_2_code, 4, (some .int), none)
def yX10_wires : MethodName := ⟨RX10, "wires", "(I)I"⟩
abbrev mX10_wires : MD := (yX10_wires, prog_1_method_3_code, 2, (some .int), none)
def yX10_size : MethodName := ⟨RX10, "size", "(I)I"⟩
abbrev mX10_size : MD := (yX10_size, prog_1_method_4_code, 2, (some .int), none)
def yX10_comparator : MethodName := ⟨RX10, "comparator", "(II)I"⟩
abbrev mX10_comparator : MD := (yX10_comparator, prog_1_method_5_code, 3, (some .int), none)
def yX10_add : MethodName := ⟨RX10, "add", "(III)I"⟩
abbrev mX10_add : MD := (yX10_add, prog_1_method_6_code, 4, (some .int), none)
def yX10_insert : MethodName := ⟨RX10, "insert", "(IIII)I"⟩
abbrev mX10_insert : MD := (yX10_insert, prog_1_method_7_code, 5, (some .int), none)
def yX10_remove : MethodName := ⟨RX10, "remove", "(II)I"⟩
abbrev mX10_remove : MD := (yX10_remove, prog_1_method_8_code, 4, (some .int), none)
def yX10_layer : MethodName := ⟨RX10, "layer", "(II)I"⟩
abbrev mX10_layer : MD := (yX10_layer, prog_1_method_9_code, 3, (some .int), none)
def yX10_depth : MethodName := ⟨RX10, "depth", "(I)I"⟩
abbrev mX10_depth : MD := (yX10_depth, prog_1_method_10_code, 2, (some .int), none)
def yX10_append : MethodName := ⟨RX10, "append", "(I)I"⟩
abbrev mX10_append : MD := (yX10_append, prog_1_method_11_code, 2, (some .int), none)
def yX10_clearText : MethodName := ⟨RX10, "clearText", "()I"⟩
abbrev mX10_clearText : MD := (yX10_clearText, prog_1_method_12_code, 1, (some .int), none)
def yX10_parse : MethodName := ⟨RX10, "parse", "(I)I"⟩
abbrev mX10_parse : MD := (yX10_parse, prog_1_method_13_code, 4, (some .int), none)
def yX10_setKey : MethodName := ⟨RX10, "setKey", "(II)I"⟩
abbrev mX10_setKey : MD := (yX10_setKey, prog_1_method_14_code, 4, (some .int), none)
def yX10_run : MethodName := ⟨RX10, "run", "(I)I"⟩
abbrev mX10_run : MD := (yX10_run, prog_1_method_15_code, 2, (some .int), none)
def yX10_result : MethodName := ⟨RX10, "result", "(I)I"⟩
abbrev mX10_result : MD := (yX10_result, prog_1_method_16_code, 2, (some .int), none)
def yX10_origin : MethodName := ⟨RX10, "origin", "(I)I"⟩
abbrev mX10_origin : MD := (yX10_origin, prog_1_method_17_code, 2, (some .int), none)
def yX10_isStable : MethodName := ⟨RX10, "isStable", "()I"⟩
abbrev mX10_isStable : MD := (yX10_isStable, prog_1_method_18_code, 1, (some .int), none)
def yX10_outputCount : MethodName := ⟨RX10, "outputCount", "(I)I"⟩
abbrev mX10_outputCount : MD := (yX10_outputCount, prog_1_method_19_code, 2, (some .int), none)
def yX10_outputOf : MethodName := ⟨RX10, "outputOf", "(II)I"⟩
abbrev mX10_outputOf : MD := (yX10_outputOf, prog_1_method_20_code, 3, (some .int), none)
def yX10_isSorter : MethodName := ⟨RX10, "isSorter", "(I)I"⟩
abbrev mX10_isSorter : MD := (yX10_isSorter, prog_1_method_21_code, 2, (some .int), none)
def yX10_firstFailure : MethodName := ⟨RX10, "firstFailure", "(I)I"⟩
abbrev mX10_firstFailure : MD := (yX10_firstFailure, prog_1_method_22_code, 3, (some .int), none)
def yX10_isSelector : MethodName := ⟨RX10, "isSelector", "(II)I"⟩
abbrev mX10_isSelector : MD := (yX10_isSelector, prog_1_method_23_code, 3, (some .int), none)
def yX10_countSorted : MethodName := ⟨RX10, "countSorted", "(I)I"⟩
abbrev mX10_countSorted : MD := (yX10_countSorted, prog_1_method_24_code, 2, (some .int), none)
def yX10_firstUnsorted : MethodName := ⟨RX10, "firstUnsorted", "(I)I"⟩
abbrev mX10_firstUnsorted : MD := (yX10_firstUnsorted, prog_1_method_25_code, 2, (some .int), none)
def yX10_totalExchanges : MethodName := ⟨RX10, "totalExchanges", "(I)J"⟩
abbrev mX10_totalExchanges : MD := (yX10_totalExchanges, prog_1_method_26_code, 2, (some .long), none)
def yX10_mostExchanges : MethodName := ⟨RX10, "mostExchanges", "(I)I"⟩
abbrev mX10_mostExchanges : MD := (yX10_mostExchanges, prog_1_method_27_code, 2, (some .int), none)
def yX10_isRedundant : MethodName := ⟨RX10, "isRedundant", "(II)I"⟩
abbrev mX10_isRedundant : MD := (yX10_isRedundant, prog_1_method_28_code, 5, (some .int), none)
def yX10_prune : MethodName := ⟨RX10, "prune", "(I)I"⟩
abbrev mX10_prune : MD := (yX10_prune, prog_1_method_29_code, 5, (some .int), none)
def yX10_reduce : MethodName := ⟨RX10, "reduce", "(I)I"⟩
abbrev mX10_reduce : MD := (yX10_reduce, prog_1_method_30_code, 5, (some .int), none)
def yX10_standardize : MethodName := ⟨RX10, "standardize", "(I)I"⟩
abbrev mX10_standardize : MD := (yX10_standardize, prog_1_method_31_code, 2, (some .int), none)
def yX10_mirror : MethodName := ⟨RX10, "mirror", "(I)I"⟩
abbrev mX10_mirror : MD := (yX10_mirror, prog_1_method_32_code, 2, (some .int), none)
def yX10_candidate : MethodName := ⟨RX10, "candidate", "(III)I"⟩
abbrev mX10_candidate : MD := (yX10_candidate, prog_1_method_33_code, 5, (some .int), none)
def yX10_grow : MethodName := ⟨RX10, "grow", "(I)I"⟩
abbrev mX10_grow : MD := (yX10_grow, prog_1_method_34_code, 3, (some .int), none)
def yX10_missing : MethodName := ⟨RX10, "missing", "(II)I"⟩
abbrev mX10_missing : MD := (yX10_missing, prog_1_method_35_code, 4, (some .int), none)
def yX10_sameOutputs : MethodName := ⟨RX10, "sameOutputs", "(II)I"⟩
abbrev mX10_sameOutputs : MD := (yX10_sameOutputs, prog_1_method_36_code, 3, (some .int), none)
def yX10_isIsomorphic : MethodName := ⟨RX10, "isIsomorphic", "(II)I"⟩
abbrev mX10_isIsomorphic : MD := (yX10_isIsomorphic, prog_1_method_37_code, 3, (some .int), none)
def yX10_subsumes : MethodName := ⟨RX10, "subsumes", "(II)I"⟩
abbrev mX10_subsumes : MD := (yX10_subsumes, prog_1_method_38_code, 3, (some .int), none)
def yX10_build : MethodName := ⟨RX10, "build", "(III)I"⟩
abbrev mX10_build : MD := (yX10_build, prog_1_method_39_code, 4, (some .int), none)
def yX10_isMerger : MethodName := ⟨RX10, "isMerger", "(II)I"⟩
abbrev mX10_isMerger : MD := (yX10_isMerger, prog_1_method_40_code, 3, (some .int), none)
def yX10_concatenate : MethodName := ⟨RX10, "concatenate", "(III)I"⟩
abbrev mX10_concatenate : MD := (yX10_concatenate, prog_1_method_41_code, 4, (some .int), none)
def yX10_beside : MethodName := ⟨RX10, "beside", "(III)I"⟩
abbrev mX10_beside : MD := (yX10_beside, prog_1_method_42_code, 5, (some .int), none)
def yX10_undo : MethodName := ⟨RX10, "undo", "()I"⟩
abbrev mX10_undo : MD := (yX10_undo, prog_1_method_43_code, 1, (some .int), none)
def yX10_place : MethodName := ⟨RX10, "place", "(IIII)I"⟩
abbrev mX10_place : MD := (yX10_place, prog_1_method_44_code, 5, (some .int), none)
def yX10_discard : MethodName := ⟨RX10, "discard", "(I)I"⟩
abbrev mX10_discard : MD := (yX10_discard, prog_1_method_45_code, 3, (some .int), none)
def yX10_castBlock : MethodName := ⟨RX10, "castBlock", "(II)I"⟩
abbrev mX10_castBlock : MD := (yX10_castBlock, prog_1_method_46_code, 3, (some .int), none)
def yX10_blockSize : MethodName := ⟨RX10, "blockSize", "(II)I"⟩
abbrev mX10_blockSize : MD := (yX10_blockSize, prog_1_method_47_code, 3, (some .int), none)
def yX10_applyBlock : MethodName := ⟨RX10, "applyBlock", "(II)I"⟩
abbrev mX10_applyBlock : MD := (yX10_applyBlock, prog_1_method_48_code, 5, (some .int), none)
def yX10_isNetwork : MethodName := ⟨RX10, "isNetwork", "(I)Z"⟩
abbrev mX10_isNetwork : MD := (yX10_isNetwork, prog_1_method_49_code, 1, (some .boolean), none)
def yX10_isShelf : MethodName := ⟨RX10, "isShelf", "(I)Z"⟩
abbrev mX10_isShelf : MD := (yX10_isShelf, prog_1_method_50_code, 1, (some .boolean), none)
def yX10_isWireCount : MethodName := ⟨RX10, "isWireCount", "(I)Z"⟩
abbrev mX10_isWireCount : MD := (yX10_isWireCount, prog_1_method_51_code, 1, (some .boolean), none)
def yX10_isPosition : MethodName := ⟨RX10, "isPosition", "(II)Z"⟩
abbrev mX10_isPosition : MD := (yX10_isPosition, prog_1_method_52_code, 3, (some .boolean), none)
def yX10_oneIf : MethodName := ⟨RX10, "oneIf", "(Z)I"⟩
abbrev mX10_oneIf : MD := (yX10_oneIf, prog_1_method_53_code, 1, (some .int), none)
def yX10_isSorted : MethodName := ⟨RX10, "isSorted", "(II)Z"⟩
abbrev mX10_isSorted : MD := (yX10_isSorted, prog_1_method_54_code, 3, (some .boolean), none)
def yX10_exchanged : MethodName := ⟨RX10, "exchanged", "(III)I"⟩
abbrev mX10_exchanged : MD := (yX10_exchanged, prog_1_method_55_code, 4, (some .int), none)
def yX10_remember : MethodName := ⟨RX10, "remember", "(I)V"⟩
abbrev mX10_remember : MD := (yX10_remember, prog_1_method_56_code, 2, none, none)
def yX10_pushInto : MethodName := ⟨RX10, "pushInto", "(IIII)I"⟩
abbrev mX10_pushInto : MD := (yX10_pushInto, prog_1_method_57_code, 6, (some .int), none)
def yX10_replaceBySpare : MethodName := ⟨RX10, "replaceBySpare", "(I)I"⟩
abbrev mX10_replaceBySpare : MD := (yX10_replaceBySpare, prog_1_method_58_code, 2, (some .int), none)
def yX10_gatherOutputs : MethodName := ⟨RX10, "gatherOutputs", "(LComparatorNetworks$Network;LComparatorNetworks$OutputSet;)V"⟩
abbrev mX10_gatherOutputs : MD := (yX10_gatherOutputs, prog_1_method_59_code, 3, none, none)
def yX10_sorts : MethodName := ⟨RX10, "sorts", "(LComparatorNetworks$Network;I)Z"⟩
abbrev mX10_sorts : MD := (yX10_sorts, prog_1_method_60_code, 3, (some .boolean), none)
def yX10_lastNeedless : MethodName := ⟨RX10, "lastNeedless", "(LComparatorNetworks$Network;)I"⟩
abbrev mX10_lastNeedless : MD := (yX10_lastNeedless, prog_1_method_61_code, 3, (some .int), none)
def yX10_pushInsertion : MethodName := ⟨RX10, "pushInsertion", "(LComparatorNetworks$Network;)V"⟩
abbrev mX10_pushInsertion : MD := (yX10_pushInsertion, prog_1_method_62_code, 3, none, none)
def yX10_pushBubbles : MethodName := ⟨RX10, "pushBubbles", "(LComparatorNetworks$Network;)V"⟩
abbrev mX10_pushBubbles : MD := (yX10_pushBubbles, prog_1_method_63_code, 3, none, none)
def yX10_pushTransposition : MethodName := ⟨RX10, "pushTransposition", "(LComparatorNetworks$Network;)V"⟩
abbrev mX10_pushTransposition : MD := (yX10_pushTransposition, prog_1_method_64_code, 2, none, none)
def yX10_pushMergeExchange : MethodName := ⟨RX10, "pushMergeExchange", "(LComparatorNetworks$Network;)V"⟩
abbrev mX10_pushMergeExchange : MD := (yX10_pushMergeExchange, prog_1_method_65_code, 6, none, none)
def yX10_pushApart : MethodName := ⟨RX10, "pushApart", "(LComparatorNetworks$Network;III)V"⟩
abbrev mX10_pushApart : MD := (yX10_pushApart, prog_1_method_66_code, 5, none, none)
def yX10_merges : MethodName := ⟨RX10, "merges", "(LComparatorNetworks$Network;I)Z"⟩
abbrev mX10_merges : MD := (yX10_merges, prog_1_method_67_code, 6, (some .boolean), none)
def yX10_sortedBits : MethodName := ⟨RX10, "sortedBits", "(II)I"⟩
abbrev mX10_sortedBits : MD := (yX10_sortedBits, prog_1_method_68_code, 2, (some .int), none)
def yX10_countBlocks : MethodName := ⟨RX10, "countBlocks", "()I"⟩
abbrev mX10_countBlocks : MD := (yX10_countBlocks, prog_1_method_69_code, 3, (some .int), none)
def yX10_unfold : MethodName := ⟨RX10, "unfold", "(LComparatorNetworks$Shelf;I)I"⟩
abbrev mX10_unfold : MD := (yX10_unfold, prog_1_method_70_code, 3, (some .int), none)
def yX11_init : MethodName := ⟨RX11, "<init>", "()V"⟩
abbrev mX11_init : MD := (yX11_init, prog_13_method_1_code, 2, none, none)
def yX11_isIn : MethodName := ⟨RX11, "isIn", "(III)Z"⟩
abbrev mX11_isIn : MD := (yX11_isIn, prog_13_method_2_code, 3, (some .boolean), none)
def yX11_isNet : MethodName := ⟨RX11, "isNet", "(I)Z"⟩
abbrev mX11_isNet : MD := (yX11_isNet, prog_13_method_3_code, 1, (some .boolean), none)
def yX11_isWire : MethodName := ⟨RX11, "isWire", "(II)Z"⟩
abbrev mX11_isWire : MD := (yX11_isWire, prog_13_method_4_code, 3, (some .boolean), none)
def yX11_remembers : MethodName := ⟨RX11, "remembers", "()V"⟩
abbrev mX11_remembers : MD := (yX11_remembers, prog_13_method_5_code, 3, none, none)
def yX11_undo : MethodName := ⟨RX11, "undo", "()I"⟩
abbrev mX11_undo : MD := (yX11_undo, prog_13_method_6_code, 3, (some .int), none)
def yX11_reset : MethodName := ⟨RX11, "reset", "(II)I"⟩
abbrev mX11_reset : MD := (yX11_reset, prog_13_method_7_code, 4, (some .int), none)
def yX11_wires : MethodName := ⟨RX11, "wires", "(I)I"⟩
abbrev mX11_wires : MD := (yX11_wires, prog_13_method_8_code, 2, (some .int), none)
def yX11_size : MethodName := ⟨RX11, "size", "(I)I"⟩
abbrev mX11_size : MD := (yX11_size, prog_13_method_9_code, 2, (some .int), none)
def yX11_isPosition : MethodName := ⟨RX11, "isPosition", "(II)Z"⟩
abbrev mX11_isPosition : MD := (yX11_isPosition, prog_13_method_10_code, 3, (some .boolean), none)
def yX11_comparator : MethodName := ⟨RX11, "comparator", "(II)I"⟩
abbrev mX11_comparator : MD := (yX11_comparator, prog_13_method_11_code, 3, (some .int), none)
def yX11_puts : MethodName := ⟨RX11, "puts", "(IIII)V"⟩
abbrev mX11_puts : MD := (yX11_puts, prog_13_method_12_code, 6, none, none)
def yX11_takes : MethodName := ⟨RX11, "takes", "(II)V"⟩
abbrev mX11_takes : MD := (yX11_takes, prog_13_method_13_code, 4, none, none)
def yX11_add : MethodName := ⟨RX11, "add", "(III)I"⟩
abbrev mX11_add : MD := (yX11_add, prog_13_method_14_code, 4, (some .int), none)
def yX11_insert : MethodName := ⟨RX11, "insert", "(IIII)I"⟩
abbrev mX11_insert : MD := (yX11_insert, prog_13_method_15_code, 5, (some .int), none)
def yX11_remove : MethodName := ⟨RX11, "remove", "(II)I"⟩
abbrev mX11_remove : MD := (yX11_remove, prog_13_method_16_code, 4, (some .int), none)
def yX11_findsLayers : MethodName := ⟨RX11, "findsLayers", "(I)V"⟩
abbrev mX11_findsLayers : MD := (yX11_findsLayers, prog_13_method_17_code, 7, none, none)
def yX11_layer : MethodName := ⟨RX11, "layer", "(II)I"⟩
abbrev mX11_layer : MD := (yX11_layer, prog_13_method_18_code, 3, (some .int), none)
def yX11_depth : MethodName := ⟨RX11, "depth", "(I)I"⟩
abbrev mX11_depth : MD := (yX11_depth, prog_13_method_19_code, 4, (some .int), none)
def yX11_append : MethodName := ⟨RX11, "append", "(I)I"⟩
abbrev mX11_append : MD := (yX11_append, prog_13_method_20_code, 2, (some .int), none)
def yX11_clearText : MethodName := ⟨RX11, "clearText", "()I"⟩
abbrev mX11_clearText : MD := (yX11_clearText, prog_13_method_21_code, 2, (some .int), none)
def yX11_here : MethodName := ⟨RX11, "here", "()I"⟩
abbrev mX11_here : MD := (yX11_here, prog_13_method_22_code, 1, (some .int), none)
def yX11_wire : MethodName := ⟨RX11, "wire", "(I)I"⟩
abbrev mX11_wire : MD := (yX11_wire, prog_13_method_23_code, 3, (some .int), none)
def yX11_sign : MethodName := ⟨RX11, "sign", "(I)V"⟩
abbrev mX11_sign : MD := (yX11_sign, prog_13_method_24_code, 2, none, none)
def yX11_parse : MethodName := ⟨RX11, "parse", "(I)I"⟩
abbrev mX11_parse : MD := (yX11_parse, prog_13_method_25_code, 6, (some .int), none)
def yX11_setKey : MethodName := ⟨RX11, "setKey", "(II)I"⟩
abbrev mX11_setKey : MD := (yX11_setKey, prog_13_method_26_code, 4, (some .int), none)
def yX11_run : MethodName := ⟨RX11, "run", "(I)I"⟩
abbrev mX11_run : MD := (yX11_run, prog_13_method_27_code, 8, (some .int), none)
def yX11_result : MethodName := ⟨RX11, "result", "(I)I"⟩
abbrev mX11_result : MD := (yX11_result, prog_13_method_28_code, 2, (some .int), none)
def yX11_origin : MethodName := ⟨RX11, "origin", "(I)I"⟩
abbrev mX11_origin : MD := (yX11_origin, prog_13_method_29_code, 2, (some .int), none)
def yX11_isStable : MethodName := ⟨RX11, "isStable", "()I"⟩
abbrev mX11_isStable : MD := (yX11_isStable, prog_13_method_30_code, 3, (some .int), none)
def yX11_makes : MethodName := ⟨RX11, "makes", "(III)I"⟩
abbrev mX11_makes : MD := (yX11_makes, prog_13_method_31_code, 8, (some .int), none)
def yX11_isSorted : MethodName := ⟨RX11, "isSorted", "(II)Z"⟩
abbrev mX11_isSorted : MD := (yX11_isSorted, prog_13_method_32_code, 5, (some .boolean), none)
def yX11_isSorter : MethodName := ⟨RX11, "isSorter", "(II)Z"⟩
abbrev mX11_isSorter : MD := (yX11_isSorter, prog_13_method_33_code, 4, (some .boolean), none)
def yX11_finds : MethodName := ⟨RX11, "finds", "(I[Z)I"⟩
abbrev mX11_finds : MD := (yX11_finds, prog_13_method_34_code, 6, (some .int), none)
def yX11_outputCount : MethodName := ⟨RX11, "outputCount", "(I)I"⟩
abbrev mX11_outputCount : MD := (yX11_outputCount, prog_13_method_35_code, 2, (some .int), none)
def yX11_outputOf : MethodName := ⟨RX11, "outputOf", "(II)I"⟩
abbrev mX11_outputOf : MD := (yX11_outputOf, prog_13_method_36_code, 3, (some .int), none)
def yX11_isSorter_ : MethodName := ⟨RX11, "isSorter", "(I)I"⟩
abbrev mX11_isSorter_ : MD := (yX11_isSorter_, prog_13_method_37_code, 2, (some .int), none)
def yX11_firstFailure : MethodName := ⟨RX11, "firstFailure", "(I)I"⟩
abbrev mX11_firstFailure : MD := (yX11_firstFailure, prog_13_method_38_code, 3, (some .int), none)
def yX11_ones : MethodName := ⟨RX11, "ones", "(I)I"⟩
abbrev mX11_ones : MD := (yX11_ones, prog_13_method_39_code, 3, (some .int), none)
def yX11_isSelector : MethodName := ⟨RX11, "isSelector", "(II)I"⟩
abbrev mX11_isSelector : MD := (yX11_isSelector, prog_13_method_40_code, 5, (some .int), none)
def yX11_isNext : MethodName := ⟨RX11, "isNext", "(I)Z"⟩
abbrev mX11_isNext : MD := (yX11_isNext, prog_13_method_41_code, 6, (some .boolean), none)
def yX11_changes : MethodName := ⟨RX11, "changes", "(II)V"⟩
abbrev mX11_changes : MD := (yX11_changes, prog_13_method_42_code, 4, none, none)
def yX11_begins : MethodName := ⟨RX11, "begins", "()V"⟩
abbrev mX11_begins : MD := (yX11_begins, prog_13_method_43_code, 2, none, none)
def yX11_carries : MethodName := ⟨RX11, "carries", "(I)I"⟩
abbrev mX11_carries : MD := (yX11_carries, prog_13_method_44_code, 7, (some .int), none)
def yX11_looks : MethodName := ⟨RX11, "looks", "(I)V"⟩
abbrev mX11_looks : MD := (yX11_looks, prog_13_method_45_code, 7, none, none)
def yX11_countSorted : MethodName := ⟨RX11, "countSorted", "(I)I"⟩
abbrev mX11_countSorted : MD := (yX11_countSorted, prog_13_method_46_code, 2, (some .int), none)
def yX11_firstUnsorted : MethodName := ⟨RX11, "firstUnsorted", "(I)I"⟩
abbrev mX11_firstUnsorted : MD := (yX11_firstUnsorted, prog_13_method_47_code, 2, (some .int), none)
def yX11_totalExchanges : MethodName := ⟨RX11, "totalExchanges", "(I)J"⟩
abbrev mX11_totalExchanges : MD := (yX11_totalExchanges, prog_13_method_48_code, 2, (some .long), none)
def yX11_mostExchanges : MethodName := ⟨RX11, "mostExchanges", "(I)I"⟩
abbrev mX11_mostExchanges : MD := (yX11_mostExchanges, prog_13_method_49_code, 2, (some .int), none)
def yX11_isIdle : MethodName := ⟨RX11, "isIdle", "(II)Z"⟩
abbrev mX11_isIdle : MD := (yX11_isIdle, prog_13_method_50_code, 8, (some .boolean), none)
def yX11_isRedundant : MethodName := ⟨RX11, "isRedundant", "(II)I"⟩
abbrev mX11_isRedundant : MD := (yX11_isRedundant, prog_13_method_51_code, 3, (some .int), none)
def yX11_prune : MethodName := ⟨RX11, "prune", "(I)I"⟩
abbrev mX11_prune : MD := (yX11_prune, prog_13_method_52_code, 4, (some .int), none)
def yX11_reduce : MethodName := ⟨RX11, "reduce", "(I)I"⟩
abbrev mX11_reduce : MD := (yX11_reduce, prog_13_method_53_code, 4, (some .int), none)
def yX11_standardize : MethodName := ⟨RX11, "standardize", "(I)I"⟩
abbrev mX11_standardize : MD := (yX11_standardize, prog_13_method_54_code, 7, (some .int), none)
def yX11_mirror : MethodName := ⟨RX11, "mirror", "(I)I"⟩
abbrev mX11_mirror : MD := (yX11_mirror, prog_13_method_55_code, 4, (some .int), none)
def yX11_counts : MethodName := ⟨RX11, "counts", "(III)I"⟩
abbrev mX11_counts : MD := (yX11_counts, prog_13_method_56_code, 7, (some .int), none)
def yX11_lists : MethodName := ⟨RX11, "lists", "(I)I"⟩
abbrev mX11_lists : MD := (yX11_lists, prog_13_method_57_code, 8, (some .int), none)
def yX11_candidate : MethodName := ⟨RX11, "candidate", "(III)I"⟩
abbrev mX11_candidate : MD := (yX11_candidate, prog_13_method_58_code, 4, (some .int), none)
def yX11_grow : MethodName := ⟨RX11, "grow", "(I)I"⟩
abbrev mX11_grow : MD := (yX11_grow, prog_13_method_59_code, 3, (some .int), none)
def yX11_areSorted : MethodName := ⟨RX11, "areSorted", "(I[Z)Z"⟩
abbrev mX11_areSorted : MD := (yX11_areSorted, prog_13_method_60_code, 4, (some .boolean), none)
def yX11_isOneEnough : MethodName := ⟨RX11, "isOneEnough", "(I)Z"⟩
abbrev mX11_isOneEnough : MD := (yX11_isOneEnough, prog_13_method_61_code, 5, (some .boolean), none)
def yX11_missing : MethodName := ⟨RX11, "missing", "(II)I"⟩
abbrev mX11_missing : MD := (yX11_missing, prog_13_method_62_code, 8, (some .int), none)
def yX11_unlike : MethodName := ⟨RX11, "unlike", "(II)I"⟩
abbrev mX11_unlike : MD := (yX11_unlike, prog_13_method_63_code, 3, (some .int), none)
def yX11_sameOutputs : MethodName := ⟨RX11, "sameOutputs", "(II)I"⟩
abbrev mX11_sameOutputs : MD := (yX11_sameOutputs, prog_13_method_64_code, 7, (some .int), none)
def yX11_isIsomorphic : MethodName := ⟨RX11, "isIsomorphic", "(II)I"⟩
abbrev mX11_isIsomorphic : MD := (yX11_isIsomorphic, prog_13_method_65_code, 7, (some .int), none)
def yX11_subsumes : MethodName := ⟨RX11, "subsumes", "(II)I"⟩
abbrev mX11_subsumes : MD := (yX11_subsumes, prog_13_method_66_code, 11, (some .int), none)
def yX11_appends : MethodName := ⟨RX11, "appends", "(III)V"⟩
abbrev mX11_appends : MD := (yX11_appends, prog_13_method_67_code, 4, none, none)
def yX11_build : MethodName := ⟨RX11, "build", "(III)I"⟩
abbrev mX11_build : MD := (yX11_build, prog_13_method_68_code, 6, (some .int), none)
def yX11_merges : MethodName := ⟨RX11, "merges", "(I)V"⟩
abbrev mX11_merges : MD := (yX11_merges, prog_13_method_69_code, 9, none, none)
def yX11_isMerger : MethodName := ⟨RX11, "isMerger", "(II)I"⟩
abbrev mX11_isMerger : MD := (yX11_isMerger, prog_13_method_70_code, 5, (some .int), none)
def yX11_collects : MethodName := ⟨RX11, "collects", "(III)I"⟩
abbrev mX11_collects : MD := (yX11_collects, prog_13_method_71_code, 5, (some .int), none)
def yX11_becomes : MethodName := ⟨RX11, "becomes", "(III)V"⟩
abbrev mX11_becomes : MD := (yX11_becomes, prog_13_method_72_code, 5, none, none)
def yX11_concatenate : MethodName := ⟨RX11, "concatenate", "(III)I"⟩
abbrev mX11_concatenate : MD := (yX11_concatenate, prog_13_method_73_code, 5, (some .int), none)
def yX11_beside : MethodName := ⟨RX11, "beside", "(III)I"⟩
abbrev mX11_beside : MD := (yX11_beside, prog_13_method_74_code, 5, (some .int), none)
def yX11_isShelf : MethodName := ⟨RX11, "isShelf", "(I)Z"⟩
abbrev mX11_isShelf : MD := (yX11_isShelf, prog_13_method_75_code, 1, (some .boolean), none)
def yX11_above : MethodName := ⟨RX11, "above", "(I)I"⟩
abbrev mX11_above : MD := (yX11_above, prog_13_method_76_code, 1, (some .int), none)
def yX11_place : MethodName := ⟨RX11, "place", "(IIII)I"⟩
abbrev mX11_place : MD := (yX11_place, prog_13_method_77_code, 8, (some .int), none)
def yX11_discard : MethodName := ⟨RX11, "discard", "(I)I"⟩
abbrev mX11_discard : MD := (yX11_discard, prog_13_method_78_code, 3, (some .int), none)
def yX11_castBlock : MethodName := ⟨RX11, "castBlock", "(II)I"⟩
abbrev mX11_castBlock : MD := (yX11_castBlock, prog_13_method_79_code, 4, (some .int), none)
def yX11_makes_ : MethodName := ⟨RX11, "makes", "(II)V"⟩
abbrev mX11_makes_ : MD := (yX11_makes_, prog_13_method_80_code, 3, none, none)
def yX11_makesLayer : MethodName := ⟨RX11, "makesLayer", "(II)V"⟩
abbrev mX11_makesLayer : MD := (yX11_makesLayer, prog_13_method_81_code, 4, none, none)
def yX11_isMade : MethodName := ⟨RX11, "isMade", "(II)Z"⟩
abbrev mX11_isMade : MD := (yX11_isMade, prog_13_method_82_code, 6, (some .boolean), none)
def yX11_blockSize : MethodName := ⟨RX11, "blockSize", "(II)I"⟩
abbrev mX11_blockSize : MD := (yX11_blockSize, prog_13_method_83_code, 3, (some .int), none)
def yX11_applyBlock : MethodName := ⟨RX11, "applyBlock", "(II)I"⟩
abbrev mX11_applyBlock : MD := (yX11_applyBlock, prog_13_method_84_code, 4, (some .int), none)
def yJ6_bitCount_0f7a4 : MethodName := ⟨RJ6, "bitCount", "(I)I"⟩
abbrev mJ6_bitCount_0f7a4 : MD := (yJ6_bitCount_0f7a4, prog_14_method_49_code, 1, (some .int), none)
def yJ13_bitCount_95d88 : MethodName := ⟨RJ13, "bitCount", "(J)I"⟩
abbrev mJ13_bitCount_95d88 : MD := (yJ13_bitCount_95d88, prog_15_method_50_code, 2, (some .int), none)
def yJ9_max_7cf53 : MethodName := ⟨RJ9, "max", "(II)I"⟩
abbrev mJ9_max_7cf53 : MD := (yJ9_max_7cf53, prog_16_method_65_code, 2, (some .int), none)
def yJ9_min_7cf53 : MethodName := ⟨RJ9, "min", "(II)I"⟩
abbrev mJ9_min_7cf53 : MD := (yJ9_min_7cf53, prog_16_method_69_code, 2, (some .int), none)
def yJ7_fill_53178 : MethodName := ⟨RJ7, "fill", "([II)V"⟩
abbrev mJ7_fill_53178 : MD := (yJ7_fill_53178, prog_18_method_103_code, 4, none, none)
def yL_law : MethodName := ⟨RL, "law", "([I)Z"⟩
def gtb : List Cond := lw_tbl.filter goodWord
theorem gtb_in {i : Nat} {w : Cond} (h : lw_tbl[i]? = some w) (hg : goodWord w = true) : w ∈ gtb := List.mem_filter.mpr ⟨List.mem_of_getElem? h, hg⟩
theorem gtb0 {i : Nat} {w : Cond} (h : (k2_sels lw_privs)[i]? = some w) (hg : goodWord w = true) : w ∈ gtb := List.mem_filter.mpr ⟨List.mem_append_left _ (List.mem_of_getElem? h), hg⟩
theorem gtbT {w : Cond} (h : w ∈ tables_1) (hg : goodWord w = true) : w ∈ gtb := List.mem_filter.mpr ⟨List.mem_append_right _ h, hg⟩
theorem gtb1 {i : Nat} {w : Cond} (h : tables_1_1[i]? = some w) (hg : goodWord w = true) : w ∈ gtb := gtbT (List.mem_append_left _ (List.mem_of_getElem? h)) hg
theorem gtb2 {i : Nat} {w : Cond} (h : tables_1_2[i]? = some w) (hg : goodWord w = true) : w ∈ gtb := gtbT (List.mem_append_right _ (List.mem_append_left _ (List.mem_of_getElem? h))) hg
theorem gtb3 {i : Nat} {w : Cond} (h : tables_1_3[i]? = some w) (hg : goodWord w = true) : w ∈ gtb := gtbT (List.mem_append_right _ (List.mem_append_right _ (List.mem_append_left _ (List.mem_of_getElem? h)))) hg
theorem gtb4 {i : Nat} {w : Cond} (h : tables_1_4[i]? = some w) (hg : goodWord w = true) : w ∈ gtb := gtbT (List.mem_append_right _ (List.mem_append_right _ (List.mem_append_right _ (List.mem_append_left _ (List.mem_of_getElem? h))))) hg
theorem gtb5 {i : Nat} {w : Cond} (h : tables_1_5[i]? = some w) (hg : goodWord w = true) : w ∈ gtb := gtbT (List.mem_append_right _ (List.mem_append_right _ (List.mem_append_right _ (List.mem_append_right _ (List.mem_append_left _ (List.mem_of_getElem? h)))))) hg
theorem gtb6 {i : Nat} {w : Cond} (h : tables_1_6[i]? = some w) (hg : goodWord w = true) : w ∈ gtb := gtbT (List.mem_append_right _ (List.mem_append_right _ (List.mem_append_right _ (List.mem_append_right _ (List.mem_append_right _ (List.mem_of_getElem? h)))))) hg
theorem gtb_good {w : Cond} (h : w ∈ gtb) : (w.onTables && w.keeps) = true ∨ ∃ ty, w = .arrayClass ty := good_of_word (List.mem_filter.mp h).2
theorem gtb_tbl {w : Cond} (h : w ∈ gtb) : w ∈ lw_tbl := (List.mem_filter.mp h).1
theorem i_X0 : ∀ w ∈ u_ws RX0 TX0 2, w ∈ gtb := by
  intro w hw
  obtain ⟨j, hj, rfl⟩ := List.mem_map.mp hw
  have hj := List.mem_range.mp hj
  match j, hj with
  | 0, _ => exact gtb1 (i := 223) (by decide +kernel) rfl
  | 1, _ => exact gtb1 (i := 225) (by decide +kernel) rfl
  | j + 2, h => exact absurd h (by omega)
theorem i_X1 : ∀ w ∈ u_ws RX1 TX1 6, w ∈ gtb := by
  intro w hw
  obtain ⟨j, hj, rfl⟩ := List.mem_map.mp hw
  have hj := List.mem_range.mp hj
  match j, hj with
  | 0, _ => exact gtb1 (i := 202) (by decide +kernel) rfl
  | 1, _ => exact gtb1 (i := 204) (by decide +kernel) rfl
  | 2, _ => exact gtb1 (i := 206) (by decide +kernel) rfl
  | 3, _ => exact gtb1 (i := 208) (by decide +kernel) rfl
  | 4, _ => exact gtb1 (i := 210) (by decide +kernel) rfl
  | 5, _ => exact gtb1 (i := 212) (by decide +kernel) rfl
  | j + 6, h => exact absurd h (by omega)
theorem i_X2 : ∀ w ∈ u_ws RX2 TX2 4, w ∈ gtb := by
  intro w hw
  obtain ⟨j, hj, rfl⟩ := List.mem_map.mp hw
  have hj := List.mem_range.mp hj
  match j, hj with
  | 0, _ => exact gtb1 (i := 79) (by decide +kernel) rfl
  | 1, _ => exact gtb1 (i := 81) (by decide +kernel) rfl
  | 2, _ => exact gtb1 (i := 83) (by decide +kernel) rfl
  | 3, _ => exact gtb1 (i := 85) (by decide +kernel) rfl
  | j + 4, h => exact absurd h (by omega)
theorem i_X3 : ∀ w ∈ u_ws RX3 TX3 5, w ∈ gtb := by
  intro w hw
  obtain ⟨j, hj, rfl⟩ := List.mem_map.mp hw
  have hj := List.mem_range.mp hj
  match j, hj with
  | 0, _ => exact gtb1 (i := 55) (by decide +kernel) rfl
  | 1, _ => exact gtb1 (i := 57) (by decide +kernel) rfl
  | 2, _ => exact gtb1 (i := 59) (by decide +kernel) rfl
  | 3, _ => exact gtb1 (i := 61) (by decide +kernel) rfl
  | 4, _ => exact gtb1 (i := 63) (by decide +kernel) rfl
  | j + 5, h => exact absurd h (by omega)
theorem i_X4 : ∀ w ∈ u_ws RX4 TX4 4, w ∈ gtb := by
  intro w hw
  obtain ⟨j, hj, rfl⟩ := List.mem_map.mp hw
  have hj := List.mem_range.mp hj
  match j, hj with
  | 0, _ => exact gtb1 (i := 178) (by decide +kernel) rfl
  | 1, _ => exact gtb1 (i := 180) (by decide +kernel) rfl
  | 2, _ => exact gtb1 (i := 182) (by decide +kernel) rfl
  | 3, _ => exact gtb1 (i := 184) (by decide +kernel) rfl
  | j + 4, h => exact absurd h (by omega)
theorem i_X5 : ∀ w ∈ u_ws RX5 TX5 2, w ∈ gtb := by
  intro w hw
  obtain ⟨j, hj, rfl⟩ := List.mem_map.mp hw
  have hj := List.mem_range.mp hj
  match j, hj with
  | 0, _ => exact gtb1 (i := 236) (by decide +kernel) rfl
  | 1, _ => exact gtb1 (i := 238) (by decide +kernel) rfl
  | j + 2, h => exact absurd h (by omega)
theorem i_X6 : ∀ w ∈ u_ws RX6 TX6 3, w ∈ gtb := by
  intro w hw
  obtain ⟨j, hj, rfl⟩ := List.mem_map.mp hw
  have hj := List.mem_range.mp hj
  match j, hj with
  | 0, _ => exact gtb1 (i := 134) (by decide +kernel) rfl
  | 1, _ => exact gtb1 (i := 136) (by decide +kernel) rfl
  | 2, _ => exact gtb1 (i := 138) (by decide +kernel) rfl
  | j + 3, h => exact absurd h (by omega)
theorem i_X7 : ∀ w ∈ u_ws RX7 TX7 3, w ∈ gtb := by
  intro w hw
  obtain ⟨j, hj, rfl⟩ := List.mem_map.mp hw
  have hj := List.mem_range.mp hj
  match j, hj with
  | 0, _ => exact gtb1 (i := 152) (by decide +kernel) rfl
  | 1, _ => exact gtb1 (i := 154) (by decide +kernel) rfl
  | 2, _ => exact gtb1 (i := 156) (by decide +kernel) rfl
  | j + 3, h => exact absurd h (by omega)
theorem i_X8 : ∀ w ∈ u_ws RX8 TX8 2, w ∈ gtb := by
  intro w hw
  obtain ⟨j, hj, rfl⟩ := List.mem_map.mp hw
  have hj := List.mem_range.mp hj
  match j, hj with
  | 0, _ => exact gtb1 (i := 96) (by decide +kernel) rfl
  | 1, _ => exact gtb1 (i := 98) (by decide +kernel) rfl
  | j + 2, h => exact absurd h (by omega)
theorem i_X9 : ∀ w ∈ u_ws RX9 TX9 4, w ∈ gtb := by
  intro w hw
  obtain ⟨j, hj, rfl⟩ := List.mem_map.mp hw
  have hj := List.mem_range.mp hj
  match j, hj with
  | 0, _ => exact gtb1 (i := 114) (by decide +kernel) rfl
  | 1, _ => exact gtb1 (i := 116) (by decide +kernel) rfl
  | 2, _ => exact gtb1 (i := 118) (by decide +kernel) rfl
  | 3, _ => exact gtb1 (i := 120) (by decide +kernel) rfl
  | j + 4, h => exact absurd h (by omega)
theorem i_X10 : ∀ w ∈ u_ws RX10 TX10 13, w ∈ gtb := by
  intro w hw
  obtain ⟨j, hj, rfl⟩ := List.mem_map.mp hw
  have hj := List.mem_range.mp hj
  match j, hj with
  | 0, _ => exact gtb2 (i := 14) (by decide +kernel) rfl
  | 1, _ => exact gtb2 (i := 16) (by decide +kernel) rfl
  | 2, _ => exact gtb2 (i := 18) (by decide +kernel) rfl
  | 3, _ => exact gtb2 (i := 20) (by decide +kernel) rfl
  | 4, _ => exact gtb2 (i := 22) (by decide +kernel) rfl
  | 5, _ => exact gtb2 (i := 24) (by decide +kernel) rfl
  | 6, _ => exact gtb2 (i := 26) (by decide +kernel) rfl
  | 7, _ => exact gtb2 (i := 28) (by decide +kernel) rfl
  | 8, _ => exact gtb2 (i := 30) (by decide +kernel) rfl
  | 9, _ => exact gtb2 (i := 32) (by decide +kernel) rfl
  | 10, _ => exact gtb2 (i := 34) (by decide +kernel) rfl
  | 11, _ => exact gtb2 (i := 36) (by decide +kernel) rfl
  | 12, _ => exact gtb2 (i := 38) (by decide +kernel) rfl
  | j + 13, h => exact absurd h (by omega)
theorem i_X11 : ∀ w ∈ u_ws RX11 TX11 34, w ∈ gtb := by
  intro w hw
  obtain ⟨j, hj, rfl⟩ := List.mem_map.mp hw
  have hj := List.mem_range.mp hj
  match j, hj with
  | 0, _ => exact gtb4 (i := 197) (by decide +kernel) rfl
  | 1, _ => exact gtb4 (i := 199) (by decide +kernel) rfl
  | 2, _ => exact gtb4 (i := 201) (by decide +kernel) rfl
  | 3, _ => exact gtb4 (i := 203) (by decide +kernel) rfl
  | 4, _ => exact gtb4 (i := 205) (by decide +kernel) rfl
  | 5, _ => exact gtb4 (i := 207) (by decide +kernel) rfl
  | 6, _ => exact gtb4 (i := 209) (by decide +kernel) rfl
  | 7, _ => exact gtb4 (i := 211) (by decide +kernel) rfl
  | 8, _ => exact gtb4 (i := 213) (by decide +kernel) rfl
  | 9, _ => exact gtb4 (i := 215) (by decide +kernel) rfl
  | 10, _ => exact gtb4 (i := 217) (by decide +kernel) rfl
  | 11, _ => exact gtb4 (i := 219) (by decide +kernel) rfl
  | 12, _ => exact gtb4 (i := 221) (by decide +kernel) rfl
  | 13, _ => exact gtb4 (i := 223) (by decide +kernel) rfl
  | 14, _ => exact gtb4 (i := 225) (by decide +kernel) rfl
  | 15, _ => exact gtb4 (i := 227) (by decide +kernel) rfl
  | 16, _ => exact gtb4 (i := 229) (by decide +kernel) rfl
  | 17, _ => exact gtb4 (i := 231) (by decide +kernel) rfl
  | 18, _ => exact gtb4 (i := 233) (by decide +kernel) rfl
  | 19, _ => exact gtb4 (i := 235) (by decide +kernel) rfl
  | 20, _ => exact gtb4 (i := 237) (by decide +kernel) rfl
  | 21, _ => exact gtb4 (i := 239) (by decide +kernel) rfl
  | 22, _ => exact gtb5 (i := 1) (by decide +kernel) rfl
  | 23, _ => exact gtb5 (i := 3) (by decide +kernel) rfl
  | 24, _ => exact gtb5 (i := 5) (by decide +kernel) rfl
  | 25, _ => exact gtb5 (i := 7) (by decide +kernel) rfl
  | 26, _ => exact gtb5 (i := 9) (by decide +kernel) rfl
  | 27, _ => exact gtb5 (i := 11) (by decide +kernel) rfl
  | 28, _ => exact gtb5 (i := 13) (by decide +kernel) rfl
  | 29, _ => exact gtb5 (i := 15) (by decide +kernel) rfl
  | 30, _ => exact gtb5 (i := 17) (by decide +kernel) rfl
  | 31, _ => exact gtb5 (i := 19) (by decide +kernel) rfl
  | 32, _ => exact gtb5 (i := 21) (by decide +kernel) rfl
  | 33, _ => exact gtb5 (i := 23) (by decide +kernel) rfl
  | j + 34, h => exact absurd h (by omega)
/-- what a call of a method needs of the tables, but for its link -/
def CF (C : String) : Prop := Cond.initialized C ∈ gtb ∧ C ≠ "java/lang/invoke/MethodHandle" ∧ C ≠ "java/lang/invoke/VarHandle" ∧ plainName C = true
def MFc (M : MD) (n : Nat) : Prop := Cond.code M.1 M.2.1 M.2.2.1 M.2.2.2.1 ∈ gtb ∧ CF M.1.cls ∧ (parseMethodDescriptor M.1.desc).map (fun d => d.parameters.length) = some n ∧ M.2.2.1 ≤ 45
theorem cfX0 : CF RX0 := ⟨gtb1 (i := 10) (by decide +kernel) rfl, by decide +kernel, by decide +kernel, by decide +kernel⟩
theorem cfX1 : CF RX1 := ⟨gtb1 (i := 9) (by decide +kernel) rfl, by decide +kernel, by decide +kernel, by decide +kernel⟩
theorem cfX2 : CF RX2 := ⟨gtb1 (i := 3) (by decide +kernel) rfl, by decide +kernel, by decide +kernel, by decide +kernel⟩
theorem cfX3 : CF RX3 := ⟨gtb1 (i := 2) (by decide +kernel) rfl, by decide +kernel, by decide +kernel, by decide +kernel⟩
theorem cfX4 : CF RX4 := ⟨gtb1 (i := 8) (by decide +kernel) rfl, by decide +kernel, by decide +kernel, by decide +kernel⟩
theorem cfX5 : CF RX5 := ⟨gtb1 (i := 11) (by decide +kernel) rfl, by decide +kernel, by decide +kernel, by decide +kernel⟩
theorem cfX6 : CF RX6 := ⟨gtb1 (i := 6) (by decide +kernel) rfl, by decide +kernel, by decide +kernel, by decide +kernel⟩
theorem cfX7 : CF RX7 := ⟨gtb1 (i := 7) (by decide +kernel) rfl, by decide +kernel, by decide +kernel, by decide +kernel⟩
theorem cfX8 : CF RX8 := ⟨gtb1 (i := 4) (by decide +kernel) rfl, by decide +kernel, by decide +kernel, by decide +kernel⟩
theorem cfX9 : CF RX9 := ⟨gtb1 (i := 5) (by decide +kernel) rfl, by decide +kernel, by decide +kernel, by decide +kernel⟩
theorem cfX10 : CF RX10 := ⟨gtb1 (i := 1) (by decide +kernel) rfl, by decide +kernel, by decide +kernel, by decide +kernel⟩
theorem cfX11 : CF RX11 := ⟨gtb1 (i := 12) (by decide +kernel) rfl, by decide +kernel, by decide +kernel, by decide +kernel⟩
theorem cfJ6 : CF RJ6 := ⟨gtb1 (i := 17) (by decide +kernel) rfl, by decide +kernel, by decide +kernel, by decide +kernel⟩
theorem cfJ13 : CF RJ13 := ⟨gtb1 (i := 16) (by decide +kernel) rfl, by decide +kernel, by decide +kernel, by decide +kernel⟩
theorem cfJ7 : CF RJ7 := ⟨gtb1 (i := 15) (by decide +kernel) rfl, by decide +kernel, by decide +kernel, by decide +kernel⟩
def MFv (M : MD) (n : Nat) : Prop := MFc M n ∧ Cond.instanceMethod M.1 ∈ gtb ∧ Cond.selects M.1.cls M.1 M.1 ∈ gtb
def MFs (M : MD) (n : Nat) : Prop := MFc M n ∧ Cond.static M.1 ∈ gtb
theorem fX0_init : MFc mX0_init 0 := ⟨gtb1 (i := 219) (by decide +kernel) rfl, cfX0, by decide +kernel, by decide⟩
theorem fX0_countWithoutFailure : MFv mX0_countWithoutFailure 1 := ⟨⟨gtb3 (i := 90) (by decide +kernel) rfl, cfX0, by decide +kernel, by decide⟩, gtb3 (i := 88) (by decide +kernel) rfl, gtb3 (i := 89) (by decide +kernel) rfl⟩
theorem fX0_leastWithFailure : MFv mX0_leastWithFailure 1 := ⟨⟨gtb3 (i := 102) (by decide +kernel) rfl, cfX0, by decide +kernel, by decide⟩, gtb3 (i := 100) (by decide +kernel) rfl, gtb3 (i := 101) (by decide +kernel) rfl⟩
theorem fX0_leastThrough : MFs mX0_leastThrough 2 := ⟨⟨gtb3 (i := 105) (by decide +kernel) rfl, cfX0, by decide +kernel, by decide⟩, gtb3 (i := 104) (by decide +kernel) rfl⟩
theorem fX0_noteExchanges : MFv mX0_noteExchanges 1 := ⟨⟨gtb3 (i := 119) (by decide +kernel) rfl, cfX0, by decide +kernel, by decide⟩, gtb3 (i := 118) (by decide +kernel) rfl, gtb0 (i := 8) (by decide +kernel) rfl⟩
theorem fX0_begun : MFv mX0_begun 2 := ⟨⟨gtb3 (i := 129) (by decide +kernel) rfl, cfX0, by decide +kernel, by decide⟩, gtb3 (i := 128) (by decide +kernel) rfl, gtb0 (i := 9) (by decide +kernel) rfl⟩
theorem fX0_allExchanges : MFv mX0_allExchanges 1 := ⟨⟨gtb3 (i := 115) (by decide +kernel) rfl, cfX0, by decide +kernel, by decide⟩, gtb3 (i := 113) (by decide +kernel) rfl, gtb3 (i := 114) (by decide +kernel) rfl⟩
theorem fX0_greatestExchanges : MFv mX0_greatestExchanges 1 := ⟨⟨gtb3 (i := 140) (by decide +kernel) rfl, cfX0, by decide +kernel, by decide⟩, gtb3 (i := 138) (by decide +kernel) rfl, gtb3 (i := 139) (by decide +kernel) rfl⟩
theorem fX1_init : MFc mX1_init 0 := ⟨gtb1 (i := 192) (by decide +kernel) rfl, cfX1, by decide +kernel, by decide⟩
theorem fX1_rankAll : MFv mX1_rankAll 1 := ⟨⟨gtb3 (i := 195) (by decide +kernel) rfl, cfX1, by decide +kernel, by decide⟩, gtb3 (i := 193) (by decide +kernel) rfl, gtb3 (i := 194) (by decide +kernel) rfl⟩
theorem fX1_rankOne : MFv mX1_rankOne 3 := ⟨⟨gtb3 (i := 204) (by decide +kernel) rfl, cfX1, by decide +kernel, by decide⟩, gtb3 (i := 203) (by decide +kernel) rfl, gtb0 (i := 12) (by decide +kernel) rfl⟩
theorem fX1_codeAt : MFv mX1_codeAt 1 := ⟨⟨gtb3 (i := 208) (by decide +kernel) rfl, cfX1, by decide +kernel, by decide⟩, gtb3 (i := 206) (by decide +kernel) rfl, gtb3 (i := 207) (by decide +kernel) rfl⟩
theorem fX1_outputsAt : MFv mX1_outputsAt 1 := ⟨⟨gtb3 (i := 212) (by decide +kernel) rfl, cfX1, by decide +kernel, by decide⟩, gtb3 (i := 210) (by decide +kernel) rfl, gtb3 (i := 211) (by decide +kernel) rfl⟩
theorem fX1_leastToSort : MFv mX1_leastToSort 2 := ⟨⟨gtb3 (i := 224) (by decide +kernel) rfl, cfX1, by decide +kernel, by decide⟩, gtb3 (i := 222) (by decide +kernel) rfl, gtb3 (i := 223) (by decide +kernel) rfl⟩
theorem fX1_oneSorts : MFs mX1_oneSorts 3 := ⟨⟨gtb3 (i := 228) (by decide +kernel) rfl, cfX1, by decide +kernel, by decide⟩, gtb3 (i := 227) (by decide +kernel) rfl⟩
theorem fX1_pairSorts : MFs mX1_pairSorts 5 := ⟨⟨gtb3 (i := 231) (by decide +kernel) rfl, cfX1, by decide +kernel, by decide⟩, gtb3 (i := 230) (by decide +kernel) rfl⟩
theorem fX1_twoSort : MFv mX1_twoSort 2 := ⟨⟨gtb3 (i := 236) (by decide +kernel) rfl, cfX1, by decide +kernel, by decide⟩, gtb3 (i := 235) (by decide +kernel) rfl, gtb0 (i := 13) (by decide +kernel) rfl⟩
theorem fX1_keepUnsorted : MFv mX1_keepUnsorted 4 := ⟨⟨gtb4 (i := 0) (by decide +kernel) rfl, cfX1, by decide +kernel, by decide⟩, gtb3 (i := 239) (by decide +kernel) rfl, gtb0 (i := 14) (by decide +kernel) rfl⟩
theorem fX2_init : MFc mX2_init 0 := ⟨gtb1 (i := 71) (by decide +kernel) rfl, cfX2, by decide +kernel, by decide⟩
theorem fX2_keep : MFv mX2_keep 2 := ⟨⟨gtb2 (i := 58) (by decide +kernel) rfl, cfX2, by decide +kernel, by decide⟩, gtb2 (i := 56) (by decide +kernel) rfl, gtb2 (i := 57) (by decide +kernel) rfl⟩
theorem fX2_takeBack : MFv mX2_takeBack 1 := ⟨⟨gtb4 (i := 90) (by decide +kernel) rfl, cfX2, by decide +kernel, by decide⟩, gtb4 (i := 88) (by decide +kernel) rfl, gtb4 (i := 89) (by decide +kernel) rfl⟩
theorem fX3_init : MFc mX3_init 0 := ⟨gtb1 (i := 31) (by decide +kernel) rfl, cfX3, by decide +kernel, by decide⟩
theorem fX3_hasWire : MFv mX3_hasWire 1 := ⟨⟨gtb2 (i := 113) (by decide +kernel) rfl, cfX3, by decide +kernel, by decide⟩, gtb2 (i := 111) (by decide +kernel) rfl, gtb2 (i := 112) (by decide +kernel) rfl⟩
theorem fX3_hasPosition : MFv mX3_hasPosition 1 := ⟨⟨gtb2 (i := 92) (by decide +kernel) rfl, cfX3, by decide +kernel, by decide⟩, gtb2 (i := 90) (by decide +kernel) rfl, gtb2 (i := 91) (by decide +kernel) rfl⟩
theorem fX3_restart : MFv mX3_restart 1 := ⟨⟨gtb2 (i := 72) (by decide +kernel) rfl, cfX3, by decide +kernel, by decide⟩, gtb2 (i := 70) (by decide +kernel) rfl, gtb2 (i := 71) (by decide +kernel) rfl⟩
theorem fX3_takeOver : MFv mX3_takeOver 1 := ⟨⟨gtb2 (i := 62) (by decide +kernel) rfl, cfX3, by decide +kernel, by decide⟩, gtb2 (i := 60) (by decide +kernel) rfl, gtb2 (i := 61) (by decide +kernel) rfl⟩
theorem fX3_codeAt : MFv mX3_codeAt 1 := ⟨⟨gtb2 (i := 96) (by decide +kernel) rfl, cfX3, by decide +kernel, by decide⟩, gtb2 (i := 94) (by decide +kernel) rfl, gtb2 (i := 95) (by decide +kernel) rfl⟩
theorem fX3_refusal : MFv mX3_refusal 2 := ⟨⟨gtb2 (i := 109) (by decide +kernel) rfl, cfX3, by decide +kernel, by decide⟩, gtb2 (i := 107) (by decide +kernel) rfl, gtb2 (i := 108) (by decide +kernel) rfl⟩
theorem fX3_push : MFv mX3_push 2 := ⟨⟨gtb2 (i := 188) (by decide +kernel) rfl, cfX3, by decide +kernel, by decide⟩, gtb2 (i := 186) (by decide +kernel) rfl, gtb2 (i := 187) (by decide +kernel) rfl⟩
theorem fX3_pushAt : MFv mX3_pushAt 3 := ⟨⟨gtb2 (i := 117) (by decide +kernel) rfl, cfX3, by decide +kernel, by decide⟩, gtb2 (i := 115) (by decide +kernel) rfl, gtb2 (i := 116) (by decide +kernel) rfl⟩
theorem fX3_pushAll : MFv mX3_pushAll 2 := ⟨⟨gtb4 (i := 78) (by decide +kernel) rfl, cfX3, by decide +kernel, by decide⟩, gtb4 (i := 76) (by decide +kernel) rfl, gtb4 (i := 77) (by decide +kernel) rfl⟩
theorem fX3_pushNeighbours : MFv mX3_pushNeighbours 1 := ⟨⟨gtb4 (i := 52) (by decide +kernel) rfl, cfX3, by decide +kernel, by decide⟩, gtb4 (i := 50) (by decide +kernel) rfl, gtb4 (i := 51) (by decide +kernel) rfl⟩
theorem fX3_drop : MFv mX3_drop 1 := ⟨⟨gtb2 (i := 130) (by decide +kernel) rfl, cfX3, by decide +kernel, by decide⟩, gtb2 (i := 128) (by decide +kernel) rfl, gtb2 (i := 129) (by decide +kernel) rfl⟩
theorem fX3_levelAt : MFv mX3_levelAt 1 := ⟨⟨gtb2 (i := 138) (by decide +kernel) rfl, cfX3, by decide +kernel, by decide⟩, gtb2 (i := 136) (by decide +kernel) rfl, gtb2 (i := 137) (by decide +kernel) rfl⟩
theorem fX3_levels : MFv mX3_levels 0 := ⟨⟨gtb2 (i := 156) (by decide +kernel) rfl, cfX3, by decide +kernel, by decide⟩, gtb2 (i := 154) (by decide +kernel) rfl, gtb2 (i := 155) (by decide +kernel) rfl⟩
theorem fX3_passLayers : MFv mX3_passLayers 1 := ⟨⟨gtb2 (i := 142) (by decide +kernel) rfl, cfX3, by decide +kernel, by decide⟩, gtb2 (i := 141) (by decide +kernel) rfl, gtb0 (i := 3) (by decide +kernel) rfl⟩
theorem fX3_carry : MFv mX3_carry 1 := ⟨⟨gtb3 (i := 37) (by decide +kernel) rfl, cfX3, by decide +kernel, by decide⟩, gtb3 (i := 35) (by decide +kernel) rfl, gtb3 (i := 36) (by decide +kernel) rfl⟩
theorem fX3_exchangesFor : MFv mX3_exchangesFor 1 := ⟨⟨gtb3 (i := 123) (by decide +kernel) rfl, cfX3, by decide +kernel, by decide⟩, gtb3 (i := 121) (by decide +kernel) rfl, gtb3 (i := 122) (by decide +kernel) rfl⟩
theorem fX3_turnAll : MFv mX3_turnAll 0 := ⟨⟨gtb3 (i := 172) (by decide +kernel) rfl, cfX3, by decide +kernel, by decide⟩, gtb3 (i := 170) (by decide +kernel) rfl, gtb3 (i := 171) (by decide +kernel) rfl⟩
theorem fX3_swapWiresBehind : MFv mX3_swapWiresBehind 3 := ⟨⟨gtb3 (i := 176) (by decide +kernel) rfl, cfX3, by decide +kernel, by decide⟩, gtb3 (i := 175) (by decide +kernel) rfl, gtb0 (i := 11) (by decide +kernel) rfl⟩
theorem fX3_swapped : MFs mX3_swapped 3 := ⟨⟨gtb3 (i := 179) (by decide +kernel) rfl, cfX3, by decide +kernel, by decide⟩, gtb3 (i := 178) (by decide +kernel) rfl⟩
theorem fX3_reflect : MFv mX3_reflect 0 := ⟨⟨gtb3 (i := 187) (by decide +kernel) rfl, cfX3, by decide +kernel, by decide⟩, gtb3 (i := 185) (by decide +kernel) rfl, gtb3 (i := 186) (by decide +kernel) rfl⟩
theorem fX4_init : MFc mX4_init 0 := ⟨gtb1 (i := 164) (by decide +kernel) rfl, cfX4, by decide +kernel, by decide⟩
theorem fX4_gather : MFv mX4_gather 1 := ⟨⟨gtb3 (i := 21) (by decide +kernel) rfl, cfX4, by decide +kernel, by decide⟩, gtb3 (i := 19) (by decide +kernel) rfl, gtb3 (i := 20) (by decide +kernel) rfl⟩
theorem fX4_equalTo : MFv mX4_equalTo 1 := ⟨⟨gtb4 (i := 8) (by decide +kernel) rfl, cfX4, by decide +kernel, by decide⟩, gtb4 (i := 6) (by decide +kernel) rfl, gtb4 (i := 7) (by decide +kernel) rfl⟩
theorem fX4_countAfter : MFv mX4_countAfter 2 := ⟨⟨gtb3 (i := 199) (by decide +kernel) rfl, cfX4, by decide +kernel, by decide⟩, gtb3 (i := 197) (by decide +kernel) rfl, gtb3 (i := 198) (by decide +kernel) rfl⟩
theorem fX5_init : MFc mX5_init 0 := ⟨gtb1 (i := 232) (by decide +kernel) rfl, cfX5, by decide +kernel, by decide⟩
theorem fX5_makes : MFv mX5_makes 2 := ⟨⟨gtb4 (i := 16) (by decide +kernel) rfl, cfX5, by decide +kernel, by decide⟩, gtb4 (i := 14) (by decide +kernel) rfl, gtb4 (i := 15) (by decide +kernel) rfl⟩
theorem fX5_link : MFv mX5_link 2 := ⟨⟨gtb4 (i := 21) (by decide +kernel) rfl, cfX5, by decide +kernel, by decide⟩, gtb4 (i := 20) (by decide +kernel) rfl, gtb0 (i := 15) (by decide +kernel) rfl⟩
theorem fX5_putsInto : MFv mX5_putsInto 2 := ⟨⟨gtb4 (i := 29) (by decide +kernel) rfl, cfX5, by decide +kernel, by decide⟩, gtb4 (i := 27) (by decide +kernel) rfl, gtb4 (i := 28) (by decide +kernel) rfl⟩
theorem fX5_search : MFs mX5_search 5 := ⟨⟨gtb4 (i := 32) (by decide +kernel) rfl, cfX5, by decide +kernel, by decide⟩, gtb4 (i := 31) (by decide +kernel) rfl⟩
theorem fX5_movesInto : MFs mX5_movesInto 3 := ⟨⟨gtb4 (i := 35) (by decide +kernel) rfl, cfX5, by decide +kernel, by decide⟩, gtb4 (i := 34) (by decide +kernel) rfl⟩
theorem fX6_init : MFc mX6_init 0 := ⟨gtb1 (i := 128) (by decide +kernel) rfl, cfX6, by decide +kernel, by decide⟩
theorem fX6_allows : MFs mX6_allows 3 := ⟨⟨gtb4 (i := 100) (by decide +kernel) rfl, cfX6, by decide +kernel, by decide⟩, gtb4 (i := 99) (by decide +kernel) rfl⟩
theorem fX6_isTaken : MFv mX6_isTaken 0 := ⟨⟨gtb4 (i := 112) (by decide +kernel) rfl, cfX6, by decide +kernel, by decide⟩, gtb4 (i := 110) (by decide +kernel) rfl, gtb4 (i := 111) (by decide +kernel) rfl⟩
theorem fX6_hold : MFv mX6_hold 3 := ⟨⟨gtb4 (i := 104) (by decide +kernel) rfl, cfX6, by decide +kernel, by decide⟩, gtb4 (i := 102) (by decide +kernel) rfl, gtb4 (i := 103) (by decide +kernel) rfl⟩
theorem fX6_release : MFv mX6_release 0 := ⟨⟨gtb4 (i := 120) (by decide +kernel) rfl, cfX6, by decide +kernel, by decide⟩, gtb4 (i := 118) (by decide +kernel) rfl, gtb4 (i := 119) (by decide +kernel) rfl⟩
theorem fX6_isOfKind : MFv mX6_isOfKind 1 := ⟨⟨gtb4 (i := 128) (by decide +kernel) rfl, cfX6, by decide +kernel, by decide⟩, gtb4 (i := 126) (by decide +kernel) rfl, gtb4 (i := 127) (by decide +kernel) rfl⟩
theorem fX6_fits : MFv mX6_fits 1 := ⟨⟨gtb4 (i := 142) (by decide +kernel) rfl, cfX6, by decide +kernel, by decide⟩, gtb4 (i := 140) (by decide +kernel) rfl, gtb4 (i := 141) (by decide +kernel) rfl⟩
theorem fX6_pushOnto : MFv mX6_pushOnto 1 := ⟨⟨gtb4 (i := 146) (by decide +kernel) rfl, cfX6, by decide +kernel, by decide⟩, gtb4 (i := 144) (by decide +kernel) rfl, gtb4 (i := 145) (by decide +kernel) rfl⟩
theorem fX6_pushRepeated : MFv mX6_pushRepeated 1 := ⟨⟨gtb4 (i := 152) (by decide +kernel) rfl, cfX6, by decide +kernel, by decide⟩, gtb4 (i := 151) (by decide +kernel) rfl, gtb0 (i := 18) (by decide +kernel) rfl⟩
theorem fX7_init : MFc mX7_init 0 := ⟨gtb1 (i := 145) (by decide +kernel) rfl, cfX7, by decide +kernel, by decide⟩
theorem fX7_start : MFv mX7_start 1 := ⟨⟨gtb3 (i := 7) (by decide +kernel) rfl, cfX7, by decide +kernel, by decide⟩, gtb3 (i := 5) (by decide +kernel) rfl, gtb3 (i := 6) (by decide +kernel) rfl⟩
theorem fX7_inputLane : MFs mX7_inputLane 2 := ⟨⟨gtb3 (i := 10) (by decide +kernel) rfl, cfX7, by decide +kernel, by decide⟩, gtb3 (i := 9) (by decide +kernel) rfl⟩
theorem fX7_pass : MFv mX7_pass 2 := ⟨⟨gtb3 (i := 17) (by decide +kernel) rfl, cfX7, by decide +kernel, by decide⟩, gtb3 (i := 15) (by decide +kernel) rfl, gtb3 (i := 16) (by decide +kernel) rfl⟩
theorem fX7_passAll : MFv mX7_passAll 2 := ⟨⟨gtb3 (i := 3) (by decide +kernel) rfl, cfX7, by decide +kernel, by decide⟩, gtb3 (i := 1) (by decide +kernel) rfl, gtb3 (i := 2) (by decide +kernel) rfl⟩
theorem fX7_exchanges : MFv mX7_exchanges 2 := ⟨⟨gtb3 (i := 151) (by decide +kernel) rfl, cfX7, by decide +kernel, by decide⟩, gtb3 (i := 149) (by decide +kernel) rfl, gtb3 (i := 150) (by decide +kernel) rfl⟩
theorem fX7_failures : MFv mX7_failures 1 := ⟨⟨gtb3 (i := 56) (by decide +kernel) rfl, cfX7, by decide +kernel, by decide⟩, gtb3 (i := 55) (by decide +kernel) rfl, gtb0 (i := 7) (by decide +kernel) rfl⟩
theorem fX7_lowestFailure : MFv mX7_lowestFailure 0 := ⟨⟨gtb3 (i := 52) (by decide +kernel) rfl, cfX7, by decide +kernel, by decide⟩, gtb3 (i := 50) (by decide +kernel) rfl, gtb3 (i := 51) (by decide +kernel) rfl⟩
theorem fX7_valueAt : MFv mX7_valueAt 2 := ⟨⟨gtb3 (i := 29) (by decide +kernel) rfl, cfX7, by decide +kernel, by decide⟩, gtb3 (i := 27) (by decide +kernel) rfl, gtb3 (i := 28) (by decide +kernel) rfl⟩
theorem fX7_outputFor : MFv mX7_outputFor 1 := ⟨⟨gtb3 (i := 25) (by decide +kernel) rfl, cfX7, by decide +kernel, by decide⟩, gtb3 (i := 23) (by decide +kernel) rfl, gtb3 (i := 24) (by decide +kernel) rfl⟩
theorem fX7_selects : MFv mX7_selects 1 := ⟨⟨gtb3 (i := 75) (by decide +kernel) rfl, cfX7, by decide +kernel, by decide⟩, gtb3 (i := 73) (by decide +kernel) rfl, gtb3 (i := 74) (by decide +kernel) rfl⟩
theorem fX8_init : MFc mX8_init 0 := ⟨gtb1 (i := 92) (by decide +kernel) rfl, cfX8, by decide +kernel, by decide⟩
theorem fX8_put : MFv mX8_put 1 := ⟨⟨gtb2 (i := 164) (by decide +kernel) rfl, cfX8, by decide +kernel, by decide⟩, gtb2 (i := 162) (by decide +kernel) rfl, gtb2 (i := 163) (by decide +kernel) rfl⟩
theorem fX8_empty : MFv mX8_empty 0 := ⟨⟨gtb2 (i := 172) (by decide +kernel) rfl, cfX8, by decide +kernel, by decide⟩, gtb2 (i := 170) (by decide +kernel) rfl, gtb2 (i := 171) (by decide +kernel) rfl⟩
theorem fX8_readInto : MFv mX8_readInto 1 := ⟨⟨gtb2 (i := 180) (by decide +kernel) rfl, cfX8, by decide +kernel, by decide⟩, gtb2 (i := 178) (by decide +kernel) rfl, gtb2 (i := 179) (by decide +kernel) rfl⟩
theorem fX8_canContinue : MFs mX8_canContinue 4 := ⟨⟨gtb2 (i := 183) (by decide +kernel) rfl, cfX8, by decide +kernel, by decide⟩, gtb2 (i := 182) (by decide +kernel) rfl⟩
theorem fX9_init : MFc mX9_init 0 := ⟨gtb1 (i := 105) (by decide +kernel) rfl, cfX9, by decide +kernel, by decide⟩
theorem fX9_hadWire : MFv mX9_hadWire 1 := ⟨⟨gtb2 (i := 216) (by decide +kernel) rfl, cfX9, by decide +kernel, by decide⟩, gtb2 (i := 214) (by decide +kernel) rfl, gtb2 (i := 215) (by decide +kernel) rfl⟩
theorem fX9_perform : MFv mX9_perform 2 := ⟨⟨gtb2 (i := 205) (by decide +kernel) rfl, cfX9, by decide +kernel, by decide⟩, gtb2 (i := 203) (by decide +kernel) rfl, gtb2 (i := 204) (by decide +kernel) rfl⟩
theorem fX9_swap : MFs mX9_swap 3 := ⟨⟨gtb2 (i := 208) (by decide +kernel) rfl, cfX9, by decide +kernel, by decide⟩, gtb2 (i := 207) (by decide +kernel) rfl⟩
theorem fX9_keptOrder : MFv mX9_keptOrder 0 := ⟨⟨gtb2 (i := 228) (by decide +kernel) rfl, cfX9, by decide +kernel, by decide⟩, gtb2 (i := 226) (by decide +kernel) rfl, gtb2 (i := 227) (by decide +kernel) rfl⟩
theorem fX10_init : MFc mX10_init 0 := ⟨gtb1 (i := 22) (by decide +kernel) rfl, cfX10, by decide +kernel, by decide⟩
theorem fX10_reset : MFv mX10_reset 2 := ⟨⟨gtb2 (i := 44) (by decide +kernel) rfl, cfX10, by decide +kernel, by decide⟩, gtb2 (i := 42) (by decide +kernel) rfl, gtb2 (i := 43) (by decide +kernel) rfl⟩
theorem fX10_wires : MFv mX10_wires 1 := ⟨⟨gtb2 (i := 76) (by decide +kernel) rfl, cfX10, by decide +kernel, by decide⟩, gtb2 (i := 74) (by decide +kernel) rfl, gtb2 (i := 75) (by decide +kernel) rfl⟩
theorem fX10_size : MFv mX10_size 1 := ⟨⟨gtb2 (i := 80) (by decide +kernel) rfl, cfX10, by decide +kernel, by decide⟩, gtb2 (i := 78) (by decide +kernel) rfl, gtb2 (i := 79) (by decide +kernel) rfl⟩
theorem fX10_comparator : MFv mX10_comparator 2 := ⟨⟨gtb2 (i := 84) (by decide +kernel) rfl, cfX10, by decide +kernel, by decide⟩, gtb2 (i := 82) (by decide +kernel) rfl, gtb2 (i := 83) (by decide +kernel) rfl⟩
theorem fX10_add : MFv mX10_add 3 := ⟨⟨gtb2 (i := 101) (by decide +kernel) rfl, cfX10, by decide +kernel, by decide⟩, gtb2 (i := 99) (by decide +kernel) rfl, gtb2 (i := 100) (by decide +kernel) rfl⟩
theorem fX10_insert : MFv mX10_insert 4 := ⟨⟨gtb2 (i := 122) (by decide +kernel) rfl, cfX10, by decide +kernel, by decide⟩, gtb2 (i := 120) (by decide +kernel) rfl, gtb2 (i := 121) (by decide +kernel) rfl⟩
theorem fX10_remove : MFv mX10_remove 2 := ⟨⟨gtb2 (i := 126) (by decide +kernel) rfl, cfX10, by decide +kernel, by decide⟩, gtb2 (i := 124) (by decide +kernel) rfl, gtb2 (i := 125) (by decide +kernel) rfl⟩
theorem fX10_layer : MFv mX10_layer 2 := ⟨⟨gtb2 (i := 134) (by decide +kernel) rfl, cfX10, by decide +kernel, by decide⟩, gtb2 (i := 132) (by decide +kernel) rfl, gtb2 (i := 133) (by decide +kernel) rfl⟩
theorem fX10_depth : MFv mX10_depth 1 := ⟨⟨gtb2 (i := 152) (by decide +kernel) rfl, cfX10, by decide +kernel, by decide⟩, gtb2 (i := 150) (by decide +kernel) rfl, gtb2 (i := 151) (by decide +kernel) rfl⟩
theorem fX10_append : MFv mX10_append 1 := ⟨⟨gtb2 (i := 160) (by decide +kernel) rfl, cfX10, by decide +kernel, by decide⟩, gtb2 (i := 158) (by decide +kernel) rfl, gtb2 (i := 159) (by decide +kernel) rfl⟩
theorem fX10_clearText : MFv mX10_clearText 0 := ⟨⟨gtb2 (i := 168) (by decide +kernel) rfl, cfX10, by decide +kernel, by decide⟩, gtb2 (i := 166) (by decide +kernel) rfl, gtb2 (i := 167) (by decide +kernel) rfl⟩
theorem fX10_parse : MFv mX10_parse 1 := ⟨⟨gtb2 (i := 176) (by decide +kernel) rfl, cfX10, by decide +kernel, by decide⟩, gtb2 (i := 174) (by decide +kernel) rfl, gtb2 (i := 175) (by decide +kernel) rfl⟩
theorem fX10_setKey : MFv mX10_setKey 2 := ⟨⟨gtb2 (i := 197) (by decide +kernel) rfl, cfX10, by decide +kernel, by decide⟩, gtb2 (i := 195) (by decide +kernel) rfl, gtb2 (i := 196) (by decide +kernel) rfl⟩
theorem fX10_run : MFv mX10_run 1 := ⟨⟨gtb2 (i := 201) (by decide +kernel) rfl, cfX10, by decide +kernel, by decide⟩, gtb2 (i := 199) (by decide +kernel) rfl, gtb2 (i := 200) (by decide +kernel) rfl⟩
theorem fX10_result : MFv mX10_result 1 := ⟨⟨gtb2 (i := 212) (by decide +kernel) rfl, cfX10, by decide +kernel, by decide⟩, gtb2 (i := 210) (by decide +kernel) rfl, gtb2 (i := 211) (by decide +kernel) rfl⟩
theorem fX10_origin : MFv mX10_origin 1 := ⟨⟨gtb2 (i := 220) (by decide +kernel) rfl, cfX10, by decide +kernel, by decide⟩, gtb2 (i := 218) (by decide +kernel) rfl, gtb2 (i := 219) (by decide +kernel) rfl⟩
theorem fX10_isStable : MFv mX10_isStable 0 := ⟨⟨gtb2 (i := 224) (by decide +kernel) rfl, cfX10, by decide +kernel, by decide⟩, gtb2 (i := 222) (by decide +kernel) rfl, gtb2 (i := 223) (by decide +kernel) rfl⟩
theorem fX10_outputCount : MFv mX10_outputCount 1 := ⟨⟨gtb2 (i := 235) (by decide +kernel) rfl, cfX10, by decide +kernel, by decide⟩, gtb2 (i := 233) (by decide +kernel) rfl, gtb2 (i := 234) (by decide +kernel) rfl⟩
theorem fX10_outputOf : MFv mX10_outputOf 2 := ⟨⟨gtb3 (i := 33) (by decide +kernel) rfl, cfX10, by decide +kernel, by decide⟩, gtb3 (i := 31) (by decide +kernel) rfl, gtb3 (i := 32) (by decide +kernel) rfl⟩
theorem fX10_isSorter : MFv mX10_isSorter 1 := ⟨⟨gtb3 (i := 44) (by decide +kernel) rfl, cfX10, by decide +kernel, by decide⟩, gtb3 (i := 42) (by decide +kernel) rfl, gtb3 (i := 43) (by decide +kernel) rfl⟩
theorem fX10_firstFailure : MFv mX10_firstFailure 1 := ⟨⟨gtb3 (i := 66) (by decide +kernel) rfl, cfX10, by decide +kernel, by decide⟩, gtb3 (i := 64) (by decide +kernel) rfl, gtb3 (i := 65) (by decide +kernel) rfl⟩
theorem fX10_isSelector : MFv mX10_isSelector 2 := ⟨⟨gtb3 (i := 70) (by decide +kernel) rfl, cfX10, by decide +kernel, by decide⟩, gtb3 (i := 68) (by decide +kernel) rfl, gtb3 (i := 69) (by decide +kernel) rfl⟩
theorem fX10_countSorted : MFv mX10_countSorted 1 := ⟨⟨gtb3 (i := 86) (by decide +kernel) rfl, cfX10, by decide +kernel, by decide⟩, gtb3 (i := 84) (by decide +kernel) rfl, gtb3 (i := 85) (by decide +kernel) rfl⟩
theorem fX10_firstUnsorted : MFv mX10_firstUnsorted 1 := ⟨⟨gtb3 (i := 98) (by decide +kernel) rfl, cfX10, by decide +kernel, by decide⟩, gtb3 (i := 96) (by decide +kernel) rfl, gtb3 (i := 97) (by decide +kernel) rfl⟩
theorem fX10_totalExchanges : MFv mX10_totalExchanges 1 := ⟨⟨gtb3 (i := 111) (by decide +kernel) rfl, cfX10, by decide +kernel, by decide⟩, gtb3 (i := 109) (by decide +kernel) rfl, gtb3 (i := 110) (by decide +kernel) rfl⟩
theorem fX10_mostExchanges : MFv mX10_mostExchanges 1 := ⟨⟨gtb3 (i := 136) (by decide +kernel) rfl, cfX10, by decide +kernel, by decide⟩, gtb3 (i := 134) (by decide +kernel) rfl, gtb3 (i := 135) (by decide +kernel) rfl⟩
theorem fX10_isRedundant : MFv mX10_isRedundant 2 := ⟨⟨gtb3 (i := 145) (by decide +kernel) rfl, cfX10, by decide +kernel, by decide⟩, gtb3 (i := 143) (by decide +kernel) rfl, gtb3 (i := 144) (by decide +kernel) rfl⟩
theorem fX10_prune : MFv mX10_prune 1 := ⟨⟨gtb3 (i := 155) (by decide +kernel) rfl, cfX10, by decide +kernel, by decide⟩, gtb3 (i := 153) (by decide +kernel) rfl, gtb3 (i := 154) (by decide +kernel) rfl⟩
theorem fX10_reduce : MFv mX10_reduce 1 := ⟨⟨gtb3 (i := 160) (by decide +kernel) rfl, cfX10, by decide +kernel, by decide⟩, gtb3 (i := 158) (by decide +kernel) rfl, gtb3 (i := 159) (by decide +kernel) rfl⟩
theorem fX10_standardize : MFv mX10_standardize 1 := ⟨⟨gtb3 (i := 168) (by decide +kernel) rfl, cfX10, by decide +kernel, by decide⟩, gtb3 (i := 166) (by decide +kernel) rfl, gtb3 (i := 167) (by decide +kernel) rfl⟩
theorem fX10_mirror : MFv mX10_mirror 1 := ⟨⟨gtb3 (i := 183) (by decide +kernel) rfl, cfX10, by decide +kernel, by decide⟩, gtb3 (i := 181) (by decide +kernel) rfl, gtb3 (i := 182) (by decide +kernel) rfl⟩
theorem fX10_candidate : MFv mX10_candidate 3 := ⟨⟨gtb3 (i := 191) (by decide +kernel) rfl, cfX10, by decide +kernel, by decide⟩, gtb3 (i := 189) (by decide +kernel) rfl, gtb3 (i := 190) (by decide +kernel) rfl⟩
theorem fX10_grow : MFv mX10_grow 1 := ⟨⟨gtb3 (i := 216) (by decide +kernel) rfl, cfX10, by decide +kernel, by decide⟩, gtb3 (i := 214) (by decide +kernel) rfl, gtb3 (i := 215) (by decide +kernel) rfl⟩
theorem fX10_missing : MFv mX10_missing 2 := ⟨⟨gtb3 (i := 220) (by decide +kernel) rfl, cfX10, by decide +kernel, by decide⟩, gtb3 (i := 218) (by decide +kernel) rfl, gtb3 (i := 219) (by decide +kernel) rfl⟩
theorem fX10_sameOutputs : MFv mX10_sameOutputs 2 := ⟨⟨gtb4 (i := 4) (by decide +kernel) rfl, cfX10, by decide +kernel, by decide⟩, gtb4 (i := 2) (by decide +kernel) rfl, gtb4 (i := 3) (by decide +kernel) rfl⟩
theorem fX10_isIsomorphic : MFv mX10_isIsomorphic 2 := ⟨⟨gtb4 (i := 12) (by decide +kernel) rfl, cfX10, by decide +kernel, by decide⟩, gtb4 (i := 10) (by decide +kernel) rfl, gtb4 (i := 11) (by decide +kernel) rfl⟩
theorem fX10_subsumes : MFv mX10_subsumes 2 := ⟨⟨gtb4 (i := 25) (by decide +kernel) rfl, cfX10, by decide +kernel, by decide⟩, gtb4 (i := 23) (by decide +kernel) rfl, gtb4 (i := 24) (by decide +kernel) rfl⟩
theorem fX10_build : MFv mX10_build 3 := ⟨⟨gtb4 (i := 39) (by decide +kernel) rfl, cfX10, by decide +kernel, by decide⟩, gtb4 (i := 37) (by decide +kernel) rfl, gtb4 (i := 38) (by decide +kernel) rfl⟩
theorem fX10_isMerger : MFv mX10_isMerger 2 := ⟨⟨gtb4 (i := 63) (by decide +kernel) rfl, cfX10, by decide +kernel, by decide⟩, gtb4 (i := 61) (by decide +kernel) rfl, gtb4 (i := 62) (by decide +kernel) rfl⟩
theorem fX10_concatenate : MFv mX10_concatenate 3 := ⟨⟨gtb4 (i := 74) (by decide +kernel) rfl, cfX10, by decide +kernel, by decide⟩, gtb4 (i := 72) (by decide +kernel) rfl, gtb4 (i := 73) (by decide +kernel) rfl⟩
theorem fX10_beside : MFv mX10_beside 3 := ⟨⟨gtb4 (i := 82) (by decide +kernel) rfl, cfX10, by decide +kernel, by decide⟩, gtb4 (i := 80) (by decide +kernel) rfl, gtb4 (i := 81) (by decide +kernel) rfl⟩
theorem fX10_undo : MFv mX10_undo 0 := ⟨⟨gtb4 (i := 86) (by decide +kernel) rfl, cfX10, by decide +kernel, by decide⟩, gtb4 (i := 84) (by decide +kernel) rfl, gtb4 (i := 85) (by decide +kernel) rfl⟩
theorem fX10_place : MFv mX10_place 4 := ⟨⟨gtb4 (i := 94) (by decide +kernel) rfl, cfX10, by decide +kernel, by decide⟩, gtb4 (i := 92) (by decide +kernel) rfl, gtb4 (i := 93) (by decide +kernel) rfl⟩
theorem fX10_discard : MFv mX10_discard 1 := ⟨⟨gtb4 (i := 116) (by decide +kernel) rfl, cfX10, by decide +kernel, by decide⟩, gtb4 (i := 114) (by decide +kernel) rfl, gtb4 (i := 115) (by decide +kernel) rfl⟩
theorem fX10_castBlock : MFv mX10_castBlock 2 := ⟨⟨gtb4 (i := 124) (by decide +kernel) rfl, cfX10, by decide +kernel, by decide⟩, gtb4 (i := 122) (by decide +kernel) rfl, gtb4 (i := 123) (by decide +kernel) rfl⟩
theorem fX10_blockSize : MFv mX10_blockSize 2 := ⟨⟨gtb4 (i := 134) (by decide +kernel) rfl, cfX10, by decide +kernel, by decide⟩, gtb4 (i := 132) (by decide +kernel) rfl, gtb4 (i := 133) (by decide +kernel) rfl⟩
theorem fX10_applyBlock : MFv mX10_applyBlock 2 := ⟨⟨gtb4 (i := 156) (by decide +kernel) rfl, cfX10, by decide +kernel, by decide⟩, gtb4 (i := 154) (by decide +kernel) rfl, gtb4 (i := 155) (by decide +kernel) rfl⟩
theorem fX10_isNetwork : MFs mX10_isNetwork 1 := ⟨⟨gtb2 (i := 47) (by decide +kernel) rfl, cfX10, by decide +kernel, by decide⟩, gtb2 (i := 46) (by decide +kernel) rfl⟩
theorem fX10_isShelf : MFs mX10_isShelf 1 := ⟨⟨gtb4 (i := 97) (by decide +kernel) rfl, cfX10, by decide +kernel, by decide⟩, gtb4 (i := 96) (by decide +kernel) rfl⟩
theorem fX10_isWireCount : MFs mX10_isWireCount 1 := ⟨⟨gtb2 (i := 50) (by decide +kernel) rfl, cfX10, by decide +kernel, by decide⟩, gtb2 (i := 49) (by decide +kernel) rfl⟩
theorem fX10_isPosition : MFv mX10_isPosition 2 := ⟨⟨gtb2 (i := 88) (by decide +kernel) rfl, cfX10, by decide +kernel, by decide⟩, gtb2 (i := 87) (by decide +kernel) rfl, gtb0 (i := 1) (by decide +kernel) rfl⟩
theorem fX10_oneIf : MFs mX10_oneIf 1 := ⟨⟨gtb2 (i := 231) (by decide +kernel) rfl, cfX10, by decide +kernel, by decide⟩, gtb2 (i := 230) (by decide +kernel) rfl⟩
theorem fX10_isSorted : MFs mX10_isSorted 2 := ⟨⟨gtb3 (i := 94) (by decide +kernel) rfl, cfX10, by decide +kernel, by decide⟩, gtb3 (i := 93) (by decide +kernel) rfl⟩
theorem fX10_exchanged : MFs mX10_exchanged 3 := ⟨⟨gtb3 (i := 40) (by decide +kernel) rfl, cfX10, by decide +kernel, by decide⟩, gtb3 (i := 39) (by decide +kernel) rfl⟩
theorem fX10_remember : MFv mX10_remember 1 := ⟨⟨gtb2 (i := 54) (by decide +kernel) rfl, cfX10, by decide +kernel, by decide⟩, gtb2 (i := 53) (by decide +kernel) rfl, gtb0 (i := 0) (by decide +kernel) rfl⟩
theorem fX10_pushInto : MFv mX10_pushInto 4 := ⟨⟨gtb2 (i := 105) (by decide +kernel) rfl, cfX10, by decide +kernel, by decide⟩, gtb2 (i := 104) (by decide +kernel) rfl, gtb0 (i := 2) (by decide +kernel) rfl⟩
theorem fX10_replaceBySpare : MFv mX10_replaceBySpare 1 := ⟨⟨gtb2 (i := 192) (by decide +kernel) rfl, cfX10, by decide +kernel, by decide⟩, gtb2 (i := 191) (by decide +kernel) rfl, gtb0 (i := 4) (by decide +kernel) rfl⟩
theorem fX10_gatherOutputs : MFv mX10_gatherOutputs 2 := ⟨⟨gtb2 (i := 239) (by decide +kernel) rfl, cfX10, by decide +kernel, by decide⟩, gtb2 (i := 238) (by decide +kernel) rfl, gtb0 (i := 5) (by decide +kernel) rfl⟩
theorem fX10_sorts : MFv mX10_sorts 2 := ⟨⟨gtb3 (i := 48) (by decide +kernel) rfl, cfX10, by decide +kernel, by decide⟩, gtb3 (i := 47) (by decide +kernel) rfl, gtb0 (i := 6) (by decide +kernel) rfl⟩
theorem fX10_lastNeedless : MFv mX10_lastNeedless 1 := ⟨⟨gtb3 (i := 164) (by decide +kernel) rfl, cfX10, by decide +kernel, by decide⟩, gtb3 (i := 163) (by decide +kernel) rfl, gtb0 (i := 10) (by decide +kernel) rfl⟩
theorem fX10_pushInsertion : MFs mX10_pushInsertion 1 := ⟨⟨gtb4 (i := 42) (by decide +kernel) rfl, cfX10, by decide +kernel, by decide⟩, gtb4 (i := 41) (by decide +kernel) rfl⟩
theorem fX10_pushBubbles : MFs mX10_pushBubbles 1 := ⟨⟨gtb4 (i := 45) (by decide +kernel) rfl, cfX10, by decide +kernel, by decide⟩, gtb4 (i := 44) (by decide +kernel) rfl⟩
theorem fX10_pushTransposition : MFs mX10_pushTransposition 1 := ⟨⟨gtb4 (i := 48) (by decide +kernel) rfl, cfX10, by decide +kernel, by decide⟩, gtb4 (i := 47) (by decide +kernel) rfl⟩
theorem fX10_pushMergeExchange : MFs mX10_pushMergeExchange 1 := ⟨⟨gtb4 (i := 56) (by decide +kernel) rfl, cfX10, by decide +kernel, by decide⟩, gtb4 (i := 55) (by decide +kernel) rfl⟩
theorem fX10_pushApart : MFs mX10_pushApart 4 := ⟨⟨gtb4 (i := 59) (by decide +kernel) rfl, cfX10, by decide +kernel, by decide⟩, gtb4 (i := 58) (by decide +kernel) rfl⟩
theorem fX10_merges : MFs mX10_merges 2 := ⟨⟨gtb4 (i := 66) (by decide +kernel) rfl, cfX10, by decide +kernel, by decide⟩, gtb4 (i := 65) (by decide +kernel) rfl⟩
theorem fX10_sortedBits : MFs mX10_sortedBits 2 := ⟨⟨gtb4 (i := 69) (by decide +kernel) rfl, cfX10, by decide +kernel, by decide⟩, gtb4 (i := 68) (by decide +kernel) rfl⟩
theorem fX10_countBlocks : MFv mX10_countBlocks 0 := ⟨⟨gtb4 (i := 108) (by decide +kernel) rfl, cfX10, by decide +kernel, by decide⟩, gtb4 (i := 107) (by decide +kernel) rfl, gtb0 (i := 16) (by decide +kernel) rfl⟩
theorem fX10_unfold : MFv mX10_unfold 2 := ⟨⟨gtb4 (i := 138) (by decide +kernel) rfl, cfX10, by decide +kernel, by decide⟩, gtb4 (i := 137) (by decide +kernel) rfl, gtb0 (i := 17) (by decide +kernel) rfl⟩
theorem fX11_init : MFc mX11_init 0 := ⟨gtb4 (i := 161) (by decide +kernel) rfl, cfX11, by decide +kernel, by decide⟩
theorem fX11_isIn : MFs mX11_isIn 3 := ⟨⟨gtb5 (i := 39) (by decide +kernel) rfl, cfX11, by decide +kernel, by decide⟩, gtb5 (i := 38) (by decide +kernel) rfl⟩
theorem fX11_isNet : MFs mX11_isNet 1 := ⟨⟨gtb5 (i := 36) (by decide +kernel) rfl, cfX11, by decide +kernel, by decide⟩, gtb5 (i := 35) (by decide +kernel) rfl⟩
theorem fX11_isWire : MFv mX11_isWire 2 := ⟨⟨gtb5 (i := 71) (by decide +kernel) rfl, cfX11, by decide +kernel, by decide⟩, gtb5 (i := 70) (by decide +kernel) rfl, gtb0 (i := 21) (by decide +kernel) rfl⟩
theorem fX11_remembers : MFv mX11_remembers 0 := ⟨⟨gtb5 (i := 43) (by decide +kernel) rfl, cfX11, by decide +kernel, by decide⟩, gtb5 (i := 42) (by decide +kernel) rfl, gtb0 (i := 19) (by decide +kernel) rfl⟩
theorem fX11_undo : MFv mX11_undo 0 := ⟨⟨gtb5 (i := 29) (by decide +kernel) rfl, cfX11, by decide +kernel, by decide⟩, gtb5 (i := 27) (by decide +kernel) rfl, gtb5 (i := 28) (by decide +kernel) rfl⟩
theorem fX11_reset : MFv mX11_reset 2 := ⟨⟨gtb5 (i := 33) (by decide +kernel) rfl, cfX11, by decide +kernel, by decide⟩, gtb5 (i := 31) (by decide +kernel) rfl, gtb5 (i := 32) (by decide +kernel) rfl⟩
theorem fX11_wires : MFv mX11_wires 1 := ⟨⟨gtb5 (i := 47) (by decide +kernel) rfl, cfX11, by decide +kernel, by decide⟩, gtb5 (i := 45) (by decide +kernel) rfl, gtb5 (i := 46) (by decide +kernel) rfl⟩
theorem fX11_size : MFv mX11_size 1 := ⟨⟨gtb5 (i := 51) (by decide +kernel) rfl, cfX11, by decide +kernel, by decide⟩, gtb5 (i := 49) (by decide +kernel) rfl, gtb5 (i := 50) (by decide +kernel) rfl⟩
theorem fX11_isPosition : MFv mX11_isPosition 2 := ⟨⟨gtb5 (i := 59) (by decide +kernel) rfl, cfX11, by decide +kernel, by decide⟩, gtb5 (i := 58) (by decide +kernel) rfl, gtb0 (i := 20) (by decide +kernel) rfl⟩
theorem fX11_comparator : MFv mX11_comparator 2 := ⟨⟨gtb5 (i := 55) (by decide +kernel) rfl, cfX11, by decide +kernel, by decide⟩, gtb5 (i := 53) (by decide +kernel) rfl, gtb5 (i := 54) (by decide +kernel) rfl⟩
theorem fX11_puts : MFv mX11_puts 4 := ⟨⟨gtb5 (i := 75) (by decide +kernel) rfl, cfX11, by decide +kernel, by decide⟩, gtb5 (i := 74) (by decide +kernel) rfl, gtb0 (i := 22) (by decide +kernel) rfl⟩
theorem fX11_takes : MFv mX11_takes 2 := ⟨⟨gtb5 (i := 85) (by decide +kernel) rfl, cfX11, by decide +kernel, by decide⟩, gtb5 (i := 84) (by decide +kernel) rfl, gtb0 (i := 23) (by decide +kernel) rfl⟩
theorem fX11_add : MFv mX11_add 3 := ⟨⟨gtb5 (i := 63) (by decide +kernel) rfl, cfX11, by decide +kernel, by decide⟩, gtb5 (i := 61) (by decide +kernel) rfl, gtb5 (i := 62) (by decide +kernel) rfl⟩
theorem fX11_insert : MFv mX11_insert 4 := ⟨⟨gtb5 (i := 67) (by decide +kernel) rfl, cfX11, by decide +kernel, by decide⟩, gtb5 (i := 65) (by decide +kernel) rfl, gtb5 (i := 66) (by decide +kernel) rfl⟩
theorem fX11_remove : MFv mX11_remove 2 := ⟨⟨gtb5 (i := 80) (by decide +kernel) rfl, cfX11, by decide +kernel, by decide⟩, gtb5 (i := 78) (by decide +kernel) rfl, gtb5 (i := 79) (by decide +kernel) rfl⟩
theorem fX11_findsLayers : MFv mX11_findsLayers 1 := ⟨⟨gtb5 (i := 93) (by decide +kernel) rfl, cfX11, by decide +kernel, by decide⟩, gtb5 (i := 92) (by decide +kernel) rfl, gtb0 (i := 24) (by decide +kernel) rfl⟩
theorem fX11_layer : MFv mX11_layer 2 := ⟨⟨gtb5 (i := 89) (by decide +kernel) rfl, cfX11, by decide +kernel, by decide⟩, gtb5 (i := 87) (by decide +kernel) rfl, gtb5 (i := 88) (by decide +kernel) rfl⟩
theorem fX11_depth : MFv mX11_depth 1 := ⟨⟨gtb5 (i := 97) (by decide +kernel) rfl, cfX11, by decide +kernel, by decide⟩, gtb5 (i := 95) (by decide +kernel) rfl, gtb5 (i := 96) (by decide +kernel) rfl⟩
theorem fX11_append : MFv mX11_append 1 := ⟨⟨gtb5 (i := 101) (by decide +kernel) rfl, cfX11, by decide +kernel, by decide⟩, gtb5 (i := 99) (by decide +kernel) rfl, gtb5 (i := 100) (by decide +kernel) rfl⟩
theorem fX11_clearText : MFv mX11_clearText 0 := ⟨⟨gtb5 (i := 105) (by decide +kernel) rfl, cfX11, by decide +kernel, by decide⟩, gtb5 (i := 103) (by decide +kernel) rfl, gtb5 (i := 104) (by decide +kernel) rfl⟩
theorem fX11_here : MFv mX11_here 0 := ⟨⟨gtb5 (i := 117) (by decide +kernel) rfl, cfX11, by decide +kernel, by decide⟩, gtb5 (i := 116) (by decide +kernel) rfl, gtb0 (i := 26) (by decide +kernel) rfl⟩
theorem fX11_wire : MFv mX11_wire 1 := ⟨⟨gtb5 (i := 113) (by decide +kernel) rfl, cfX11, by decide +kernel, by decide⟩, gtb5 (i := 112) (by decide +kernel) rfl, gtb0 (i := 25) (by decide +kernel) rfl⟩
theorem fX11_sign : MFv mX11_sign 1 := ⟨⟨gtb5 (i := 121) (by decide +kernel) rfl, cfX11, by decide +kernel, by decide⟩, gtb5 (i := 120) (by decide +kernel) rfl, gtb0 (i := 27) (by decide +kernel) rfl⟩
theorem fX11_parse : MFv mX11_parse 1 := ⟨⟨gtb5 (i := 109) (by decide +kernel) rfl, cfX11, by decide +kernel, by decide⟩, gtb5 (i := 107) (by decide +kernel) rfl, gtb5 (i := 108) (by decide +kernel) rfl⟩
theorem fX11_setKey : MFv mX11_setKey 2 := ⟨⟨gtb5 (i := 125) (by decide +kernel) rfl, cfX11, by decide +kernel, by decide⟩, gtb5 (i := 123) (by decide +kernel) rfl, gtb5 (i := 124) (by decide +kernel) rfl⟩
theorem fX11_run : MFv mX11_run 1 := ⟨⟨gtb5 (i := 129) (by decide +kernel) rfl, cfX11, by decide +kernel, by decide⟩, gtb5 (i := 127) (by decide +kernel) rfl, gtb5 (i := 128) (by decide +kernel) rfl⟩
theorem fX11_result : MFv mX11_result 1 := ⟨⟨gtb5 (i := 133) (by decide +kernel) rfl, cfX11, by decide +kernel, by decide⟩, gtb5 (i := 131) (by decide +kernel) rfl, gtb5 (i := 132) (by decide +kernel) rfl⟩
theorem fX11_origin : MFv mX11_origin 1 := ⟨⟨gtb5 (i := 137) (by decide +kernel) rfl, cfX11, by decide +kernel, by decide⟩, gtb5 (i := 135) (by decide +kernel) rfl, gtb5 (i := 136) (by decide +kernel) rfl⟩
theorem fX11_isStable : MFv mX11_isStable 0 := ⟨⟨gtb5 (i := 141) (by decide +kernel) rfl, cfX11, by decide +kernel, by decide⟩, gtb5 (i := 139) (by decide +kernel) rfl, gtb5 (i := 140) (by decide +kernel) rfl⟩
theorem fX11_makes : MFv mX11_makes 3 := ⟨⟨gtb5 (i := 153) (by decide +kernel) rfl, cfX11, by decide +kernel, by decide⟩, gtb5 (i := 152) (by decide +kernel) rfl, gtb0 (i := 29) (by decide +kernel) rfl⟩
theorem fX11_isSorted : MFs mX11_isSorted 2 := ⟨⟨gtb5 (i := 168) (by decide +kernel) rfl, cfX11, by decide +kernel, by decide⟩, gtb5 (i := 167) (by decide +kernel) rfl⟩
theorem fX11_isSorter : MFv mX11_isSorter 2 := ⟨⟨gtb5 (i := 165) (by decide +kernel) rfl, cfX11, by decide +kernel, by decide⟩, gtb5 (i := 164) (by decide +kernel) rfl, gtb0 (i := 30) (by decide +kernel) rfl⟩
theorem fX11_finds : MFv mX11_finds 2 := ⟨⟨gtb5 (i := 149) (by decide +kernel) rfl, cfX11, by decide +kernel, by decide⟩, gtb5 (i := 148) (by decide +kernel) rfl, gtb0 (i := 28) (by decide +kernel) rfl⟩
theorem fX11_outputCount : MFv mX11_outputCount 1 := ⟨⟨gtb5 (i := 145) (by decide +kernel) rfl, cfX11, by decide +kernel, by decide⟩, gtb5 (i := 143) (by decide +kernel) rfl, gtb5 (i := 144) (by decide +kernel) rfl⟩
theorem fX11_outputOf : MFv mX11_outputOf 2 := ⟨⟨gtb5 (i := 157) (by decide +kernel) rfl, cfX11, by decide +kernel, by decide⟩, gtb5 (i := 155) (by decide +kernel) rfl, gtb5 (i := 156) (by decide +kernel) rfl⟩
theorem fX11_isSorter_ : MFv mX11_isSorter_ 1 := ⟨⟨gtb5 (i := 161) (by decide +kernel) rfl, cfX11, by decide +kernel, by decide⟩, gtb5 (i := 159) (by decide +kernel) rfl, gtb5 (i := 160) (by decide +kernel) rfl⟩
theorem fX11_firstFailure : MFv mX11_firstFailure 1 := ⟨⟨gtb5 (i := 172) (by decide +kernel) rfl, cfX11, by decide +kernel, by decide⟩, gtb5 (i := 170) (by decide +kernel) rfl, gtb5 (i := 171) (by decide +kernel) rfl⟩
theorem fX11_ones : MFs mX11_ones 1 := ⟨⟨gtb5 (i := 179) (by decide +kernel) rfl, cfX11, by decide +kernel, by decide⟩, gtb5 (i := 178) (by decide +kernel) rfl⟩
theorem fX11_isSelector : MFv mX11_isSelector 2 := ⟨⟨gtb5 (i := 176) (by decide +kernel) rfl, cfX11, by decide +kernel, by decide⟩, gtb5 (i := 174) (by decide +kernel) rfl, gtb5 (i := 175) (by decide +kernel) rfl⟩
theorem fX11_isNext : MFv mX11_isNext 1 := ⟨⟨gtb5 (i := 199) (by decide +kernel) rfl, cfX11, by decide +kernel, by decide⟩, gtb5 (i := 198) (by decide +kernel) rfl, gtb0 (i := 34) (by decide +kernel) rfl⟩
theorem fX11_changes : MFv mX11_changes 2 := ⟨⟨gtb5 (i := 203) (by decide +kernel) rfl, cfX11, by decide +kernel, by decide⟩, gtb5 (i := 202) (by decide +kernel) rfl, gtb0 (i := 35) (by decide +kernel) rfl⟩
theorem fX11_begins : MFv mX11_begins 0 := ⟨⟨gtb5 (i := 191) (by decide +kernel) rfl, cfX11, by decide +kernel, by decide⟩, gtb5 (i := 190) (by decide +kernel) rfl, gtb0 (i := 32) (by decide +kernel) rfl⟩
theorem fX11_carries : MFv mX11_carries 1 := ⟨⟨gtb5 (i := 195) (by decide +kernel) rfl, cfX11, by decide +kernel, by decide⟩, gtb5 (i := 194) (by decide +kernel) rfl, gtb0 (i := 33) (by decide +kernel) rfl⟩
theorem fX11_looks : MFv mX11_looks 1 := ⟨⟨gtb5 (i := 187) (by decide +kernel) rfl, cfX11, by decide +kernel, by decide⟩, gtb5 (i := 186) (by decide +kernel) rfl, gtb0 (i := 31) (by decide +kernel) rfl⟩
theorem fX11_countSorted : MFv mX11_countSorted 1 := ⟨⟨gtb5 (i := 183) (by decide +kernel) rfl, cfX11, by decide +kernel, by decide⟩, gtb5 (i := 181) (by decide +kernel) rfl, gtb5 (i := 182) (by decide +kernel) rfl⟩
theorem fX11_firstUnsorted : MFv mX11_firstUnsorted 1 := ⟨⟨gtb5 (i := 207) (by decide +kernel) rfl, cfX11, by decide +kernel, by decide⟩, gtb5 (i := 205) (by decide +kernel) rfl, gtb5 (i := 206) (by decide +kernel) rfl⟩
theorem fX11_totalExchanges : MFv mX11_totalExchanges 1 := ⟨⟨gtb5 (i := 211) (by decide +kernel) rfl, cfX11, by decide +kernel, by decide⟩, gtb5 (i := 209) (by decide +kernel) rfl, gtb5 (i := 210) (by decide +kernel) rfl⟩
theorem fX11_mostExchanges : MFv mX11_mostExchanges 1 := ⟨⟨gtb5 (i := 216) (by decide +kernel) rfl, cfX11, by decide +kernel, by decide⟩, gtb5 (i := 214) (by decide +kernel) rfl, gtb5 (i := 215) (by decide +kernel) rfl⟩
theorem fX11_isIdle : MFv mX11_isIdle 2 := ⟨⟨gtb5 (i := 224) (by decide +kernel) rfl, cfX11, by decide +kernel, by decide⟩, gtb5 (i := 223) (by decide +kernel) rfl, gtb0 (i := 36) (by decide +kernel) rfl⟩
theorem fX11_isRedundant : MFv mX11_isRedundant 2 := ⟨⟨gtb5 (i := 220) (by decide +kernel) rfl, cfX11, by decide +kernel, by decide⟩, gtb5 (i := 218) (by decide +kernel) rfl, gtb5 (i := 219) (by decide +kernel) rfl⟩
theorem fX11_prune : MFv mX11_prune 1 := ⟨⟨gtb5 (i := 228) (by decide +kernel) rfl, cfX11, by decide +kernel, by decide⟩, gtb5 (i := 226) (by decide +kernel) rfl, gtb5 (i := 227) (by decide +kernel) rfl⟩
theorem fX11_reduce : MFv mX11_reduce 1 := ⟨⟨gtb5 (i := 232) (by decide +kernel) rfl, cfX11, by decide +kernel, by decide⟩, gtb5 (i := 230) (by decide +kernel) rfl, gtb5 (i := 231) (by decide +kernel) rfl⟩
theorem fX11_standardize : MFv mX11_standardize 1 := ⟨⟨gtb5 (i := 236) (by decide +kernel) rfl, cfX11, by decide +kernel, by decide⟩, gtb5 (i := 234) (by decide +kernel) rfl, gtb5 (i := 235) (by decide +kernel) rfl⟩
theorem fX11_mirror : MFv mX11_mirror 1 := ⟨⟨gtb6 (i := 0) (by decide +kernel) rfl, cfX11, by decide +kernel, by decide⟩, gtb5 (i := 238) (by decide +kernel) rfl, gtb5 (i := 239) (by decide +kernel) rfl⟩
theorem fX11_counts : MFv mX11_counts 3 := ⟨⟨gtb6 (i := 12) (by decide +kernel) rfl, cfX11, by decide +kernel, by decide⟩, gtb6 (i := 11) (by decide +kernel) rfl, gtb0 (i := 38) (by decide +kernel) rfl⟩
theorem fX11_lists : MFv mX11_lists 1 := ⟨⟨gtb6 (i := 8) (by decide +kernel) rfl, cfX11, by decide +kernel, by decide⟩, gtb6 (i := 7) (by decide +kernel) rfl, gtb0 (i := 37) (by decide +kernel) rfl⟩
theorem fX11_candidate : MFv mX11_candidate 3 := ⟨⟨gtb6 (i := 4) (by decide +kernel) rfl, cfX11, by decide +kernel, by decide⟩, gtb6 (i := 2) (by decide +kernel) rfl, gtb6 (i := 3) (by decide +kernel) rfl⟩
theorem fX11_grow : MFv mX11_grow 1 := ⟨⟨gtb6 (i := 16) (by decide +kernel) rfl, cfX11, by decide +kernel, by decide⟩, gtb6 (i := 14) (by decide +kernel) rfl, gtb6 (i := 15) (by decide +kernel) rfl⟩
theorem fX11_areSorted : MFv mX11_areSorted 2 := ⟨⟨gtb6 (i := 24) (by decide +kernel) rfl, cfX11, by decide +kernel, by decide⟩, gtb6 (i := 23) (by decide +kernel) rfl, gtb0 (i := 39) (by decide +kernel) rfl⟩
theorem fX11_isOneEnough : MFv mX11_isOneEnough 1 := ⟨⟨gtb6 (i := 28) (by decide +kernel) rfl, cfX11, by decide +kernel, by decide⟩, gtb6 (i := 27) (by decide +kernel) rfl, gtb0 (i := 40) (by decide +kernel) rfl⟩
theorem fX11_missing : MFv mX11_missing 2 := ⟨⟨gtb6 (i := 20) (by decide +kernel) rfl, cfX11, by decide +kernel, by decide⟩, gtb6 (i := 18) (by decide +kernel) rfl, gtb6 (i := 19) (by decide +kernel) rfl⟩
theorem fX11_unlike : MFv mX11_unlike 2 := ⟨⟨gtb6 (i := 36) (by decide +kernel) rfl, cfX11, by decide +kernel, by decide⟩, gtb6 (i := 35) (by decide +kernel) rfl, gtb0 (i := 41) (by decide +kernel) rfl⟩
theorem fX11_sameOutputs : MFv mX11_sameOutputs 2 := ⟨⟨gtb6 (i := 32) (by decide +kernel) rfl, cfX11, by decide +kernel, by decide⟩, gtb6 (i := 30) (by decide +kernel) rfl, gtb6 (i := 31) (by decide +kernel) rfl⟩
theorem fX11_isIsomorphic : MFv mX11_isIsomorphic 2 := ⟨⟨gtb6 (i := 40) (by decide +kernel) rfl, cfX11, by decide +kernel, by decide⟩, gtb6 (i := 38) (by decide +kernel) rfl, gtb6 (i := 39) (by decide +kernel) rfl⟩
theorem fX11_subsumes : MFv mX11_subsumes 2 := ⟨⟨gtb6 (i := 44) (by decide +kernel) rfl, cfX11, by decide +kernel, by decide⟩, gtb6 (i := 42) (by decide +kernel) rfl, gtb6 (i := 43) (by decide +kernel) rfl⟩
theorem fX11_appends : MFv mX11_appends 3 := ⟨⟨gtb6 (i := 56) (by decide +kernel) rfl, cfX11, by decide +kernel, by decide⟩, gtb6 (i := 55) (by decide +kernel) rfl, gtb0 (i := 43) (by decide +kernel) rfl⟩
theorem fX11_build : MFv mX11_build 3 := ⟨⟨gtb6 (i := 48) (by decide +kernel) rfl, cfX11, by decide +kernel, by decide⟩, gtb6 (i := 46) (by decide +kernel) rfl, gtb6 (i := 47) (by decide +kernel) rfl⟩
theorem fX11_merges : MFv mX11_merges 1 := ⟨⟨gtb6 (i := 52) (by decide +kernel) rfl, cfX11, by decide +kernel, by decide⟩, gtb6 (i := 51) (by decide +kernel) rfl, gtb0 (i := 42) (by decide +kernel) rfl⟩
theorem fX11_isMerger : MFv mX11_isMerger 2 := ⟨⟨gtb6 (i := 60) (by decide +kernel) rfl, cfX11, by decide +kernel, by decide⟩, gtb6 (i := 58) (by decide +kernel) rfl, gtb6 (i := 59) (by decide +kernel) rfl⟩
theorem fX11_collects : MFv mX11_collects 3 := ⟨⟨gtb6 (i := 68) (by decide +kernel) rfl, cfX11, by decide +kernel, by decide⟩, gtb6 (i := 67) (by decide +kernel) rfl, gtb0 (i := 44) (by decide +kernel) rfl⟩
theorem fX11_becomes : MFv mX11_becomes 3 := ⟨⟨gtb6 (i := 72) (by decide +kernel) rfl, cfX11, by decide +kernel, by decide⟩, gtb6 (i := 71) (by decide +kernel) rfl, gtb0 (i := 45) (by decide +kernel) rfl⟩
theorem fX11_concatenate : MFv mX11_concatenate 3 := ⟨⟨gtb6 (i := 64) (by decide +kernel) rfl, cfX11, by decide +kernel, by decide⟩, gtb6 (i := 62) (by decide +kernel) rfl, gtb6 (i := 63) (by decide +kernel) rfl⟩
theorem fX11_beside : MFv mX11_beside 3 := ⟨⟨gtb6 (i := 76) (by decide +kernel) rfl, cfX11, by decide +kernel, by decide⟩, gtb6 (i := 74) (by decide +kernel) rfl, gtb6 (i := 75) (by decide +kernel) rfl⟩
theorem fX11_isShelf : MFs mX11_isShelf 1 := ⟨⟨gtb6 (i := 83) (by decide +kernel) rfl, cfX11, by decide +kernel, by decide⟩, gtb6 (i := 82) (by decide +kernel) rfl⟩
theorem fX11_above : MFs mX11_above 1 := ⟨⟨gtb6 (i := 94) (by decide +kernel) rfl, cfX11, by decide +kernel, by decide⟩, gtb6 (i := 93) (by decide +kernel) rfl⟩
theorem fX11_place : MFv mX11_place 4 := ⟨⟨gtb6 (i := 80) (by decide +kernel) rfl, cfX11, by decide +kernel, by decide⟩, gtb6 (i := 78) (by decide +kernel) rfl, gtb6 (i := 79) (by decide +kernel) rfl⟩
theorem fX11_discard : MFv mX11_discard 1 := ⟨⟨gtb6 (i := 87) (by decide +kernel) rfl, cfX11, by decide +kernel, by decide⟩, gtb6 (i := 85) (by decide +kernel) rfl, gtb6 (i := 86) (by decide +kernel) rfl⟩
theorem fX11_castBlock : MFv mX11_castBlock 2 := ⟨⟨gtb6 (i := 91) (by decide +kernel) rfl, cfX11, by decide +kernel, by decide⟩, gtb6 (i := 89) (by decide +kernel) rfl, gtb6 (i := 90) (by decide +kernel) rfl⟩
theorem fX11_makes_ : MFv mX11_makes_ 2 := ⟨⟨gtb6 (i := 106) (by decide +kernel) rfl, cfX11, by decide +kernel, by decide⟩, gtb6 (i := 105) (by decide +kernel) rfl, gtb0 (i := 47) (by decide +kernel) rfl⟩
theorem fX11_makesLayer : MFv mX11_makesLayer 2 := ⟨⟨gtb6 (i := 110) (by decide +kernel) rfl, cfX11, by decide +kernel, by decide⟩, gtb6 (i := 109) (by decide +kernel) rfl, gtb0 (i := 48) (by decide +kernel) rfl⟩
theorem fX11_isMade : MFv mX11_isMade 2 := ⟨⟨gtb6 (i := 102) (by decide +kernel) rfl, cfX11, by decide +kernel, by decide⟩, gtb6 (i := 101) (by decide +kernel) rfl, gtb0 (i := 46) (by decide +kernel) rfl⟩
theorem fX11_blockSize : MFv mX11_blockSize 2 := ⟨⟨gtb6 (i := 98) (by decide +kernel) rfl, cfX11, by decide +kernel, by decide⟩, gtb6 (i := 96) (by decide +kernel) rfl, gtb6 (i := 97) (by decide +kernel) rfl⟩
theorem fX11_applyBlock : MFv mX11_applyBlock 2 := ⟨⟨gtb6 (i := 114) (by decide +kernel) rfl, cfX11, by decide +kernel, by decide⟩, gtb6 (i := 112) (by decide +kernel) rfl, gtb6 (i := 113) (by decide +kernel) rfl⟩
theorem fJ6_bitCount_0f7a4 : MFs mJ6_bitCount_0f7a4 1 := ⟨⟨gtb3 (i := 78) (by decide +kernel) rfl, cfJ6, by decide +kernel, by decide⟩, gtb3 (i := 77) (by decide +kernel) rfl⟩
theorem fJ13_bitCount_95d88 : MFs mJ13_bitCount_95d88 1 := ⟨⟨gtb3 (i := 59) (by decide +kernel) rfl, cfJ13, by decide +kernel, by decide⟩, gtb3 (i := 58) (by decide +kernel) rfl⟩
theorem fJ7_fill_53178 : MFs mJ7_fill_53178 2 := ⟨⟨gtb2 (i := 145) (by decide +kernel) rfl, cfJ7, by decide +kernel, by decide⟩, gtb2 (i := 144) (by decide +kernel) rfl⟩
theorem lL_9 : Cond.methodLink RL 9 yX10_init ∈ gtb := gtb1 (i := 20) (by decide +kernel) rfl
theorem gX3_9 : Cond.fieldLink RX3 9 "ComparatorNetworks$Network" "wireCount" "I" ∈ gtb := gtb1 (i := 33) (by decide +kernel) rfl
theorem gX9_26 : Cond.fieldLink RX9 26 "ComparatorNetworks$Network" "wireCount" "I" ∈ gtb := gtb1 (i := 34) (by decide +kernel) rfl
theorem gX10_108 : Cond.fieldLink RX10 108 "ComparatorNetworks$Network" "wireCount" "I" ∈ gtb := gtb1 (i := 35) (by decide +kernel) rfl
theorem gX7_31 : Cond.fieldLink RX7 31 "ComparatorNetworks$Network" "wireCount" "I" ∈ gtb := gtb1 (i := 36) (by decide +kernel) rfl
theorem gX0_47 : Cond.fieldLink RX0 47 "ComparatorNetworks$Network" "wireCount" "I" ∈ gtb := gtb1 (i := 37) (by decide +kernel) rfl
theorem gX6_31 : Cond.fieldLink RX6 31 "ComparatorNetworks$Network" "wireCount" "I" ∈ gtb := gtb1 (i := 38) (by decide +kernel) rfl
theorem gX3_15 : Cond.fieldLink RX3 15 "ComparatorNetworks$Network" "count" "I" ∈ gtb := gtb1 (i := 39) (by decide +kernel) rfl
theorem gX5_18 : Cond.fieldLink RX5 18 "ComparatorNetworks$Network" "count" "I" ∈ gtb := gtb1 (i := 40) (by decide +kernel) rfl
theorem gX10_101 : Cond.fieldLink RX10 101 "ComparatorNetworks$Network" "count" "I" ∈ gtb := gtb1 (i := 41) (by decide +kernel) rfl
theorem gX9_29 : Cond.fieldLink RX9 29 "ComparatorNetworks$Network" "count" "I" ∈ gtb := gtb1 (i := 42) (by decide +kernel) rfl
theorem gX7_38 : Cond.fieldLink RX7 38 "ComparatorNetworks$Network" "count" "I" ∈ gtb := gtb1 (i := 43) (by decide +kernel) rfl
theorem gX3_18 : Cond.fieldLink RX3 18 "ComparatorNetworks$Network" "first" "[I" ∈ gtb := gtb1 (i := 44) (by decide +kernel) rfl
theorem gX5_30 : Cond.fieldLink RX5 30 "ComparatorNetworks$Network" "first" "[I" ∈ gtb := gtb1 (i := 45) (by decide +kernel) rfl
theorem gX9_32 : Cond.fieldLink RX9 32 "ComparatorNetworks$Network" "first" "[I" ∈ gtb := gtb1 (i := 46) (by decide +kernel) rfl
theorem gX7_41 : Cond.fieldLink RX7 41 "ComparatorNetworks$Network" "first" "[I" ∈ gtb := gtb1 (i := 47) (by decide +kernel) rfl
theorem gX10_215 : Cond.fieldLink RX10 215 "ComparatorNetworks$Network" "first" "[I" ∈ gtb := gtb1 (i := 48) (by decide +kernel) rfl
theorem gX3_22 : Cond.fieldLink RX3 22 "ComparatorNetworks$Network" "second" "[I" ∈ gtb := gtb1 (i := 49) (by decide +kernel) rfl
theorem gX5_37 : Cond.fieldLink RX5 37 "ComparatorNetworks$Network" "second" "[I" ∈ gtb := gtb1 (i := 50) (by decide +kernel) rfl
theorem gX9_35 : Cond.fieldLink RX9 35 "ComparatorNetworks$Network" "second" "[I" ∈ gtb := gtb1 (i := 51) (by decide +kernel) rfl
theorem gX7_45 : Cond.fieldLink RX7 45 "ComparatorNetworks$Network" "second" "[I" ∈ gtb := gtb1 (i := 52) (by decide +kernel) rfl
theorem gX10_218 : Cond.fieldLink RX10 218 "ComparatorNetworks$Network" "second" "[I" ∈ gtb := gtb1 (i := 53) (by decide +kernel) rfl
theorem gX3_25 : Cond.fieldLink RX3 25 "ComparatorNetworks$Network" "layersPassed" "[I" ∈ gtb := gtb1 (i := 54) (by decide +kernel) rfl
theorem lX10_22 : Cond.methodLink RX10 22 yX2_init ∈ gtb := gtb1 (i := 69) (by decide +kernel) rfl
theorem gX2_11 : Cond.fieldLink RX2 11 "ComparatorNetworks$History" "before" "[LComparatorNetworks$Network;" ∈ gtb := gtb1 (i := 75) (by decide +kernel) rfl
theorem gX2_17 : Cond.fieldLink RX2 17 "ComparatorNetworks$History" "changed" "[I" ∈ gtb := gtb1 (i := 76) (by decide +kernel) rfl
theorem gX2_21 : Cond.fieldLink RX2 21 "ComparatorNetworks$History" "next" "I" ∈ gtb := gtb1 (i := 77) (by decide +kernel) rfl
theorem gX2_25 : Cond.fieldLink RX2 25 "ComparatorNetworks$History" "kept" "I" ∈ gtb := gtb1 (i := 78) (by decide +kernel) rfl
theorem gX8_9 : Cond.fieldLink RX8 9 "ComparatorNetworks$Text" "codes" "[I" ∈ gtb := gtb1 (i := 94) (by decide +kernel) rfl
theorem gX8_15 : Cond.fieldLink RX8 15 "ComparatorNetworks$Text" "length" "I" ∈ gtb := gtb1 (i := 95) (by decide +kernel) rfl
theorem gX9_9 : Cond.fieldLink RX9 9 "ComparatorNetworks$Trial" "happened" "Z" ∈ gtb := gtb1 (i := 107) (by decide +kernel) rfl
theorem gX10_150 : Cond.fieldLink RX10 150 "ComparatorNetworks$Trial" "happened" "Z" ∈ gtb := gtb1 (i := 108) (by decide +kernel) rfl
theorem gX9_15 : Cond.fieldLink RX9 15 "ComparatorNetworks$Trial" "wireCount" "I" ∈ gtb := gtb1 (i := 109) (by decide +kernel) rfl
theorem gX9_19 : Cond.fieldLink RX9 19 "ComparatorNetworks$Trial" "values" "[I" ∈ gtb := gtb1 (i := 110) (by decide +kernel) rfl
theorem gX10_157 : Cond.fieldLink RX10 157 "ComparatorNetworks$Trial" "values" "[I" ∈ gtb := gtb1 (i := 111) (by decide +kernel) rfl
theorem gX9_23 : Cond.fieldLink RX9 23 "ComparatorNetworks$Trial" "origins" "[I" ∈ gtb := gtb1 (i := 112) (by decide +kernel) rfl
theorem gX10_160 : Cond.fieldLink RX10 160 "ComparatorNetworks$Trial" "origins" "[I" ∈ gtb := gtb1 (i := 113) (by decide +kernel) rfl
theorem gX6_11 : Cond.fieldLink RX6 11 "ComparatorNetworks$Shelf" "kind" "I" ∈ gtb := gtb1 (i := 130) (by decide +kernel) rfl
theorem gX10_313 : Cond.fieldLink RX10 313 "ComparatorNetworks$Shelf" "kind" "I" ∈ gtb := gtb1 (i := 131) (by decide +kernel) rfl
theorem gX6_15 : Cond.fieldLink RX6 15 "ComparatorNetworks$Shelf" "a" "I" ∈ gtb := gtb1 (i := 132) (by decide +kernel) rfl
theorem gX6_18 : Cond.fieldLink RX6 18 "ComparatorNetworks$Shelf" "b" "I" ∈ gtb := gtb1 (i := 133) (by decide +kernel) rfl
theorem gX7_11 : Cond.fieldLink RX7 11 "ComparatorNetworks$Sweep" "lanes" "[J" ∈ gtb := gtb1 (i := 147) (by decide +kernel) rfl
theorem gX7_15 : Cond.fieldLink RX7 15 "ComparatorNetworks$Sweep" "wireCount" "I" ∈ gtb := gtb1 (i := 148) (by decide +kernel) rfl
theorem gX4_26 : Cond.fieldLink RX4 26 "ComparatorNetworks$Sweep" "wireCount" "I" ∈ gtb := gtb1 (i := 149) (by decide +kernel) rfl
theorem gX0_19 : Cond.fieldLink RX0 19 "ComparatorNetworks$Sweep" "wireCount" "I" ∈ gtb := gtb1 (i := 150) (by decide +kernel) rfl
theorem gX7_19 : Cond.fieldLink RX7 19 "ComparatorNetworks$Sweep" "words" "I" ∈ gtb := gtb1 (i := 151) (by decide +kernel) rfl
theorem gX4_9 : Cond.fieldLink RX4 9 "ComparatorNetworks$OutputSet" "has" "[Z" ∈ gtb := gtb1 (i := 166) (by decide +kernel) rfl
theorem gX5_57 : Cond.fieldLink RX5 57 "ComparatorNetworks$OutputSet" "has" "[Z" ∈ gtb := gtb1 (i := 167) (by decide +kernel) rfl
theorem gX4_15 : Cond.fieldLink RX4 15 "ComparatorNetworks$OutputSet" "members" "[I" ∈ gtb := gtb1 (i := 168) (by decide +kernel) rfl
theorem gX1_45 : Cond.fieldLink RX1 45 "ComparatorNetworks$OutputSet" "members" "[I" ∈ gtb := gtb1 (i := 169) (by decide +kernel) rfl
theorem gX5_54 : Cond.fieldLink RX5 54 "ComparatorNetworks$OutputSet" "members" "[I" ∈ gtb := gtb1 (i := 170) (by decide +kernel) rfl
theorem gX4_19 : Cond.fieldLink RX4 19 "ComparatorNetworks$OutputSet" "wireCount" "I" ∈ gtb := gtb1 (i := 171) (by decide +kernel) rfl
theorem gX1_31 : Cond.fieldLink RX1 31 "ComparatorNetworks$OutputSet" "wireCount" "I" ∈ gtb := gtb1 (i := 172) (by decide +kernel) rfl
theorem gX5_44 : Cond.fieldLink RX5 44 "ComparatorNetworks$OutputSet" "wireCount" "I" ∈ gtb := gtb1 (i := 173) (by decide +kernel) rfl
theorem gX4_23 : Cond.fieldLink RX4 23 "ComparatorNetworks$OutputSet" "count" "I" ∈ gtb := gtb1 (i := 174) (by decide +kernel) rfl
theorem gX5_53 : Cond.fieldLink RX5 53 "ComparatorNetworks$OutputSet" "count" "I" ∈ gtb := gtb1 (i := 175) (by decide +kernel) rfl
theorem gX1_44 : Cond.fieldLink RX1 44 "ComparatorNetworks$OutputSet" "count" "I" ∈ gtb := gtb1 (i := 176) (by decide +kernel) rfl
theorem gX10_175 : Cond.fieldLink RX10 175 "ComparatorNetworks$OutputSet" "count" "I" ∈ gtb := gtb1 (i := 177) (by decide +kernel) rfl
theorem gX1_9 : Cond.fieldLink RX1 9 "ComparatorNetworks$Extensions" "firstWire" "[I" ∈ gtb := gtb1 (i := 194) (by decide +kernel) rfl
theorem gX10_252 : Cond.fieldLink RX10 252 "ComparatorNetworks$Extensions" "firstWire" "[I" ∈ gtb := gtb1 (i := 195) (by decide +kernel) rfl
theorem gX1_15 : Cond.fieldLink RX1 15 "ComparatorNetworks$Extensions" "secondWire" "[I" ∈ gtb := gtb1 (i := 196) (by decide +kernel) rfl
theorem gX10_255 : Cond.fieldLink RX10 255 "ComparatorNetworks$Extensions" "secondWire" "[I" ∈ gtb := gtb1 (i := 197) (by decide +kernel) rfl
theorem gX1_18 : Cond.fieldLink RX1 18 "ComparatorNetworks$Extensions" "outputsThen" "[I" ∈ gtb := gtb1 (i := 198) (by decide +kernel) rfl
theorem gX1_21 : Cond.fieldLink RX1 21 "ComparatorNetworks$Extensions" "count" "I" ∈ gtb := gtb1 (i := 199) (by decide +kernel) rfl
theorem gX1_25 : Cond.fieldLink RX1 25 "ComparatorNetworks$Extensions" "unsorted" "[I" ∈ gtb := gtb1 (i := 200) (by decide +kernel) rfl
theorem gX1_28 : Cond.fieldLink RX1 28 "ComparatorNetworks$Extensions" "unsortedThen" "[I" ∈ gtb := gtb1 (i := 201) (by decide +kernel) rfl
theorem gX0_9 : Cond.fieldLink RX0 9 "ComparatorNetworks$Chains" "best" "[I" ∈ gtb := gtb1 (i := 221) (by decide +kernel) rfl
theorem gX0_15 : Cond.fieldLink RX0 15 "ComparatorNetworks$Chains" "exchanges" "[J" ∈ gtb := gtb1 (i := 222) (by decide +kernel) rfl
theorem gX5_9 : Cond.fieldLink RX5 9 "ComparatorNetworks$Renaming" "target" "[I" ∈ gtb := gtb1 (i := 234) (by decide +kernel) rfl
theorem gX5_15 : Cond.fieldLink RX5 15 "ComparatorNetworks$Renaming" "source" "[I" ∈ gtb := gtb1 (i := 235) (by decide +kernel) rfl
theorem gX10_11 : Cond.fieldLink RX10 11 "ComparatorNetworks" "networks" "[LComparatorNetworks$Network;" ∈ gtb := gtb2 (i := 1) (by decide +kernel) rfl
theorem gX10_16 : Cond.fieldLink RX10 16 "ComparatorNetworks" "spare" "LComparatorNetworks$Network;" ∈ gtb := gtb2 (i := 2) (by decide +kernel) rfl
theorem gX10_23 : Cond.fieldLink RX10 23 "ComparatorNetworks" "history" "LComparatorNetworks$History;" ∈ gtb := gtb2 (i := 3) (by decide +kernel) rfl
theorem gX10_30 : Cond.fieldLink RX10 30 "ComparatorNetworks" "text" "LComparatorNetworks$Text;" ∈ gtb := gtb2 (i := 4) (by decide +kernel) rfl
theorem gX10_34 : Cond.fieldLink RX10 34 "ComparatorNetworks" "keys" "[I" ∈ gtb := gtb2 (i := 5) (by decide +kernel) rfl
theorem gX10_41 : Cond.fieldLink RX10 41 "ComparatorNetworks" "trial" "LComparatorNetworks$Trial;" ∈ gtb := gtb2 (i := 6) (by decide +kernel) rfl
theorem gX10_47 : Cond.fieldLink RX10 47 "ComparatorNetworks" "shelves" "[LComparatorNetworks$Shelf;" ∈ gtb := gtb2 (i := 7) (by decide +kernel) rfl
theorem gX10_55 : Cond.fieldLink RX10 55 "ComparatorNetworks" "sweep" "LComparatorNetworks$Sweep;" ∈ gtb := gtb2 (i := 8) (by decide +kernel) rfl
theorem gX10_62 : Cond.fieldLink RX10 62 "ComparatorNetworks" "outputs" "LComparatorNetworks$OutputSet;" ∈ gtb := gtb2 (i := 9) (by decide +kernel) rfl
theorem gX10_66 : Cond.fieldLink RX10 66 "ComparatorNetworks" "otherOutputs" "LComparatorNetworks$OutputSet;" ∈ gtb := gtb2 (i := 10) (by decide +kernel) rfl
theorem gX10_72 : Cond.fieldLink RX10 72 "ComparatorNetworks" "extensions" "LComparatorNetworks$Extensions;" ∈ gtb := gtb2 (i := 11) (by decide +kernel) rfl
theorem gX10_79 : Cond.fieldLink RX10 79 "ComparatorNetworks" "chains" "LComparatorNetworks$Chains;" ∈ gtb := gtb2 (i := 12) (by decide +kernel) rfl
theorem gX10_86 : Cond.fieldLink RX10 86 "ComparatorNetworks" "renaming" "LComparatorNetworks$Renaming;" ∈ gtb := gtb2 (i := 13) (by decide +kernel) rfl
theorem lL_13 : Cond.methodLink RL 13 yX10_reset ∈ gtb := gtb2 (i := 41) (by decide +kernel) rfl
theorem lX10_90 : Cond.methodLink RX10 90 yX10_isNetwork ∈ gtb := gtb2 (i := 45) (by decide +kernel) rfl
theorem lX10_94 : Cond.methodLink RX10 94 yX10_isWireCount ∈ gtb := gtb2 (i := 48) (by decide +kernel) rfl
theorem lX10_97 : Cond.methodLink RX10 97 yX10_remember ∈ gtb := gtb2 (i := 51) (by decide +kernel) rfl
theorem lX10_329 : Cond.methodLink RX10 329 yX2_keep ∈ gtb := gtb2 (i := 55) (by decide +kernel) rfl
theorem lX2_29 : Cond.methodLink RX2 29 yX3_takeOver ∈ gtb := gtb2 (i := 59) (by decide +kernel) rfl
theorem lX2_33 : Cond.methodLink RX2 33 yJ9_min_7cf53 ∈ gtb := gtb2 (i := 66) (by decide +kernel) rfl
theorem lX10_105 : Cond.methodLink RX10 105 yX3_restart ∈ gtb := gtb2 (i := 69) (by decide +kernel) rfl
theorem lL_18 : Cond.methodLink RL 18 yX10_wires ∈ gtb := gtb2 (i := 73) (by decide +kernel) rfl
theorem lL_23 : Cond.methodLink RL 23 yX10_size ∈ gtb := gtb2 (i := 77) (by decide +kernel) rfl
theorem lL_27 : Cond.methodLink RL 27 yX10_comparator ∈ gtb := gtb2 (i := 81) (by decide +kernel) rfl
theorem lX10_111 : Cond.methodLink RX10 111 yX10_isPosition ∈ gtb := gtb2 (i := 85) (by decide +kernel) rfl
theorem lX10_326 : Cond.methodLink RX10 326 yX3_hasPosition ∈ gtb := gtb2 (i := 89) (by decide +kernel) rfl
theorem lX10_115 : Cond.methodLink RX10 115 yX3_codeAt ∈ gtb := gtb2 (i := 93) (by decide +kernel) rfl
theorem lX3_34 : Cond.methodLink RX3 34 yX3_hasPosition ∈ gtb := gtb2 (i := 97) (by decide +kernel) rfl
theorem lL_31 : Cond.methodLink RL 31 yX10_add ∈ gtb := gtb2 (i := 98) (by decide +kernel) rfl
theorem lX10_119 : Cond.methodLink RX10 119 yX10_pushInto ∈ gtb := gtb2 (i := 102) (by decide +kernel) rfl
theorem lX10_333 : Cond.methodLink RX10 333 yX3_refusal ∈ gtb := gtb2 (i := 106) (by decide +kernel) rfl
theorem lX3_38 : Cond.methodLink RX3 38 yX3_hasWire ∈ gtb := gtb2 (i := 110) (by decide +kernel) rfl
theorem lX10_337 : Cond.methodLink RX10 337 yX3_pushAt ∈ gtb := gtb2 (i := 114) (by decide +kernel) rfl
theorem lX3_41 : Cond.methodLink RX3 41 yX3_refusal ∈ gtb := gtb2 (i := 118) (by decide +kernel) rfl
theorem lL_36 : Cond.methodLink RL 36 yX10_insert ∈ gtb := gtb2 (i := 119) (by decide +kernel) rfl
theorem lL_41 : Cond.methodLink RL 41 yX10_remove ∈ gtb := gtb2 (i := 123) (by decide +kernel) rfl
theorem lX10_123 : Cond.methodLink RX10 123 yX3_drop ∈ gtb := gtb2 (i := 127) (by decide +kernel) rfl
theorem lL_45 : Cond.methodLink RL 45 yX10_layer ∈ gtb := gtb2 (i := 131) (by decide +kernel) rfl
theorem lX10_126 : Cond.methodLink RX10 126 yX3_levelAt ∈ gtb := gtb2 (i := 135) (by decide +kernel) rfl
theorem lX3_49 : Cond.methodLink RX3 49 yX3_passLayers ∈ gtb := gtb2 (i := 139) (by decide +kernel) rfl
theorem lX3_58 : Cond.methodLink RX3 58 yJ7_fill_53178 ∈ gtb := gtb2 (i := 143) (by decide +kernel) rfl
theorem lX3_53 : Cond.methodLink RX3 53 yJ9_max_7cf53 ∈ gtb := gtb2 (i := 146) (by decide +kernel) rfl
theorem lL_49 : Cond.methodLink RL 49 yX10_depth ∈ gtb := gtb2 (i := 149) (by decide +kernel) rfl
theorem lX10_129 : Cond.methodLink RX10 129 yX3_levels ∈ gtb := gtb2 (i := 153) (by decide +kernel) rfl
theorem lL_53 : Cond.methodLink RL 53 yX10_append ∈ gtb := gtb2 (i := 157) (by decide +kernel) rfl
theorem lX10_133 : Cond.methodLink RX10 133 yX8_put ∈ gtb := gtb2 (i := 161) (by decide +kernel) rfl
theorem lL_57 : Cond.methodLink RL 57 yX10_clearText ∈ gtb := gtb2 (i := 165) (by decide +kernel) rfl
theorem lX10_136 : Cond.methodLink RX10 136 yX8_empty ∈ gtb := gtb2 (i := 169) (by decide +kernel) rfl
theorem lL_62 : Cond.methodLink RL 62 yX10_parse ∈ gtb := gtb2 (i := 173) (by decide +kernel) rfl
theorem lX10_139 : Cond.methodLink RX10 139 yX8_readInto ∈ gtb := gtb2 (i := 177) (by decide +kernel) rfl
theorem lX8_19 : Cond.methodLink RX8 19 yX8_canContinue ∈ gtb := gtb2 (i := 181) (by decide +kernel) rfl
theorem lX8_29 : Cond.methodLink RX8 29 yX3_hasWire ∈ gtb := gtb2 (i := 184) (by decide +kernel) rfl
theorem lX8_23 : Cond.methodLink RX8 23 yX3_push ∈ gtb := gtb2 (i := 185) (by decide +kernel) rfl
theorem lX10_143 : Cond.methodLink RX10 143 yX10_replaceBySpare ∈ gtb := gtb2 (i := 189) (by decide +kernel) rfl
theorem lX10_231 : Cond.methodLink RX10 231 yX3_takeOver ∈ gtb := gtb2 (i := 193) (by decide +kernel) rfl
theorem lL_66 : Cond.methodLink RL 66 yX10_setKey ∈ gtb := gtb2 (i := 194) (by decide +kernel) rfl
theorem lL_70 : Cond.methodLink RL 70 yX10_run ∈ gtb := gtb2 (i := 198) (by decide +kernel) rfl
theorem lX10_146 : Cond.methodLink RX10 146 yX9_perform ∈ gtb := gtb2 (i := 202) (by decide +kernel) rfl
theorem lX9_38 : Cond.methodLink RX9 38 yX9_swap ∈ gtb := gtb2 (i := 206) (by decide +kernel) rfl
theorem lL_74 : Cond.methodLink RL 74 yX10_result ∈ gtb := gtb2 (i := 209) (by decide +kernel) rfl
theorem lX10_154 : Cond.methodLink RX10 154 yX9_hadWire ∈ gtb := gtb2 (i := 213) (by decide +kernel) rfl
theorem lL_78 : Cond.methodLink RL 78 yX10_origin ∈ gtb := gtb2 (i := 217) (by decide +kernel) rfl
theorem lL_82 : Cond.methodLink RL 82 yX10_isStable ∈ gtb := gtb2 (i := 221) (by decide +kernel) rfl
theorem lX10_163 : Cond.methodLink RX10 163 yX9_keptOrder ∈ gtb := gtb2 (i := 225) (by decide +kernel) rfl
theorem lX10_167 : Cond.methodLink RX10 167 yX10_oneIf ∈ gtb := gtb2 (i := 229) (by decide +kernel) rfl
theorem lL_86 : Cond.methodLink RL 86 yX10_outputCount ∈ gtb := gtb2 (i := 232) (by decide +kernel) rfl
theorem lX10_171 : Cond.methodLink RX10 171 yX10_gatherOutputs ∈ gtb := gtb2 (i := 236) (by decide +kernel) rfl
theorem lX10_183 : Cond.methodLink RX10 183 yX7_passAll ∈ gtb := gtb3 (i := 0) (by decide +kernel) rfl
theorem lX7_34 : Cond.methodLink RX7 34 yX7_start ∈ gtb := gtb3 (i := 4) (by decide +kernel) rfl
theorem lX7_22 : Cond.methodLink RX7 22 yX7_inputLane ∈ gtb := gtb3 (i := 8) (by decide +kernel) rfl
theorem gX7_26 : Cond.fieldLink RX7 26 "ComparatorNetworks$Sweep" "WORD_LANES" "[J" ∈ gtb := gtb3 (i := 11) (by decide +kernel) rfl
theorem lX7_48 : Cond.methodLink RX7 48 yX7_pass ∈ gtb := gtb3 (i := 14) (by decide +kernel) rfl
theorem lX10_340 : Cond.methodLink RX10 340 yX4_gather ∈ gtb := gtb3 (i := 18) (by decide +kernel) rfl
theorem lX4_29 : Cond.methodLink RX4 29 yX7_outputFor ∈ gtb := gtb3 (i := 22) (by decide +kernel) rfl
theorem lX7_62 : Cond.methodLink RX7 62 yX7_valueAt ∈ gtb := gtb3 (i := 26) (by decide +kernel) rfl
theorem lL_90 : Cond.methodLink RL 90 yX10_outputOf ∈ gtb := gtb3 (i := 30) (by decide +kernel) rfl
theorem lX10_176 : Cond.methodLink RX10 176 yX3_carry ∈ gtb := gtb3 (i := 34) (by decide +kernel) rfl
theorem lL_94 : Cond.methodLink RL 94 yX10_isSorter ∈ gtb := gtb3 (i := 41) (by decide +kernel) rfl
theorem lX10_179 : Cond.methodLink RX10 179 yX10_sorts ∈ gtb := gtb3 (i := 45) (by decide +kernel) rfl
theorem lX10_187 : Cond.methodLink RX10 187 yX7_lowestFailure ∈ gtb := gtb3 (i := 49) (by decide +kernel) rfl
theorem lX7_52 : Cond.methodLink RX7 52 yX7_failures ∈ gtb := gtb3 (i := 53) (by decide +kernel) rfl
theorem lX7_56 : Cond.methodLink RX7 56 yJ13_bitCount_95d88 ∈ gtb := gtb3 (i := 57) (by decide +kernel) rfl
theorem lL_98 : Cond.methodLink RL 98 yX10_firstFailure ∈ gtb := gtb3 (i := 63) (by decide +kernel) rfl
theorem lL_102 : Cond.methodLink RL 102 yX10_isSelector ∈ gtb := gtb3 (i := 67) (by decide +kernel) rfl
theorem lX10_190 : Cond.methodLink RX10 190 yX3_hasWire ∈ gtb := gtb3 (i := 71) (by decide +kernel) rfl
theorem lX10_193 : Cond.methodLink RX10 193 yX7_selects ∈ gtb := gtb3 (i := 72) (by decide +kernel) rfl
theorem lX7_66 : Cond.methodLink RX7 66 yJ6_bitCount_0f7a4 ∈ gtb := gtb3 (i := 76) (by decide +kernel) rfl
theorem lL_106 : Cond.methodLink RL 106 yX10_countSorted ∈ gtb := gtb3 (i := 83) (by decide +kernel) rfl
theorem lX10_196 : Cond.methodLink RX10 196 yX0_countWithoutFailure ∈ gtb := gtb3 (i := 87) (by decide +kernel) rfl
theorem lX0_25 : Cond.methodLink RX0 25 yX7_outputFor ∈ gtb := gtb3 (i := 91) (by decide +kernel) rfl
theorem lL_110 : Cond.methodLink RL 110 yX10_firstUnsorted ∈ gtb := gtb3 (i := 95) (by decide +kernel) rfl
theorem lX10_200 : Cond.methodLink RX10 200 yX0_leastWithFailure ∈ gtb := gtb3 (i := 99) (by decide +kernel) rfl
theorem lX0_33 : Cond.methodLink RX0 33 yX0_leastThrough ∈ gtb := gtb3 (i := 103) (by decide +kernel) rfl
theorem lX0_42 : Cond.methodLink RX0 42 yJ6_bitCount_0f7a4 ∈ gtb := gtb3 (i := 106) (by decide +kernel) rfl
theorem lX0_37 : Cond.methodLink RX0 37 yJ9_min_7cf53 ∈ gtb := gtb3 (i := 107) (by decide +kernel) rfl
theorem lL_114 : Cond.methodLink RL 114 yX10_totalExchanges ∈ gtb := gtb3 (i := 108) (by decide +kernel) rfl
theorem lX10_203 : Cond.methodLink RX10 203 yX0_allExchanges ∈ gtb := gtb3 (i := 112) (by decide +kernel) rfl
theorem lX0_61 : Cond.methodLink RX0 61 yX0_noteExchanges ∈ gtb := gtb3 (i := 116) (by decide +kernel) rfl
theorem lX0_50 : Cond.methodLink RX0 50 yX3_exchangesFor ∈ gtb := gtb3 (i := 120) (by decide +kernel) rfl
theorem gX0_65 : Cond.fieldLink RX0 65 "ComparatorNetworks$Chains" "FACTORIALS" "[I" ∈ gtb := gtb3 (i := 124) (by decide +kernel) rfl
theorem lX0_68 : Cond.methodLink RX0 68 yX0_begun ∈ gtb := gtb3 (i := 126) (by decide +kernel) rfl
theorem lX0_56 : Cond.methodLink RX0 56 yJ13_bitCount_95d88 ∈ gtb := gtb3 (i := 131) (by decide +kernel) rfl
theorem lL_119 : Cond.methodLink RL 119 yX10_mostExchanges ∈ gtb := gtb3 (i := 133) (by decide +kernel) rfl
theorem lX10_209 : Cond.methodLink RX10 209 yX0_greatestExchanges ∈ gtb := gtb3 (i := 137) (by decide +kernel) rfl
theorem lX0_71 : Cond.methodLink RX0 71 yJ9_max_7cf53 ∈ gtb := gtb3 (i := 141) (by decide +kernel) rfl
theorem lL_123 : Cond.methodLink RL 123 yX10_isRedundant ∈ gtb := gtb3 (i := 142) (by decide +kernel) rfl
theorem lX10_212 : Cond.methodLink RX10 212 yX7_start ∈ gtb := gtb3 (i := 146) (by decide +kernel) rfl
theorem lX10_221 : Cond.methodLink RX10 221 yX7_pass ∈ gtb := gtb3 (i := 147) (by decide +kernel) rfl
theorem lX10_225 : Cond.methodLink RX10 225 yX7_exchanges ∈ gtb := gtb3 (i := 148) (by decide +kernel) rfl
theorem lL_127 : Cond.methodLink RL 127 yX10_prune ∈ gtb := gtb3 (i := 152) (by decide +kernel) rfl
theorem lX10_228 : Cond.methodLink RX10 228 yX3_push ∈ gtb := gtb3 (i := 156) (by decide +kernel) rfl
theorem lL_131 : Cond.methodLink RL 131 yX10_reduce ∈ gtb := gtb3 (i := 157) (by decide +kernel) rfl
theorem lX10_235 : Cond.methodLink RX10 235 yX10_lastNeedless ∈ gtb := gtb3 (i := 161) (by decide +kernel) rfl
theorem lL_135 : Cond.methodLink RL 135 yX10_standardize ∈ gtb := gtb3 (i := 165) (by decide +kernel) rfl
theorem lX10_238 : Cond.methodLink RX10 238 yX3_turnAll ∈ gtb := gtb3 (i := 169) (by decide +kernel) rfl
theorem lX3_68 : Cond.methodLink RX3 68 yX3_swapWiresBehind ∈ gtb := gtb3 (i := 173) (by decide +kernel) rfl
theorem lX3_72 : Cond.methodLink RX3 72 yX3_swapped ∈ gtb := gtb3 (i := 177) (by decide +kernel) rfl
theorem lL_139 : Cond.methodLink RL 139 yX10_mirror ∈ gtb := gtb3 (i := 180) (by decide +kernel) rfl
theorem lX10_241 : Cond.methodLink RX10 241 yX3_reflect ∈ gtb := gtb3 (i := 184) (by decide +kernel) rfl
theorem lL_143 : Cond.methodLink RL 143 yX10_candidate ∈ gtb := gtb3 (i := 188) (by decide +kernel) rfl
theorem lX10_244 : Cond.methodLink RX10 244 yX1_rankAll ∈ gtb := gtb3 (i := 192) (by decide +kernel) rfl
theorem lX1_36 : Cond.methodLink RX1 36 yX4_countAfter ∈ gtb := gtb3 (i := 196) (by decide +kernel) rfl
theorem lX1_40 : Cond.methodLink RX1 40 yX1_rankOne ∈ gtb := gtb3 (i := 201) (by decide +kernel) rfl
theorem lX10_248 : Cond.methodLink RX10 248 yX1_codeAt ∈ gtb := gtb3 (i := 205) (by decide +kernel) rfl
theorem lX10_249 : Cond.methodLink RX10 249 yX1_outputsAt ∈ gtb := gtb3 (i := 209) (by decide +kernel) rfl
theorem lL_147 : Cond.methodLink RL 147 yX10_grow ∈ gtb := gtb3 (i := 213) (by decide +kernel) rfl
theorem lL_151 : Cond.methodLink RL 151 yX10_missing ∈ gtb := gtb3 (i := 217) (by decide +kernel) rfl
theorem lX10_258 : Cond.methodLink RX10 258 yX1_leastToSort ∈ gtb := gtb3 (i := 221) (by decide +kernel) rfl
theorem lX1_52 : Cond.methodLink RX1 52 yX1_oneSorts ∈ gtb := gtb3 (i := 226) (by decide +kernel) rfl
theorem lX1_59 : Cond.methodLink RX1 59 yX1_pairSorts ∈ gtb := gtb3 (i := 229) (by decide +kernel) rfl
theorem lX1_56 : Cond.methodLink RX1 56 yX1_twoSort ∈ gtb := gtb3 (i := 233) (by decide +kernel) rfl
theorem lX1_67 : Cond.methodLink RX1 67 yX1_keepUnsorted ∈ gtb := gtb3 (i := 237) (by decide +kernel) rfl
theorem lL_155 : Cond.methodLink RL 155 yX10_sameOutputs ∈ gtb := gtb4 (i := 1) (by decide +kernel) rfl
theorem lX10_262 : Cond.methodLink RX10 262 yX4_equalTo ∈ gtb := gtb4 (i := 5) (by decide +kernel) rfl
theorem lL_159 : Cond.methodLink RL 159 yX10_isIsomorphic ∈ gtb := gtb4 (i := 9) (by decide +kernel) rfl
theorem lX10_266 : Cond.methodLink RX10 266 yX5_makes ∈ gtb := gtb4 (i := 13) (by decide +kernel) rfl
theorem lX5_24 : Cond.methodLink RX5 24 yJ7_fill_53178 ∈ gtb := gtb4 (i := 17) (by decide +kernel) rfl
theorem lX5_33 : Cond.methodLink RX5 33 yX5_link ∈ gtb := gtb4 (i := 18) (by decide +kernel) rfl
theorem lL_163 : Cond.methodLink RL 163 yX10_subsumes ∈ gtb := gtb4 (i := 22) (by decide +kernel) rfl
theorem lX10_270 : Cond.methodLink RX10 270 yX5_putsInto ∈ gtb := gtb4 (i := 26) (by decide +kernel) rfl
theorem lX5_40 : Cond.methodLink RX5 40 yX5_search ∈ gtb := gtb4 (i := 30) (by decide +kernel) rfl
theorem lX5_49 : Cond.methodLink RX5 49 yX5_movesInto ∈ gtb := gtb4 (i := 33) (by decide +kernel) rfl
theorem lL_167 : Cond.methodLink RL 167 yX10_build ∈ gtb := gtb4 (i := 36) (by decide +kernel) rfl
theorem lX10_274 : Cond.methodLink RX10 274 yX10_pushInsertion ∈ gtb := gtb4 (i := 40) (by decide +kernel) rfl
theorem lX10_277 : Cond.methodLink RX10 277 yX10_pushBubbles ∈ gtb := gtb4 (i := 43) (by decide +kernel) rfl
theorem lX10_280 : Cond.methodLink RX10 280 yX10_pushTransposition ∈ gtb := gtb4 (i := 46) (by decide +kernel) rfl
theorem lX10_344 : Cond.methodLink RX10 344 yX3_pushNeighbours ∈ gtb := gtb4 (i := 49) (by decide +kernel) rfl
theorem lX3_45 : Cond.methodLink RX3 45 yX3_push ∈ gtb := gtb4 (i := 53) (by decide +kernel) rfl
theorem lX10_283 : Cond.methodLink RX10 283 yX10_pushMergeExchange ∈ gtb := gtb4 (i := 54) (by decide +kernel) rfl
theorem lX10_347 : Cond.methodLink RX10 347 yX10_pushApart ∈ gtb := gtb4 (i := 57) (by decide +kernel) rfl
theorem lL_171 : Cond.methodLink RL 171 yX10_isMerger ∈ gtb := gtb4 (i := 60) (by decide +kernel) rfl
theorem lX10_286 : Cond.methodLink RX10 286 yX10_merges ∈ gtb := gtb4 (i := 64) (by decide +kernel) rfl
theorem lX10_351 : Cond.methodLink RX10 351 yX10_sortedBits ∈ gtb := gtb4 (i := 67) (by decide +kernel) rfl
theorem lX10_354 : Cond.methodLink RX10 354 yX10_isSorted ∈ gtb := gtb4 (i := 70) (by decide +kernel) rfl
theorem lL_175 : Cond.methodLink RL 175 yX10_concatenate ∈ gtb := gtb4 (i := 71) (by decide +kernel) rfl
theorem lX10_289 : Cond.methodLink RX10 289 yX3_pushAll ∈ gtb := gtb4 (i := 75) (by decide +kernel) rfl
theorem lL_179 : Cond.methodLink RL 179 yX10_beside ∈ gtb := gtb4 (i := 79) (by decide +kernel) rfl
theorem lL_183 : Cond.methodLink RL 183 yX10_undo ∈ gtb := gtb4 (i := 83) (by decide +kernel) rfl
theorem lX10_292 : Cond.methodLink RX10 292 yX2_takeBack ∈ gtb := gtb4 (i := 87) (by decide +kernel) rfl
theorem lL_187 : Cond.methodLink RL 187 yX10_place ∈ gtb := gtb4 (i := 91) (by decide +kernel) rfl
theorem lX10_296 : Cond.methodLink RX10 296 yX10_isShelf ∈ gtb := gtb4 (i := 95) (by decide +kernel) rfl
theorem lX10_299 : Cond.methodLink RX10 299 yX6_allows ∈ gtb := gtb4 (i := 98) (by decide +kernel) rfl
theorem lX10_303 : Cond.methodLink RX10 303 yX6_hold ∈ gtb := gtb4 (i := 101) (by decide +kernel) rfl
theorem lX10_307 : Cond.methodLink RX10 307 yX10_countBlocks ∈ gtb := gtb4 (i := 105) (by decide +kernel) rfl
theorem lX10_310 : Cond.methodLink RX10 310 yX6_isTaken ∈ gtb := gtb4 (i := 109) (by decide +kernel) rfl
theorem lL_191 : Cond.methodLink RL 191 yX10_discard ∈ gtb := gtb4 (i := 113) (by decide +kernel) rfl
theorem lX10_316 : Cond.methodLink RX10 316 yX6_release ∈ gtb := gtb4 (i := 117) (by decide +kernel) rfl
theorem lL_195 : Cond.methodLink RL 195 yX10_castBlock ∈ gtb := gtb4 (i := 121) (by decide +kernel) rfl
theorem lX10_319 : Cond.methodLink RX10 319 yX6_isOfKind ∈ gtb := gtb4 (i := 125) (by decide +kernel) rfl
theorem gX6_21 : Cond.fieldLink RX6 21 "ComparatorNetworks$Shelf" "PARENTS" "[I" ∈ gtb := gtb4 (i := 129) (by decide +kernel) rfl
theorem lL_199 : Cond.methodLink RL 199 yX10_blockSize ∈ gtb := gtb4 (i := 131) (by decide +kernel) rfl
theorem lX10_322 : Cond.methodLink RX10 322 yX10_unfold ∈ gtb := gtb4 (i := 135) (by decide +kernel) rfl
theorem lX10_357 : Cond.methodLink RX10 357 yX6_fits ∈ gtb := gtb4 (i := 139) (by decide +kernel) rfl
theorem lX10_360 : Cond.methodLink RX10 360 yX6_pushOnto ∈ gtb := gtb4 (i := 143) (by decide +kernel) rfl
theorem lX6_25 : Cond.methodLink RX6 25 yX3_push ∈ gtb := gtb4 (i := 147) (by decide +kernel) rfl
theorem lX6_34 : Cond.methodLink RX6 34 yX3_pushNeighbours ∈ gtb := gtb4 (i := 148) (by decide +kernel) rfl
theorem lX6_38 : Cond.methodLink RX6 38 yX6_pushRepeated ∈ gtb := gtb4 (i := 149) (by decide +kernel) rfl
theorem lL_203 : Cond.methodLink RL 203 yX10_applyBlock ∈ gtb := gtb4 (i := 153) (by decide +kernel) rfl
theorem lL_12 : Cond.methodLink RL 12 yX11_init ∈ gtb := gtb4 (i := 159) (by decide +kernel) rfl
theorem gX11_9 : Cond.fieldLink RX11 9 "ComparatorNetworksModel" "n" "[I" ∈ gtb := gtb4 (i := 163) (by decide +kernel) rfl
theorem gX11_13 : Cond.fieldLink RX11 13 "ComparatorNetworksModel" "size" "[I" ∈ gtb := gtb4 (i := 164) (by decide +kernel) rfl
theorem gX11_16 : Cond.fieldLink RX11 16 "ComparatorNetworksModel" "from" "[I" ∈ gtb := gtb4 (i := 165) (by decide +kernel) rfl
theorem gX11_19 : Cond.fieldLink RX11 19 "ComparatorNetworksModel" "to" "[I" ∈ gtb := gtb4 (i := 166) (by decide +kernel) rfl
theorem gX11_22 : Cond.fieldLink RX11 22 "ComparatorNetworksModel" "keys" "[I" ∈ gtb := gtb4 (i := 167) (by decide +kernel) rfl
theorem gX11_25 : Cond.fieldLink RX11 25 "ComparatorNetworksModel" "value" "[I" ∈ gtb := gtb4 (i := 168) (by decide +kernel) rfl
theorem gX11_28 : Cond.fieldLink RX11 28 "ComparatorNetworksModel" "origin" "[I" ∈ gtb := gtb4 (i := 169) (by decide +kernel) rfl
theorem gX11_146 : Cond.fieldLink RX11 146 "ComparatorNetworksModel" "runN" "I" ∈ gtb := gtb4 (i := 170) (by decide +kernel) rfl
theorem gX11_31 : Cond.fieldLink RX11 31 "ComparatorNetworksModel" "text" "[I" ∈ gtb := gtb4 (i := 171) (by decide +kernel) rfl
theorem gX11_122 : Cond.fieldLink RX11 122 "ComparatorNetworksModel" "textN" "I" ∈ gtb := gtb4 (i := 172) (by decide +kernel) rfl
theorem gX11_34 : Cond.fieldLink RX11 34 "ComparatorNetworksModel" "kept" "[I" ∈ gtb := gtb4 (i := 173) (by decide +kernel) rfl
theorem gX11_84 : Cond.fieldLink RX11 84 "ComparatorNetworksModel" "changes" "I" ∈ gtb := gtb4 (i := 174) (by decide +kernel) rfl
theorem gX11_37 : Cond.fieldLink RX11 37 "ComparatorNetworksModel" "kind" "[I" ∈ gtb := gtb4 (i := 175) (by decide +kernel) rfl
theorem gX11_40 : Cond.fieldLink RX11 40 "ComparatorNetworksModel" "blockA" "[I" ∈ gtb := gtb4 (i := 176) (by decide +kernel) rfl
theorem gX11_43 : Cond.fieldLink RX11 43 "ComparatorNetworksModel" "blockB" "[I" ∈ gtb := gtb4 (i := 177) (by decide +kernel) rfl
theorem gX11_46 : Cond.fieldLink RX11 46 "ComparatorNetworksModel" "layers" "[I" ∈ gtb := gtb4 (i := 178) (by decide +kernel) rfl
theorem gX11_49 : Cond.fieldLink RX11 49 "ComparatorNetworksModel" "readFrom" "[I" ∈ gtb := gtb4 (i := 179) (by decide +kernel) rfl
theorem gX11_52 : Cond.fieldLink RX11 52 "ComparatorNetworksModel" "readTo" "[I" ∈ gtb := gtb4 (i := 180) (by decide +kernel) rfl
theorem gX11_125 : Cond.fieldLink RX11 125 "ComparatorNetworksModel" "at" "I" ∈ gtb := gtb4 (i := 181) (by decide +kernel) rfl
theorem gX11_136 : Cond.fieldLink RX11 136 "ComparatorNetworksModel" "used" "I" ∈ gtb := gtb4 (i := 182) (by decide +kernel) rfl
theorem gX11_132 : Cond.fieldLink RX11 132 "ComparatorNetworksModel" "isFaulty" "Z" ∈ gtb := gtb4 (i := 183) (by decide +kernel) rfl
theorem gX11_55 : Cond.fieldLink RX11 55 "ComparatorNetworksModel" "out" "[Z" ∈ gtb := gtb4 (i := 184) (by decide +kernel) rfl
theorem gX11_59 : Cond.fieldLink RX11 59 "ComparatorNetworksModel" "other" "[Z" ∈ gtb := gtb4 (i := 185) (by decide +kernel) rfl
theorem gX11_62 : Cond.fieldLink RX11 62 "ComparatorNetworksModel" "perm" "[I" ∈ gtb := gtb4 (i := 186) (by decide +kernel) rfl
theorem gX11_65 : Cond.fieldLink RX11 65 "ComparatorNetworksModel" "carried" "[I" ∈ gtb := gtb4 (i := 187) (by decide +kernel) rfl
theorem gX11_168 : Cond.fieldLink RX11 168 "ComparatorNetworksModel" "sorted" "I" ∈ gtb := gtb4 (i := 188) (by decide +kernel) rfl
theorem gX11_171 : Cond.fieldLink RX11 171 "ComparatorNetworksModel" "firstBad" "I" ∈ gtb := gtb4 (i := 189) (by decide +kernel) rfl
theorem gX11_174 : Cond.fieldLink RX11 174 "ComparatorNetworksModel" "mostAtOnce" "I" ∈ gtb := gtb4 (i := 190) (by decide +kernel) rfl
theorem gX11_177 : Cond.fieldLink RX11 177 "ComparatorNetworksModel" "exchanged" "J" ∈ gtb := gtb4 (i := 191) (by decide +kernel) rfl
theorem gX11_68 : Cond.fieldLink RX11 68 "ComparatorNetworksModel" "listed" "[I" ∈ gtb := gtb4 (i := 192) (by decide +kernel) rfl
theorem gX11_71 : Cond.fieldLink RX11 71 "ComparatorNetworksModel" "begun" "[Z" ∈ gtb := gtb4 (i := 193) (by decide +kernel) rfl
theorem gX11_74 : Cond.fieldLink RX11 74 "ComparatorNetworksModel" "madeFrom" "[I" ∈ gtb := gtb4 (i := 194) (by decide +kernel) rfl
theorem gX11_77 : Cond.fieldLink RX11 77 "ComparatorNetworksModel" "madeTo" "[I" ∈ gtb := gtb4 (i := 195) (by decide +kernel) rfl
theorem gX11_233 : Cond.fieldLink RX11 233 "ComparatorNetworksModel" "made" "I" ∈ gtb := gtb4 (i := 196) (by decide +kernel) rfl
theorem lL_186 : Cond.methodLink RL 186 yX11_undo ∈ gtb := gtb5 (i := 26) (by decide +kernel) rfl
theorem lL_17 : Cond.methodLink RL 17 yX11_reset ∈ gtb := gtb5 (i := 30) (by decide +kernel) rfl
theorem lX11_88 : Cond.methodLink RX11 88 yX11_isNet ∈ gtb := gtb5 (i := 34) (by decide +kernel) rfl
theorem lX11_80 : Cond.methodLink RX11 80 yX11_isIn ∈ gtb := gtb5 (i := 37) (by decide +kernel) rfl
theorem lX11_92 : Cond.methodLink RX11 92 yX11_remembers ∈ gtb := gtb5 (i := 40) (by decide +kernel) rfl
theorem lL_22 : Cond.methodLink RL 22 yX11_wires ∈ gtb := gtb5 (i := 44) (by decide +kernel) rfl
theorem lL_26 : Cond.methodLink RL 26 yX11_size ∈ gtb := gtb5 (i := 48) (by decide +kernel) rfl
theorem lL_30 : Cond.methodLink RL 30 yX11_comparator ∈ gtb := gtb5 (i := 52) (by decide +kernel) rfl
theorem lX11_95 : Cond.methodLink RX11 95 yX11_isPosition ∈ gtb := gtb5 (i := 56) (by decide +kernel) rfl
theorem lL_35 : Cond.methodLink RL 35 yX11_add ∈ gtb := gtb5 (i := 60) (by decide +kernel) rfl
theorem lX11_99 : Cond.methodLink RX11 99 yX11_insert ∈ gtb := gtb5 (i := 64) (by decide +kernel) rfl
theorem lX11_103 : Cond.methodLink RX11 103 yX11_isWire ∈ gtb := gtb5 (i := 68) (by decide +kernel) rfl
theorem lX11_106 : Cond.methodLink RX11 106 yX11_puts ∈ gtb := gtb5 (i := 72) (by decide +kernel) rfl
theorem lL_40 : Cond.methodLink RL 40 yX11_insert ∈ gtb := gtb5 (i := 76) (by decide +kernel) rfl
theorem lL_44 : Cond.methodLink RL 44 yX11_remove ∈ gtb := gtb5 (i := 77) (by decide +kernel) rfl
theorem lX11_110 : Cond.methodLink RX11 110 yX11_comparator ∈ gtb := gtb5 (i := 81) (by decide +kernel) rfl
theorem lX11_114 : Cond.methodLink RX11 114 yX11_takes ∈ gtb := gtb5 (i := 82) (by decide +kernel) rfl
theorem lL_48 : Cond.methodLink RL 48 yX11_layer ∈ gtb := gtb5 (i := 86) (by decide +kernel) rfl
theorem lX11_118 : Cond.methodLink RX11 118 yX11_findsLayers ∈ gtb := gtb5 (i := 90) (by decide +kernel) rfl
theorem lL_52 : Cond.methodLink RL 52 yX11_depth ∈ gtb := gtb5 (i := 94) (by decide +kernel) rfl
theorem lL_56 : Cond.methodLink RL 56 yX11_append ∈ gtb := gtb5 (i := 98) (by decide +kernel) rfl
theorem lL_61 : Cond.methodLink RL 61 yX11_clearText ∈ gtb := gtb5 (i := 102) (by decide +kernel) rfl
theorem lL_65 : Cond.methodLink RL 65 yX11_parse ∈ gtb := gtb5 (i := 106) (by decide +kernel) rfl
theorem lX11_139 : Cond.methodLink RX11 139 yX11_wire ∈ gtb := gtb5 (i := 110) (by decide +kernel) rfl
theorem lX11_128 : Cond.methodLink RX11 128 yX11_here ∈ gtb := gtb5 (i := 114) (by decide +kernel) rfl
theorem lX11_143 : Cond.methodLink RX11 143 yX11_sign ∈ gtb := gtb5 (i := 118) (by decide +kernel) rfl
theorem lL_69 : Cond.methodLink RL 69 yX11_setKey ∈ gtb := gtb5 (i := 122) (by decide +kernel) rfl
theorem lL_73 : Cond.methodLink RL 73 yX11_run ∈ gtb := gtb5 (i := 126) (by decide +kernel) rfl
theorem lL_77 : Cond.methodLink RL 77 yX11_result ∈ gtb := gtb5 (i := 130) (by decide +kernel) rfl
theorem lL_81 : Cond.methodLink RL 81 yX11_origin ∈ gtb := gtb5 (i := 134) (by decide +kernel) rfl
theorem lL_85 : Cond.methodLink RL 85 yX11_isStable ∈ gtb := gtb5 (i := 138) (by decide +kernel) rfl
theorem lL_89 : Cond.methodLink RL 89 yX11_outputCount ∈ gtb := gtb5 (i := 142) (by decide +kernel) rfl
theorem lX11_156 : Cond.methodLink RX11 156 yX11_finds ∈ gtb := gtb5 (i := 146) (by decide +kernel) rfl
theorem lX11_149 : Cond.methodLink RX11 149 yX11_makes ∈ gtb := gtb5 (i := 150) (by decide +kernel) rfl
theorem lL_93 : Cond.methodLink RL 93 yX11_outputOf ∈ gtb := gtb5 (i := 154) (by decide +kernel) rfl
theorem lL_97 : Cond.methodLink RL 97 yX11_isSorter_ ∈ gtb := gtb5 (i := 158) (by decide +kernel) rfl
theorem lX11_160 : Cond.methodLink RX11 160 yX11_isSorter ∈ gtb := gtb5 (i := 162) (by decide +kernel) rfl
theorem lX11_153 : Cond.methodLink RX11 153 yX11_isSorted ∈ gtb := gtb5 (i := 166) (by decide +kernel) rfl
theorem lL_101 : Cond.methodLink RL 101 yX11_firstFailure ∈ gtb := gtb5 (i := 169) (by decide +kernel) rfl
theorem lL_105 : Cond.methodLink RL 105 yX11_isSelector ∈ gtb := gtb5 (i := 173) (by decide +kernel) rfl
theorem lX11_163 : Cond.methodLink RX11 163 yX11_ones ∈ gtb := gtb5 (i := 177) (by decide +kernel) rfl
theorem lL_109 : Cond.methodLink RL 109 yX11_countSorted ∈ gtb := gtb5 (i := 180) (by decide +kernel) rfl
theorem lX11_190 : Cond.methodLink RX11 190 yX11_looks ∈ gtb := gtb5 (i := 184) (by decide +kernel) rfl
theorem lX11_181 : Cond.methodLink RX11 181 yX11_begins ∈ gtb := gtb5 (i := 188) (by decide +kernel) rfl
theorem lX11_184 : Cond.methodLink RX11 184 yX11_carries ∈ gtb := gtb5 (i := 192) (by decide +kernel) rfl
theorem lX11_187 : Cond.methodLink RX11 187 yX11_isNext ∈ gtb := gtb5 (i := 196) (by decide +kernel) rfl
theorem lX11_166 : Cond.methodLink RX11 166 yX11_changes ∈ gtb := gtb5 (i := 200) (by decide +kernel) rfl
theorem lL_113 : Cond.methodLink RL 113 yX11_firstUnsorted ∈ gtb := gtb5 (i := 204) (by decide +kernel) rfl
theorem lL_118 : Cond.methodLink RL 118 yX11_totalExchanges ∈ gtb := gtb5 (i := 208) (by decide +kernel) rfl
theorem lL_122 : Cond.methodLink RL 122 yX11_mostExchanges ∈ gtb := gtb5 (i := 213) (by decide +kernel) rfl
theorem lL_126 : Cond.methodLink RL 126 yX11_isRedundant ∈ gtb := gtb5 (i := 217) (by decide +kernel) rfl
theorem lX11_195 : Cond.methodLink RX11 195 yX11_isIdle ∈ gtb := gtb5 (i := 221) (by decide +kernel) rfl
theorem lL_130 : Cond.methodLink RL 130 yX11_prune ∈ gtb := gtb5 (i := 225) (by decide +kernel) rfl
theorem lL_134 : Cond.methodLink RL 134 yX11_reduce ∈ gtb := gtb5 (i := 229) (by decide +kernel) rfl
theorem lL_138 : Cond.methodLink RL 138 yX11_standardize ∈ gtb := gtb5 (i := 233) (by decide +kernel) rfl
theorem lL_142 : Cond.methodLink RL 142 yX11_mirror ∈ gtb := gtb5 (i := 237) (by decide +kernel) rfl
theorem lL_146 : Cond.methodLink RL 146 yX11_candidate ∈ gtb := gtb6 (i := 1) (by decide +kernel) rfl
theorem lX11_201 : Cond.methodLink RX11 201 yX11_lists ∈ gtb := gtb6 (i := 5) (by decide +kernel) rfl
theorem lX11_198 : Cond.methodLink RX11 198 yX11_counts ∈ gtb := gtb6 (i := 9) (by decide +kernel) rfl
theorem lL_150 : Cond.methodLink RL 150 yX11_grow ∈ gtb := gtb6 (i := 13) (by decide +kernel) rfl
theorem lL_154 : Cond.methodLink RL 154 yX11_missing ∈ gtb := gtb6 (i := 17) (by decide +kernel) rfl
theorem lX11_204 : Cond.methodLink RX11 204 yX11_areSorted ∈ gtb := gtb6 (i := 21) (by decide +kernel) rfl
theorem lX11_208 : Cond.methodLink RX11 208 yX11_isOneEnough ∈ gtb := gtb6 (i := 25) (by decide +kernel) rfl
theorem lL_158 : Cond.methodLink RL 158 yX11_sameOutputs ∈ gtb := gtb6 (i := 29) (by decide +kernel) rfl
theorem lX11_211 : Cond.methodLink RX11 211 yX11_unlike ∈ gtb := gtb6 (i := 33) (by decide +kernel) rfl
theorem lL_162 : Cond.methodLink RL 162 yX11_isIsomorphic ∈ gtb := gtb6 (i := 37) (by decide +kernel) rfl
theorem lL_166 : Cond.methodLink RL 166 yX11_subsumes ∈ gtb := gtb6 (i := 41) (by decide +kernel) rfl
theorem lL_170 : Cond.methodLink RL 170 yX11_build ∈ gtb := gtb6 (i := 45) (by decide +kernel) rfl
theorem lX11_214 : Cond.methodLink RX11 214 yX11_merges ∈ gtb := gtb6 (i := 49) (by decide +kernel) rfl
theorem lX11_217 : Cond.methodLink RX11 217 yX11_appends ∈ gtb := gtb6 (i := 53) (by decide +kernel) rfl
theorem lL_174 : Cond.methodLink RL 174 yX11_isMerger ∈ gtb := gtb6 (i := 57) (by decide +kernel) rfl
theorem lL_178 : Cond.methodLink RL 178 yX11_concatenate ∈ gtb := gtb6 (i := 61) (by decide +kernel) rfl
theorem lX11_221 : Cond.methodLink RX11 221 yX11_collects ∈ gtb := gtb6 (i := 65) (by decide +kernel) rfl
theorem lX11_224 : Cond.methodLink RX11 224 yX11_becomes ∈ gtb := gtb6 (i := 69) (by decide +kernel) rfl
theorem lL_182 : Cond.methodLink RL 182 yX11_beside ∈ gtb := gtb6 (i := 73) (by decide +kernel) rfl
theorem lL_190 : Cond.methodLink RL 190 yX11_place ∈ gtb := gtb6 (i := 77) (by decide +kernel) rfl
theorem lX11_227 : Cond.methodLink RX11 227 yX11_isShelf ∈ gtb := gtb6 (i := 81) (by decide +kernel) rfl
theorem lL_194 : Cond.methodLink RL 194 yX11_discard ∈ gtb := gtb6 (i := 84) (by decide +kernel) rfl
theorem lL_198 : Cond.methodLink RL 198 yX11_castBlock ∈ gtb := gtb6 (i := 88) (by decide +kernel) rfl
theorem lX11_230 : Cond.methodLink RX11 230 yX11_above ∈ gtb := gtb6 (i := 92) (by decide +kernel) rfl
theorem lL_202 : Cond.methodLink RL 202 yX11_blockSize ∈ gtb := gtb6 (i := 95) (by decide +kernel) rfl
theorem lX11_241 : Cond.methodLink RX11 241 yX11_isMade ∈ gtb := gtb6 (i := 99) (by decide +kernel) rfl
theorem lX11_236 : Cond.methodLink RX11 236 yX11_makes_ ∈ gtb := gtb6 (i := 103) (by decide +kernel) rfl
theorem lX11_238 : Cond.methodLink RX11 238 yX11_makesLayer ∈ gtb := gtb6 (i := 107) (by decide +kernel) rfl
theorem lL_206 : Cond.methodLink RL 206 yX11_applyBlock ∈ gtb := gtb6 (i := 111) (by decide +kernel) rfl
/-- the links to private statics of the nest: they hold in every state, but ride as facts -/
def nestW : List Cond := [Cond.methodLinkNest RX3 64 yX10_exchanged RX10, Cond.methodLinkNest RX7 71 yX10_oneIf RX10, Cond.methodLinkNest RX0 29 yX10_isSorted RX10, Cond.methodLinkNest RX4 33 yX10_exchanged RX10, Cond.methodLinkNest RX1 48 yX10_isSorted RX10, Cond.methodLinkNest RX1 63 yX10_exchanged RX10]
theorem nestW_in : ∀ w ∈ nestW, w ∈ lw_tbl := by
  intro w hw
  simp only [nestW, List.mem_cons, List.not_mem_nil, or_false] at hw
  rcases hw with rfl | rfl | rfl | rfl | rfl | rfl
  · exact List.mem_of_getElem? (i := 567) (by decide +kernel)
  · exact List.mem_of_getElem? (i := 611) (by decide +kernel)
  · exact List.mem_of_getElem? (i := 621) (by decide +kernel)
  · exact List.mem_of_getElem? (i := 729) (by decide +kernel)
  · exact List.mem_of_getElem? (i := 754) (by decide +kernel)
  · exact List.mem_of_getElem? (i := 761) (by decide +kernel)
theorem nX3_64 : Cond.methodLinkNest RX3 64 yX10_exchanged RX10 ∈ nestW := List.mem_of_getElem? (i := 0) rfl
theorem nX7_71 : Cond.methodLinkNest RX7 71 yX10_oneIf RX10 ∈ nestW := List.mem_of_getElem? (i := 1) rfl
theorem nX0_29 : Cond.methodLinkNest RX0 29 yX10_isSorted RX10 ∈ nestW := List.mem_of_getElem? (i := 2) rfl
theorem nX4_33 : Cond.methodLinkNest RX4 33 yX10_exchanged RX10 ∈ nestW := List.mem_of_getElem? (i := 3) rfl
theorem nX1_48 : Cond.methodLinkNest RX1 48 yX10_isSorted RX10 ∈ nestW := List.mem_of_getElem? (i := 4) rfl
theorem nX1_63 : Cond.methodLinkNest RX1 63 yX10_exchanged RX10 ∈ nestW := List.mem_of_getElem? (i := 5) rfl
theorem lX3_53m : Cond.methodLink RX3 53 Lib.Math.max.name ∈ gtb := gtb2 (i := 146) (by decide +kernel) rfl
theorem lX0_71m : Cond.methodLink RX0 71 Lib.Math.max.name ∈ gtb := gtb3 (i := 141) (by decide +kernel) rfl
theorem ma_max_s : Cond.static Lib.Math.max.name ∈ gtb := gtb2 (i := 147) (by decide +kernel) rfl
theorem ma_max_c : Cond.code Lib.Math.max.name Lib.Math.max.code 2 (some .int) ∈ gtb := gtb2 (i := 148) (by decide +kernel) rfl
theorem lX2_33m : Cond.methodLink RX2 33 Lib.Math.min.name ∈ gtb := gtb2 (i := 66) (by decide +kernel) rfl
theorem lX0_37m : Cond.methodLink RX0 37 Lib.Math.min.name ∈ gtb := gtb3 (i := 107) (by decide +kernel) rfl
theorem ma_min_s : Cond.static Lib.Math.min.name ∈ gtb := gtb2 (i := 67) (by decide +kernel) rfl
theorem ma_min_c : Cond.code Lib.Math.min.name Lib.Math.min.code 2 (some .int) ∈ gtb := gtb2 (i := 68) (by decide +kernel) rfl
theorem ma_ini : Cond.initialized "java/lang/Math" ∈ gtb := gtb1 (i := 14) (by decide +kernel) rfl
theorem ac_lX3_28 : Cond.methodLink RX3 28 arraycopyName ∈ gtb := gtb2 (i := 63) (by decide +kernel) rfl
theorem ac_n : Cond.native arraycopyName ∈ gtb := gtb2 (i := 65) (by decide +kernel) rfl
theorem ac_s : Cond.static arraycopyName ∈ gtb := gtb2 (i := 64) (by decide +kernel) rfl
theorem ac_i : Cond.initialized "java/lang/System" ∈ gtb := gtb1 (i := 13) (by decide +kernel) rfl
theorem kX7_29 : Cond.constantLong RX7 29 (-1 : Int64) ∈ gtb := gtb3 (i := 13) (by decide +kernel) rfl
theorem kJ13_314 : Cond.constantLong RJ13 314 (6148914691236517205 : Int64) ∈ gtb := gtb3 (i := 60) (by decide +kernel) rfl
theorem kJ13_316 : Cond.constantLong RJ13 316 (3689348814741910323 : Int64) ∈ gtb := gtb3 (i := 61) (by decide +kernel) rfl
theorem kJ13_318 : Cond.constantLong RJ13 318 (1085102592571150095 : Int64) ∈ gtb := gtb3 (i := 62) (by decide +kernel) rfl
theorem kJ6_265 : Cond.constant RJ6 265 (1431655765 : Int32) ∈ gtb := gtb3 (i := 79) (by decide +kernel) rfl
theorem kJ6_266 : Cond.constant RJ6 266 (858993459 : Int32) ∈ gtb := gtb3 (i := 80) (by decide +kernel) rfl
theorem kJ6_267 : Cond.constant RJ6 267 (252645135 : Int32) ∈ gtb := gtb3 (i := 81) (by decide +kernel) rfl
theorem kX0_54 : Cond.constantLong RX0 54 (-1 : Int64) ∈ gtb := gtb3 (i := 130) (by decide +kernel) rfl
theorem kX10_207 : Cond.constantLong RX10 207 (-1 : Int64) ∈ gtb := gtb3 (i := 132) (by decide +kernel) rfl
theorem kX11_193 : Cond.constantLong RX11 193 (-1 : Int64) ∈ gtb := gtb5 (i := 212) (by decide +kernel) rfl
