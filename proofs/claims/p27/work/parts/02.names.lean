
def RX0 : String := "BellFoundry$Bell"
def TX0 : u_T := fun k => match k with
  | 0 => ("BellFoundry$Bell", "metal", "LBellFoundry$Mixture;", true)
  | 1 => ("BellFoundry$Bell", "profile", "I", false)
  | 2 => ("BellFoundry$Bell", "pitch", "I", false)
  | 3 => ("BellFoundry$Bell", "weightPoured", "I", false)
  | 4 => ("BellFoundry$Bell", "drawn", "I", false)
  | 5 => ("BellFoundry$Bell", "state", "I", false)
  | _ => ("BellFoundry$Bell", "order", "I", false)
def tyX0 : Nat → FieldType := fun k => match k with
  | 0 => .object "BellFoundry$Mixture"
  | 1 => .int
  | 2 => .int
  | 3 => .int
  | 4 => .int
  | 5 => .int
  | _ => .int
abbrev wsX00 : List Cond := u_ws RX0 TX0 7
theorem nmX0 : ∀ a, a < 7 → ∀ b, b < 7 → a ≠ b → (TX0 a).2.1 ≠ (TX0 b).2.1 := by decide +kernel
theorem tyX0_ok : ∀ k, k < 7 → parseFieldDescriptor (TX0 k).2.2.1 = some (tyX0 k) := by decide +kernel
abbrev cX0_init : ByteArray := prog_2_method_1_code
def yX0_init : MethodName := ⟨RX0, "<init>", "()V"⟩
abbrev cX0_remains : ByteArray := prog_2_method_2_code
def yX0_remains : MethodName := ⟨RX0, "remains", "()Z"⟩
abbrev cX0_cracksBy : ByteArray := prog_2_method_3_code
def yX0_cracksBy : MethodName := ⟨RX0, "cracksBy", "(I)Z"⟩
abbrev cX0_pitchBehind : ByteArray := prog_2_method_4_code
def yX0_pitchBehind : MethodName := ⟨RX0, "pitchBehind", "(II)I"⟩
abbrev cX0_copyFrom : ByteArray := prog_2_method_5_code
def yX0_copyFrom : MethodName := ⟨RX0, "copyFrom", "(LBellFoundry$Bell;)V"⟩
def RX1 : String := "BellFoundry$FrameReader"
def TX1 : u_T := fun k => match k with
  | 0 => ("BellFoundry$FrameReader", "expected", "I", false)
  | 1 => ("BellFoundry$FrameReader", "position", "I", false)
  | 2 => ("BellFoundry$FrameReader", "reason", "I", false)
  | 3 => ("BellFoundry$FrameReader", "latest", "LBellFoundry$Load;", true)
  | 4 => ("BellFoundry$FrameReader", "firsts", "[LBellFoundry$Load;", true)
  | 5 => ("BellFoundry$FrameReader", "behindComma", "[Z", true)
  | 6 => ("BellFoundry$FrameReader", "open", "I", false)
  | 7 => ("BellFoundry$FrameReader", "hangs", "[I", true)
  | 8 => ("BellFoundry$FrameReader", "bells", "I", false)
  | 9 => ("BellFoundry$FrameReader", "beams", "I", false)
  | 10 => ("BellFoundry$FrameReader", "deepest", "I", false)
  | _ => ("BellFoundry$FrameReader", "greatestSlant", "I", false)
def tyX1 : Nat → FieldType := fun k => match k with
  | 0 => .int
  | 1 => .int
  | 2 => .int
  | 3 => .object "BellFoundry$Load"
  | 4 => .array (.object "BellFoundry$Load")
  | 5 => .array .boolean
  | 6 => .int
  | 7 => .array .int
  | 8 => .int
  | 9 => .int
  | 10 => .int
  | _ => .int
abbrev wsX10 : List Cond := u_ws RX1 TX1 12
theorem nmX1 : ∀ a, a < 12 → ∀ b, b < 12 → a ≠ b → (TX1 a).2.1 ≠ (TX1 b).2.1 := by decide +kernel
theorem tyX1_ok : ∀ k, k < 12 → parseFieldDescriptor (TX1 k).2.2.1 = some (tyX1 k) := by decide +kernel
abbrev cX1_init : ByteArray := prog_3_method_1_code
def yX1_init : MethodName := ⟨RX1, "<init>", "()V"⟩
abbrev cX1_read : ByteArray := prog_3_method_2_code
def yX1_read : MethodName := ⟨RX1, "read", "([CILBellFoundry$Works;)V"⟩
abbrev cX1_begin : ByteArray := prog_3_method_3_code
def yX1_begin : MethodName := ⟨RX1, "begin", "()V"⟩
abbrev cX1_isDigit : ByteArray := prog_3_method_4_code
def yX1_isDigit : MethodName := ⟨RX1, "isDigit", "(C)Z"⟩
abbrev cX1_digit : ByteArray := prog_3_method_5_code
def yX1_digit : MethodName := ⟨RX1, "digit", "(C)I"⟩
abbrev cX1_readSign : ByteArray := prog_3_method_6_code
def yX1_readSign : MethodName := ⟨RX1, "readSign", "(CLBellFoundry$Works;)I"⟩
abbrev cX1_readBell : ByteArray := prog_3_method_7_code
def yX1_readBell : MethodName := ⟨RX1, "readBell", "(ILBellFoundry$Works;)I"⟩
abbrev cX1_openBeam : ByteArray := prog_3_method_8_code
def yX1_openBeam : MethodName := ⟨RX1, "openBeam", "()I"⟩
abbrev cX1_passComma : ByteArray := prog_3_method_9_code
def yX1_passComma : MethodName := ⟨RX1, "passComma", "()I"⟩
abbrev cX1_closeBeam : ByteArray := prog_3_method_10_code
def yX1_closeBeam : MethodName := ⟨RX1, "closeBeam", "()I"⟩
abbrev cX1_endFrame : ByteArray := prog_3_method_11_code
def yX1_endFrame : MethodName := ⟨RX1, "endFrame", "()V"⟩
abbrev cX1_tell : ByteArray := prog_3_method_12_code
def yX1_tell : MethodName := ⟨RX1, "tell", "(I)I"⟩
def RX2 : String := "BellFoundry$Heap"
def TX2 : u_T := fun k => match k with
  | 0 => ("BellFoundry$Heap", "row", "[LBellFoundry$Lot;", true)
  | _ => ("BellFoundry$Heap", "size", "I", false)
def tyX2 : Nat → FieldType := fun k => match k with
  | 0 => .array (.object "BellFoundry$Lot")
  | _ => .int
abbrev wsX20 : List Cond := u_ws RX2 TX2 2
theorem nmX2 : ∀ a, a < 2 → ∀ b, b < 2 → a ≠ b → (TX2 a).2.1 ≠ (TX2 b).2.1 := by decide +kernel
theorem tyX2_ok : ∀ k, k < 2 → parseFieldDescriptor (TX2 k).2.2.1 = some (tyX2 k) := by decide +kernel
abbrev cX2_init : ByteArray := prog_4_method_1_code
def yX2_init : MethodName := ⟨RX2, "<init>", "()V"⟩
abbrev cX2_at : ByteArray := prog_4_method_2_code
def yX2_at : MethodName := ⟨RX2, "at", "(I)LBellFoundry$Lot;"⟩
abbrev cX2_add : ByteArray := prog_4_method_3_code
def yX2_add : MethodName := ⟨RX2, "add", "(LBellFoundry$Mixture;I)V"⟩
abbrev cX2_remove : ByteArray := prog_4_method_4_code
def yX2_remove : MethodName := ⟨RX2, "remove", "(I)V"⟩
abbrev cX2_of : ByteArray := prog_4_method_5_code
def yX2_of : MethodName := ⟨RX2, "of", "(I)I"⟩
abbrev cX2_copyFrom : ByteArray := prog_4_method_6_code
def yX2_copyFrom : MethodName := ⟨RX2, "copyFrom", "(LBellFoundry$Heap;)V"⟩
def RX3 : String := "BellFoundry$History"
def TX3 : u_T := fun k => match k with
  | 0 => ("BellFoundry$History", "states", "[LBellFoundry$Works;", true)
  | _ => ("BellFoundry$History", "size", "I", false)
def tyX3 : Nat → FieldType := fun k => match k with
  | 0 => .array (.object "BellFoundry$Works")
  | _ => .int
abbrev wsX30 : List Cond := u_ws RX3 TX3 2
theorem nmX3 : ∀ a, a < 2 → ∀ b, b < 2 → a ≠ b → (TX3 a).2.1 ≠ (TX3 b).2.1 := by decide +kernel
theorem tyX3_ok : ∀ k, k < 2 → parseFieldDescriptor (TX3 k).2.2.1 = some (tyX3 k) := by decide +kernel
abbrev cX3_init : ByteArray := prog_5_method_1_code
def yX3_init : MethodName := ⟨RX3, "<init>", "()V"⟩
abbrev cX3_keep : ByteArray := prog_5_method_2_code
def yX3_keep : MethodName := ⟨RX3, "keep", "(LBellFoundry$Works;)V"⟩
abbrev cX3_dropOldest : ByteArray := prog_5_method_3_code
def yX3_dropOldest : MethodName := ⟨RX3, "dropOldest", "()V"⟩
abbrev cX3_restore : ByteArray := prog_5_method_4_code
def yX3_restore : MethodName := ⟨RX3, "restore", "(LBellFoundry$Works;)V"⟩
def RX4 : String := "BellFoundry$Load"
def TX4 : u_T := fun k => match k with
  | 0 => ("BellFoundry$Load", "weight", "I", false)
  | 1 => ("BellFoundry$Load", "leastLevel", "I", false)
  | _ => ("BellFoundry$Load", "step", "I", false)
def tyX4 : Nat → FieldType := fun k => match k with
  | 0 => .int
  | 1 => .int
  | _ => .int
abbrev wsX40 : List Cond := u_ws RX4 TX4 3
theorem nmX4 : ∀ a, a < 3 → ∀ b, b < 3 → a ≠ b → (TX4 a).2.1 ≠ (TX4 b).2.1 := by decide +kernel
theorem tyX4_ok : ∀ k, k < 3 → parseFieldDescriptor (TX4 k).2.2.1 = some (tyX4 k) := by decide +kernel
abbrev cX4_init : ByteArray := prog_6_method_1_code
def yX4_init : MethodName := ⟨RX4, "<init>", "()V"⟩
abbrev cX4_hangBell : ByteArray := prog_6_method_2_code
def yX4_hangBell : MethodName := ⟨RX4, "hangBell", "(I)V"⟩
abbrev cX4_hangBeam : ByteArray := prog_6_method_3_code
def yX4_hangBeam : MethodName := ⟨RX4, "hangBeam", "(LBellFoundry$Load;)V"⟩
abbrev cX4_roundUpTo : ByteArray := prog_6_method_4_code
def yX4_roundUpTo : MethodName := ⟨RX4, "roundUpTo", "(II)I"⟩
abbrev cX4_copyFrom : ByteArray := prog_6_method_5_code
def yX4_copyFrom : MethodName := ⟨RX4, "copyFrom", "(LBellFoundry$Load;)V"⟩
def RX5 : String := "BellFoundry$Lot"
def TX5 : u_T := fun k => match k with
  | 0 => ("BellFoundry$Lot", "metal", "LBellFoundry$Mixture;", true)
  | _ => ("BellFoundry$Lot", "kind", "I", false)
def tyX5 : Nat → FieldType := fun k => match k with
  | 0 => .object "BellFoundry$Mixture"
  | _ => .int
abbrev wsX50 : List Cond := u_ws RX5 TX5 2
theorem nmX5 : ∀ a, a < 2 → ∀ b, b < 2 → a ≠ b → (TX5 a).2.1 ≠ (TX5 b).2.1 := by decide +kernel
theorem tyX5_ok : ∀ k, k < 2 → parseFieldDescriptor (TX5 k).2.2.1 = some (tyX5 k) := by decide +kernel
abbrev cX5_init : ByteArray := prog_7_method_1_code
def yX5_init : MethodName := ⟨RX5, "<init>", "()V"⟩
def RX6 : String := "BellFoundry$Mixture"
def TX6 : u_T := fun k => match k with
  | 0 => ("BellFoundry$Mixture", "copper", "I", false)
  | _ => ("BellFoundry$Mixture", "tin", "I", false)
def tyX6 : Nat → FieldType := fun k => match k with
  | 0 => .int
  | _ => .int
abbrev wsX60 : List Cond := u_ws RX6 TX6 2
theorem nmX6 : ∀ a, a < 2 → ∀ b, b < 2 → a ≠ b → (TX6 a).2.1 ≠ (TX6 b).2.1 := by decide +kernel
theorem tyX6_ok : ∀ k, k < 2 → parseFieldDescriptor (TX6 k).2.2.1 = some (tyX6 k) := by decide +kernel
abbrev cX6_init : ByteArray := prog_8_method_1_code
def yX6_init : MethodName := ⟨RX6, "<init>", "()V"⟩
abbrev cX6_of : ByteArray := prog_8_method_2_code
def yX6_of : MethodName := ⟨RX6, "of", "(I)I"⟩
abbrev cX6_put : ByteArray := prog_8_method_3_code
def yX6_put : MethodName := ⟨RX6, "put", "(II)V"⟩
abbrev cX6_mixWith : ByteArray := prog_8_method_4_code
def yX6_mixWith : MethodName := ⟨RX6, "mixWith", "(LBellFoundry$Mixture;)V"⟩
abbrev cX6_copyFrom : ByteArray := prog_8_method_5_code
def yX6_copyFrom : MethodName := ⟨RX6, "copyFrom", "(LBellFoundry$Mixture;)V"⟩
abbrev cX6_empty : ByteArray := prog_8_method_6_code
def yX6_empty : MethodName := ⟨RX6, "empty", "()V"⟩
abbrev cX6_weight : ByteArray := prog_8_method_7_code
def yX6_weight : MethodName := ⟨RX6, "weight", "()I"⟩
abbrev cX6_alloy : ByteArray := prog_8_method_8_code
def yX6_alloy : MethodName := ⟨RX6, "alloy", "()I"⟩
abbrev cX6_tell : ByteArray := prog_8_method_9_code
def yX6_tell : MethodName := ⟨RX6, "tell", "(I)I"⟩
abbrev cX6_lossOf : ByteArray := prog_8_method_10_code
def yX6_lossOf : MethodName := ⟨RX6, "lossOf", "(II)I"⟩
abbrev cX6_drawInto : ByteArray := prog_8_method_11_code
def yX6_drawInto : MethodName := ⟨RX6, "drawInto", "(LBellFoundry$Mixture;I)V"⟩
abbrev cX6_alloyOfDraw : ByteArray := prog_8_method_12_code
def yX6_alloyOfDraw : MethodName := ⟨RX6, "alloyOfDraw", "(I)I"⟩
abbrev cX6_copperOfDraw : ByteArray := prog_8_method_13_code
def yX6_copperOfDraw : MethodName := ⟨RX6, "copperOfDraw", "(I)I"⟩
abbrev cX6_alloyOf : ByteArray := prog_8_method_14_code
def yX6_alloyOf : MethodName := ⟨RX6, "alloyOf", "(II)I"⟩
def RX7 : String := "BellFoundry$Order"
def TX7 : u_T := fun k => match k with
  | 0 => ("BellFoundry$Order", "profile", "I", false)
  | 1 => ("BellFoundry$Order", "pitch", "I", false)
  | 2 => ("BellFoundry$Order", "tolerance", "I", false)
  | _ => ("BellFoundry$Order", "state", "I", false)
def tyX7 : Nat → FieldType := fun k => match k with
  | 0 => .int
  | 1 => .int
  | 2 => .int
  | _ => .int
abbrev wsX70 : List Cond := u_ws RX7 TX7 4
theorem nmX7 : ∀ a, a < 4 → ∀ b, b < 4 → a ≠ b → (TX7 a).2.1 ≠ (TX7 b).2.1 := by decide +kernel
theorem tyX7_ok : ∀ k, k < 4 → parseFieldDescriptor (TX7 k).2.2.1 = some (tyX7 k) := by decide +kernel
abbrev cX7_init : ByteArray := prog_9_method_1_code
def yX7_init : MethodName := ⟨RX7, "<init>", "()V"⟩
abbrev cX7_takesPitch : ByteArray := prog_9_method_2_code
def yX7_takesPitch : MethodName := ⟨RX7, "takesPitch", "(I)Z"⟩
abbrev cX7_isFitBy : ByteArray := prog_9_method_3_code
def yX7_isFitBy : MethodName := ⟨RX7, "isFitBy", "(LBellFoundry$Bell;)Z"⟩
abbrev cX7_copyFrom : ByteArray := prog_9_method_4_code
def yX7_copyFrom : MethodName := ⟨RX7, "copyFrom", "(LBellFoundry$Order;)V"⟩
def RX8 : String := "BellFoundry$WagonPacker"
def TX8 : u_T := fun k => match k with
  | 0 => ("BellFoundry$WagonPacker", "weights", "[I", true)
  | 1 => ("BellFoundry$WagonPacker", "best", "[I", true)
  | _ => ("BellFoundry$WagonPacker", "size", "I", false)
def tyX8 : Nat → FieldType := fun k => match k with
  | 0 => .array .int
  | 1 => .array .int
  | _ => .int
abbrev wsX80 : List Cond := u_ws RX8 TX8 3
theorem nmX8 : ∀ a, a < 3 → ∀ b, b < 3 → a ≠ b → (TX8 a).2.1 ≠ (TX8 b).2.1 := by decide +kernel
theorem tyX8_ok : ∀ k, k < 3 → parseFieldDescriptor (TX8 k).2.2.1 = some (tyX8 k) := by decide +kernel
abbrev cX8_init : ByteArray := prog_10_method_1_code
def yX8_init : MethodName := ⟨RX8, "<init>", "()V"⟩
abbrev cX8_clear : ByteArray := prog_10_method_2_code
def yX8_clear : MethodName := ⟨RX8, "clear", "()V"⟩
abbrev cX8_add : ByteArray := prog_10_method_3_code
def yX8_add : MethodName := ⟨RX8, "add", "(I)V"⟩
abbrev cX8_heaviest : ByteArray := prog_10_method_4_code
def yX8_heaviest : MethodName := ⟨RX8, "heaviest", "()I"⟩
abbrev cX8_fewestWagons : ByteArray := prog_10_method_5_code
def yX8_fewestWagons : MethodName := ⟨RX8, "fewestWagons", "(I)I"⟩
abbrev cX8_bestFor : ByteArray := prog_10_method_6_code
def yX8_bestFor : MethodName := ⟨RX8, "bestFor", "(II)I"⟩
def RX9 : String := "BellFoundry$Works"
def TX9 : u_T := fun k => match k with
  | 0 => ("BellFoundry$Works", "bought", "LBellFoundry$Mixture;", true)
  | 1 => ("BellFoundry$Works", "stock", "LBellFoundry$Mixture;", true)
  | 2 => ("BellFoundry$Works", "slag", "LBellFoundry$Mixture;", true)
  | 3 => ("BellFoundry$Works", "melt", "LBellFoundry$Mixture;", true)
  | 4 => ("BellFoundry$Works", "heap", "LBellFoundry$Heap;", true)
  | 5 => ("BellFoundry$Works", "settings", "[I", true)
  | 6 => ("BellFoundry$Works", "bells", "[LBellFoundry$Bell;", true)
  | 7 => ("BellFoundry$Works", "orders", "[LBellFoundry$Order;", true)
  | 8 => ("BellFoundry$Works", "poured", "I", false)
  | 9 => ("BellFoundry$Works", "came", "I", false)
  | 10 => ("BellFoundry$Works", "ladle", "LBellFoundry$Mixture;", true)
  | _ => ("BellFoundry$Works", "burnt", "LBellFoundry$Mixture;", true)
def tyX9 : Nat → FieldType := fun k => match k with
  | 0 => .object "BellFoundry$Mixture"
  | 1 => .object "BellFoundry$Mixture"
  | 2 => .object "BellFoundry$Mixture"
  | 3 => .object "BellFoundry$Mixture"
  | 4 => .object "BellFoundry$Heap"
  | 5 => .array .int
  | 6 => .array (.object "BellFoundry$Bell")
  | 7 => .array (.object "BellFoundry$Order")
  | 8 => .int
  | 9 => .int
  | 10 => .object "BellFoundry$Mixture"
  | _ => .object "BellFoundry$Mixture"
abbrev wsX90 : List Cond := u_ws RX9 TX9 12
theorem nmX9 : ∀ a, a < 12 → ∀ b, b < 12 → a ≠ b → (TX9 a).2.1 ≠ (TX9 b).2.1 := by decide +kernel
theorem tyX9_ok : ∀ k, k < 12 → parseFieldDescriptor (TX9 k).2.2.1 = some (tyX9 k) := by decide +kernel
abbrev cX9_init : ByteArray := prog_11_method_1_code
def yX9_init : MethodName := ⟨RX9, "<init>", "()V"⟩
abbrev cX9_copyFrom : ByteArray := prog_11_method_2_code
def yX9_copyFrom : MethodName := ⟨RX9, "copyFrom", "(LBellFoundry$Works;)V"⟩
abbrev cX9_bellAt : ByteArray := prog_11_method_3_code
def yX9_bellAt : MethodName := ⟨RX9, "bellAt", "(I)LBellFoundry$Bell;"⟩
abbrev cX9_orderAt : ByteArray := prog_11_method_4_code
def yX9_orderAt : MethodName := ⟨RX9, "orderAt", "(I)LBellFoundry$Order;"⟩
abbrev cX9_meltDown : ByteArray := prog_11_method_5_code
def yX9_meltDown : MethodName := ⟨RX9, "meltDown", "(LBellFoundry$Lot;)V"⟩
abbrev cX9_burn : ByteArray := prog_11_method_6_code
def yX9_burn : MethodName := ⟨RX9, "burn", "(LBellFoundry$Mixture;)V"⟩
abbrev cX9_burntMelt : ByteArray := prog_11_method_7_code
def yX9_burntMelt : MethodName := ⟨RX9, "burntMelt", "()LBellFoundry$Mixture;"⟩
abbrev cX9_sprueOf : ByteArray := prog_11_method_8_code
def yX9_sprueOf : MethodName := ⟨RX9, "sprueOf", "(I)I"⟩
abbrev cX9_weightWithSprue : ByteArray := prog_11_method_9_code
def yX9_weightWithSprue : MethodName := ⟨RX9, "weightWithSprue", "(I)I"⟩
abbrev cX9_castBell : ByteArray := prog_11_method_10_code
def yX9_castBell : MethodName := ⟨RX9, "castBell", "(II)I"⟩
abbrev cX9_shave : ByteArray := prog_11_method_11_code
def yX9_shave : MethodName := ⟨RX9, "shave", "(LBellFoundry$Bell;I)V"⟩
abbrev cX9_breakUp : ByteArray := prog_11_method_12_code
def yX9_breakUp : MethodName := ⟨RX9, "breakUp", "(LBellFoundry$Bell;)V"⟩
abbrev cX9_takeOrder : ByteArray := prog_11_method_13_code
def yX9_takeOrder : MethodName := ⟨RX9, "takeOrder", "(III)I"⟩
abbrev cX9_bellsIn : ByteArray := prog_11_method_14_code
def yX9_bellsIn : MethodName := ⟨RX9, "bellsIn", "(I)I"⟩
abbrev cX9_remainingBells : ByteArray := prog_11_method_15_code
def yX9_remainingBells : MethodName := ⟨RX9, "remainingBells", "()I"⟩
abbrev cX9_inBells : ByteArray := prog_11_method_16_code
def yX9_inBells : MethodName := ⟨RX9, "inBells", "(II)I"⟩
abbrev cX9_ordersIn : ByteArray := prog_11_method_17_code
def yX9_ordersIn : MethodName := ⟨RX9, "ordersIn", "(I)I"⟩
abbrev cX9_lowestBellFor : ByteArray := prog_11_method_18_code
def yX9_lowestBellFor : MethodName := ⟨RX9, "lowestBellFor", "(LBellFoundry$Order;)I"⟩
abbrev cX9_bellsFor : ByteArray := prog_11_method_19_code
def yX9_bellsFor : MethodName := ⟨RX9, "bellsFor", "(LBellFoundry$Order;)I"⟩
abbrev cX9_fewestPoundsToFit : ByteArray := prog_11_method_20_code
def yX9_fewestPoundsToFit : MethodName := ⟨RX9, "fewestPoundsToFit", "(LBellFoundry$Bell;LBellFoundry$Order;)I"⟩
abbrev cX9_heaviestBellFor : ByteArray := prog_11_method_21_code
def yX9_heaviestBellFor : MethodName := ⟨RX9, "heaviestBellFor", "(LBellFoundry$Order;)I"⟩
def RX10 : String := "BellFoundry"
def TX10 : u_T := fun k => match k with
  | 0 => ("BellFoundry", "works", "LBellFoundry$Works;", true)
  | 1 => ("BellFoundry", "history", "LBellFoundry$History;", true)
  | 2 => ("BellFoundry", "packer", "LBellFoundry$WagonPacker;", true)
  | 3 => ("BellFoundry", "reader", "LBellFoundry$FrameReader;", true)
  | 4 => ("BellFoundry", "text", "[C", true)
  | _ => ("BellFoundry", "length", "I", false)
def tyX10 : Nat → FieldType := fun k => match k with
  | 0 => .object "BellFoundry$Works"
  | 1 => .object "BellFoundry$History"
  | 2 => .object "BellFoundry$WagonPacker"
  | 3 => .object "BellFoundry$FrameReader"
  | 4 => .array .char
  | _ => .int
abbrev wsX100 : List Cond := u_ws RX10 TX10 6
theorem nmX10 : ∀ a, a < 6 → ∀ b, b < 6 → a ≠ b → (TX10 a).2.1 ≠ (TX10 b).2.1 := by decide +kernel
theorem tyX10_ok : ∀ k, k < 6 → parseFieldDescriptor (TX10 k).2.2.1 = some (tyX10 k) := by decide +kernel
abbrev cX10_init : ByteArray := prog_1_method_1_code
def yX10_init : MethodName := ⟨RX10, "<init>", "()V"⟩
abbrev cX10_buy : ByteArray := prog_1_method_2_code
def yX10_buy : MethodName := ⟨RX10, "buy", "(II)I"⟩
abbrev cX10_charge : ByteArray := prog_1_method_3_code
def yX10_charge : MethodName := ⟨RX10, "charge", "(II)I"⟩
abbrev cX10_scrap : ByteArray := prog_1_method_4_code
def yX10_scrap : MethodName := ⟨RX10, "scrap", "(I)I"⟩
abbrev cX10_lot : ByteArray := prog_1_method_5_code
def yX10_lot : MethodName := ⟨RX10, "lot", "(II)I"⟩
abbrev cX10_melt : ByteArray := prog_1_method_6_code
def yX10_melt : MethodName := ⟨RX10, "melt", "(I)I"⟩
abbrev cX10_set : ByteArray := prog_1_method_7_code
def yX10_set : MethodName := ⟨RX10, "set", "(II)I"⟩
abbrev cX10_pour : ByteArray := prog_1_method_8_code
def yX10_pour : MethodName := ⟨RX10, "pour", "(II)I"⟩
abbrev cX10_tune : ByteArray := prog_1_method_9_code
def yX10_tune : MethodName := ⟨RX10, "tune", "(II)I"⟩
abbrev cX10_smash : ByteArray := prog_1_method_10_code
def yX10_smash : MethodName := ⟨RX10, "smash", "(I)I"⟩
abbrev cX10_bell : ByteArray := prog_1_method_11_code
def yX10_bell : MethodName := ⟨RX10, "bell", "(II)I"⟩
abbrev cX10_order : ByteArray := prog_1_method_12_code
def yX10_order : MethodName := ⟨RX10, "order", "(III)I"⟩
abbrev cX10_cancel : ByteArray := prog_1_method_13_code
def yX10_cancel : MethodName := ⟨RX10, "cancel", "(I)I"⟩
abbrev cX10_send : ByteArray := prog_1_method_14_code
def yX10_send : MethodName := ⟨RX10, "send", "(II)I"⟩
abbrev cX10_orderOf : ByteArray := prog_1_method_15_code
def yX10_orderOf : MethodName := ⟨RX10, "orderOf", "(II)I"⟩
abbrev cX10_tuneFor : ByteArray := prog_1_method_16_code
def yX10_tuneFor : MethodName := ⟨RX10, "tuneFor", "(II)I"⟩
abbrev cX10_pourFor : ByteArray := prog_1_method_17_code
def yX10_pourFor : MethodName := ⟨RX10, "pourFor", "(I)I"⟩
abbrev cX10_wagons : ByteArray := prog_1_method_18_code
def yX10_wagons : MethodName := ⟨RX10, "wagons", "(I)I"⟩
abbrev cX10_account : ByteArray := prog_1_method_19_code
def yX10_account : MethodName := ⟨RX10, "account", "(II)I"⟩
abbrev cX10_count : ByteArray := prog_1_method_20_code
def yX10_count : MethodName := ⟨RX10, "count", "(I)I"⟩
abbrev cX10_undo : ByteArray := prog_1_method_21_code
def yX10_undo : MethodName := ⟨RX10, "undo", "()I"⟩
abbrev cX10_type : ByteArray := prog_1_method_22_code
def yX10_type : MethodName := ⟨RX10, "type", "(I)I"⟩
abbrev cX10_clearText : ByteArray := prog_1_method_23_code
def yX10_clearText : MethodName := ⟨RX10, "clearText", "()I"⟩
abbrev cX10_fault : ByteArray := prog_1_method_24_code
def yX10_fault : MethodName := ⟨RX10, "fault", "(I)I"⟩
abbrev cX10_frame : ByteArray := prog_1_method_25_code
def yX10_frame : MethodName := ⟨RX10, "frame", "(I)I"⟩
abbrev cX10_isIn : ByteArray := prog_1_method_26_code
def yX10_isIn : MethodName := ⟨RX10, "isIn", "(III)Z"⟩
abbrev cX10_isMetal : ByteArray := prog_1_method_27_code
def yX10_isMetal : MethodName := ⟨RX10, "isMetal", "(I)Z"⟩
abbrev cX10_isProfile : ByteArray := prog_1_method_28_code
def yX10_isProfile : MethodName := ⟨RX10, "isProfile", "(I)Z"⟩
abbrev cX10_shareRoundedUp : ByteArray := prog_1_method_29_code
def yX10_shareRoundedUp : MethodName := ⟨RX10, "shareRoundedUp", "(II)I"⟩
abbrev cX10_cube : ByteArray := prog_1_method_30_code
def yX10_cube : MethodName := ⟨RX10, "cube", "(J)J"⟩
abbrev cX10_rootOf : ByteArray := prog_1_method_31_code
def yX10_rootOf : MethodName := ⟨RX10, "rootOf", "(I)I"⟩
abbrev cX10_firstPitch : ByteArray := prog_1_method_32_code
def yX10_firstPitch : MethodName := ⟨RX10, "firstPitch", "(III)I"⟩
abbrev cX10_heaviestAtPitch : ByteArray := prog_1_method_33_code
def yX10_heaviestAtPitch : MethodName := ⟨RX10, "heaviestAtPitch", "(II)I"⟩
def RX11 : String := "BellFoundryModel"
def TX11 : u_T := fun k => match k with
  | _ => ("", "", "", false)
def tyX11 : Nat → FieldType := fun k => match k with
  | _ => .int
abbrev wsX110 : List Cond := u_ws RX11 TX11 0
theorem nmX11 : ∀ a, a < 0 → ∀ b, b < 0 → a ≠ b → (TX11 a).2.1 ≠ (TX11 b).2.1 := by decide +kernel
theorem tyX11_ok : ∀ k, k < 0 → parseFieldDescriptor (TX11 k).2.2.1 = some (tyX11 k) := by decide +kernel
def RJx8e188 : String := "java/lang/Cloneable"
def TJx8e188 : u_T := fun k => match k with
  | _ => ("", "", "", false)
def tyJx8e188 : Nat → FieldType := fun k => match k with
  | _ => .int
abbrev wsJx8e1880 : List Cond := u_ws RJx8e188 TJx8e188 0
theorem nmJx8e188 : ∀ a, a < 0 → ∀ b, b < 0 → a ≠ b → (TJx8e188 a).2.1 ≠ (TJx8e188 b).2.1 := by decide +kernel
theorem tyJx8e188_ok : ∀ k, k < 0 → parseFieldDescriptor (TJx8e188 k).2.2.1 = some (tyJx8e188 k) := by decide +kernel
def RJ9 : String := "java/lang/Math"
def TJ9 : u_T := fun k => match k with
  | _ => ("", "", "", false)
def tyJ9 : Nat → FieldType := fun k => match k with
  | _ => .int
abbrev wsJ90 : List Cond := u_ws RJ9 TJ9 0
theorem nmJ9 : ∀ a, a < 0 → ∀ b, b < 0 → a ≠ b → (TJ9 a).2.1 ≠ (TJ9 b).2.1 := by decide +kernel
theorem tyJ9_ok : ∀ k, k < 0 → parseFieldDescriptor (TJ9 k).2.2.1 = some (tyJ9 k) := by decide +kernel
abbrev cJ9_abs_0f7a4 : ByteArray := prog_15_method_59_code
def yJ9_abs_0f7a4 : MethodName := ⟨RJ9, "abs", "(I)I"⟩
abbrev cJ9_max_7cf53 : ByteArray := prog_15_method_65_code
def yJ9_max_7cf53 : MethodName := ⟨RJ9, "max", "(II)I"⟩
abbrev cJ9_min_7cf53 : ByteArray := prog_15_method_69_code
def yJ9_min_7cf53 : MethodName := ⟨RJ9, "min", "(II)I"⟩
abbrev cJ9_min_f86c9 : ByteArray := prog_15_method_70_code
def yJ9_min_f86c9 : MethodName := ⟨RJ9, "min", "(JJ)J"⟩
def RJ10 : String := "java/lang/System"
def TJ10 : u_T := fun k => match k with
  | _ => ("", "", "", false)
def tyJ10 : Nat → FieldType := fun k => match k with
  | _ => .int
abbrev wsJ100 : List Cond := u_ws RJ10 TJ10 0
theorem nmJ10 : ∀ a, a < 0 → ∀ b, b < 0 → a ≠ b → (TJ10 a).2.1 ≠ (TJ10 b).2.1 := by decide +kernel
theorem tyJ10_ok : ∀ k, k < 0 → parseFieldDescriptor (TJ10 k).2.2.1 = some (tyJ10 k) := by decide +kernel
def RJ7 : String := "java/util/Arrays"
def TJ7 : u_T := fun k => match k with
  | _ => ("", "", "", false)
def tyJ7 : Nat → FieldType := fun k => match k with
  | _ => .int
abbrev wsJ70 : List Cond := u_ws RJ7 TJ7 0
theorem nmJ7 : ∀ a, a < 0 → ∀ b, b < 0 → a ≠ b → (TJ7 a).2.1 ≠ (TJ7 b).2.1 := by decide +kernel
theorem tyJ7_ok : ∀ k, k < 0 → parseFieldDescriptor (TJ7 k).2.2.1 = some (tyJ7 k) := by decide +kernel
abbrev cJ7_fill_53178 : ByteArray := prog_17_method_103_code
def yJ7_fill_53178 : MethodName := ⟨RJ7, "fill", "([II)V"⟩
def RL : String := "BellFoundryLaw"
abbrev cL_cell : ByteArray := method_2_code
def yL_cell : MethodName := ⟨RL, "cell", "([II)I"⟩
abbrev cL_low : ByteArray := method_3_code
def yL_low : MethodName := ⟨RL, "low", "(II)I"⟩
abbrev cL_sum : ByteArray := method_4_code
def yL_sum : MethodName := ⟨RL, "sum", "(LBellFoundry;)J"⟩
abbrev cL_refused : ByteArray := method_5_code
def yL_refused : MethodName := ⟨RL, "refused", "(LBellFoundry;)Z"⟩
abbrev cL_areBells : ByteArray := method_6_code
def yL_areBells : MethodName := ⟨RL, "areBells", "(LBellFoundry;)Z"⟩
abbrev cL_areMetals : ByteArray := method_7_code
def yL_areMetals : MethodName := ⟨RL, "areMetals", "(LBellFoundry;)Z"⟩
abbrev cL_fits : ByteArray := method_8_code
def yL_fits : MethodName := ⟨RL, "fits", "(LBellFoundry;)Z"⟩
abbrev cL_comesTrue : ByteArray := method_9_code
def yL_comesTrue : MethodName := ⟨RL, "comesTrue", "(LBellFoundry;I)Z"⟩
abbrev cL_areLoads : ByteArray := method_10_code
def yL_areLoads : MethodName := ⟨RL, "areLoads", "(LBellFoundry;I)Z"⟩
abbrev cL_number : ByteArray := method_11_code
def yL_number : MethodName := ⟨RL, "number", "(LBellFoundry;I)Z"⟩
abbrev cL_acts : ByteArray := method_12_code
def yL_acts : MethodName := ⟨RL, "acts", "(LBellFoundry;III)Z"⟩
abbrev cL_law : ByteArray := code
def yL_law : MethodName := ⟨RL, "law", "([I)Z"⟩
abbrev vwCl : List vw_C := [(RX0, TX0, 7), (RX1, TX1, 12), (RX2, TX2, 2), (RX3, TX3, 2), (RX4, TX4, 3), (RX5, TX5, 2), (RX6, TX6, 2), (RX7, TX7, 4), (RX8, TX8, 3), (RX9, TX9, 12), (RX10, TX10, 6)]
