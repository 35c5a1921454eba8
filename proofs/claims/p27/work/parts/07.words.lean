theorem cl_L_14 : Cond.classLink "BellFoundryLaw" 14 "BellFoundry" ∈ WW := wwT 15 (by decide +kernel) (by decide +kernel)
theorem is_X10 : Cond.instantiable "BellFoundry" 6 ∈ WW := wwT 16 (by decide +kernel) (by decide +kernel)
theorem ml_L_113 : Cond.methodLink "BellFoundryLaw" 113 yX10_init ∈ WW := wwT 17 (by decide +kernel) (by decide +kernel)
theorem ml_X10_1 : Cond.methodLink "BellFoundry" 1 objectInit ∈ WW := wwT 20 (by decide +kernel) (by decide +kernel)
theorem cl_X10_7 : Cond.classLink "BellFoundry" 7 "BellFoundry$Works" ∈ WW := wwT 23 (by decide +kernel) (by decide +kernel)
theorem is_X9 : Cond.instantiable "BellFoundry$Works" 12 ∈ WW := wwT 24 (by decide +kernel) (by decide +kernel)
theorem ml_X10_9 : Cond.methodLink "BellFoundry" 9 yX9_init ∈ WW := wwT 25 (by decide +kernel) (by decide +kernel)
theorem ml_X9_3 : Cond.methodLink "BellFoundry$Works" 3 objectInit ∈ WW := wwT 28 (by decide +kernel) (by decide +kernel)
theorem cl_X9_9 : Cond.classLink "BellFoundry$Works" 9 "BellFoundry$Mixture" ∈ WW := wwT 29 (by decide +kernel) (by decide +kernel)
theorem is_X6 : Cond.instantiable "BellFoundry$Mixture" 2 ∈ WW := wwT 30 (by decide +kernel) (by decide +kernel)
theorem ml_X9_11 : (("BellFoundry$Works", 11, yX6_init) : String × Nat × MethodName) ∈ NLm := List.mem_of_getElem? (i := 0) rfl
theorem ml_X6_3 : Cond.methodLink "BellFoundry$Mixture" 3 objectInit ∈ WW := wwT 34 (by decide +kernel) (by decide +kernel)
theorem fl_X6_9 : Cond.fieldLink "BellFoundry$Mixture" 9 "BellFoundry$Mixture" "copper" "I" ∈ WW := wwT 35 (by decide +kernel) (by decide +kernel)
theorem fl_X6_15 : Cond.fieldLink "BellFoundry$Mixture" 15 "BellFoundry$Mixture" "tin" "I" ∈ WW := wwT 36 (by decide +kernel) (by decide +kernel)
theorem cl_X9_27 : Cond.classLink "BellFoundry$Works" 27 "BellFoundry$Heap" ∈ WW := wwT 42 (by decide +kernel) (by decide +kernel)
theorem is_X2 : Cond.instantiable "BellFoundry$Heap" 2 ∈ WW := wwT 43 (by decide +kernel) (by decide +kernel)
theorem ml_X9_29 : Cond.methodLink "BellFoundry$Works" 29 yX2_init ∈ WW := wwT 44 (by decide +kernel) (by decide +kernel)
theorem ml_X2_3 : Cond.methodLink "BellFoundry$Heap" 3 objectInit ∈ WW := wwT 47 (by decide +kernel) (by decide +kernel)
theorem cl_X2_9 : Cond.classLink "BellFoundry$Heap" 9 "BellFoundry$Lot" ∈ WW := wwT 48 (by decide +kernel) (by decide +kernel)
theorem is_X5 : Cond.instantiable "BellFoundry$Lot" 2 ∈ WW := wwT 50 (by decide +kernel) (by decide +kernel)
theorem ml_X2_21 : (("BellFoundry$Heap", 21, yX5_init) : String × Nat × MethodName) ∈ NLm := List.mem_of_getElem? (i := 1) rfl
theorem ml_X5_3 : Cond.methodLink "BellFoundry$Lot" 3 objectInit ∈ WW := wwT 54 (by decide +kernel) (by decide +kernel)
theorem cl_X5_9 : Cond.classLink "BellFoundry$Lot" 9 "BellFoundry$Mixture" ∈ WW := wwT 55 (by decide +kernel) (by decide +kernel)
theorem ml_X5_11 : (("BellFoundry$Lot", 11, yX6_init) : String × Nat × MethodName) ∈ NLm := List.mem_of_getElem? (i := 2) rfl
theorem fl_X5_12 : Cond.fieldLink "BellFoundry$Lot" 12 "BellFoundry$Lot" "metal" "LBellFoundry$Mixture;" ∈ WW := wwT 57 (by decide +kernel) (by decide +kernel)
theorem fl_X2_32 : (("BellFoundry$Heap", 32, "BellFoundry$Lot", "metal", "LBellFoundry$Mixture;") : String × Nat × String × String × String) ∈ NLf := List.mem_of_getElem? (i := 0) rfl
theorem fl_X10_93 : (("BellFoundry", 93, "BellFoundry$Lot", "metal", "LBellFoundry$Mixture;") : String × Nat × String × String × String) ∈ NLf := List.mem_of_getElem? (i := 1) rfl
theorem fl_X9_101 : (("BellFoundry$Works", 101, "BellFoundry$Lot", "metal", "LBellFoundry$Mixture;") : String × Nat × String × String × String) ∈ NLf := List.mem_of_getElem? (i := 2) rfl
theorem fl_X5_18 : Cond.fieldLink "BellFoundry$Lot" 18 "BellFoundry$Lot" "kind" "I" ∈ WW := wwT 61 (by decide +kernel) (by decide +kernel)
theorem fl_X2_39 : (("BellFoundry$Heap", 39, "BellFoundry$Lot", "kind", "I") : String × Nat × String × String × String) ∈ NLf := List.mem_of_getElem? (i := 3) rfl
theorem fl_X9_96 : (("BellFoundry$Works", 96, "BellFoundry$Lot", "kind", "I") : String × Nat × String × String × String) ∈ NLf := List.mem_of_getElem? (i := 4) rfl
theorem fl_X10_106 : (("BellFoundry", 106, "BellFoundry$Lot", "kind", "I") : String × Nat × String × String × String) ∈ NLf := List.mem_of_getElem? (i := 5) rfl
theorem fl_X2_11 : Cond.fieldLink "BellFoundry$Heap" 11 "BellFoundry$Heap" "row" "[LBellFoundry$Lot;" ∈ WW := wwT 70 (by decide +kernel) (by decide +kernel)
theorem fl_X2_17 : Cond.fieldLink "BellFoundry$Heap" 17 "BellFoundry$Heap" "size" "I" ∈ WW := wwT 71 (by decide +kernel) (by decide +kernel)
theorem fl_X10_248 : (("BellFoundry", 248, "BellFoundry$Heap", "size", "I") : String × Nat × String × String × String) ∈ NLf := List.mem_of_getElem? (i := 6) rfl
theorem fl_X9_34 : (("BellFoundry$Works", 34, "BellFoundry", "SETTING_FIRST", "[I") : String × Nat × String × String × String) ∈ NLf := List.mem_of_getElem? (i := 7) rfl
theorem ml_X9_38 : Cond.methodLink "BellFoundry$Works" 38 ⟨"[I", "clone", "()Ljava/lang/Object;"⟩ ∈ WW := wwT 80 (by decide +kernel) (by decide +kernel)
theorem sm_clone : Cond.sameMethod "[I" "java/lang/Object" "clone" "()Ljava/lang/Object;" ∈ WW := wwT 81 (by decide +kernel) (by decide +kernel)
theorem nt_qclone : Cond.native ⟨"java/lang/Object", "clone", "()Ljava/lang/Object;"⟩ ∈ WW := wwT 82 (by decide +kernel) (by decide +kernel)
theorem cl_X9_39 : Cond.classLink "BellFoundry$Works" 39 "[I" ∈ WW := wwT 86 (by decide +kernel) (by decide +kernel)
theorem cl_X9_46 : Cond.classLink "BellFoundry$Works" 46 "BellFoundry$Bell" ∈ WW := wwT 87 (by decide +kernel) (by decide +kernel)
theorem cl_X9_52 : Cond.classLink "BellFoundry$Works" 52 "BellFoundry$Order" ∈ WW := wwT 89 (by decide +kernel) (by decide +kernel)
theorem is_X0 : Cond.instantiable "BellFoundry$Bell" 7 ∈ WW := wwT 91 (by decide +kernel) (by decide +kernel)
theorem ml_X9_71 : (("BellFoundry$Works", 71, yX0_init) : String × Nat × MethodName) ∈ NLm := List.mem_of_getElem? (i := 3) rfl
theorem ml_X0_3 : Cond.methodLink "BellFoundry$Bell" 3 objectInit ∈ WW := wwT 95 (by decide +kernel) (by decide +kernel)
theorem cl_X0_9 : Cond.classLink "BellFoundry$Bell" 9 "BellFoundry$Mixture" ∈ WW := wwT 96 (by decide +kernel) (by decide +kernel)
theorem ml_X0_11 : (("BellFoundry$Bell", 11, yX6_init) : String × Nat × MethodName) ∈ NLm := List.mem_of_getElem? (i := 4) rfl
theorem fl_X0_12 : Cond.fieldLink "BellFoundry$Bell" 12 "BellFoundry$Bell" "metal" "LBellFoundry$Mixture;" ∈ WW := wwT 98 (by decide +kernel) (by decide +kernel)
theorem fl_X1_102 : (("BellFoundry$FrameReader", 102, "BellFoundry$Bell", "metal", "LBellFoundry$Mixture;") : String × Nat × String × String × String) ∈ NLf := List.mem_of_getElem? (i := 8) rfl
theorem fl_X10_157 : (("BellFoundry", 157, "BellFoundry$Bell", "metal", "LBellFoundry$Mixture;") : String × Nat × String × String × String) ∈ NLf := List.mem_of_getElem? (i := 9) rfl
theorem fl_X9_125 : (("BellFoundry$Works", 125, "BellFoundry$Bell", "metal", "LBellFoundry$Mixture;") : String × Nat × String × String × String) ∈ NLf := List.mem_of_getElem? (i := 10) rfl
theorem fl_X0_18 : Cond.fieldLink "BellFoundry$Bell" 18 "BellFoundry$Bell" "profile" "I" ∈ WW := wwT 102 (by decide +kernel) (by decide +kernel)
theorem fl_X7_33 : (("BellFoundry$Order", 33, "BellFoundry$Bell", "profile", "I") : String × Nat × String × String × String) ∈ NLf := List.mem_of_getElem? (i := 11) rfl
theorem fl_X9_137 : (("BellFoundry$Works", 137, "BellFoundry$Bell", "profile", "I") : String × Nat × String × String × String) ∈ NLf := List.mem_of_getElem? (i := 12) rfl
theorem fl_X10_173 : (("BellFoundry", 173, "BellFoundry$Bell", "profile", "I") : String × Nat × String × String × String) ∈ NLf := List.mem_of_getElem? (i := 13) rfl
theorem fl_X0_22 : Cond.fieldLink "BellFoundry$Bell" 22 "BellFoundry$Bell" "pitch" "I" ∈ WW := wwT 106 (by decide +kernel) (by decide +kernel)
theorem fl_X7_34 : (("BellFoundry$Order", 34, "BellFoundry$Bell", "pitch", "I") : String × Nat × String × String × String) ∈ NLf := List.mem_of_getElem? (i := 14) rfl
theorem fl_X10_162 : (("BellFoundry", 162, "BellFoundry$Bell", "pitch", "I") : String × Nat × String × String × String) ∈ NLf := List.mem_of_getElem? (i := 15) rfl
theorem fl_X9_147 : (("BellFoundry$Works", 147, "BellFoundry$Bell", "pitch", "I") : String × Nat × String × String × String) ∈ NLf := List.mem_of_getElem? (i := 16) rfl
theorem fl_X0_25 : Cond.fieldLink "BellFoundry$Bell" 25 "BellFoundry$Bell" "weightPoured" "I" ∈ WW := wwT 110 (by decide +kernel) (by decide +kernel)
theorem fl_X9_150 : (("BellFoundry$Works", 150, "BellFoundry$Bell", "weightPoured", "I") : String × Nat × String × String × String) ∈ NLf := List.mem_of_getElem? (i := 17) rfl
theorem fl_X10_176 : (("BellFoundry", 176, "BellFoundry$Bell", "weightPoured", "I") : String × Nat × String × String × String) ∈ NLf := List.mem_of_getElem? (i := 18) rfl
theorem fl_X0_28 : Cond.fieldLink "BellFoundry$Bell" 28 "BellFoundry$Bell" "drawn" "I" ∈ WW := wwT 113 (by decide +kernel) (by decide +kernel)
theorem fl_X9_153 : (("BellFoundry$Works", 153, "BellFoundry$Bell", "drawn", "I") : String × Nat × String × String × String) ∈ NLf := List.mem_of_getElem? (i := 19) rfl
theorem fl_X10_179 : (("BellFoundry", 179, "BellFoundry$Bell", "drawn", "I") : String × Nat × String × String × String) ∈ NLf := List.mem_of_getElem? (i := 20) rfl
theorem fl_X0_31 : Cond.fieldLink "BellFoundry$Bell" 31 "BellFoundry$Bell" "state" "I" ∈ WW := wwT 116 (by decide +kernel) (by decide +kernel)
theorem fl_X7_30 : (("BellFoundry$Order", 30, "BellFoundry$Bell", "state", "I") : String × Nat × String × String × String) ∈ NLf := List.mem_of_getElem? (i := 21) rfl
theorem fl_X10_152 : (("BellFoundry", 152, "BellFoundry$Bell", "state", "I") : String × Nat × String × String × String) ∈ NLf := List.mem_of_getElem? (i := 22) rfl
theorem fl_X9_156 : (("BellFoundry$Works", 156, "BellFoundry$Bell", "state", "I") : String × Nat × String × String × String) ∈ NLf := List.mem_of_getElem? (i := 23) rfl
theorem fl_X0_34 : Cond.fieldLink "BellFoundry$Bell" 34 "BellFoundry$Bell" "order" "I" ∈ WW := wwT 120 (by decide +kernel) (by decide +kernel)
theorem fl_X9_159 : (("BellFoundry$Works", 159, "BellFoundry$Bell", "order", "I") : String × Nat × String × String × String) ∈ NLf := List.mem_of_getElem? (i := 24) rfl
theorem fl_X10_182 : (("BellFoundry", 182, "BellFoundry$Bell", "order", "I") : String × Nat × String × String × String) ∈ NLf := List.mem_of_getElem? (i := 25) rfl
theorem ac_int : Cond.arrayClass .int ∈ WW := wwT 138 (by decide +kernel) (by decide +kernel)
theorem is_X7 : Cond.instantiable "BellFoundry$Order" 4 ∈ WW := wwT 139 (by decide +kernel) (by decide +kernel)
theorem ml_X9_72 : (("BellFoundry$Works", 72, yX7_init) : String × Nat × MethodName) ∈ NLm := List.mem_of_getElem? (i := 5) rfl
theorem ml_X7_3 : Cond.methodLink "BellFoundry$Order" 3 objectInit ∈ WW := wwT 143 (by decide +kernel) (by decide +kernel)
theorem fl_X7_9 : Cond.fieldLink "BellFoundry$Order" 9 "BellFoundry$Order" "profile" "I" ∈ WW := wwT 144 (by decide +kernel) (by decide +kernel)
theorem fl_X9_172 : (("BellFoundry$Works", 172, "BellFoundry$Order", "profile", "I") : String × Nat × String × String × String) ∈ NLf := List.mem_of_getElem? (i := 26) rfl
theorem fl_X10_206 : (("BellFoundry", 206, "BellFoundry$Order", "profile", "I") : String × Nat × String × String × String) ∈ NLf := List.mem_of_getElem? (i := 27) rfl
theorem fl_X7_15 : Cond.fieldLink "BellFoundry$Order" 15 "BellFoundry$Order" "pitch" "I" ∈ WW := wwT 147 (by decide +kernel) (by decide +kernel)
theorem fl_X9_173 : (("BellFoundry$Works", 173, "BellFoundry$Order", "pitch", "I") : String × Nat × String × String × String) ∈ NLf := List.mem_of_getElem? (i := 28) rfl
theorem fl_X10_207 : (("BellFoundry", 207, "BellFoundry$Order", "pitch", "I") : String × Nat × String × String × String) ∈ NLf := List.mem_of_getElem? (i := 29) rfl
theorem fl_X7_18 : Cond.fieldLink "BellFoundry$Order" 18 "BellFoundry$Order" "tolerance" "I" ∈ WW := wwT 150 (by decide +kernel) (by decide +kernel)
theorem fl_X9_174 : (("BellFoundry$Works", 174, "BellFoundry$Order", "tolerance", "I") : String × Nat × String × String × String) ∈ NLf := List.mem_of_getElem? (i := 30) rfl
theorem fl_X10_208 : (("BellFoundry", 208, "BellFoundry$Order", "tolerance", "I") : String × Nat × String × String × String) ∈ NLf := List.mem_of_getElem? (i := 31) rfl
theorem fl_X7_21 : Cond.fieldLink "BellFoundry$Order" 21 "BellFoundry$Order" "state" "I" ∈ WW := wwT 153 (by decide +kernel) (by decide +kernel)
theorem fl_X10_199 : (("BellFoundry", 199, "BellFoundry$Order", "state", "I") : String × Nat × String × String × String) ∈ NLf := List.mem_of_getElem? (i := 32) rfl
theorem fl_X9_177 : (("BellFoundry$Works", 177, "BellFoundry$Order", "state", "I") : String × Nat × String × String × String) ∈ NLf := List.mem_of_getElem? (i := 33) rfl
theorem fl_X9_12 : Cond.fieldLink "BellFoundry$Works" 12 "BellFoundry$Works" "bought" "LBellFoundry$Mixture;" ∈ WW := wwT 165 (by decide +kernel) (by decide +kernel)
theorem fl_X10_69 : (("BellFoundry", 69, "BellFoundry$Works", "bought", "LBellFoundry$Mixture;") : String × Nat × String × String × String) ∈ NLf := List.mem_of_getElem? (i := 34) rfl
theorem fl_X9_18 : Cond.fieldLink "BellFoundry$Works" 18 "BellFoundry$Works" "stock" "LBellFoundry$Mixture;" ∈ WW := wwT 167 (by decide +kernel) (by decide +kernel)
theorem fl_X10_54 : (("BellFoundry", 54, "BellFoundry$Works", "stock", "LBellFoundry$Mixture;") : String × Nat × String × String × String) ∈ NLf := List.mem_of_getElem? (i := 35) rfl
theorem fl_X9_21 : Cond.fieldLink "BellFoundry$Works" 21 "BellFoundry$Works" "slag" "LBellFoundry$Mixture;" ∈ WW := wwT 169 (by decide +kernel) (by decide +kernel)
theorem fl_X10_245 : (("BellFoundry", 245, "BellFoundry$Works", "slag", "LBellFoundry$Mixture;") : String × Nat × String × String × String) ∈ NLf := List.mem_of_getElem? (i := 36) rfl
theorem fl_X9_24 : Cond.fieldLink "BellFoundry$Works" 24 "BellFoundry$Works" "melt" "LBellFoundry$Mixture;" ∈ WW := wwT 171 (by decide +kernel) (by decide +kernel)
theorem fl_X10_76 : (("BellFoundry", 76, "BellFoundry$Works", "melt", "LBellFoundry$Mixture;") : String × Nat × String × String × String) ∈ NLf := List.mem_of_getElem? (i := 37) rfl
theorem fl_X9_30 : Cond.fieldLink "BellFoundry$Works" 30 "BellFoundry$Works" "heap" "LBellFoundry$Heap;" ∈ WW := wwT 173 (by decide +kernel) (by decide +kernel)
theorem fl_X10_83 : (("BellFoundry", 83, "BellFoundry$Works", "heap", "LBellFoundry$Heap;") : String × Nat × String × String × String) ∈ NLf := List.mem_of_getElem? (i := 38) rfl
theorem fl_X9_43 : Cond.fieldLink "BellFoundry$Works" 43 "BellFoundry$Works" "settings" "[I" ∈ WW := wwT 175 (by decide +kernel) (by decide +kernel)
theorem fl_X10_129 : (("BellFoundry", 129, "BellFoundry$Works", "settings", "[I") : String × Nat × String × String × String) ∈ NLf := List.mem_of_getElem? (i := 39) rfl
theorem fl_X9_48 : Cond.fieldLink "BellFoundry$Works" 48 "BellFoundry$Works" "bells" "[LBellFoundry$Bell;" ∈ WW := wwT 177 (by decide +kernel) (by decide +kernel)
theorem fl_X10_228 : (("BellFoundry", 228, "BellFoundry$Works", "bells", "[LBellFoundry$Bell;") : String × Nat × String × String × String) ∈ NLf := List.mem_of_getElem? (i := 40) rfl
theorem fl_X9_54 : Cond.fieldLink "BellFoundry$Works" 54 "BellFoundry$Works" "orders" "[LBellFoundry$Order;" ∈ WW := wwT 179 (by decide +kernel) (by decide +kernel)
theorem fl_X9_58 : Cond.fieldLink "BellFoundry$Works" 58 "BellFoundry$Works" "poured" "I" ∈ WW := wwT 180 (by decide +kernel) (by decide +kernel)
theorem fl_X10_141 : (("BellFoundry", 141, "BellFoundry$Works", "poured", "I") : String × Nat × String × String × String) ∈ NLf := List.mem_of_getElem? (i := 41) rfl
theorem fl_X9_62 : Cond.fieldLink "BellFoundry$Works" 62 "BellFoundry$Works" "came" "I" ∈ WW := wwT 182 (by decide +kernel) (by decide +kernel)
theorem fl_X10_188 : (("BellFoundry", 188, "BellFoundry$Works", "came", "I") : String × Nat × String × String × String) ∈ NLf := List.mem_of_getElem? (i := 42) rfl
theorem fl_X9_65 : Cond.fieldLink "BellFoundry$Works" 65 "BellFoundry$Works" "ladle" "LBellFoundry$Mixture;" ∈ WW := wwT 184 (by decide +kernel) (by decide +kernel)
theorem fl_X9_68 : Cond.fieldLink "BellFoundry$Works" 68 "BellFoundry$Works" "burnt" "LBellFoundry$Mixture;" ∈ WW := wwT 185 (by decide +kernel) (by decide +kernel)
theorem cl_X10_16 : Cond.classLink "BellFoundry" 16 "BellFoundry$History" ∈ WW := wwT 211 (by decide +kernel) (by decide +kernel)
theorem is_X3 : Cond.instantiable "BellFoundry$History" 2 ∈ WW := wwT 212 (by decide +kernel) (by decide +kernel)
theorem ml_X10_18 : Cond.methodLink "BellFoundry" 18 yX3_init ∈ WW := wwT 213 (by decide +kernel) (by decide +kernel)
theorem ml_X3_3 : Cond.methodLink "BellFoundry$History" 3 objectInit ∈ WW := wwT 216 (by decide +kernel) (by decide +kernel)
theorem cl_X3_9 : Cond.classLink "BellFoundry$History" 9 "BellFoundry$Works" ∈ WW := wwT 217 (by decide +kernel) (by decide +kernel)
theorem ml_X3_21 : Cond.methodLink "BellFoundry$History" 21 yX9_init ∈ WW := wwT 219 (by decide +kernel) (by decide +kernel)
theorem fl_X3_11 : Cond.fieldLink "BellFoundry$History" 11 "BellFoundry$History" "states" "[LBellFoundry$Works;" ∈ WW := wwT 220 (by decide +kernel) (by decide +kernel)
theorem fl_X3_17 : Cond.fieldLink "BellFoundry$History" 17 "BellFoundry$History" "size" "I" ∈ WW := wwT 221 (by decide +kernel) (by decide +kernel)
theorem fl_X10_254 : (("BellFoundry", 254, "BellFoundry$History", "size", "I") : String × Nat × String × String × String) ∈ NLf := List.mem_of_getElem? (i := 43) rfl
theorem cl_X10_23 : Cond.classLink "BellFoundry" 23 "BellFoundry$WagonPacker" ∈ WW := wwT 228 (by decide +kernel) (by decide +kernel)
theorem is_X8 : Cond.instantiable "BellFoundry$WagonPacker" 3 ∈ WW := wwT 229 (by decide +kernel) (by decide +kernel)
theorem ml_X10_25 : (("BellFoundry", 25, yX8_init) : String × Nat × MethodName) ∈ NLm := List.mem_of_getElem? (i := 6) rfl
theorem ml_X8_3 : Cond.methodLink "BellFoundry$WagonPacker" 3 objectInit ∈ WW := wwT 233 (by decide +kernel) (by decide +kernel)
theorem fl_X8_9 : Cond.fieldLink "BellFoundry$WagonPacker" 9 "BellFoundry$WagonPacker" "weights" "[I" ∈ WW := wwT 234 (by decide +kernel) (by decide +kernel)
theorem fl_X8_15 : Cond.fieldLink "BellFoundry$WagonPacker" 15 "BellFoundry$WagonPacker" "best" "[I" ∈ WW := wwT 235 (by decide +kernel) (by decide +kernel)
theorem fl_X8_18 : Cond.fieldLink "BellFoundry$WagonPacker" 18 "BellFoundry$WagonPacker" "size" "I" ∈ WW := wwT 236 (by decide +kernel) (by decide +kernel)
theorem cl_X10_30 : Cond.classLink "BellFoundry" 30 "BellFoundry$FrameReader" ∈ WW := wwT 244 (by decide +kernel) (by decide +kernel)
theorem is_X1 : Cond.instantiable "BellFoundry$FrameReader" 12 ∈ WW := wwT 245 (by decide +kernel) (by decide +kernel)
theorem ml_X10_32 : Cond.methodLink "BellFoundry" 32 yX1_init ∈ WW := wwT 246 (by decide +kernel) (by decide +kernel)
theorem ml_X1_3 : Cond.methodLink "BellFoundry$FrameReader" 3 objectInit ∈ WW := wwT 249 (by decide +kernel) (by decide +kernel)
theorem cl_X1_21 : Cond.classLink "BellFoundry$FrameReader" 21 "BellFoundry$Load" ∈ WW := wwT 250 (by decide +kernel) (by decide +kernel)
theorem is_X4 : Cond.instantiable "BellFoundry$Load" 3 ∈ WW := wwT 251 (by decide +kernel) (by decide +kernel)
theorem ml_X1_23 : (("BellFoundry$FrameReader", 23, yX4_init) : String × Nat × MethodName) ∈ NLm := List.mem_of_getElem? (i := 7) rfl
theorem ml_X4_1 : Cond.methodLink "BellFoundry$Load" 1 objectInit ∈ WW := wwT 255 (by decide +kernel) (by decide +kernel)
theorem fl_X4_7 : Cond.fieldLink "BellFoundry$Load" 7 "BellFoundry$Load" "weight" "I" ∈ WW := wwT 256 (by decide +kernel) (by decide +kernel)
theorem fl_X1_128 : (("BellFoundry$FrameReader", 128, "BellFoundry$Load", "weight", "I") : String × Nat × String × String × String) ∈ NLf := List.mem_of_getElem? (i := 44) rfl
theorem fl_X4_13 : Cond.fieldLink "BellFoundry$Load" 13 "BellFoundry$Load" "leastLevel" "I" ∈ WW := wwT 258 (by decide +kernel) (by decide +kernel)
theorem fl_X1_137 : (("BellFoundry$FrameReader", 137, "BellFoundry$Load", "leastLevel", "I") : String × Nat × String × String × String) ∈ NLf := List.mem_of_getElem? (i := 45) rfl
theorem fl_X4_16 : Cond.fieldLink "BellFoundry$Load" 16 "BellFoundry$Load" "step" "I" ∈ WW := wwT 260 (by decide +kernel) (by decide +kernel)
theorem fl_X1_11 : Cond.fieldLink "BellFoundry$FrameReader" 11 "BellFoundry$FrameReader" "expected" "I" ∈ WW := wwT 269 (by decide +kernel) (by decide +kernel)
theorem fl_X1_15 : Cond.fieldLink "BellFoundry$FrameReader" 15 "BellFoundry$FrameReader" "position" "I" ∈ WW := wwT 270 (by decide +kernel) (by decide +kernel)
theorem fl_X10_265 : (("BellFoundry", 265, "BellFoundry$FrameReader", "position", "I") : String × Nat × String × String × String) ∈ NLf := List.mem_of_getElem? (i := 46) rfl
theorem fl_X1_18 : Cond.fieldLink "BellFoundry$FrameReader" 18 "BellFoundry$FrameReader" "reason" "I" ∈ WW := wwT 272 (by decide +kernel) (by decide +kernel)
theorem fl_X10_262 : (("BellFoundry", 262, "BellFoundry$FrameReader", "reason", "I") : String × Nat × String × String × String) ∈ NLf := List.mem_of_getElem? (i := 47) rfl
theorem fl_X1_24 : Cond.fieldLink "BellFoundry$FrameReader" 24 "BellFoundry$FrameReader" "latest" "LBellFoundry$Load;" ∈ WW := wwT 274 (by decide +kernel) (by decide +kernel)
theorem fl_X1_28 : Cond.fieldLink "BellFoundry$FrameReader" 28 "BellFoundry$FrameReader" "firsts" "[LBellFoundry$Load;" ∈ WW := wwT 275 (by decide +kernel) (by decide +kernel)
theorem fl_X1_32 : Cond.fieldLink "BellFoundry$FrameReader" 32 "BellFoundry$FrameReader" "behindComma" "[Z" ∈ WW := wwT 276 (by decide +kernel) (by decide +kernel)
theorem fl_X1_36 : Cond.fieldLink "BellFoundry$FrameReader" 36 "BellFoundry$FrameReader" "open" "I" ∈ WW := wwT 277 (by decide +kernel) (by decide +kernel)
theorem fl_X1_39 : Cond.fieldLink "BellFoundry$FrameReader" 39 "BellFoundry$FrameReader" "hangs" "[I" ∈ WW := wwT 278 (by decide +kernel) (by decide +kernel)
theorem fl_X1_43 : Cond.fieldLink "BellFoundry$FrameReader" 43 "BellFoundry$FrameReader" "bells" "I" ∈ WW := wwT 279 (by decide +kernel) (by decide +kernel)
theorem fl_X1_46 : Cond.fieldLink "BellFoundry$FrameReader" 46 "BellFoundry$FrameReader" "beams" "I" ∈ WW := wwT 280 (by decide +kernel) (by decide +kernel)
theorem fl_X1_49 : Cond.fieldLink "BellFoundry$FrameReader" 49 "BellFoundry$FrameReader" "deepest" "I" ∈ WW := wwT 281 (by decide +kernel) (by decide +kernel)
theorem fl_X1_52 : Cond.fieldLink "BellFoundry$FrameReader" 52 "BellFoundry$FrameReader" "greatestSlant" "I" ∈ WW := wwT 282 (by decide +kernel) (by decide +kernel)
theorem ac_boolean : Cond.arrayClass .boolean ∈ WW := wwT 308 (by decide +kernel) (by decide +kernel)
theorem fl_X10_10 : Cond.fieldLink "BellFoundry" 10 "BellFoundry" "works" "LBellFoundry$Works;" ∈ WW := wwT 309 (by decide +kernel) (by decide +kernel)
theorem fl_X10_19 : Cond.fieldLink "BellFoundry" 19 "BellFoundry" "history" "LBellFoundry$History;" ∈ WW := wwT 310 (by decide +kernel) (by decide +kernel)
theorem fl_X10_26 : Cond.fieldLink "BellFoundry" 26 "BellFoundry" "packer" "LBellFoundry$WagonPacker;" ∈ WW := wwT 311 (by decide +kernel) (by decide +kernel)
theorem fl_X10_33 : Cond.fieldLink "BellFoundry" 33 "BellFoundry" "reader" "LBellFoundry$FrameReader;" ∈ WW := wwT 312 (by decide +kernel) (by decide +kernel)
theorem fl_X10_37 : Cond.fieldLink "BellFoundry" 37 "BellFoundry" "text" "[C" ∈ WW := wwT 313 (by decide +kernel) (by decide +kernel)
theorem fl_X10_41 : Cond.fieldLink "BellFoundry" 41 "BellFoundry" "length" "I" ∈ WW := wwT 314 (by decide +kernel) (by decide +kernel)
theorem ac_char : Cond.arrayClass .char ∈ WW := wwT 328 (by decide +kernel) (by decide +kernel)
theorem ml_L_38 : Cond.methodLink "BellFoundryLaw" 38 yX10_buy ∈ WW := wwT 329 (by decide +kernel) (by decide +kernel)
theorem ml_X10_45 : Cond.methodLink "BellFoundry" 45 yX10_isMetal ∈ WW := wwT 333 (by decide +kernel) (by decide +kernel)
theorem ml_X10_50 : Cond.methodLink "BellFoundry" 50 yX10_isIn ∈ WW := wwT 336 (by decide +kernel) (by decide +kernel)
theorem kc_X10_49 : Cond.constant "BellFoundry" 49 100000 ∈ WW := wwT 339 (by decide +kernel) (by decide +kernel)
theorem ml_X10_58 : Cond.methodLink "BellFoundry" 58 yX6_of ∈ WW := wwT 340 (by decide +kernel) (by decide +kernel)
theorem kc_X10_64 : Cond.constant "BellFoundry" 64 1000000 ∈ WW := wwT 344 (by decide +kernel) (by decide +kernel)
theorem ml_X10_65 : Cond.methodLink "BellFoundry" 65 yX3_keep ∈ WW := wwT 345 (by decide +kernel) (by decide +kernel)
theorem ml_X3_22 : Cond.methodLink "BellFoundry$History" 22 yX3_dropOldest ∈ WW := wwT 349 (by decide +kernel) (by decide +kernel)
theorem ml_X3_25 : Cond.methodLink "BellFoundry$History" 25 yX9_copyFrom ∈ WW := wwT 353 (by decide +kernel) (by decide +kernel)
theorem ml_X9_73 : Cond.methodLink "BellFoundry$Works" 73 yX6_copyFrom ∈ WW := wwT 357 (by decide +kernel) (by decide +kernel)
theorem ml_X9_77 : Cond.methodLink "BellFoundry$Works" 77 yX2_copyFrom ∈ WW := wwT 361 (by decide +kernel) (by decide +kernel)
theorem ml_X2_50 : Cond.methodLink "BellFoundry$Heap" 50 yX6_copyFrom ∈ WW := wwT 365 (by decide +kernel) (by decide +kernel)
theorem ml_X9_80 : Cond.methodLink "BellFoundry$Works" 80 arraycopyName ∈ WW := wwT 366 (by decide +kernel) (by decide +kernel)
theorem nt_acopy : Cond.native arraycopyName ∈ WW := wwT 368 (by decide +kernel) (by decide +kernel)
theorem ml_X9_86 : Cond.methodLink "BellFoundry$Works" 86 yX0_copyFrom ∈ WW := wwT 369 (by decide +kernel) (by decide +kernel)
theorem ml_X0_47 : Cond.methodLink "BellFoundry$Bell" 47 yX6_copyFrom ∈ WW := wwT 373 (by decide +kernel) (by decide +kernel)
theorem ml_X9_89 : Cond.methodLink "BellFoundry$Works" 89 yX7_copyFrom ∈ WW := wwT 374 (by decide +kernel) (by decide +kernel)
theorem ml_X10_72 : Cond.methodLink "BellFoundry" 72 yX6_put ∈ WW := wwT 378 (by decide +kernel) (by decide +kernel)
theorem ml_L_41 : Cond.methodLink "BellFoundryLaw" 41 yX10_charge ∈ WW := wwT 382 (by decide +kernel) (by decide +kernel)
theorem ml_X10_79 : Cond.methodLink "BellFoundry" 79 yX6_weight ∈ WW := wwT 386 (by decide +kernel) (by decide +kernel)
theorem ml_L_50 : Cond.methodLink "BellFoundryLaw" 50 yX10_set ∈ WW := wwT 390 (by decide +kernel) (by decide +kernel)
theorem fl_X10_119 : Cond.fieldLink "BellFoundry" 119 "BellFoundry" "SETTING_FIRST" "[I" ∈ WW := wwT 394 (by decide +kernel) (by decide +kernel)
theorem fl_X10_123 : Cond.fieldLink "BellFoundry" 123 "BellFoundry" "SETTING_FROM" "[I" ∈ WW := wwT 395 (by decide +kernel) (by decide +kernel)
theorem fl_X10_126 : Cond.fieldLink "BellFoundry" 126 "BellFoundry" "SETTING_TO" "[I" ∈ WW := wwT 397 (by decide +kernel) (by decide +kernel)
theorem ml_L_99 : Cond.methodLink "BellFoundryLaw" 99 yX10_undo ∈ WW := wwT 399 (by decide +kernel) (by decide +kernel)
theorem ml_X10_255 : Cond.methodLink "BellFoundry" 255 yX3_restore ∈ WW := wwT 403 (by decide +kernel) (by decide +kernel)
theorem ml_L_114 : Cond.methodLink "BellFoundryLaw" 114 yL_cell ∈ WW := wwT 407 (by decide +kernel) (by decide +kernel)
theorem kc_L_7 : Cond.constant "BellFoundryLaw" 7 916318735 ∈ WW := wwT 410 (by decide +kernel) (by decide +kernel)
theorem ml_L_96 : Cond.methodLink "BellFoundryLaw" 96 yL_low ∈ WW := wwT 411 (by decide +kernel) (by decide +kernel)
theorem kc_L_8 : Cond.constant "BellFoundryLaw" 8 2147483647 ∈ WW := wwT 414 (by decide +kernel) (by decide +kernel)
theorem ml_L_32 : Cond.methodLink "BellFoundryLaw" 32 yL_sum ∈ WW := wwT 415 (by decide +kernel) (by decide +kernel)
theorem kc_L_9 : Cond.constantLong "BellFoundryLaw" 9 17 ∈ WW := wwT 418 (by decide +kernel) (by decide +kernel)
theorem kc_L_11 : Cond.constantLong "BellFoundryLaw" 11 31 ∈ WW := wwT 419 (by decide +kernel) (by decide +kernel)
theorem ml_L_13 : Cond.methodLink "BellFoundryLaw" 13 yX10_count ∈ WW := wwT 420 (by decide +kernel) (by decide +kernel)
theorem ml_X10_138 : Cond.methodLink "BellFoundry" 138 yX9_remainingBells ∈ WW := wwT 424 (by decide +kernel) (by decide +kernel)
theorem ml_X9_178 : Cond.methodLink "BellFoundry$Works" 178 yX9_bellsIn ∈ WW := wwT 428 (by decide +kernel) (by decide +kernel)
theorem ml_X10_251 : Cond.methodLink "BellFoundry" 251 yX9_bellsIn ∈ WW := wwT 432 (by decide +kernel) (by decide +kernel)
theorem ml_X10_185 : Cond.methodLink "BellFoundry" 185 yX9_ordersIn ∈ WW := wwT 433 (by decide +kernel) (by decide +kernel)
theorem ml_L_19 : Cond.methodLink "BellFoundryLaw" 19 yX10_account ∈ WW := wwT 437 (by decide +kernel) (by decide +kernel)
theorem ml_X10_241 : Cond.methodLink "BellFoundry" 241 yX2_of ∈ WW := wwT 441 (by decide +kernel) (by decide +kernel)
theorem ml_X2_46 : Cond.methodLink "BellFoundry$Heap" 46 yX6_of ∈ WW := wwT 445 (by decide +kernel) (by decide +kernel)
theorem ml_X10_242 : Cond.methodLink "BellFoundry" 242 yX9_inBells ∈ WW := wwT 446 (by decide +kernel) (by decide +kernel)
theorem ml_X9_181 : Cond.methodLink "BellFoundry$Works" 181 yX6_of ∈ WW := wwT 450 (by decide +kernel) (by decide +kernel)
theorem ml_L_23 : Cond.methodLink "BellFoundryLaw" 23 yX10_lot ∈ WW := wwT 451 (by decide +kernel) (by decide +kernel)
theorem ml_X10_87 : Cond.methodLink "BellFoundry" 87 yX2_at ∈ WW := wwT 455 (by decide +kernel) (by decide +kernel)
theorem ml_X2_22 : (("BellFoundry$Heap", 22, yX10_isIn) : String × Nat × MethodName) ∈ NLm := List.mem_of_getElem? (i := 8) rfl
theorem ml_X10_109 : Cond.methodLink "BellFoundry" 109 yX6_tell ∈ WW := wwT 460 (by decide +kernel) (by decide +kernel)
theorem ml_X6_18 : Cond.methodLink "BellFoundry$Mixture" 18 yX6_weight ∈ WW := wwT 464 (by decide +kernel) (by decide +kernel)
theorem ml_X6_26 : Cond.methodLink "BellFoundry$Mixture" 26 yX6_alloy ∈ WW := wwT 465 (by decide +kernel) (by decide +kernel)
theorem ml_X6_22 : Cond.methodLink "BellFoundry$Mixture" 22 yX6_alloyOf ∈ WW := wwT 469 (by decide +kernel) (by decide +kernel)
theorem kc_X6_39 : Cond.constantLong "BellFoundry$Mixture" 39 1000 ∈ WW := wwT 472 (by decide +kernel) (by decide +kernel)
theorem ml_L_26 : Cond.methodLink "BellFoundryLaw" 26 yX10_bell ∈ WW := wwT 473 (by decide +kernel) (by decide +kernel)
theorem ml_X10_148 : Cond.methodLink "BellFoundry" 148 yX9_bellAt ∈ WW := wwT 477 (by decide +kernel) (by decide +kernel)
theorem ml_X9_92 : (("BellFoundry$Works", 92, yX10_isIn) : String × Nat × MethodName) ∈ NLm := List.mem_of_getElem? (i := 9) rfl
theorem ml_L_29 : Cond.methodLink "BellFoundryLaw" 29 yX10_orderOf ∈ WW := wwT 482 (by decide +kernel) (by decide +kernel)
theorem ml_X10_195 : Cond.methodLink "BellFoundry" 195 yX9_orderAt ∈ WW := wwT 486 (by decide +kernel) (by decide +kernel)
theorem ml_X10_211 : Cond.methodLink "BellFoundry" 211 yX9_lowestBellFor ∈ WW := wwT 490 (by decide +kernel) (by decide +kernel)
theorem ml_X9_184 : Cond.methodLink "BellFoundry$Works" 184 yX7_isFitBy ∈ WW := wwT 494 (by decide +kernel) (by decide +kernel)
theorem ml_X7_35 : Cond.methodLink "BellFoundry$Order" 35 yX7_takesPitch ∈ WW := wwT 498 (by decide +kernel) (by decide +kernel)
theorem ml_X7_24 : Cond.methodLink "BellFoundry$Order" 24 Lib.Math.abs.name ∈ WW := wwT 502 (by decide +kernel) (by decide +kernel)
theorem ml_X10_215 : Cond.methodLink "BellFoundry" 215 yX9_bellsFor ∈ WW := wwT 505 (by decide +kernel) (by decide +kernel)
theorem ml_L_118 : Cond.methodLink "BellFoundryLaw" 118 yL_refused ∈ WW := wwT 509 (by decide +kernel) (by decide +kernel)
theorem ml_L_44 : Cond.methodLink "BellFoundryLaw" 44 yX10_scrap ∈ WW := wwT 512 (by decide +kernel) (by decide +kernel)
theorem ml_X10_98 : Cond.methodLink "BellFoundry" 98 yX9_meltDown ∈ WW := wwT 516 (by decide +kernel) (by decide +kernel)
theorem ml_X9_104 : Cond.methodLink "BellFoundry$Works" 104 yX9_burn ∈ WW := wwT 520 (by decide +kernel) (by decide +kernel)
theorem ml_X9_110 : Cond.methodLink "BellFoundry$Works" 110 yX6_lossOf ∈ WW := wwT 524 (by decide +kernel) (by decide +kernel)
theorem ml_X6_29 : Cond.methodLink "BellFoundry$Mixture" 29 yX6_of ∈ WW := wwT 528 (by decide +kernel) (by decide +kernel)
theorem ml_X6_33 : (("BellFoundry$Mixture", 33, yX10_shareRoundedUp) : String × Nat × MethodName) ∈ NLm := List.mem_of_getElem? (i := 10) rfl
theorem ml_X9_114 : Cond.methodLink "BellFoundry$Works" 114 yX6_put ∈ WW := wwT 532 (by decide +kernel) (by decide +kernel)
theorem ml_X9_107 : Cond.methodLink "BellFoundry$Works" 107 yX6_mixWith ∈ WW := wwT 533 (by decide +kernel) (by decide +kernel)
theorem ml_X10_102 : Cond.methodLink "BellFoundry" 102 yX2_remove ∈ WW := wwT 537 (by decide +kernel) (by decide +kernel)
theorem ml_L_47 : Cond.methodLink "BellFoundryLaw" 47 yX10_melt ∈ WW := wwT 541 (by decide +kernel) (by decide +kernel)
theorem ml_X10_112 : Cond.methodLink "BellFoundry" 112 yX9_burntMelt ∈ WW := wwT 545 (by decide +kernel) (by decide +kernel)
theorem ml_X10_116 : Cond.methodLink "BellFoundry" 116 yX6_alloy ∈ WW := wwT 549 (by decide +kernel) (by decide +kernel)
theorem ml_L_53 : Cond.methodLink "BellFoundryLaw" 53 yX10_pour ∈ WW := wwT 550 (by decide +kernel) (by decide +kernel)
theorem ml_X10_132 : Cond.methodLink "BellFoundry" 132 yX10_isProfile ∈ WW := wwT 554 (by decide +kernel) (by decide +kernel)
theorem fl_X10_269 : Cond.fieldLink "BellFoundry" 269 "BellFoundry" "FACTORS" "[I" ∈ WW := wwT 557 (by decide +kernel) (by decide +kernel)
theorem ml_X10_135 : Cond.methodLink "BellFoundry" 135 yX9_weightWithSprue ∈ WW := wwT 559 (by decide +kernel) (by decide +kernel)
theorem ml_X9_121 : Cond.methodLink "BellFoundry$Works" 121 yX9_sprueOf ∈ WW := wwT 563 (by decide +kernel) (by decide +kernel)
theorem ml_X9_118 : (("BellFoundry$Works", 118, yX10_shareRoundedUp) : String × Nat × MethodName) ∈ NLm := List.mem_of_getElem? (i := 11) rfl
theorem ml_X10_144 : Cond.methodLink "BellFoundry" 144 yX9_castBell ∈ WW := wwT 568 (by decide +kernel) (by decide +kernel)
theorem ml_X9_126 : Cond.methodLink "BellFoundry$Works" 126 yX6_drawInto ∈ WW := wwT 572 (by decide +kernel) (by decide +kernel)
theorem ml_X6_36 : Cond.methodLink "BellFoundry$Mixture" 36 yX6_copperOfDraw ∈ WW := wwT 576 (by decide +kernel) (by decide +kernel)
theorem ml_X9_130 : Cond.methodLink "BellFoundry$Works" 130 yX2_add ∈ WW := wwT 580 (by decide +kernel) (by decide +kernel)
theorem ml_X2_26 : Cond.methodLink "BellFoundry$Heap" 26 yX6_weight ∈ WW := wwT 584 (by decide +kernel) (by decide +kernel)
theorem ml_X2_36 : Cond.methodLink "BellFoundry$Heap" 36 yX6_empty ∈ WW := wwT 585 (by decide +kernel) (by decide +kernel)
theorem ml_X2_42 : Cond.methodLink "BellFoundry$Heap" 42 yX6_mixWith ∈ WW := wwT 589 (by decide +kernel) (by decide +kernel)
theorem ml_X9_133 : Cond.methodLink "BellFoundry$Works" 133 yX6_alloy ∈ WW := wwT 590 (by decide +kernel) (by decide +kernel)
theorem ml_X9_140 : (("BellFoundry$Works", 140, yX10_rootOf) : String × Nat × MethodName) ∈ NLm := List.mem_of_getElem? (i := 12) rfl
theorem ml_X10_272 : Cond.methodLink "BellFoundry" 272 yX10_cube ∈ WW := wwT 594 (by decide +kernel) (by decide +kernel)
theorem kc_X10_276 : Cond.constantLong "BellFoundry" 276 1000000 ∈ WW := wwT 597 (by decide +kernel) (by decide +kernel)
theorem ml_X9_143 : (("BellFoundry$Works", 143, yX10_firstPitch) : String × Nat × MethodName) ∈ NLm := List.mem_of_getElem? (i := 13) rfl
theorem ml_X10_278 : Cond.methodLink "BellFoundry" 278 Lib.Math.max.name ∈ WW := wwT 601 (by decide +kernel) (by decide +kernel)
theorem ml_L_56 : Cond.methodLink "BellFoundryLaw" 56 yX10_tune ∈ WW := wwT 604 (by decide +kernel) (by decide +kernel)
theorem ml_X10_158 : Cond.methodLink "BellFoundry" 158 yX9_shave ∈ WW := wwT 608 (by decide +kernel) (by decide +kernel)
theorem ml_X9_162 : Cond.methodLink "BellFoundry$Works" 162 yX0_pitchBehind ∈ WW := wwT 612 (by decide +kernel) (by decide +kernel)
theorem ml_X0_37 : Cond.methodLink "BellFoundry$Bell" 37 yX6_weight ∈ WW := wwT 616 (by decide +kernel) (by decide +kernel)
theorem ml_X0_41 : Cond.methodLink "BellFoundry$Bell" 41 Lib.Math.max.name ∈ WW := wwT 617 (by decide +kernel) (by decide +kernel)
theorem ml_X9_165 : Cond.methodLink "BellFoundry$Works" 165 yX0_cracksBy ∈ WW := wwT 618 (by decide +kernel) (by decide +kernel)
theorem ml_L_59 : Cond.methodLink "BellFoundryLaw" 59 yX10_smash ∈ WW := wwT 622 (by decide +kernel) (by decide +kernel)
theorem ml_X10_165 : Cond.methodLink "BellFoundry" 165 yX0_remains ∈ WW := wwT 626 (by decide +kernel) (by decide +kernel)
theorem ml_X10_169 : Cond.methodLink "BellFoundry" 169 yX9_breakUp ∈ WW := wwT 630 (by decide +kernel) (by decide +kernel)
theorem ml_X9_169 : Cond.methodLink "BellFoundry$Works" 169 yX6_empty ∈ WW := wwT 634 (by decide +kernel) (by decide +kernel)
theorem ml_L_62 : Cond.methodLink "BellFoundryLaw" 62 yX10_order ∈ WW := wwT 635 (by decide +kernel) (by decide +kernel)
theorem ml_X10_191 : Cond.methodLink "BellFoundry" 191 yX9_takeOrder ∈ WW := wwT 639 (by decide +kernel) (by decide +kernel)
theorem ml_L_66 : Cond.methodLink "BellFoundryLaw" 66 yX10_cancel ∈ WW := wwT 643 (by decide +kernel) (by decide +kernel)
theorem ml_L_69 : Cond.methodLink "BellFoundryLaw" 69 yX10_send ∈ WW := wwT 647 (by decide +kernel) (by decide +kernel)
theorem ml_X10_202 : Cond.methodLink "BellFoundry" 202 yX7_isFitBy ∈ WW := wwT 651 (by decide +kernel) (by decide +kernel)
theorem ml_L_72 : Cond.methodLink "BellFoundryLaw" 72 yX10_tuneFor ∈ WW := wwT 652 (by decide +kernel) (by decide +kernel)
theorem ml_X10_218 : Cond.methodLink "BellFoundry" 218 yX9_fewestPoundsToFit ∈ WW := wwT 656 (by decide +kernel) (by decide +kernel)
theorem ml_X9_188 : Cond.methodLink "BellFoundry$Works" 188 yX6_weight ∈ WW := wwT 660 (by decide +kernel) (by decide +kernel)
theorem ml_X9_191 : Cond.methodLink "BellFoundry$Works" 191 Lib.Math.min.name ∈ WW := wwT 661 (by decide +kernel) (by decide +kernel)
theorem ml_X9_196 : Cond.methodLink "BellFoundry$Works" 196 yX7_takesPitch ∈ WW := wwT 664 (by decide +kernel) (by decide +kernel)
theorem ml_L_75 : Cond.methodLink "BellFoundryLaw" 75 yX10_pourFor ∈ WW := wwT 665 (by decide +kernel) (by decide +kernel)
theorem ml_X10_222 : Cond.methodLink "BellFoundry" 222 yX9_heaviestBellFor ∈ WW := wwT 669 (by decide +kernel) (by decide +kernel)
theorem ml_X9_199 : Cond.methodLink "BellFoundry$Works" 199 yX9_burntMelt ∈ WW := wwT 673 (by decide +kernel) (by decide +kernel)
theorem ml_X9_203 : (("BellFoundry$Works", 203, yX10_heaviestAtPitch) : String × Nat × MethodName) ∈ NLm := List.mem_of_getElem? (i := 14) rfl
theorem kc_X10_283 : Cond.constantLong "BellFoundry" 283 10000 ∈ WW := wwT 677 (by decide +kernel) (by decide +kernel)
theorem ml_X10_285 : Cond.methodLink "BellFoundry" 285 Lib.MathLoose.min_long.x ∈ WW := wwT 678 (by decide +kernel) (by decide +kernel)
theorem ml_X9_206 : (("BellFoundry$Works", 206, yX10_cube) : String × Nat × MethodName) ∈ NLm := List.mem_of_getElem? (i := 15) rfl
theorem kc_X9_210 : Cond.constantLong "BellFoundry$Works" 210 1000000 ∈ WW := wwT 682 (by decide +kernel) (by decide +kernel)
theorem ml_X9_212 : Cond.methodLink "BellFoundry$Works" 212 yX9_weightWithSprue ∈ WW := wwT 683 (by decide +kernel) (by decide +kernel)
theorem ml_X9_215 : Cond.methodLink "BellFoundry$Works" 215 yX6_alloyOfDraw ∈ WW := wwT 684 (by decide +kernel) (by decide +kernel)
theorem ml_L_78 : Cond.methodLink "BellFoundryLaw" 78 yX10_wagons ∈ WW := wwT 688 (by decide +kernel) (by decide +kernel)
theorem ml_X10_225 : Cond.methodLink "BellFoundry" 225 yX8_clear ∈ WW := wwT 692 (by decide +kernel) (by decide +kernel)
theorem ml_X10_232 : Cond.methodLink "BellFoundry" 232 yX8_add ∈ WW := wwT 696 (by decide +kernel) (by decide +kernel)
theorem ml_X10_235 : Cond.methodLink "BellFoundry" 235 yX8_heaviest ∈ WW := wwT 700 (by decide +kernel) (by decide +kernel)
theorem ml_X8_22 : Cond.methodLink "BellFoundry$WagonPacker" 22 Lib.Math.max.name ∈ WW := wwT 704 (by decide +kernel) (by decide +kernel)
theorem ml_X10_238 : Cond.methodLink "BellFoundry" 238 yX8_fewestWagons ∈ WW := wwT 705 (by decide +kernel) (by decide +kernel)
theorem ml_X8_28 : Cond.methodLink "BellFoundry$WagonPacker" 28 yX8_bestFor ∈ WW := wwT 709 (by decide +kernel) (by decide +kernel)
theorem kc_X8_31 : Cond.constant "BellFoundry$WagonPacker" 31 32768 ∈ WW := wwT 713 (by decide +kernel) (by decide +kernel)
theorem ml_X8_32 : Cond.methodLink "BellFoundry$WagonPacker" 32 Lib.Math.min.name ∈ WW := wwT 714 (by decide +kernel) (by decide +kernel)
theorem ml_L_81 : Cond.methodLink "BellFoundryLaw" 81 yX10_frame ∈ WW := wwT 715 (by decide +kernel) (by decide +kernel)
theorem ml_X10_258 : Cond.methodLink "BellFoundry" 258 yX1_read ∈ WW := wwT 719 (by decide +kernel) (by decide +kernel)
theorem ml_X1_55 : Cond.methodLink "BellFoundry$FrameReader" 55 yX1_begin ∈ WW := wwT 723 (by decide +kernel) (by decide +kernel)
theorem ml_X1_74 : Cond.methodLink "BellFoundry$FrameReader" 74 yJ7_fill_53178 ∈ WW := wwT 727 (by decide +kernel) (by decide +kernel)
theorem ml_X1_58 : Cond.methodLink "BellFoundry$FrameReader" 58 yX1_isDigit ∈ WW := wwT 730 (by decide +kernel) (by decide +kernel)
theorem ml_X1_62 : Cond.methodLink "BellFoundry$FrameReader" 62 yX1_digit ∈ WW := wwT 733 (by decide +kernel) (by decide +kernel)
theorem ml_X1_66 : Cond.methodLink "BellFoundry$FrameReader" 66 yX1_readBell ∈ WW := wwT 736 (by decide +kernel) (by decide +kernel)
theorem ml_X1_90 : Cond.methodLink "BellFoundry$FrameReader" 90 yX9_bellAt ∈ WW := wwT 740 (by decide +kernel) (by decide +kernel)
theorem ml_X1_96 : Cond.methodLink "BellFoundry$FrameReader" 96 yX0_remains ∈ WW := wwT 741 (by decide +kernel) (by decide +kernel)
theorem ml_X1_106 : Cond.methodLink "BellFoundry$FrameReader" 106 yX6_weight ∈ WW := wwT 742 (by decide +kernel) (by decide +kernel)
theorem ml_X1_111 : Cond.methodLink "BellFoundry$FrameReader" 111 yX4_hangBell ∈ WW := wwT 743 (by decide +kernel) (by decide +kernel)
theorem ml_X1_115 : Cond.methodLink "BellFoundry$FrameReader" 115 yX1_endFrame ∈ WW := wwT 747 (by decide +kernel) (by decide +kernel)
theorem ml_X1_70 : Cond.methodLink "BellFoundry$FrameReader" 70 yX1_readSign ∈ WW := wwT 751 (by decide +kernel) (by decide +kernel)
theorem ml_X1_80 : Cond.methodLink "BellFoundry$FrameReader" 80 yX1_openBeam ∈ WW := wwT 755 (by decide +kernel) (by decide +kernel)
theorem ml_X1_118 : Cond.methodLink "BellFoundry$FrameReader" 118 Lib.Math.max.name ∈ WW := wwT 759 (by decide +kernel) (by decide +kernel)
theorem ml_X1_84 : Cond.methodLink "BellFoundry$FrameReader" 84 yX1_passComma ∈ WW := wwT 760 (by decide +kernel) (by decide +kernel)
theorem ml_X1_124 : Cond.methodLink "BellFoundry$FrameReader" 124 yX4_copyFrom ∈ WW := wwT 764 (by decide +kernel) (by decide +kernel)
theorem ml_X1_87 : Cond.methodLink "BellFoundry$FrameReader" 87 yX1_closeBeam ∈ WW := wwT 768 (by decide +kernel) (by decide +kernel)
theorem ml_X1_130 : Cond.methodLink "BellFoundry$FrameReader" 130 Lib.Math.abs.name ∈ WW := wwT 772 (by decide +kernel) (by decide +kernel)
theorem ml_X1_134 : Cond.methodLink "BellFoundry$FrameReader" 134 yX4_hangBeam ∈ WW := wwT 773 (by decide +kernel) (by decide +kernel)
theorem ml_X4_19 : Cond.methodLink "BellFoundry$Load" 19 Lib.Math.max.name ∈ WW := wwT 777 (by decide +kernel) (by decide +kernel)
theorem ml_X4_25 : Cond.methodLink "BellFoundry$Load" 25 yX4_roundUpTo ∈ WW := wwT 778 (by decide +kernel) (by decide +kernel)
theorem ml_X10_268 : Cond.methodLink "BellFoundry" 268 yX1_tell ∈ WW := wwT 781 (by decide +kernel) (by decide +kernel)
theorem ml_L_84 : Cond.methodLink "BellFoundryLaw" 84 yX10_fault ∈ WW := wwT 785 (by decide +kernel) (by decide +kernel)
theorem ml_L_121 : Cond.methodLink "BellFoundryLaw" 121 yL_fits ∈ WW := wwT 789 (by decide +kernel) (by decide +kernel)
theorem ml_L_89 : Cond.methodLink "BellFoundryLaw" 89 yL_areBells ∈ WW := wwT 792 (by decide +kernel) (by decide +kernel)
theorem kc_L_87 : Cond.constantLong "BellFoundryLaw" 87 1000 ∈ WW := wwT 795 (by decide +kernel) (by decide +kernel)
theorem ml_L_93 : Cond.methodLink "BellFoundryLaw" 93 yL_areMetals ∈ WW := wwT 796 (by decide +kernel) (by decide +kernel)
theorem ml_L_131 : Cond.methodLink "BellFoundryLaw" 131 yL_comesTrue ∈ WW := wwT 799 (by decide +kernel) (by decide +kernel)
theorem ml_L_128 : Cond.methodLink "BellFoundryLaw" 128 yL_areLoads ∈ WW := wwT 802 (by decide +kernel) (by decide +kernel)
theorem ml_L_103 : Cond.methodLink "BellFoundryLaw" 103 yX10_clearText ∈ WW := wwT 805 (by decide +kernel) (by decide +kernel)
theorem ml_L_106 : Cond.methodLink "BellFoundryLaw" 106 yX10_type ∈ WW := wwT 809 (by decide +kernel) (by decide +kernel)
theorem ml_L_109 : Cond.methodLink "BellFoundryLaw" 109 yL_number ∈ WW := wwT 813 (by decide +kernel) (by decide +kernel)
theorem ml_L_124 : Cond.methodLink "BellFoundryLaw" 124 yL_acts ∈ WW := wwT 816 (by decide +kernel) (by decide +kernel)
theorem in_L : Cond.initialized "BellFoundryLaw" ∈ WW := wwT 0 (by decide +kernel) (by decide +kernel)
theorem in_X10 : Cond.initialized "BellFoundry" ∈ WW := wwT 1 (by decide +kernel) (by decide +kernel)
theorem in_X9 : Cond.initialized "BellFoundry$Works" ∈ WW := wwT 2 (by decide +kernel) (by decide +kernel)
theorem in_X6 : Cond.initialized "BellFoundry$Mixture" ∈ WW := wwT 3 (by decide +kernel) (by decide +kernel)
theorem in_X2 : Cond.initialized "BellFoundry$Heap" ∈ WW := wwT 4 (by decide +kernel) (by decide +kernel)
theorem in_X5 : Cond.initialized "BellFoundry$Lot" ∈ WW := wwT 5 (by decide +kernel) (by decide +kernel)
theorem in_X0 : Cond.initialized "BellFoundry$Bell" ∈ WW := wwT 6 (by decide +kernel) (by decide +kernel)
theorem in_X7 : Cond.initialized "BellFoundry$Order" ∈ WW := wwT 7 (by decide +kernel) (by decide +kernel)
theorem in_X3 : Cond.initialized "BellFoundry$History" ∈ WW := wwT 8 (by decide +kernel) (by decide +kernel)
theorem in_X8 : Cond.initialized "BellFoundry$WagonPacker" ∈ WW := wwT 9 (by decide +kernel) (by decide +kernel)
theorem in_X1 : Cond.initialized "BellFoundry$FrameReader" ∈ WW := wwT 10 (by decide +kernel) (by decide +kernel)
theorem in_X4 : Cond.initialized "BellFoundry$Load" ∈ WW := wwT 11 (by decide +kernel) (by decide +kernel)
theorem in_J10 : Cond.initialized "java/lang/System" ∈ WW := wwT 12 (by decide +kernel) (by decide +kernel)
theorem in_J9 : Cond.initialized "java/lang/Math" ∈ WW := wwT 13 (by decide +kernel) (by decide +kernel)
theorem in_J7 : Cond.initialized "java/util/Arrays" ∈ WW := wwT 14 (by decide +kernel) (by decide +kernel)
theorem im_X10_init : Cond.instanceMethod yX10_init ∈ WW := wwT 18 (by decide +kernel) (by decide +kernel)
theorem im_oinit : Cond.instanceMethod objectInit ∈ WW := wwT 21 (by decide +kernel) (by decide +kernel)
theorem im_X9_init : Cond.instanceMethod yX9_init ∈ WW := wwT 26 (by decide +kernel) (by decide +kernel)
theorem im_X6_init : Cond.instanceMethod yX6_init ∈ WW := wwT 32 (by decide +kernel) (by decide +kernel)
theorem im_X2_init : Cond.instanceMethod yX2_init ∈ WW := wwT 45 (by decide +kernel) (by decide +kernel)
theorem im_X5_init : Cond.instanceMethod yX5_init ∈ WW := wwT 52 (by decide +kernel) (by decide +kernel)
theorem im_qclone : Cond.instanceMethod ⟨"java/lang/Object", "clone", "()Ljava/lang/Object;"⟩ ∈ WW := wwT 83 (by decide +kernel) (by decide +kernel)
theorem im_X0_init : Cond.instanceMethod yX0_init ∈ WW := wwT 93 (by decide +kernel) (by decide +kernel)
theorem im_X7_init : Cond.instanceMethod yX7_init ∈ WW := wwT 141 (by decide +kernel) (by decide +kernel)
theorem im_X3_init : Cond.instanceMethod yX3_init ∈ WW := wwT 214 (by decide +kernel) (by decide +kernel)
theorem im_X8_init : Cond.instanceMethod yX8_init ∈ WW := wwT 231 (by decide +kernel) (by decide +kernel)
theorem im_X1_init : Cond.instanceMethod yX1_init ∈ WW := wwT 247 (by decide +kernel) (by decide +kernel)
theorem im_X4_init : Cond.instanceMethod yX4_init ∈ WW := wwT 253 (by decide +kernel) (by decide +kernel)
theorem im_X10_buy : Cond.instanceMethod yX10_buy ∈ WW := wwT 330 (by decide +kernel) (by decide +kernel)
theorem im_X6_of : Cond.instanceMethod yX6_of ∈ WW := wwT 341 (by decide +kernel) (by decide +kernel)
theorem im_X3_keep : Cond.instanceMethod yX3_keep ∈ WW := wwT 346 (by decide +kernel) (by decide +kernel)
theorem im_X3_dropOldest : Cond.instanceMethod yX3_dropOldest ∈ WW := wwT 351 (by decide +kernel) (by decide +kernel)
theorem im_X9_copyFrom : Cond.instanceMethod yX9_copyFrom ∈ WW := wwT 354 (by decide +kernel) (by decide +kernel)
theorem im_X6_copyFrom : Cond.instanceMethod yX6_copyFrom ∈ WW := wwT 358 (by decide +kernel) (by decide +kernel)
theorem im_X2_copyFrom : Cond.instanceMethod yX2_copyFrom ∈ WW := wwT 362 (by decide +kernel) (by decide +kernel)
theorem im_X0_copyFrom : Cond.instanceMethod yX0_copyFrom ∈ WW := wwT 370 (by decide +kernel) (by decide +kernel)
theorem im_X7_copyFrom : Cond.instanceMethod yX7_copyFrom ∈ WW := wwT 375 (by decide +kernel) (by decide +kernel)
theorem im_X6_put : Cond.instanceMethod yX6_put ∈ WW := wwT 379 (by decide +kernel) (by decide +kernel)
theorem im_X10_charge : Cond.instanceMethod yX10_charge ∈ WW := wwT 383 (by decide +kernel) (by decide +kernel)
theorem im_X6_weight : Cond.instanceMethod yX6_weight ∈ WW := wwT 387 (by decide +kernel) (by decide +kernel)
theorem im_X10_set : Cond.instanceMethod yX10_set ∈ WW := wwT 391 (by decide +kernel) (by decide +kernel)
theorem im_X10_undo : Cond.instanceMethod yX10_undo ∈ WW := wwT 400 (by decide +kernel) (by decide +kernel)
theorem im_X3_restore : Cond.instanceMethod yX3_restore ∈ WW := wwT 404 (by decide +kernel) (by decide +kernel)
theorem im_X10_count : Cond.instanceMethod yX10_count ∈ WW := wwT 421 (by decide +kernel) (by decide +kernel)
theorem im_X9_remainingBells : Cond.instanceMethod yX9_remainingBells ∈ WW := wwT 425 (by decide +kernel) (by decide +kernel)
theorem im_X9_bellsIn : Cond.instanceMethod yX9_bellsIn ∈ WW := wwT 429 (by decide +kernel) (by decide +kernel)
theorem im_X9_ordersIn : Cond.instanceMethod yX9_ordersIn ∈ WW := wwT 434 (by decide +kernel) (by decide +kernel)
theorem im_X10_account : Cond.instanceMethod yX10_account ∈ WW := wwT 438 (by decide +kernel) (by decide +kernel)
theorem im_X2_of : Cond.instanceMethod yX2_of ∈ WW := wwT 442 (by decide +kernel) (by decide +kernel)
theorem im_X9_inBells : Cond.instanceMethod yX9_inBells ∈ WW := wwT 447 (by decide +kernel) (by decide +kernel)
theorem im_X10_lot : Cond.instanceMethod yX10_lot ∈ WW := wwT 452 (by decide +kernel) (by decide +kernel)
theorem im_X2_at : Cond.instanceMethod yX2_at ∈ WW := wwT 456 (by decide +kernel) (by decide +kernel)
theorem im_X6_tell : Cond.instanceMethod yX6_tell ∈ WW := wwT 461 (by decide +kernel) (by decide +kernel)
theorem im_X6_alloy : Cond.instanceMethod yX6_alloy ∈ WW := wwT 466 (by decide +kernel) (by decide +kernel)
theorem im_X10_bell : Cond.instanceMethod yX10_bell ∈ WW := wwT 474 (by decide +kernel) (by decide +kernel)
theorem im_X9_bellAt : Cond.instanceMethod yX9_bellAt ∈ WW := wwT 478 (by decide +kernel) (by decide +kernel)
theorem im_X10_orderOf : Cond.instanceMethod yX10_orderOf ∈ WW := wwT 483 (by decide +kernel) (by decide +kernel)
theorem im_X9_orderAt : Cond.instanceMethod yX9_orderAt ∈ WW := wwT 487 (by decide +kernel) (by decide +kernel)
theorem im_X9_lowestBellFor : Cond.instanceMethod yX9_lowestBellFor ∈ WW := wwT 491 (by decide +kernel) (by decide +kernel)
theorem im_X7_isFitBy : Cond.instanceMethod yX7_isFitBy ∈ WW := wwT 495 (by decide +kernel) (by decide +kernel)
theorem im_X7_takesPitch : Cond.instanceMethod yX7_takesPitch ∈ WW := wwT 499 (by decide +kernel) (by decide +kernel)
theorem im_X9_bellsFor : Cond.instanceMethod yX9_bellsFor ∈ WW := wwT 506 (by decide +kernel) (by decide +kernel)
theorem im_X10_scrap : Cond.instanceMethod yX10_scrap ∈ WW := wwT 513 (by decide +kernel) (by decide +kernel)
theorem im_X9_meltDown : Cond.instanceMethod yX9_meltDown ∈ WW := wwT 517 (by decide +kernel) (by decide +kernel)
theorem im_X9_burn : Cond.instanceMethod yX9_burn ∈ WW := wwT 522 (by decide +kernel) (by decide +kernel)
theorem im_X6_lossOf : Cond.instanceMethod yX6_lossOf ∈ WW := wwT 525 (by decide +kernel) (by decide +kernel)
theorem im_X6_mixWith : Cond.instanceMethod yX6_mixWith ∈ WW := wwT 534 (by decide +kernel) (by decide +kernel)
theorem im_X2_remove : Cond.instanceMethod yX2_remove ∈ WW := wwT 538 (by decide +kernel) (by decide +kernel)
theorem im_X10_melt : Cond.instanceMethod yX10_melt ∈ WW := wwT 542 (by decide +kernel) (by decide +kernel)
theorem im_X9_burntMelt : Cond.instanceMethod yX9_burntMelt ∈ WW := wwT 546 (by decide +kernel) (by decide +kernel)
theorem im_X10_pour : Cond.instanceMethod yX10_pour ∈ WW := wwT 551 (by decide +kernel) (by decide +kernel)
theorem im_X9_weightWithSprue : Cond.instanceMethod yX9_weightWithSprue ∈ WW := wwT 560 (by decide +kernel) (by decide +kernel)
theorem im_X9_sprueOf : Cond.instanceMethod yX9_sprueOf ∈ WW := wwT 565 (by decide +kernel) (by decide +kernel)
theorem im_X9_castBell : Cond.instanceMethod yX9_castBell ∈ WW := wwT 569 (by decide +kernel) (by decide +kernel)
theorem im_X6_drawInto : Cond.instanceMethod yX6_drawInto ∈ WW := wwT 573 (by decide +kernel) (by decide +kernel)
theorem im_X6_copperOfDraw : Cond.instanceMethod yX6_copperOfDraw ∈ WW := wwT 578 (by decide +kernel) (by decide +kernel)
theorem im_X2_add : Cond.instanceMethod yX2_add ∈ WW := wwT 581 (by decide +kernel) (by decide +kernel)
theorem im_X6_empty : Cond.instanceMethod yX6_empty ∈ WW := wwT 586 (by decide +kernel) (by decide +kernel)
theorem im_X10_tune : Cond.instanceMethod yX10_tune ∈ WW := wwT 605 (by decide +kernel) (by decide +kernel)
theorem im_X9_shave : Cond.instanceMethod yX9_shave ∈ WW := wwT 609 (by decide +kernel) (by decide +kernel)
theorem im_X0_pitchBehind : Cond.instanceMethod yX0_pitchBehind ∈ WW := wwT 613 (by decide +kernel) (by decide +kernel)
theorem im_X0_cracksBy : Cond.instanceMethod yX0_cracksBy ∈ WW := wwT 619 (by decide +kernel) (by decide +kernel)
theorem im_X10_smash : Cond.instanceMethod yX10_smash ∈ WW := wwT 623 (by decide +kernel) (by decide +kernel)
theorem im_X0_remains : Cond.instanceMethod yX0_remains ∈ WW := wwT 627 (by decide +kernel) (by decide +kernel)
theorem im_X9_breakUp : Cond.instanceMethod yX9_breakUp ∈ WW := wwT 631 (by decide +kernel) (by decide +kernel)
theorem im_X10_order : Cond.instanceMethod yX10_order ∈ WW := wwT 636 (by decide +kernel) (by decide +kernel)
theorem im_X9_takeOrder : Cond.instanceMethod yX9_takeOrder ∈ WW := wwT 640 (by decide +kernel) (by decide +kernel)
theorem im_X10_cancel : Cond.instanceMethod yX10_cancel ∈ WW := wwT 644 (by decide +kernel) (by decide +kernel)
theorem im_X10_send : Cond.instanceMethod yX10_send ∈ WW := wwT 648 (by decide +kernel) (by decide +kernel)
theorem im_X10_tuneFor : Cond.instanceMethod yX10_tuneFor ∈ WW := wwT 653 (by decide +kernel) (by decide +kernel)
theorem im_X9_fewestPoundsToFit : Cond.instanceMethod yX9_fewestPoundsToFit ∈ WW := wwT 657 (by decide +kernel) (by decide +kernel)
theorem im_X10_pourFor : Cond.instanceMethod yX10_pourFor ∈ WW := wwT 666 (by decide +kernel) (by decide +kernel)
theorem im_X9_heaviestBellFor : Cond.instanceMethod yX9_heaviestBellFor ∈ WW := wwT 670 (by decide +kernel) (by decide +kernel)
theorem im_X6_alloyOfDraw : Cond.instanceMethod yX6_alloyOfDraw ∈ WW := wwT 685 (by decide +kernel) (by decide +kernel)
theorem im_X10_wagons : Cond.instanceMethod yX10_wagons ∈ WW := wwT 689 (by decide +kernel) (by decide +kernel)
theorem im_X8_clear : Cond.instanceMethod yX8_clear ∈ WW := wwT 693 (by decide +kernel) (by decide +kernel)
theorem im_X8_add : Cond.instanceMethod yX8_add ∈ WW := wwT 697 (by decide +kernel) (by decide +kernel)
theorem im_X8_heaviest : Cond.instanceMethod yX8_heaviest ∈ WW := wwT 701 (by decide +kernel) (by decide +kernel)
theorem im_X8_fewestWagons : Cond.instanceMethod yX8_fewestWagons ∈ WW := wwT 706 (by decide +kernel) (by decide +kernel)
theorem im_X8_bestFor : Cond.instanceMethod yX8_bestFor ∈ WW := wwT 711 (by decide +kernel) (by decide +kernel)
theorem im_X10_frame : Cond.instanceMethod yX10_frame ∈ WW := wwT 716 (by decide +kernel) (by decide +kernel)
theorem im_X1_read : Cond.instanceMethod yX1_read ∈ WW := wwT 720 (by decide +kernel) (by decide +kernel)
theorem im_X1_begin : Cond.instanceMethod yX1_begin ∈ WW := wwT 725 (by decide +kernel) (by decide +kernel)
theorem im_X1_readBell : Cond.instanceMethod yX1_readBell ∈ WW := wwT 738 (by decide +kernel) (by decide +kernel)
theorem im_X4_hangBell : Cond.instanceMethod yX4_hangBell ∈ WW := wwT 744 (by decide +kernel) (by decide +kernel)
theorem im_X1_endFrame : Cond.instanceMethod yX1_endFrame ∈ WW := wwT 749 (by decide +kernel) (by decide +kernel)
theorem im_X1_readSign : Cond.instanceMethod yX1_readSign ∈ WW := wwT 753 (by decide +kernel) (by decide +kernel)
theorem im_X1_openBeam : Cond.instanceMethod yX1_openBeam ∈ WW := wwT 757 (by decide +kernel) (by decide +kernel)
theorem im_X1_passComma : Cond.instanceMethod yX1_passComma ∈ WW := wwT 762 (by decide +kernel) (by decide +kernel)
theorem im_X4_copyFrom : Cond.instanceMethod yX4_copyFrom ∈ WW := wwT 765 (by decide +kernel) (by decide +kernel)
theorem im_X1_closeBeam : Cond.instanceMethod yX1_closeBeam ∈ WW := wwT 770 (by decide +kernel) (by decide +kernel)
theorem im_X4_hangBeam : Cond.instanceMethod yX4_hangBeam ∈ WW := wwT 774 (by decide +kernel) (by decide +kernel)
theorem im_X1_tell : Cond.instanceMethod yX1_tell ∈ WW := wwT 782 (by decide +kernel) (by decide +kernel)
theorem im_X10_fault : Cond.instanceMethod yX10_fault ∈ WW := wwT 786 (by decide +kernel) (by decide +kernel)
theorem im_X10_clearText : Cond.instanceMethod yX10_clearText ∈ WW := wwT 806 (by decide +kernel) (by decide +kernel)
theorem im_X10_type : Cond.instanceMethod yX10_type ∈ WW := wwT 810 (by decide +kernel) (by decide +kernel)
theorem st_X10_isMetal : Cond.static yX10_isMetal ∈ WW := wwT 334 (by decide +kernel) (by decide +kernel)
theorem st_X10_isIn : Cond.static yX10_isIn ∈ WW := wwT 337 (by decide +kernel) (by decide +kernel)
theorem st_acopy : Cond.static arraycopyName ∈ WW := wwT 367 (by decide +kernel) (by decide +kernel)
theorem st_L_cell : Cond.static yL_cell ∈ WW := wwT 408 (by decide +kernel) (by decide +kernel)
theorem st_L_low : Cond.static yL_low ∈ WW := wwT 412 (by decide +kernel) (by decide +kernel)
theorem st_L_sum : Cond.static yL_sum ∈ WW := wwT 416 (by decide +kernel) (by decide +kernel)
theorem st_X6_alloyOf : Cond.static yX6_alloyOf ∈ WW := wwT 470 (by decide +kernel) (by decide +kernel)
theorem st_abs : Cond.static Lib.Math.abs.name ∈ WW := wwT 503 (by decide +kernel) (by decide +kernel)
theorem st_L_refused : Cond.static yL_refused ∈ WW := wwT 510 (by decide +kernel) (by decide +kernel)
theorem st_X10_shareRoundedUp : Cond.static yX10_shareRoundedUp ∈ WW := wwT 530 (by decide +kernel) (by decide +kernel)
theorem st_X10_isProfile : Cond.static yX10_isProfile ∈ WW := wwT 555 (by decide +kernel) (by decide +kernel)
theorem st_X10_rootOf : Cond.static yX10_rootOf ∈ WW := wwT 592 (by decide +kernel) (by decide +kernel)
theorem st_X10_cube : Cond.static yX10_cube ∈ WW := wwT 595 (by decide +kernel) (by decide +kernel)
theorem st_X10_firstPitch : Cond.static yX10_firstPitch ∈ WW := wwT 599 (by decide +kernel) (by decide +kernel)
theorem st_max : Cond.static Lib.Math.max.name ∈ WW := wwT 602 (by decide +kernel) (by decide +kernel)
theorem st_min : Cond.static Lib.Math.min.name ∈ WW := wwT 662 (by decide +kernel) (by decide +kernel)
theorem st_X10_heaviestAtPitch : Cond.static yX10_heaviestAtPitch ∈ WW := wwT 675 (by decide +kernel) (by decide +kernel)
theorem st_lmin : Cond.static Lib.MathLoose.min_long.x ∈ WW := wwT 679 (by decide +kernel) (by decide +kernel)
theorem st_J7_fill_53178 : Cond.static yJ7_fill_53178 ∈ WW := wwT 728 (by decide +kernel) (by decide +kernel)
theorem st_X1_isDigit : Cond.static yX1_isDigit ∈ WW := wwT 731 (by decide +kernel) (by decide +kernel)
theorem st_X1_digit : Cond.static yX1_digit ∈ WW := wwT 734 (by decide +kernel) (by decide +kernel)
theorem st_X4_roundUpTo : Cond.static yX4_roundUpTo ∈ WW := wwT 779 (by decide +kernel) (by decide +kernel)
theorem st_L_fits : Cond.static yL_fits ∈ WW := wwT 790 (by decide +kernel) (by decide +kernel)
theorem st_L_areBells : Cond.static yL_areBells ∈ WW := wwT 793 (by decide +kernel) (by decide +kernel)
theorem st_L_areMetals : Cond.static yL_areMetals ∈ WW := wwT 797 (by decide +kernel) (by decide +kernel)
theorem st_L_comesTrue : Cond.static yL_comesTrue ∈ WW := wwT 800 (by decide +kernel) (by decide +kernel)
theorem st_L_areLoads : Cond.static yL_areLoads ∈ WW := wwT 803 (by decide +kernel) (by decide +kernel)
theorem st_L_number : Cond.static yL_number ∈ WW := wwT 814 (by decide +kernel) (by decide +kernel)
theorem st_L_acts : Cond.static yL_acts ∈ WW := wwT 817 (by decide +kernel) (by decide +kernel)
theorem co_X10_init : Cond.code yX10_init cX10_init 1 none ∈ WW := wwT 19 (by decide +kernel) (by decide +kernel)
theorem co_oinit : Cond.code objectInit object_method_1_code 1 none ∈ WW := wwT 22 (by decide +kernel) (by decide +kernel)
theorem co_X9_init : Cond.code yX9_init cX9_init 2 none ∈ WW := wwT 27 (by decide +kernel) (by decide +kernel)
theorem co_X6_init : Cond.code yX6_init cX6_init 1 none ∈ WW := wwT 33 (by decide +kernel) (by decide +kernel)
theorem co_X2_init : Cond.code yX2_init cX2_init 2 none ∈ WW := wwT 46 (by decide +kernel) (by decide +kernel)
theorem co_X5_init : Cond.code yX5_init cX5_init 1 none ∈ WW := wwT 53 (by decide +kernel) (by decide +kernel)
theorem co_X0_init : Cond.code yX0_init cX0_init 1 none ∈ WW := wwT 94 (by decide +kernel) (by decide +kernel)
theorem co_X7_init : Cond.code yX7_init cX7_init 1 none ∈ WW := wwT 142 (by decide +kernel) (by decide +kernel)
theorem co_X3_init : Cond.code yX3_init cX3_init 2 none ∈ WW := wwT 215 (by decide +kernel) (by decide +kernel)
theorem co_X8_init : Cond.code yX8_init cX8_init 1 none ∈ WW := wwT 232 (by decide +kernel) (by decide +kernel)
theorem co_X1_init : Cond.code yX1_init cX1_init 2 none ∈ WW := wwT 248 (by decide +kernel) (by decide +kernel)
theorem co_X4_init : Cond.code yX4_init cX4_init 1 none ∈ WW := wwT 254 (by decide +kernel) (by decide +kernel)
theorem co_X10_buy : Cond.code yX10_buy cX10_buy 3 (some .int) ∈ WW := wwT 332 (by decide +kernel) (by decide +kernel)
theorem co_X10_isMetal : Cond.code yX10_isMetal cX10_isMetal 1 (some .boolean) ∈ WW := wwT 335 (by decide +kernel) (by decide +kernel)
theorem co_X10_isIn : Cond.code yX10_isIn cX10_isIn 3 (some .boolean) ∈ WW := wwT 338 (by decide +kernel) (by decide +kernel)
theorem co_X6_of : Cond.code yX6_of cX6_of 2 (some .int) ∈ WW := wwT 343 (by decide +kernel) (by decide +kernel)
theorem co_X3_keep : Cond.code yX3_keep cX3_keep 2 none ∈ WW := wwT 348 (by decide +kernel) (by decide +kernel)
theorem co_X3_dropOldest : Cond.code yX3_dropOldest cX3_dropOldest 3 none ∈ WW := wwT 352 (by decide +kernel) (by decide +kernel)
theorem co_X9_copyFrom : Cond.code yX9_copyFrom cX9_copyFrom 3 none ∈ WW := wwT 356 (by decide +kernel) (by decide +kernel)
theorem co_X6_copyFrom : Cond.code yX6_copyFrom cX6_copyFrom 2 none ∈ WW := wwT 360 (by decide +kernel) (by decide +kernel)
theorem co_X2_copyFrom : Cond.code yX2_copyFrom cX2_copyFrom 3 none ∈ WW := wwT 364 (by decide +kernel) (by decide +kernel)
theorem co_X0_copyFrom : Cond.code yX0_copyFrom cX0_copyFrom 2 none ∈ WW := wwT 372 (by decide +kernel) (by decide +kernel)
theorem co_X7_copyFrom : Cond.code yX7_copyFrom cX7_copyFrom 2 none ∈ WW := wwT 377 (by decide +kernel) (by decide +kernel)
theorem co_X6_put : Cond.code yX6_put cX6_put 3 none ∈ WW := wwT 381 (by decide +kernel) (by decide +kernel)
theorem co_X10_charge : Cond.code yX10_charge cX10_charge 3 (some .int) ∈ WW := wwT 385 (by decide +kernel) (by decide +kernel)
theorem co_X6_weight : Cond.code yX6_weight cX6_weight 1 (some .int) ∈ WW := wwT 389 (by decide +kernel) (by decide +kernel)
theorem co_X10_set : Cond.code yX10_set cX10_set 4 (some .int) ∈ WW := wwT 393 (by decide +kernel) (by decide +kernel)
theorem co_X10_undo : Cond.code yX10_undo cX10_undo 1 (some .int) ∈ WW := wwT 402 (by decide +kernel) (by decide +kernel)
theorem co_X3_restore : Cond.code yX3_restore cX3_restore 2 none ∈ WW := wwT 406 (by decide +kernel) (by decide +kernel)
theorem co_L_cell : Cond.code yL_cell cL_cell 3 (some .int) ∈ WW := wwT 409 (by decide +kernel) (by decide +kernel)
theorem co_L_low : Cond.code yL_low cL_low 2 (some .int) ∈ WW := wwT 413 (by decide +kernel) (by decide +kernel)
theorem co_L_sum : Cond.code yL_sum cL_sum 4 (some .long) ∈ WW := wwT 417 (by decide +kernel) (by decide +kernel)
theorem co_X10_count : Cond.code yX10_count cX10_count 2 (some .int) ∈ WW := wwT 423 (by decide +kernel) (by decide +kernel)
theorem co_X9_remainingBells : Cond.code yX9_remainingBells cX9_remainingBells 1 (some .int) ∈ WW := wwT 427 (by decide +kernel) (by decide +kernel)
theorem co_X9_bellsIn : Cond.code yX9_bellsIn cX9_bellsIn 4 (some .int) ∈ WW := wwT 431 (by decide +kernel) (by decide +kernel)
theorem co_X9_ordersIn : Cond.code yX9_ordersIn cX9_ordersIn 4 (some .int) ∈ WW := wwT 436 (by decide +kernel) (by decide +kernel)
theorem co_X10_account : Cond.code yX10_account cX10_account 3 (some .int) ∈ WW := wwT 440 (by decide +kernel) (by decide +kernel)
theorem co_X2_of : Cond.code yX2_of cX2_of 4 (some .int) ∈ WW := wwT 444 (by decide +kernel) (by decide +kernel)
theorem co_X9_inBells : Cond.code yX9_inBells cX9_inBells 5 (some .int) ∈ WW := wwT 449 (by decide +kernel) (by decide +kernel)
theorem co_X10_lot : Cond.code yX10_lot cX10_lot 4 (some .int) ∈ WW := wwT 454 (by decide +kernel) (by decide +kernel)
theorem co_X2_at : Cond.code yX2_at cX2_at 2 (some (.object "BellFoundry$Lot")) ∈ WW := wwT 458 (by decide +kernel) (by decide +kernel)
theorem co_X6_tell : Cond.code yX6_tell cX6_tell 2 (some .int) ∈ WW := wwT 463 (by decide +kernel) (by decide +kernel)
theorem co_X6_alloy : Cond.code yX6_alloy cX6_alloy 1 (some .int) ∈ WW := wwT 468 (by decide +kernel) (by decide +kernel)
theorem co_X6_alloyOf : Cond.code yX6_alloyOf cX6_alloyOf 2 (some .int) ∈ WW := wwT 471 (by decide +kernel) (by decide +kernel)
theorem co_X10_bell : Cond.code yX10_bell cX10_bell 4 (some .int) ∈ WW := wwT 476 (by decide +kernel) (by decide +kernel)
theorem co_X9_bellAt : Cond.code yX9_bellAt cX9_bellAt 2 (some (.object "BellFoundry$Bell")) ∈ WW := wwT 480 (by decide +kernel) (by decide +kernel)
theorem co_X10_orderOf : Cond.code yX10_orderOf cX10_orderOf 4 (some .int) ∈ WW := wwT 485 (by decide +kernel) (by decide +kernel)
theorem co_X9_orderAt : Cond.code yX9_orderAt cX9_orderAt 2 (some (.object "BellFoundry$Order")) ∈ WW := wwT 489 (by decide +kernel) (by decide +kernel)
theorem co_X9_lowestBellFor : Cond.code yX9_lowestBellFor cX9_lowestBellFor 3 (some .int) ∈ WW := wwT 493 (by decide +kernel) (by decide +kernel)
theorem co_X7_isFitBy : Cond.code yX7_isFitBy cX7_isFitBy 2 (some .boolean) ∈ WW := wwT 497 (by decide +kernel) (by decide +kernel)
theorem co_X7_takesPitch : Cond.code yX7_takesPitch cX7_takesPitch 2 (some .boolean) ∈ WW := wwT 501 (by decide +kernel) (by decide +kernel)
theorem co_abs : Cond.code Lib.Math.abs.name Lib.Math.abs.code 1 (some .int) ∈ WW := wwT 504 (by decide +kernel) (by decide +kernel)
theorem co_X9_bellsFor : Cond.code yX9_bellsFor cX9_bellsFor 4 (some .int) ∈ WW := wwT 508 (by decide +kernel) (by decide +kernel)
theorem co_L_refused : Cond.code yL_refused cL_refused 7 (some .boolean) ∈ WW := wwT 511 (by decide +kernel) (by decide +kernel)
theorem co_X10_scrap : Cond.code yX10_scrap cX10_scrap 3 (some .int) ∈ WW := wwT 515 (by decide +kernel) (by decide +kernel)
theorem co_X9_meltDown : Cond.code yX9_meltDown cX9_meltDown 2 none ∈ WW := wwT 519 (by decide +kernel) (by decide +kernel)
theorem co_X9_burn : Cond.code yX9_burn cX9_burn 4 none ∈ WW := wwT 523 (by decide +kernel) (by decide +kernel)
theorem co_X6_lossOf : Cond.code yX6_lossOf cX6_lossOf 3 (some .int) ∈ WW := wwT 527 (by decide +kernel) (by decide +kernel)
theorem co_X10_shareRoundedUp : Cond.code yX10_shareRoundedUp cX10_shareRoundedUp 2 (some .int) ∈ WW := wwT 531 (by decide +kernel) (by decide +kernel)
theorem co_X6_mixWith : Cond.code yX6_mixWith cX6_mixWith 2 none ∈ WW := wwT 536 (by decide +kernel) (by decide +kernel)
theorem co_X2_remove : Cond.code yX2_remove cX2_remove 4 none ∈ WW := wwT 540 (by decide +kernel) (by decide +kernel)
theorem co_X10_melt : Cond.code yX10_melt cX10_melt 2 (some .int) ∈ WW := wwT 544 (by decide +kernel) (by decide +kernel)
theorem co_X9_burntMelt : Cond.code yX9_burntMelt cX9_burntMelt 2 (some (.object "BellFoundry$Mixture")) ∈ WW := wwT 548 (by decide +kernel) (by decide +kernel)
theorem co_X10_pour : Cond.code yX10_pour cX10_pour 3 (some .int) ∈ WW := wwT 553 (by decide +kernel) (by decide +kernel)
theorem co_X10_isProfile : Cond.code yX10_isProfile cX10_isProfile 1 (some .boolean) ∈ WW := wwT 556 (by decide +kernel) (by decide +kernel)
theorem co_X9_weightWithSprue : Cond.code yX9_weightWithSprue cX9_weightWithSprue 2 (some .int) ∈ WW := wwT 562 (by decide +kernel) (by decide +kernel)
theorem co_X9_sprueOf : Cond.code yX9_sprueOf cX9_sprueOf 2 (some .int) ∈ WW := wwT 566 (by decide +kernel) (by decide +kernel)
theorem co_X9_castBell : Cond.code yX9_castBell cX9_castBell 5 (some .int) ∈ WW := wwT 571 (by decide +kernel) (by decide +kernel)
theorem co_X6_drawInto : Cond.code yX6_drawInto cX6_drawInto 4 none ∈ WW := wwT 575 (by decide +kernel) (by decide +kernel)
theorem co_X6_copperOfDraw : Cond.code yX6_copperOfDraw cX6_copperOfDraw 3 (some .int) ∈ WW := wwT 579 (by decide +kernel) (by decide +kernel)
theorem co_X2_add : Cond.code yX2_add cX2_add 3 none ∈ WW := wwT 583 (by decide +kernel) (by decide +kernel)
theorem co_X6_empty : Cond.code yX6_empty cX6_empty 1 none ∈ WW := wwT 588 (by decide +kernel) (by decide +kernel)
theorem co_X10_rootOf : Cond.code yX10_rootOf cX10_rootOf 3 (some .int) ∈ WW := wwT 593 (by decide +kernel) (by decide +kernel)
theorem co_X10_cube : Cond.code yX10_cube cX10_cube 2 (some .long) ∈ WW := wwT 596 (by decide +kernel) (by decide +kernel)
theorem co_X10_firstPitch : Cond.code yX10_firstPitch cX10_firstPitch 3 (some .int) ∈ WW := wwT 600 (by decide +kernel) (by decide +kernel)
theorem co_max : Cond.code Lib.Math.max.name Lib.Math.max.code 2 (some .int) ∈ WW := wwT 603 (by decide +kernel) (by decide +kernel)
theorem co_X10_tune : Cond.code yX10_tune cX10_tune 4 (some .int) ∈ WW := wwT 607 (by decide +kernel) (by decide +kernel)
theorem co_X9_shave : Cond.code yX9_shave cX9_shave 3 none ∈ WW := wwT 611 (by decide +kernel) (by decide +kernel)
theorem co_X0_pitchBehind : Cond.code yX0_pitchBehind cX0_pitchBehind 3 (some .int) ∈ WW := wwT 615 (by decide +kernel) (by decide +kernel)
theorem co_X0_cracksBy : Cond.code yX0_cracksBy cX0_cracksBy 2 (some .boolean) ∈ WW := wwT 621 (by decide +kernel) (by decide +kernel)
theorem co_X10_smash : Cond.code yX10_smash cX10_smash 4 (some .int) ∈ WW := wwT 625 (by decide +kernel) (by decide +kernel)
theorem co_X0_remains : Cond.code yX0_remains cX0_remains 1 (some .boolean) ∈ WW := wwT 629 (by decide +kernel) (by decide +kernel)
theorem co_X9_breakUp : Cond.code yX9_breakUp cX9_breakUp 2 none ∈ WW := wwT 633 (by decide +kernel) (by decide +kernel)
theorem co_X10_order : Cond.code yX10_order cX10_order 4 (some .int) ∈ WW := wwT 638 (by decide +kernel) (by decide +kernel)
theorem co_X9_takeOrder : Cond.code yX9_takeOrder cX9_takeOrder 5 (some .int) ∈ WW := wwT 642 (by decide +kernel) (by decide +kernel)
theorem co_X10_cancel : Cond.code yX10_cancel cX10_cancel 3 (some .int) ∈ WW := wwT 646 (by decide +kernel) (by decide +kernel)
theorem co_X10_send : Cond.code yX10_send cX10_send 6 (some .int) ∈ WW := wwT 650 (by decide +kernel) (by decide +kernel)
theorem co_X10_tuneFor : Cond.code yX10_tuneFor cX10_tuneFor 5 (some .int) ∈ WW := wwT 655 (by decide +kernel) (by decide +kernel)
theorem co_X9_fewestPoundsToFit : Cond.code yX9_fewestPoundsToFit cX9_fewestPoundsToFit 5 (some .int) ∈ WW := wwT 659 (by decide +kernel) (by decide +kernel)
theorem co_min : Cond.code Lib.Math.min.name Lib.Math.min.code 2 (some .int) ∈ WW := wwT 663 (by decide +kernel) (by decide +kernel)
theorem co_X10_pourFor : Cond.code yX10_pourFor cX10_pourFor 3 (some .int) ∈ WW := wwT 668 (by decide +kernel) (by decide +kernel)
theorem co_X9_heaviestBellFor : Cond.code yX9_heaviestBellFor cX9_heaviestBellFor 6 (some .int) ∈ WW := wwT 672 (by decide +kernel) (by decide +kernel)
theorem co_X10_heaviestAtPitch : Cond.code yX10_heaviestAtPitch cX10_heaviestAtPitch 5 (some .int) ∈ WW := wwT 676 (by decide +kernel) (by decide +kernel)
theorem co_lmin : Cond.code Lib.MathLoose.min_long.x Lib.MathLoose.min_long.code 4 (some .long) ∈ WW := wwT 680 (by decide +kernel) (by decide +kernel)
theorem co_X6_alloyOfDraw : Cond.code yX6_alloyOfDraw cX6_alloyOfDraw 2 (some .int) ∈ WW := wwT 687 (by decide +kernel) (by decide +kernel)
theorem co_X10_wagons : Cond.code yX10_wagons cX10_wagons 5 (some .int) ∈ WW := wwT 691 (by decide +kernel) (by decide +kernel)
theorem co_X8_clear : Cond.code yX8_clear cX8_clear 1 none ∈ WW := wwT 695 (by decide +kernel) (by decide +kernel)
theorem co_X8_add : Cond.code yX8_add cX8_add 2 none ∈ WW := wwT 699 (by decide +kernel) (by decide +kernel)
theorem co_X8_heaviest : Cond.code yX8_heaviest cX8_heaviest 3 (some .int) ∈ WW := wwT 703 (by decide +kernel) (by decide +kernel)
theorem co_X8_fewestWagons : Cond.code yX8_fewestWagons cX8_fewestWagons 4 (some .int) ∈ WW := wwT 708 (by decide +kernel) (by decide +kernel)
theorem co_X8_bestFor : Cond.code yX8_bestFor cX8_bestFor 8 (some .int) ∈ WW := wwT 712 (by decide +kernel) (by decide +kernel)
theorem co_X10_frame : Cond.code yX10_frame cX10_frame 2 (some .int) ∈ WW := wwT 718 (by decide +kernel) (by decide +kernel)
theorem co_X1_read : Cond.code yX1_read cX1_read 6 none ∈ WW := wwT 722 (by decide +kernel) (by decide +kernel)
theorem co_X1_begin : Cond.code yX1_begin cX1_begin 1 none ∈ WW := wwT 726 (by decide +kernel) (by decide +kernel)
theorem co_J7_fill_53178 : Cond.code yJ7_fill_53178 cJ7_fill_53178 4 none ∈ WW := wwT 729 (by decide +kernel) (by decide +kernel)
theorem co_X1_isDigit : Cond.code yX1_isDigit cX1_isDigit 1 (some .boolean) ∈ WW := wwT 732 (by decide +kernel) (by decide +kernel)
theorem co_X1_digit : Cond.code yX1_digit cX1_digit 1 (some .int) ∈ WW := wwT 735 (by decide +kernel) (by decide +kernel)
theorem co_X1_readBell : Cond.code yX1_readBell cX1_readBell 4 (some .int) ∈ WW := wwT 739 (by decide +kernel) (by decide +kernel)
theorem co_X4_hangBell : Cond.code yX4_hangBell cX4_hangBell 2 none ∈ WW := wwT 746 (by decide +kernel) (by decide +kernel)
theorem co_X1_endFrame : Cond.code yX1_endFrame cX1_endFrame 1 none ∈ WW := wwT 750 (by decide +kernel) (by decide +kernel)
theorem co_X1_readSign : Cond.code yX1_readSign cX1_readSign 3 (some .int) ∈ WW := wwT 754 (by decide +kernel) (by decide +kernel)
theorem co_X1_openBeam : Cond.code yX1_openBeam cX1_openBeam 1 (some .int) ∈ WW := wwT 758 (by decide +kernel) (by decide +kernel)
theorem co_X1_passComma : Cond.code yX1_passComma cX1_passComma 1 (some .int) ∈ WW := wwT 763 (by decide +kernel) (by decide +kernel)
theorem co_X4_copyFrom : Cond.code yX4_copyFrom cX4_copyFrom 2 none ∈ WW := wwT 767 (by decide +kernel) (by decide +kernel)
theorem co_X1_closeBeam : Cond.code yX1_closeBeam cX1_closeBeam 2 (some .int) ∈ WW := wwT 771 (by decide +kernel) (by decide +kernel)
theorem co_X4_hangBeam : Cond.code yX4_hangBeam cX4_hangBeam 4 none ∈ WW := wwT 776 (by decide +kernel) (by decide +kernel)
theorem co_X4_roundUpTo : Cond.code yX4_roundUpTo cX4_roundUpTo 2 (some .int) ∈ WW := wwT 780 (by decide +kernel) (by decide +kernel)
theorem co_X1_tell : Cond.code yX1_tell cX1_tell 2 (some .int) ∈ WW := wwT 784 (by decide +kernel) (by decide +kernel)
theorem co_X10_fault : Cond.code yX10_fault cX10_fault 2 (some .int) ∈ WW := wwT 788 (by decide +kernel) (by decide +kernel)
theorem co_L_fits : Cond.code yL_fits cL_fits 9 (some .boolean) ∈ WW := wwT 791 (by decide +kernel) (by decide +kernel)
theorem co_L_areBells : Cond.code yL_areBells cL_areBells 9 (some .boolean) ∈ WW := wwT 794 (by decide +kernel) (by decide +kernel)
theorem co_L_areMetals : Cond.code yL_areMetals cL_areMetals 8 (some .boolean) ∈ WW := wwT 798 (by decide +kernel) (by decide +kernel)
theorem co_L_comesTrue : Cond.code yL_comesTrue cL_comesTrue 11 (some .boolean) ∈ WW := wwT 801 (by decide +kernel) (by decide +kernel)
set_option maxRecDepth 100000 in
theorem co_L_areLoads : Cond.code yL_areLoads cL_areLoads 21 (some .boolean) ∈ WW := wwT 804 rfl (by decide +kernel)
theorem co_X10_clearText : Cond.code yX10_clearText cX10_clearText 2 (some .int) ∈ WW := wwT 808 (by decide +kernel) (by decide +kernel)
theorem co_X10_type : Cond.code yX10_type cX10_type 2 (some .int) ∈ WW := wwT 812 (by decide +kernel) (by decide +kernel)
theorem co_L_number : Cond.code yL_number cL_number 2 (some .boolean) ∈ WW := wwT 815 (by decide +kernel) (by decide +kernel)
set_option maxRecDepth 100000 in
theorem co_L_acts : Cond.code yL_acts cL_acts 11 (some .boolean) ∈ WW := wwT 818 rfl (by decide +kernel)
theorem se_clone : Cond.selects "[I" ⟨"[I", "clone", "()Ljava/lang/Object;"⟩ ⟨"java/lang/Object", "clone", "()Ljava/lang/Object;"⟩ ∈ WW := wwT 84 (by decide +kernel) (by decide +kernel)
theorem se_X10_buy : Cond.selects "BellFoundry" yX10_buy yX10_buy ∈ WW := wwT 331 (by decide +kernel) (by decide +kernel)
theorem se_X6_of : Cond.selects "BellFoundry$Mixture" yX6_of yX6_of ∈ WW := wwT 342 (by decide +kernel) (by decide +kernel)
theorem se_X3_keep : Cond.selects "BellFoundry$History" yX3_keep yX3_keep ∈ WW := wwT 347 (by decide +kernel) (by decide +kernel)
theorem se_X9_copyFrom : Cond.selects "BellFoundry$Works" yX9_copyFrom yX9_copyFrom ∈ WW := wwT 355 (by decide +kernel) (by decide +kernel)
theorem se_X6_copyFrom : Cond.selects "BellFoundry$Mixture" yX6_copyFrom yX6_copyFrom ∈ WW := wwT 359 (by decide +kernel) (by decide +kernel)
theorem se_X2_copyFrom : Cond.selects "BellFoundry$Heap" yX2_copyFrom yX2_copyFrom ∈ WW := wwT 363 (by decide +kernel) (by decide +kernel)
theorem se_X0_copyFrom : Cond.selects "BellFoundry$Bell" yX0_copyFrom yX0_copyFrom ∈ WW := wwT 371 (by decide +kernel) (by decide +kernel)
theorem se_X7_copyFrom : Cond.selects "BellFoundry$Order" yX7_copyFrom yX7_copyFrom ∈ WW := wwT 376 (by decide +kernel) (by decide +kernel)
theorem se_X6_put : Cond.selects "BellFoundry$Mixture" yX6_put yX6_put ∈ WW := wwT 380 (by decide +kernel) (by decide +kernel)
theorem se_X10_charge : Cond.selects "BellFoundry" yX10_charge yX10_charge ∈ WW := wwT 384 (by decide +kernel) (by decide +kernel)
theorem se_X6_weight : Cond.selects "BellFoundry$Mixture" yX6_weight yX6_weight ∈ WW := wwT 388 (by decide +kernel) (by decide +kernel)
theorem se_X10_set : Cond.selects "BellFoundry" yX10_set yX10_set ∈ WW := wwT 392 (by decide +kernel) (by decide +kernel)
theorem se_X10_undo : Cond.selects "BellFoundry" yX10_undo yX10_undo ∈ WW := wwT 401 (by decide +kernel) (by decide +kernel)
theorem se_X3_restore : Cond.selects "BellFoundry$History" yX3_restore yX3_restore ∈ WW := wwT 405 (by decide +kernel) (by decide +kernel)
theorem se_X10_count : Cond.selects "BellFoundry" yX10_count yX10_count ∈ WW := wwT 422 (by decide +kernel) (by decide +kernel)
theorem se_X9_remainingBells : Cond.selects "BellFoundry$Works" yX9_remainingBells yX9_remainingBells ∈ WW := wwT 426 (by decide +kernel) (by decide +kernel)
theorem se_X9_bellsIn : Cond.selects "BellFoundry$Works" yX9_bellsIn yX9_bellsIn ∈ WW := wwT 430 (by decide +kernel) (by decide +kernel)
theorem se_X9_ordersIn : Cond.selects "BellFoundry$Works" yX9_ordersIn yX9_ordersIn ∈ WW := wwT 435 (by decide +kernel) (by decide +kernel)
theorem se_X10_account : Cond.selects "BellFoundry" yX10_account yX10_account ∈ WW := wwT 439 (by decide +kernel) (by decide +kernel)
theorem se_X2_of : Cond.selects "BellFoundry$Heap" yX2_of yX2_of ∈ WW := wwT 443 (by decide +kernel) (by decide +kernel)
theorem se_X9_inBells : Cond.selects "BellFoundry$Works" yX9_inBells yX9_inBells ∈ WW := wwT 448 (by decide +kernel) (by decide +kernel)
theorem se_X10_lot : Cond.selects "BellFoundry" yX10_lot yX10_lot ∈ WW := wwT 453 (by decide +kernel) (by decide +kernel)
theorem se_X2_at : Cond.selects "BellFoundry$Heap" yX2_at yX2_at ∈ WW := wwT 457 (by decide +kernel) (by decide +kernel)
theorem se_X6_tell : Cond.selects "BellFoundry$Mixture" yX6_tell yX6_tell ∈ WW := wwT 462 (by decide +kernel) (by decide +kernel)
theorem se_X6_alloy : Cond.selects "BellFoundry$Mixture" yX6_alloy yX6_alloy ∈ WW := wwT 467 (by decide +kernel) (by decide +kernel)
theorem se_X10_bell : Cond.selects "BellFoundry" yX10_bell yX10_bell ∈ WW := wwT 475 (by decide +kernel) (by decide +kernel)
theorem se_X9_bellAt : Cond.selects "BellFoundry$Works" yX9_bellAt yX9_bellAt ∈ WW := wwT 479 (by decide +kernel) (by decide +kernel)
theorem se_X10_orderOf : Cond.selects "BellFoundry" yX10_orderOf yX10_orderOf ∈ WW := wwT 484 (by decide +kernel) (by decide +kernel)
theorem se_X9_orderAt : Cond.selects "BellFoundry$Works" yX9_orderAt yX9_orderAt ∈ WW := wwT 488 (by decide +kernel) (by decide +kernel)
theorem se_X9_lowestBellFor : Cond.selects "BellFoundry$Works" yX9_lowestBellFor yX9_lowestBellFor ∈ WW := wwT 492 (by decide +kernel) (by decide +kernel)
theorem se_X7_isFitBy : Cond.selects "BellFoundry$Order" yX7_isFitBy yX7_isFitBy ∈ WW := wwT 496 (by decide +kernel) (by decide +kernel)
theorem se_X7_takesPitch : Cond.selects "BellFoundry$Order" yX7_takesPitch yX7_takesPitch ∈ WW := wwT 500 (by decide +kernel) (by decide +kernel)
theorem se_X9_bellsFor : Cond.selects "BellFoundry$Works" yX9_bellsFor yX9_bellsFor ∈ WW := wwT 507 (by decide +kernel) (by decide +kernel)
theorem se_X10_scrap : Cond.selects "BellFoundry" yX10_scrap yX10_scrap ∈ WW := wwT 514 (by decide +kernel) (by decide +kernel)
theorem se_X9_meltDown : Cond.selects "BellFoundry$Works" yX9_meltDown yX9_meltDown ∈ WW := wwT 518 (by decide +kernel) (by decide +kernel)
theorem se_X6_lossOf : Cond.selects "BellFoundry$Mixture" yX6_lossOf yX6_lossOf ∈ WW := wwT 526 (by decide +kernel) (by decide +kernel)
theorem se_X6_mixWith : Cond.selects "BellFoundry$Mixture" yX6_mixWith yX6_mixWith ∈ WW := wwT 535 (by decide +kernel) (by decide +kernel)
theorem se_X2_remove : Cond.selects "BellFoundry$Heap" yX2_remove yX2_remove ∈ WW := wwT 539 (by decide +kernel) (by decide +kernel)
theorem se_X10_melt : Cond.selects "BellFoundry" yX10_melt yX10_melt ∈ WW := wwT 543 (by decide +kernel) (by decide +kernel)
theorem se_X9_burntMelt : Cond.selects "BellFoundry$Works" yX9_burntMelt yX9_burntMelt ∈ WW := wwT 547 (by decide +kernel) (by decide +kernel)
theorem se_X10_pour : Cond.selects "BellFoundry" yX10_pour yX10_pour ∈ WW := wwT 552 (by decide +kernel) (by decide +kernel)
theorem se_X9_weightWithSprue : Cond.selects "BellFoundry$Works" yX9_weightWithSprue yX9_weightWithSprue ∈ WW := wwT 561 (by decide +kernel) (by decide +kernel)
theorem se_X9_castBell : Cond.selects "BellFoundry$Works" yX9_castBell yX9_castBell ∈ WW := wwT 570 (by decide +kernel) (by decide +kernel)
theorem se_X6_drawInto : Cond.selects "BellFoundry$Mixture" yX6_drawInto yX6_drawInto ∈ WW := wwT 574 (by decide +kernel) (by decide +kernel)
theorem se_X2_add : Cond.selects "BellFoundry$Heap" yX2_add yX2_add ∈ WW := wwT 582 (by decide +kernel) (by decide +kernel)
theorem se_X6_empty : Cond.selects "BellFoundry$Mixture" yX6_empty yX6_empty ∈ WW := wwT 587 (by decide +kernel) (by decide +kernel)
theorem se_X10_tune : Cond.selects "BellFoundry" yX10_tune yX10_tune ∈ WW := wwT 606 (by decide +kernel) (by decide +kernel)
theorem se_X9_shave : Cond.selects "BellFoundry$Works" yX9_shave yX9_shave ∈ WW := wwT 610 (by decide +kernel) (by decide +kernel)
theorem se_X0_pitchBehind : Cond.selects "BellFoundry$Bell" yX0_pitchBehind yX0_pitchBehind ∈ WW := wwT 614 (by decide +kernel) (by decide +kernel)
theorem se_X0_cracksBy : Cond.selects "BellFoundry$Bell" yX0_cracksBy yX0_cracksBy ∈ WW := wwT 620 (by decide +kernel) (by decide +kernel)
theorem se_X10_smash : Cond.selects "BellFoundry" yX10_smash yX10_smash ∈ WW := wwT 624 (by decide +kernel) (by decide +kernel)
theorem se_X0_remains : Cond.selects "BellFoundry$Bell" yX0_remains yX0_remains ∈ WW := wwT 628 (by decide +kernel) (by decide +kernel)
theorem se_X9_breakUp : Cond.selects "BellFoundry$Works" yX9_breakUp yX9_breakUp ∈ WW := wwT 632 (by decide +kernel) (by decide +kernel)
theorem se_X10_order : Cond.selects "BellFoundry" yX10_order yX10_order ∈ WW := wwT 637 (by decide +kernel) (by decide +kernel)
theorem se_X9_takeOrder : Cond.selects "BellFoundry$Works" yX9_takeOrder yX9_takeOrder ∈ WW := wwT 641 (by decide +kernel) (by decide +kernel)
theorem se_X10_cancel : Cond.selects "BellFoundry" yX10_cancel yX10_cancel ∈ WW := wwT 645 (by decide +kernel) (by decide +kernel)
theorem se_X10_send : Cond.selects "BellFoundry" yX10_send yX10_send ∈ WW := wwT 649 (by decide +kernel) (by decide +kernel)
theorem se_X10_tuneFor : Cond.selects "BellFoundry" yX10_tuneFor yX10_tuneFor ∈ WW := wwT 654 (by decide +kernel) (by decide +kernel)
theorem se_X9_fewestPoundsToFit : Cond.selects "BellFoundry$Works" yX9_fewestPoundsToFit yX9_fewestPoundsToFit ∈ WW := wwT 658 (by decide +kernel) (by decide +kernel)
theorem se_X10_pourFor : Cond.selects "BellFoundry" yX10_pourFor yX10_pourFor ∈ WW := wwT 667 (by decide +kernel) (by decide +kernel)
theorem se_X9_heaviestBellFor : Cond.selects "BellFoundry$Works" yX9_heaviestBellFor yX9_heaviestBellFor ∈ WW := wwT 671 (by decide +kernel) (by decide +kernel)
theorem se_X6_alloyOfDraw : Cond.selects "BellFoundry$Mixture" yX6_alloyOfDraw yX6_alloyOfDraw ∈ WW := wwT 686 (by decide +kernel) (by decide +kernel)
theorem se_X10_wagons : Cond.selects "BellFoundry" yX10_wagons yX10_wagons ∈ WW := wwT 690 (by decide +kernel) (by decide +kernel)
theorem se_X8_clear : Cond.selects "BellFoundry$WagonPacker" yX8_clear yX8_clear ∈ WW := wwT 694 (by decide +kernel) (by decide +kernel)
theorem se_X8_add : Cond.selects "BellFoundry$WagonPacker" yX8_add yX8_add ∈ WW := wwT 698 (by decide +kernel) (by decide +kernel)
theorem se_X8_heaviest : Cond.selects "BellFoundry$WagonPacker" yX8_heaviest yX8_heaviest ∈ WW := wwT 702 (by decide +kernel) (by decide +kernel)
theorem se_X8_fewestWagons : Cond.selects "BellFoundry$WagonPacker" yX8_fewestWagons yX8_fewestWagons ∈ WW := wwT 707 (by decide +kernel) (by decide +kernel)
theorem se_X10_frame : Cond.selects "BellFoundry" yX10_frame yX10_frame ∈ WW := wwT 717 (by decide +kernel) (by decide +kernel)
theorem se_X1_read : Cond.selects "BellFoundry$FrameReader" yX1_read yX1_read ∈ WW := wwT 721 (by decide +kernel) (by decide +kernel)
theorem se_X4_hangBell : Cond.selects "BellFoundry$Load" yX4_hangBell yX4_hangBell ∈ WW := wwT 745 (by decide +kernel) (by decide +kernel)
theorem se_X4_copyFrom : Cond.selects "BellFoundry$Load" yX4_copyFrom yX4_copyFrom ∈ WW := wwT 766 (by decide +kernel) (by decide +kernel)
theorem se_X4_hangBeam : Cond.selects "BellFoundry$Load" yX4_hangBeam yX4_hangBeam ∈ WW := wwT 775 (by decide +kernel) (by decide +kernel)
theorem se_X1_tell : Cond.selects "BellFoundry$FrameReader" yX1_tell yX1_tell ∈ WW := wwT 783 (by decide +kernel) (by decide +kernel)
theorem se_X10_fault : Cond.selects "BellFoundry" yX10_fault yX10_fault ∈ WW := wwT 787 (by decide +kernel) (by decide +kernel)
theorem se_X10_clearText : Cond.selects "BellFoundry" yX10_clearText yX10_clearText ∈ WW := wwT 807 (by decide +kernel) (by decide +kernel)
theorem se_X10_type : Cond.selects "BellFoundry" yX10_type yX10_type ∈ WW := wwT 811 (by decide +kernel) (by decide +kernel)
theorem se_X3_dropOldest : Cond.selects yX3_dropOldest.cls yX3_dropOldest yX3_dropOldest ∈ WW := wwS (q := (yX3_dropOldest, 2)) 0 (by decide +kernel) (by decide +kernel)
theorem se_X9_burn : Cond.selects yX9_burn.cls yX9_burn yX9_burn ∈ WW := wwS (q := (yX9_burn, 12)) 1 (by decide +kernel) (by decide +kernel)
theorem se_X9_sprueOf : Cond.selects yX9_sprueOf.cls yX9_sprueOf yX9_sprueOf ∈ WW := wwS (q := (yX9_sprueOf, 12)) 2 (by decide +kernel) (by decide +kernel)
theorem se_X6_copperOfDraw : Cond.selects yX6_copperOfDraw.cls yX6_copperOfDraw yX6_copperOfDraw ∈ WW := wwS (q := (yX6_copperOfDraw, 2)) 3 (by decide +kernel) (by decide +kernel)
theorem se_X8_bestFor : Cond.selects yX8_bestFor.cls yX8_bestFor yX8_bestFor ∈ WW := wwS (q := (yX8_bestFor, 3)) 4 (by decide +kernel) (by decide +kernel)
theorem se_X1_begin : Cond.selects yX1_begin.cls yX1_begin yX1_begin ∈ WW := wwS (q := (yX1_begin, 12)) 5 (by decide +kernel) (by decide +kernel)
theorem se_X1_readBell : Cond.selects yX1_readBell.cls yX1_readBell yX1_readBell ∈ WW := wwS (q := (yX1_readBell, 12)) 6 (by decide +kernel) (by decide +kernel)
theorem se_X1_endFrame : Cond.selects yX1_endFrame.cls yX1_endFrame yX1_endFrame ∈ WW := wwS (q := (yX1_endFrame, 12)) 7 (by decide +kernel) (by decide +kernel)
theorem se_X1_readSign : Cond.selects yX1_readSign.cls yX1_readSign yX1_readSign ∈ WW := wwS (q := (yX1_readSign, 12)) 8 (by decide +kernel) (by decide +kernel)
theorem se_X1_openBeam : Cond.selects yX1_openBeam.cls yX1_openBeam yX1_openBeam ∈ WW := wwS (q := (yX1_openBeam, 12)) 9 (by decide +kernel) (by decide +kernel)
theorem se_X1_passComma : Cond.selects yX1_passComma.cls yX1_passComma yX1_passComma ∈ WW := wwS (q := (yX1_passComma, 12)) 10 (by decide +kernel) (by decide +kernel)
theorem se_X1_closeBeam : Cond.selects yX1_closeBeam.cls yX1_closeBeam yX1_closeBeam ∈ WW := wwS (q := (yX1_closeBeam, 12)) 11 (by decide +kernel) (by decide +kernel)
theorem kV_X10_buy : VW yX10_buy cX10_buy 3 (some .int) 2 := ⟨co_X10_buy, im_X10_buy, se_X10_buy, in_X10, by decide +kernel, by decide +kernel, by decide +kernel⟩
theorem kS_X10_isMetal : SW yX10_isMetal cX10_isMetal 1 (some .boolean) 1 := ⟨co_X10_isMetal, st_X10_isMetal, in_X10, by decide +kernel, by decide +kernel, by decide +kernel⟩
theorem kS_X10_isIn : SW yX10_isIn cX10_isIn 3 (some .boolean) 3 := ⟨co_X10_isIn, st_X10_isIn, in_X10, by decide +kernel, by decide +kernel, by decide +kernel⟩
theorem kV_X6_of : VW yX6_of cX6_of 2 (some .int) 1 := ⟨co_X6_of, im_X6_of, se_X6_of, in_X6, by decide +kernel, by decide +kernel, by decide +kernel⟩
theorem kV_X3_keep : VW yX3_keep cX3_keep 2 none 1 := ⟨co_X3_keep, im_X3_keep, se_X3_keep, in_X3, by decide +kernel, by decide +kernel, by decide +kernel⟩
theorem kV_X3_dropOldest : VW yX3_dropOldest cX3_dropOldest 3 none 0 := ⟨co_X3_dropOldest, im_X3_dropOldest, se_X3_dropOldest, in_X3, by decide +kernel, by decide +kernel, by decide +kernel⟩
theorem kV_X9_copyFrom : VW yX9_copyFrom cX9_copyFrom 3 none 1 := ⟨co_X9_copyFrom, im_X9_copyFrom, se_X9_copyFrom, in_X9, by decide +kernel, by decide +kernel, by decide +kernel⟩
theorem kV_X6_copyFrom : VW yX6_copyFrom cX6_copyFrom 2 none 1 := ⟨co_X6_copyFrom, im_X6_copyFrom, se_X6_copyFrom, in_X6, by decide +kernel, by decide +kernel, by decide +kernel⟩
theorem kV_X2_copyFrom : VW yX2_copyFrom cX2_copyFrom 3 none 1 := ⟨co_X2_copyFrom, im_X2_copyFrom, se_X2_copyFrom, in_X2, by decide +kernel, by decide +kernel, by decide +kernel⟩
theorem kV_X0_copyFrom : VW yX0_copyFrom cX0_copyFrom 2 none 1 := ⟨co_X0_copyFrom, im_X0_copyFrom, se_X0_copyFrom, in_X0, by decide +kernel, by decide +kernel, by decide +kernel⟩
theorem kV_X7_copyFrom : VW yX7_copyFrom cX7_copyFrom 2 none 1 := ⟨co_X7_copyFrom, im_X7_copyFrom, se_X7_copyFrom, in_X7, by decide +kernel, by decide +kernel, by decide +kernel⟩
theorem kV_X6_put : VW yX6_put cX6_put 3 none 2 := ⟨co_X6_put, im_X6_put, se_X6_put, in_X6, by decide +kernel, by decide +kernel, by decide +kernel⟩
theorem kV_X10_charge : VW yX10_charge cX10_charge 3 (some .int) 2 := ⟨co_X10_charge, im_X10_charge, se_X10_charge, in_X10, by decide +kernel, by decide +kernel, by decide +kernel⟩
theorem kV_X6_weight : VW yX6_weight cX6_weight 1 (some .int) 0 := ⟨co_X6_weight, im_X6_weight, se_X6_weight, in_X6, by decide +kernel, by decide +kernel, by decide +kernel⟩
theorem kV_X10_set : VW yX10_set cX10_set 4 (some .int) 2 := ⟨co_X10_set, im_X10_set, se_X10_set, in_X10, by decide +kernel, by decide +kernel, by decide +kernel⟩
theorem kV_X10_undo : VW yX10_undo cX10_undo 1 (some .int) 0 := ⟨co_X10_undo, im_X10_undo, se_X10_undo, in_X10, by decide +kernel, by decide +kernel, by decide +kernel⟩
theorem kV_X3_restore : VW yX3_restore cX3_restore 2 none 1 := ⟨co_X3_restore, im_X3_restore, se_X3_restore, in_X3, by decide +kernel, by decide +kernel, by decide +kernel⟩
theorem kS_L_cell : SW yL_cell cL_cell 3 (some .int) 2 := ⟨co_L_cell, st_L_cell, in_L, by decide +kernel, by decide +kernel, by decide +kernel⟩
theorem kS_L_low : SW yL_low cL_low 2 (some .int) 2 := ⟨co_L_low, st_L_low, in_L, by decide +kernel, by decide +kernel, by decide +kernel⟩
theorem kS_L_sum : SW yL_sum cL_sum 4 (some .long) 1 := ⟨co_L_sum, st_L_sum, in_L, by decide +kernel, by decide +kernel, by decide +kernel⟩
theorem kV_X10_count : VW yX10_count cX10_count 2 (some .int) 1 := ⟨co_X10_count, im_X10_count, se_X10_count, in_X10, by decide +kernel, by decide +kernel, by decide +kernel⟩
theorem kV_X9_remainingBells : VW yX9_remainingBells cX9_remainingBells 1 (some .int) 0 := ⟨co_X9_remainingBells, im_X9_remainingBells, se_X9_remainingBells, in_X9, by decide +kernel, by decide +kernel, by decide +kernel⟩
theorem kV_X9_bellsIn : VW yX9_bellsIn cX9_bellsIn 4 (some .int) 1 := ⟨co_X9_bellsIn, im_X9_bellsIn, se_X9_bellsIn, in_X9, by decide +kernel, by decide +kernel, by decide +kernel⟩
theorem kV_X9_ordersIn : VW yX9_ordersIn cX9_ordersIn 4 (some .int) 1 := ⟨co_X9_ordersIn, im_X9_ordersIn, se_X9_ordersIn, in_X9, by decide +kernel, by decide +kernel, by decide +kernel⟩
theorem kV_X10_account : VW yX10_account cX10_account 3 (some .int) 2 := ⟨co_X10_account, im_X10_account, se_X10_account, in_X10, by decide +kernel, by decide +kernel, by decide +kernel⟩
theorem kV_X2_of : VW yX2_of cX2_of 4 (some .int) 1 := ⟨co_X2_of, im_X2_of, se_X2_of, in_X2, by decide +kernel, by decide +kernel, by decide +kernel⟩
theorem kV_X9_inBells : VW yX9_inBells cX9_inBells 5 (some .int) 2 := ⟨co_X9_inBells, im_X9_inBells, se_X9_inBells, in_X9, by decide +kernel, by decide +kernel, by decide +kernel⟩
theorem kV_X10_lot : VW yX10_lot cX10_lot 4 (some .int) 2 := ⟨co_X10_lot, im_X10_lot, se_X10_lot, in_X10, by decide +kernel, by decide +kernel, by decide +kernel⟩
theorem kV_X2_at : VW yX2_at cX2_at 2 (some (.object "BellFoundry$Lot")) 1 := ⟨co_X2_at, im_X2_at, se_X2_at, in_X2, by decide +kernel, by decide +kernel, by decide +kernel⟩
theorem kV_X6_tell : VW yX6_tell cX6_tell 2 (some .int) 1 := ⟨co_X6_tell, im_X6_tell, se_X6_tell, in_X6, by decide +kernel, by decide +kernel, by decide +kernel⟩
theorem kV_X6_alloy : VW yX6_alloy cX6_alloy 1 (some .int) 0 := ⟨co_X6_alloy, im_X6_alloy, se_X6_alloy, in_X6, by decide +kernel, by decide +kernel, by decide +kernel⟩
theorem kS_X6_alloyOf : SW yX6_alloyOf cX6_alloyOf 2 (some .int) 2 := ⟨co_X6_alloyOf, st_X6_alloyOf, in_X6, by decide +kernel, by decide +kernel, by decide +kernel⟩
theorem kV_X10_bell : VW yX10_bell cX10_bell 4 (some .int) 2 := ⟨co_X10_bell, im_X10_bell, se_X10_bell, in_X10, by decide +kernel, by decide +kernel, by decide +kernel⟩
theorem kV_X9_bellAt : VW yX9_bellAt cX9_bellAt 2 (some (.object "BellFoundry$Bell")) 1 := ⟨co_X9_bellAt, im_X9_bellAt, se_X9_bellAt, in_X9, by decide +kernel, by decide +kernel, by decide +kernel⟩
theorem kV_X10_orderOf : VW yX10_orderOf cX10_orderOf 4 (some .int) 2 := ⟨co_X10_orderOf, im_X10_orderOf, se_X10_orderOf, in_X10, by decide +kernel, by decide +kernel, by decide +kernel⟩
theorem kV_X9_orderAt : VW yX9_orderAt cX9_orderAt 2 (some (.object "BellFoundry$Order")) 1 := ⟨co_X9_orderAt, im_X9_orderAt, se_X9_orderAt, in_X9, by decide +kernel, by decide +kernel, by decide +kernel⟩
theorem kV_X9_lowestBellFor : VW yX9_lowestBellFor cX9_lowestBellFor 3 (some .int) 1 := ⟨co_X9_lowestBellFor, im_X9_lowestBellFor, se_X9_lowestBellFor, in_X9, by decide +kernel, by decide +kernel, by decide +kernel⟩
theorem kV_X7_isFitBy : VW yX7_isFitBy cX7_isFitBy 2 (some .boolean) 1 := ⟨co_X7_isFitBy, im_X7_isFitBy, se_X7_isFitBy, in_X7, by decide +kernel, by decide +kernel, by decide +kernel⟩
theorem kV_X7_takesPitch : VW yX7_takesPitch cX7_takesPitch 2 (some .boolean) 1 := ⟨co_X7_takesPitch, im_X7_takesPitch, se_X7_takesPitch, in_X7, by decide +kernel, by decide +kernel, by decide +kernel⟩
theorem kV_X9_bellsFor : VW yX9_bellsFor cX9_bellsFor 4 (some .int) 1 := ⟨co_X9_bellsFor, im_X9_bellsFor, se_X9_bellsFor, in_X9, by decide +kernel, by decide +kernel, by decide +kernel⟩
theorem kS_L_refused : SW yL_refused cL_refused 7 (some .boolean) 1 := ⟨co_L_refused, st_L_refused, in_L, by decide +kernel, by decide +kernel, by decide +kernel⟩
theorem kV_X10_scrap : VW yX10_scrap cX10_scrap 3 (some .int) 1 := ⟨co_X10_scrap, im_X10_scrap, se_X10_scrap, in_X10, by decide +kernel, by decide +kernel, by decide +kernel⟩
theorem kV_X9_meltDown : VW yX9_meltDown cX9_meltDown 2 none 1 := ⟨co_X9_meltDown, im_X9_meltDown, se_X9_meltDown, in_X9, by decide +kernel, by decide +kernel, by decide +kernel⟩
theorem kV_X9_burn : VW yX9_burn cX9_burn 4 none 1 := ⟨co_X9_burn, im_X9_burn, se_X9_burn, in_X9, by decide +kernel, by decide +kernel, by decide +kernel⟩
theorem kV_X6_lossOf : VW yX6_lossOf cX6_lossOf 3 (some .int) 2 := ⟨co_X6_lossOf, im_X6_lossOf, se_X6_lossOf, in_X6, by decide +kernel, by decide +kernel, by decide +kernel⟩
theorem kS_X10_shareRoundedUp : SW yX10_shareRoundedUp cX10_shareRoundedUp 2 (some .int) 2 := ⟨co_X10_shareRoundedUp, st_X10_shareRoundedUp, in_X10, by decide +kernel, by decide +kernel, by decide +kernel⟩
theorem kV_X6_mixWith : VW yX6_mixWith cX6_mixWith 2 none 1 := ⟨co_X6_mixWith, im_X6_mixWith, se_X6_mixWith, in_X6, by decide +kernel, by decide +kernel, by decide +kernel⟩
theorem kV_X2_remove : VW yX2_remove cX2_remove 4 none 1 := ⟨co_X2_remove, im_X2_remove, se_X2_remove, in_X2, by decide +kernel, by decide +kernel, by decide +kernel⟩
theorem kV_X10_melt : VW yX10_melt cX10_melt 2 (some .int) 1 := ⟨co_X10_melt, im_X10_melt, se_X10_melt, in_X10, by decide +kernel, by decide +kernel, by decide +kernel⟩
theorem kV_X9_burntMelt : VW yX9_burntMelt cX9_burntMelt 2 (some (.object "BellFoundry$Mixture")) 0 := ⟨co_X9_burntMelt, im_X9_burntMelt, se_X9_burntMelt, in_X9, by decide +kernel, by decide +kernel, by decide +kernel⟩
theorem kV_X10_pour : VW yX10_pour cX10_pour 3 (some .int) 2 := ⟨co_X10_pour, im_X10_pour, se_X10_pour, in_X10, by decide +kernel, by decide +kernel, by decide +kernel⟩
theorem kS_X10_isProfile : SW yX10_isProfile cX10_isProfile 1 (some .boolean) 1 := ⟨co_X10_isProfile, st_X10_isProfile, in_X10, by decide +kernel, by decide +kernel, by decide +kernel⟩
theorem kV_X9_weightWithSprue : VW yX9_weightWithSprue cX9_weightWithSprue 2 (some .int) 1 := ⟨co_X9_weightWithSprue, im_X9_weightWithSprue, se_X9_weightWithSprue, in_X9, by decide +kernel, by decide +kernel, by decide +kernel⟩
theorem kV_X9_sprueOf : VW yX9_sprueOf cX9_sprueOf 2 (some .int) 1 := ⟨co_X9_sprueOf, im_X9_sprueOf, se_X9_sprueOf, in_X9, by decide +kernel, by decide +kernel, by decide +kernel⟩
theorem kV_X9_castBell : VW yX9_castBell cX9_castBell 5 (some .int) 2 := ⟨co_X9_castBell, im_X9_castBell, se_X9_castBell, in_X9, by decide +kernel, by decide +kernel, by decide +kernel⟩
theorem kV_X6_drawInto : VW yX6_drawInto cX6_drawInto 4 none 2 := ⟨co_X6_drawInto, im_X6_drawInto, se_X6_drawInto, in_X6, by decide +kernel, by decide +kernel, by decide +kernel⟩
theorem kV_X6_copperOfDraw : VW yX6_copperOfDraw cX6_copperOfDraw 3 (some .int) 1 := ⟨co_X6_copperOfDraw, im_X6_copperOfDraw, se_X6_copperOfDraw, in_X6, by decide +kernel, by decide +kernel, by decide +kernel⟩
theorem kV_X2_add : VW yX2_add cX2_add 3 none 2 := ⟨co_X2_add, im_X2_add, se_X2_add, in_X2, by decide +kernel, by decide +kernel, by decide +kernel⟩
theorem kV_X6_empty : VW yX6_empty cX6_empty 1 none 0 := ⟨co_X6_empty, im_X6_empty, se_X6_empty, in_X6, by decide +kernel, by decide +kernel, by decide +kernel⟩
theorem kS_X10_rootOf : SW yX10_rootOf cX10_rootOf 3 (some .int) 1 := ⟨co_X10_rootOf, st_X10_rootOf, in_X10, by decide +kernel, by decide +kernel, by decide +kernel⟩
theorem kS_X10_cube : SW yX10_cube cX10_cube 2 (some .long) 1 := ⟨co_X10_cube, st_X10_cube, in_X10, by decide +kernel, by decide +kernel, by decide +kernel⟩
theorem kS_X10_firstPitch : SW yX10_firstPitch cX10_firstPitch 3 (some .int) 3 := ⟨co_X10_firstPitch, st_X10_firstPitch, in_X10, by decide +kernel, by decide +kernel, by decide +kernel⟩
theorem kV_X10_tune : VW yX10_tune cX10_tune 4 (some .int) 2 := ⟨co_X10_tune, im_X10_tune, se_X10_tune, in_X10, by decide +kernel, by decide +kernel, by decide +kernel⟩
theorem kV_X9_shave : VW yX9_shave cX9_shave 3 none 2 := ⟨co_X9_shave, im_X9_shave, se_X9_shave, in_X9, by decide +kernel, by decide +kernel, by decide +kernel⟩
theorem kV_X0_pitchBehind : VW yX0_pitchBehind cX0_pitchBehind 3 (some .int) 2 := ⟨co_X0_pitchBehind, im_X0_pitchBehind, se_X0_pitchBehind, in_X0, by decide +kernel, by decide +kernel, by decide +kernel⟩
theorem kV_X0_cracksBy : VW yX0_cracksBy cX0_cracksBy 2 (some .boolean) 1 := ⟨co_X0_cracksBy, im_X0_cracksBy, se_X0_cracksBy, in_X0, by decide +kernel, by decide +kernel, by decide +kernel⟩
theorem kV_X10_smash : VW yX10_smash cX10_smash 4 (some .int) 1 := ⟨co_X10_smash, im_X10_smash, se_X10_smash, in_X10, by decide +kernel, by decide +kernel, by decide +kernel⟩
theorem kV_X0_remains : VW yX0_remains cX0_remains 1 (some .boolean) 0 := ⟨co_X0_remains, im_X0_remains, se_X0_remains, in_X0, by decide +kernel, by decide +kernel, by decide +kernel⟩
theorem kV_X9_breakUp : VW yX9_breakUp cX9_breakUp 2 none 1 := ⟨co_X9_breakUp, im_X9_breakUp, se_X9_breakUp, in_X9, by decide +kernel, by decide +kernel, by decide +kernel⟩
theorem kV_X10_order : VW yX10_order cX10_order 4 (some .int) 3 := ⟨co_X10_order, im_X10_order, se_X10_order, in_X10, by decide +kernel, by decide +kernel, by decide +kernel⟩
theorem kV_X9_takeOrder : VW yX9_takeOrder cX9_takeOrder 5 (some .int) 3 := ⟨co_X9_takeOrder, im_X9_takeOrder, se_X9_takeOrder, in_X9, by decide +kernel, by decide +kernel, by decide +kernel⟩
theorem kV_X10_cancel : VW yX10_cancel cX10_cancel 3 (some .int) 1 := ⟨co_X10_cancel, im_X10_cancel, se_X10_cancel, in_X10, by decide +kernel, by decide +kernel, by decide +kernel⟩
theorem kV_X10_send : VW yX10_send cX10_send 6 (some .int) 2 := ⟨co_X10_send, im_X10_send, se_X10_send, in_X10, by decide +kernel, by decide +kernel, by decide +kernel⟩
theorem kV_X10_tuneFor : VW yX10_tuneFor cX10_tuneFor 5 (some .int) 2 := ⟨co_X10_tuneFor, im_X10_tuneFor, se_X10_tuneFor, in_X10, by decide +kernel, by decide +kernel, by decide +kernel⟩
theorem kV_X9_fewestPoundsToFit : VW yX9_fewestPoundsToFit cX9_fewestPoundsToFit 5 (some .int) 2 := ⟨co_X9_fewestPoundsToFit, im_X9_fewestPoundsToFit, se_X9_fewestPoundsToFit, in_X9, by decide +kernel, by decide +kernel, by decide +kernel⟩
theorem kV_X10_pourFor : VW yX10_pourFor cX10_pourFor 3 (some .int) 1 := ⟨co_X10_pourFor, im_X10_pourFor, se_X10_pourFor, in_X10, by decide +kernel, by decide +kernel, by decide +kernel⟩
theorem kV_X9_heaviestBellFor : VW yX9_heaviestBellFor cX9_heaviestBellFor 6 (some .int) 1 := ⟨co_X9_heaviestBellFor, im_X9_heaviestBellFor, se_X9_heaviestBellFor, in_X9, by decide +kernel, by decide +kernel, by decide +kernel⟩
theorem kS_X10_heaviestAtPitch : SW yX10_heaviestAtPitch cX10_heaviestAtPitch 5 (some .int) 2 := ⟨co_X10_heaviestAtPitch, st_X10_heaviestAtPitch, in_X10, by decide +kernel, by decide +kernel, by decide +kernel⟩
theorem kV_X6_alloyOfDraw : VW yX6_alloyOfDraw cX6_alloyOfDraw 2 (some .int) 1 := ⟨co_X6_alloyOfDraw, im_X6_alloyOfDraw, se_X6_alloyOfDraw, in_X6, by decide +kernel, by decide +kernel, by decide +kernel⟩
theorem kV_X10_wagons : VW yX10_wagons cX10_wagons 5 (some .int) 1 := ⟨co_X10_wagons, im_X10_wagons, se_X10_wagons, in_X10, by decide +kernel, by decide +kernel, by decide +kernel⟩
theorem kV_X8_clear : VW yX8_clear cX8_clear 1 none 0 := ⟨co_X8_clear, im_X8_clear, se_X8_clear, in_X8, by decide +kernel, by decide +kernel, by decide +kernel⟩
theorem kV_X8_add : VW yX8_add cX8_add 2 none 1 := ⟨co_X8_add, im_X8_add, se_X8_add, in_X8, by decide +kernel, by decide +kernel, by decide +kernel⟩
theorem kV_X8_heaviest : VW yX8_heaviest cX8_heaviest 3 (some .int) 0 := ⟨co_X8_heaviest, im_X8_heaviest, se_X8_heaviest, in_X8, by decide +kernel, by decide +kernel, by decide +kernel⟩
theorem kV_X8_fewestWagons : VW yX8_fewestWagons cX8_fewestWagons 4 (some .int) 1 := ⟨co_X8_fewestWagons, im_X8_fewestWagons, se_X8_fewestWagons, in_X8, by decide +kernel, by decide +kernel, by decide +kernel⟩
theorem kV_X8_bestFor : VW yX8_bestFor cX8_bestFor 8 (some .int) 2 := ⟨co_X8_bestFor, im_X8_bestFor, se_X8_bestFor, in_X8, by decide +kernel, by decide +kernel, by decide +kernel⟩
theorem kV_X10_frame : VW yX10_frame cX10_frame 2 (some .int) 1 := ⟨co_X10_frame, im_X10_frame, se_X10_frame, in_X10, by decide +kernel, by decide +kernel, by decide +kernel⟩
theorem kV_X1_read : VW yX1_read cX1_read 6 none 3 := ⟨co_X1_read, im_X1_read, se_X1_read, in_X1, by decide +kernel, by decide +kernel, by decide +kernel⟩
theorem kV_X1_begin : VW yX1_begin cX1_begin 1 none 0 := ⟨co_X1_begin, im_X1_begin, se_X1_begin, in_X1, by decide +kernel, by decide +kernel, by decide +kernel⟩
theorem kS_J7_fill_53178 : SW yJ7_fill_53178 cJ7_fill_53178 4 none 2 := ⟨co_J7_fill_53178, st_J7_fill_53178, in_J7, by decide +kernel, by decide +kernel, by decide +kernel⟩
theorem kS_X1_isDigit : SW yX1_isDigit cX1_isDigit 1 (some .boolean) 1 := ⟨co_X1_isDigit, st_X1_isDigit, in_X1, by decide +kernel, by decide +kernel, by decide +kernel⟩
theorem kS_X1_digit : SW yX1_digit cX1_digit 1 (some .int) 1 := ⟨co_X1_digit, st_X1_digit, in_X1, by decide +kernel, by decide +kernel, by decide +kernel⟩
theorem kV_X1_readBell : VW yX1_readBell cX1_readBell 4 (some .int) 2 := ⟨co_X1_readBell, im_X1_readBell, se_X1_readBell, in_X1, by decide +kernel, by decide +kernel, by decide +kernel⟩
theorem kV_X4_hangBell : VW yX4_hangBell cX4_hangBell 2 none 1 := ⟨co_X4_hangBell, im_X4_hangBell, se_X4_hangBell, in_X4, by decide +kernel, by decide +kernel, by decide +kernel⟩
theorem kV_X1_endFrame : VW yX1_endFrame cX1_endFrame 1 none 0 := ⟨co_X1_endFrame, im_X1_endFrame, se_X1_endFrame, in_X1, by decide +kernel, by decide +kernel, by decide +kernel⟩
theorem kV_X1_readSign : VW yX1_readSign cX1_readSign 3 (some .int) 2 := ⟨co_X1_readSign, im_X1_readSign, se_X1_readSign, in_X1, by decide +kernel, by decide +kernel, by decide +kernel⟩
theorem kV_X1_openBeam : VW yX1_openBeam cX1_openBeam 1 (some .int) 0 := ⟨co_X1_openBeam, im_X1_openBeam, se_X1_openBeam, in_X1, by decide +kernel, by decide +kernel, by decide +kernel⟩
theorem kV_X1_passComma : VW yX1_passComma cX1_passComma 1 (some .int) 0 := ⟨co_X1_passComma, im_X1_passComma, se_X1_passComma, in_X1, by decide +kernel, by decide +kernel, by decide +kernel⟩
theorem kV_X4_copyFrom : VW yX4_copyFrom cX4_copyFrom 2 none 1 := ⟨co_X4_copyFrom, im_X4_copyFrom, se_X4_copyFrom, in_X4, by decide +kernel, by decide +kernel, by decide +kernel⟩
theorem kV_X1_closeBeam : VW yX1_closeBeam cX1_closeBeam 2 (some .int) 0 := ⟨co_X1_closeBeam, im_X1_closeBeam, se_X1_closeBeam, in_X1, by decide +kernel, by decide +kernel, by decide +kernel⟩
theorem kV_X4_hangBeam : VW yX4_hangBeam cX4_hangBeam 4 none 1 := ⟨co_X4_hangBeam, im_X4_hangBeam, se_X4_hangBeam, in_X4, by decide +kernel, by decide +kernel, by decide +kernel⟩
theorem kS_X4_roundUpTo : SW yX4_roundUpTo cX4_roundUpTo 2 (some .int) 2 := ⟨co_X4_roundUpTo, st_X4_roundUpTo, in_X4, by decide +kernel, by decide +kernel, by decide +kernel⟩
theorem kV_X1_tell : VW yX1_tell cX1_tell 2 (some .int) 1 := ⟨co_X1_tell, im_X1_tell, se_X1_tell, in_X1, by decide +kernel, by decide +kernel, by decide +kernel⟩
theorem kV_X10_fault : VW yX10_fault cX10_fault 2 (some .int) 1 := ⟨co_X10_fault, im_X10_fault, se_X10_fault, in_X10, by decide +kernel, by decide +kernel, by decide +kernel⟩
theorem kS_L_fits : SW yL_fits cL_fits 9 (some .boolean) 1 := ⟨co_L_fits, st_L_fits, in_L, by decide +kernel, by decide +kernel, by decide +kernel⟩
theorem kS_L_areBells : SW yL_areBells cL_areBells 9 (some .boolean) 1 := ⟨co_L_areBells, st_L_areBells, in_L, by decide +kernel, by decide +kernel, by decide +kernel⟩
theorem kS_L_areMetals : SW yL_areMetals cL_areMetals 8 (some .boolean) 1 := ⟨co_L_areMetals, st_L_areMetals, in_L, by decide +kernel, by decide +kernel, by decide +kernel⟩
theorem kS_L_comesTrue : SW yL_comesTrue cL_comesTrue 11 (some .boolean) 2 := ⟨co_L_comesTrue, st_L_comesTrue, in_L, by decide +kernel, by decide +kernel, by decide +kernel⟩
theorem kS_L_areLoads : SW yL_areLoads cL_areLoads 21 (some .boolean) 2 := ⟨co_L_areLoads, st_L_areLoads, in_L, by decide +kernel, by decide +kernel, by decide +kernel⟩
theorem kV_X10_clearText : VW yX10_clearText cX10_clearText 2 (some .int) 0 := ⟨co_X10_clearText, im_X10_clearText, se_X10_clearText, in_X10, by decide +kernel, by decide +kernel, by decide +kernel⟩
theorem kV_X10_type : VW yX10_type cX10_type 2 (some .int) 1 := ⟨co_X10_type, im_X10_type, se_X10_type, in_X10, by decide +kernel, by decide +kernel, by decide +kernel⟩
theorem kS_L_number : SW yL_number cL_number 2 (some .boolean) 2 := ⟨co_L_number, st_L_number, in_L, by decide +kernel, by decide +kernel, by decide +kernel⟩
theorem kS_L_acts : SW yL_acts cL_acts 11 (some .boolean) 4 := ⟨co_L_acts, st_L_acts, in_L, by decide +kernel, by decide +kernel, by decide +kernel⟩
theorem inX0 : ∀ w ∈ u_ws RX0 TX0 7, w ∈ WW := by
  intro w h
  obtain ⟨k, hk, rfl⟩ := List.mem_map.mp h
  have hk := List.mem_range.mp hk
  rcases (show k = 0 ∨ k = 1 ∨ k = 2 ∨ k = 3 ∨ k = 4 ∨ k = 5 ∨ k = 6 by omega) with rfl | rfl | rfl | rfl | rfl | rfl | rfl
  · exact wwT 123 (by decide +kernel) (by decide +kernel)
  · exact wwT 125 (by decide +kernel) (by decide +kernel)
  · exact wwT 127 (by decide +kernel) (by decide +kernel)
  · exact wwT 129 (by decide +kernel) (by decide +kernel)
  · exact wwT 131 (by decide +kernel) (by decide +kernel)
  · exact wwT 133 (by decide +kernel) (by decide +kernel)
  · exact wwT 135 (by decide +kernel) (by decide +kernel)
theorem inX1 : ∀ w ∈ u_ws RX1 TX1 12, w ∈ WW := by
  intro w h
  obtain ⟨k, hk, rfl⟩ := List.mem_map.mp h
  have hk := List.mem_range.mp hk
  rcases (show k = 0 ∨ k = 1 ∨ k = 2 ∨ k = 3 ∨ k = 4 ∨ k = 5 ∨ k = 6 ∨ k = 7 ∨ k = 8 ∨ k = 9 ∨ k = 10 ∨ k = 11 by omega) with rfl | rfl | rfl | rfl | rfl | rfl | rfl | rfl | rfl | rfl | rfl | rfl
  · exact wwT 283 (by decide +kernel) (by decide +kernel)
  · exact wwT 285 (by decide +kernel) (by decide +kernel)
  · exact wwT 287 (by decide +kernel) (by decide +kernel)
  · exact wwT 289 (by decide +kernel) (by decide +kernel)
  · exact wwT 291 (by decide +kernel) (by decide +kernel)
  · exact wwT 293 (by decide +kernel) (by decide +kernel)
  · exact wwT 295 (by decide +kernel) (by decide +kernel)
  · exact wwT 297 (by decide +kernel) (by decide +kernel)
  · exact wwT 299 (by decide +kernel) (by decide +kernel)
  · exact wwT 301 (by decide +kernel) (by decide +kernel)
  · exact wwT 303 (by decide +kernel) (by decide +kernel)
  · exact wwT 305 (by decide +kernel) (by decide +kernel)
theorem inX2 : ∀ w ∈ u_ws RX2 TX2 2, w ∈ WW := by
  intro w h
  obtain ⟨k, hk, rfl⟩ := List.mem_map.mp h
  have hk := List.mem_range.mp hk
  rcases (show k = 0 ∨ k = 1 by omega) with rfl | rfl
  · exact wwT 73 (by decide +kernel) (by decide +kernel)
  · exact wwT 75 (by decide +kernel) (by decide +kernel)
theorem inX3 : ∀ w ∈ u_ws RX3 TX3 2, w ∈ WW := by
  intro w h
  obtain ⟨k, hk, rfl⟩ := List.mem_map.mp h
  have hk := List.mem_range.mp hk
  rcases (show k = 0 ∨ k = 1 by omega) with rfl | rfl
  · exact wwT 223 (by decide +kernel) (by decide +kernel)
  · exact wwT 225 (by decide +kernel) (by decide +kernel)
theorem inX4 : ∀ w ∈ u_ws RX4 TX4 3, w ∈ WW := by
  intro w h
  obtain ⟨k, hk, rfl⟩ := List.mem_map.mp h
  have hk := List.mem_range.mp hk
  rcases (show k = 0 ∨ k = 1 ∨ k = 2 by omega) with rfl | rfl | rfl
  · exact wwT 261 (by decide +kernel) (by decide +kernel)
  · exact wwT 263 (by decide +kernel) (by decide +kernel)
  · exact wwT 265 (by decide +kernel) (by decide +kernel)
theorem inX5 : ∀ w ∈ u_ws RX5 TX5 2, w ∈ WW := by
  intro w h
  obtain ⟨k, hk, rfl⟩ := List.mem_map.mp h
  have hk := List.mem_range.mp hk
  rcases (show k = 0 ∨ k = 1 by omega) with rfl | rfl
  · exact wwT 65 (by decide +kernel) (by decide +kernel)
  · exact wwT 67 (by decide +kernel) (by decide +kernel)
theorem inX6 : ∀ w ∈ u_ws RX6 TX6 2, w ∈ WW := by
  intro w h
  obtain ⟨k, hk, rfl⟩ := List.mem_map.mp h
  have hk := List.mem_range.mp hk
  rcases (show k = 0 ∨ k = 1 by omega) with rfl | rfl
  · exact wwT 37 (by decide +kernel) (by decide +kernel)
  · exact wwT 39 (by decide +kernel) (by decide +kernel)
theorem inX7 : ∀ w ∈ u_ws RX7 TX7 4, w ∈ WW := by
  intro w h
  obtain ⟨k, hk, rfl⟩ := List.mem_map.mp h
  have hk := List.mem_range.mp hk
  rcases (show k = 0 ∨ k = 1 ∨ k = 2 ∨ k = 3 by omega) with rfl | rfl | rfl | rfl
  · exact wwT 156 (by decide +kernel) (by decide +kernel)
  · exact wwT 158 (by decide +kernel) (by decide +kernel)
  · exact wwT 160 (by decide +kernel) (by decide +kernel)
  · exact wwT 162 (by decide +kernel) (by decide +kernel)
theorem inX8 : ∀ w ∈ u_ws RX8 TX8 3, w ∈ WW := by
  intro w h
  obtain ⟨k, hk, rfl⟩ := List.mem_map.mp h
  have hk := List.mem_range.mp hk
  rcases (show k = 0 ∨ k = 1 ∨ k = 2 by omega) with rfl | rfl | rfl
  · exact wwT 237 (by decide +kernel) (by decide +kernel)
  · exact wwT 239 (by decide +kernel) (by decide +kernel)
  · exact wwT 241 (by decide +kernel) (by decide +kernel)
theorem inX9 : ∀ w ∈ u_ws RX9 TX9 12, w ∈ WW := by
  intro w h
  obtain ⟨k, hk, rfl⟩ := List.mem_map.mp h
  have hk := List.mem_range.mp hk
  rcases (show k = 0 ∨ k = 1 ∨ k = 2 ∨ k = 3 ∨ k = 4 ∨ k = 5 ∨ k = 6 ∨ k = 7 ∨ k = 8 ∨ k = 9 ∨ k = 10 ∨ k = 11 by omega) with rfl | rfl | rfl | rfl | rfl | rfl | rfl | rfl | rfl | rfl | rfl | rfl
  · exact wwT 186 (by decide +kernel) (by decide +kernel)
  · exact wwT 188 (by decide +kernel) (by decide +kernel)
  · exact wwT 190 (by decide +kernel) (by decide +kernel)
  · exact wwT 192 (by decide +kernel) (by decide +kernel)
  · exact wwT 194 (by decide +kernel) (by decide +kernel)
  · exact wwT 196 (by decide +kernel) (by decide +kernel)
  · exact wwT 198 (by decide +kernel) (by decide +kernel)
  · exact wwT 200 (by decide +kernel) (by decide +kernel)
  · exact wwT 202 (by decide +kernel) (by decide +kernel)
  · exact wwT 204 (by decide +kernel) (by decide +kernel)
  · exact wwT 206 (by decide +kernel) (by decide +kernel)
  · exact wwT 208 (by decide +kernel) (by decide +kernel)
theorem inX10 : ∀ w ∈ u_ws RX10 TX10 6, w ∈ WW := by
  intro w h
  obtain ⟨k, hk, rfl⟩ := List.mem_map.mp h
  have hk := List.mem_range.mp hk
  rcases (show k = 0 ∨ k = 1 ∨ k = 2 ∨ k = 3 ∨ k = 4 ∨ k = 5 by omega) with rfl | rfl | rfl | rfl | rfl | rfl
  · exact wwT 315 (by decide +kernel) (by decide +kernel)
  · exact wwT 317 (by decide +kernel) (by decide +kernel)
  · exact wwT 319 (by decide +kernel) (by decide +kernel)
  · exact wwT 321 (by decide +kernel) (by decide +kernel)
  · exact wwT 323 (by decide +kernel) (by decide +kernel)
  · exact wwT 325 (by decide +kernel) (by decide +kernel)
