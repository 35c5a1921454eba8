theorem cl_L_7 : Cond.classLink "BellFoundryLaw" 7 "BellFoundry" ∈ WW := wwT 16 (by decide +kernel) (by decide +kernel)
theorem is_X10 : Cond.instantiable "BellFoundry" 6 ∈ WW := wwT 17 (by decide +kernel) (by decide +kernel)
theorem ml_L_9 : Cond.methodLink "BellFoundryLaw" 9 yX10_init ∈ WW := wwT 18 (by decide +kernel) (by decide +kernel)
theorem ml_X10_1 : Cond.methodLink "BellFoundry" 1 objectInit ∈ WW := wwT 21 (by decide +kernel) (by decide +kernel)
theorem cl_X10_7 : Cond.classLink "BellFoundry" 7 "BellFoundry$Works" ∈ WW := wwT 24 (by decide +kernel) (by decide +kernel)
theorem is_X9 : Cond.instantiable "BellFoundry$Works" 12 ∈ WW := wwT 25 (by decide +kernel) (by decide +kernel)
theorem ml_X10_9 : Cond.methodLink "BellFoundry" 9 yX9_init ∈ WW := wwT 26 (by decide +kernel) (by decide +kernel)
theorem ml_X9_3 : Cond.methodLink "BellFoundry$Works" 3 objectInit ∈ WW := wwT 29 (by decide +kernel) (by decide +kernel)
theorem cl_X9_9 : Cond.classLink "BellFoundry$Works" 9 "BellFoundry$Mixture" ∈ WW := wwT 30 (by decide +kernel) (by decide +kernel)
theorem is_X6 : Cond.instantiable "BellFoundry$Mixture" 2 ∈ WW := wwT 31 (by decide +kernel) (by decide +kernel)
theorem ml_X9_11 : (("BellFoundry$Works", 11, yX6_init) : String × Nat × MethodName) ∈ NLm := List.mem_of_getElem? (i := 0) rfl
theorem ml_X6_3 : Cond.methodLink "BellFoundry$Mixture" 3 objectInit ∈ WW := wwT 35 (by decide +kernel) (by decide +kernel)
theorem fl_X6_9 : Cond.fieldLink "BellFoundry$Mixture" 9 "BellFoundry$Mixture" "copper" "I" ∈ WW := wwT 36 (by decide +kernel) (by decide +kernel)
theorem fl_X6_15 : Cond.fieldLink "BellFoundry$Mixture" 15 "BellFoundry$Mixture" "tin" "I" ∈ WW := wwT 37 (by decide +kernel) (by decide +kernel)
theorem cl_X9_27 : Cond.classLink "BellFoundry$Works" 27 "BellFoundry$Heap" ∈ WW := wwT 43 (by decide +kernel) (by decide +kernel)
theorem is_X2 : Cond.instantiable "BellFoundry$Heap" 2 ∈ WW := wwT 44 (by decide +kernel) (by decide +kernel)
theorem ml_X9_29 : Cond.methodLink "BellFoundry$Works" 29 yX2_init ∈ WW := wwT 45 (by decide +kernel) (by decide +kernel)
theorem ml_X2_3 : Cond.methodLink "BellFoundry$Heap" 3 objectInit ∈ WW := wwT 48 (by decide +kernel) (by decide +kernel)
theorem cl_X2_9 : Cond.classLink "BellFoundry$Heap" 9 "BellFoundry$Lot" ∈ WW := wwT 49 (by decide +kernel) (by decide +kernel)
theorem is_X5 : Cond.instantiable "BellFoundry$Lot" 2 ∈ WW := wwT 51 (by decide +kernel) (by decide +kernel)
theorem ml_X2_21 : (("BellFoundry$Heap", 21, yX5_init) : String × Nat × MethodName) ∈ NLm := List.mem_of_getElem? (i := 1) rfl
theorem ml_X5_3 : Cond.methodLink "BellFoundry$Lot" 3 objectInit ∈ WW := wwT 55 (by decide +kernel) (by decide +kernel)
theorem cl_X5_9 : Cond.classLink "BellFoundry$Lot" 9 "BellFoundry$Mixture" ∈ WW := wwT 56 (by decide +kernel) (by decide +kernel)
theorem ml_X5_11 : (("BellFoundry$Lot", 11, yX6_init) : String × Nat × MethodName) ∈ NLm := List.mem_of_getElem? (i := 2) rfl
theorem fl_X5_12 : Cond.fieldLink "BellFoundry$Lot" 12 "BellFoundry$Lot" "metal" "LBellFoundry$Mixture;" ∈ WW := wwT 58 (by decide +kernel) (by decide +kernel)
theorem fl_X2_32 : (("BellFoundry$Heap", 32, "BellFoundry$Lot", "metal", "LBellFoundry$Mixture;") : String × Nat × String × String × String) ∈ NLf := List.mem_of_getElem? (i := 0) rfl
theorem fl_X10_93 : (("BellFoundry", 93, "BellFoundry$Lot", "metal", "LBellFoundry$Mixture;") : String × Nat × String × String × String) ∈ NLf := List.mem_of_getElem? (i := 1) rfl
theorem fl_X9_101 : (("BellFoundry$Works", 101, "BellFoundry$Lot", "metal", "LBellFoundry$Mixture;") : String × Nat × String × String × String) ∈ NLf := List.mem_of_getElem? (i := 2) rfl
theorem fl_X5_18 : Cond.fieldLink "BellFoundry$Lot" 18 "BellFoundry$Lot" "kind" "I" ∈ WW := wwT 62 (by decide +kernel) (by decide +kernel)
theorem fl_X2_39 : (("BellFoundry$Heap", 39, "BellFoundry$Lot", "kind", "I") : String × Nat × String × String × String) ∈ NLf := List.mem_of_getElem? (i := 3) rfl
theorem fl_X9_96 : (("BellFoundry$Works", 96, "BellFoundry$Lot", "kind", "I") : String × Nat × String × String × String) ∈ NLf := List.mem_of_getElem? (i := 4) rfl
theorem fl_X10_106 : (("BellFoundry", 106, "BellFoundry$Lot", "kind", "I") : String × Nat × String × String × String) ∈ NLf := List.mem_of_getElem? (i := 5) rfl
theorem fl_X2_11 : Cond.fieldLink "BellFoundry$Heap" 11 "BellFoundry$Heap" "row" "[LBellFoundry$Lot;" ∈ WW := wwT 71 (by decide +kernel) (by decide +kernel)
theorem fl_X2_17 : Cond.fieldLink "BellFoundry$Heap" 17 "BellFoundry$Heap" "size" "I" ∈ WW := wwT 72 (by decide +kernel) (by decide +kernel)
theorem fl_X10_248 : (("BellFoundry", 248, "BellFoundry$Heap", "size", "I") : String × Nat × String × String × String) ∈ NLf := List.mem_of_getElem? (i := 6) rfl
theorem fl_X9_34 : (("BellFoundry$Works", 34, "BellFoundry", "SETTING_FIRST", "[I") : String × Nat × String × String × String) ∈ NLf := List.mem_of_getElem? (i := 7) rfl
theorem ml_X9_38 : Cond.methodLink "BellFoundry$Works" 38 ⟨"[I", "clone", "()Ljava/lang/Object;"⟩ ∈ WW := wwT 81 (by decide +kernel) (by decide +kernel)
theorem sm_clone : Cond.sameMethod "[I" "java/lang/Object" "clone" "()Ljava/lang/Object;" ∈ WW := wwT 82 (by decide +kernel) (by decide +kernel)
theorem nt_qclone : Cond.native ⟨"java/lang/Object", "clone", "()Ljava/lang/Object;"⟩ ∈ WW := wwT 83 (by decide +kernel) (by decide +kernel)
theorem cl_X9_39 : Cond.classLink "BellFoundry$Works" 39 "[I" ∈ WW := wwT 87 (by decide +kernel) (by decide +kernel)
theorem cl_X9_46 : Cond.classLink "BellFoundry$Works" 46 "BellFoundry$Bell" ∈ WW := wwT 88 (by decide +kernel) (by decide +kernel)
theorem cl_X9_52 : Cond.classLink "BellFoundry$Works" 52 "BellFoundry$Order" ∈ WW := wwT 90 (by decide +kernel) (by decide +kernel)
theorem is_X0 : Cond.instantiable "BellFoundry$Bell" 7 ∈ WW := wwT 92 (by decide +kernel) (by decide +kernel)
theorem ml_X9_71 : (("BellFoundry$Works", 71, yX0_init) : String × Nat × MethodName) ∈ NLm := List.mem_of_getElem? (i := 3) rfl
theorem ml_X0_3 : Cond.methodLink "BellFoundry$Bell" 3 objectInit ∈ WW := wwT 96 (by decide +kernel) (by decide +kernel)
theorem cl_X0_9 : Cond.classLink "BellFoundry$Bell" 9 "BellFoundry$Mixture" ∈ WW := wwT 97 (by decide +kernel) (by decide +kernel)
theorem ml_X0_11 : (("BellFoundry$Bell", 11, yX6_init) : String × Nat × MethodName) ∈ NLm := List.mem_of_getElem? (i := 4) rfl
theorem fl_X0_12 : Cond.fieldLink "BellFoundry$Bell" 12 "BellFoundry$Bell" "metal" "LBellFoundry$Mixture;" ∈ WW := wwT 99 (by decide +kernel) (by decide +kernel)
theorem fl_X1_102 : (("BellFoundry$FrameReader", 102, "BellFoundry$Bell", "metal", "LBellFoundry$Mixture;") : String × Nat × String × String × String) ∈ NLf := List.mem_of_getElem? (i := 8) rfl
theorem fl_X10_157 : (("BellFoundry", 157, "BellFoundry$Bell", "metal", "LBellFoundry$Mixture;") : String × Nat × String × String × String) ∈ NLf := List.mem_of_getElem? (i := 9) rfl
theorem fl_X9_125 : (("BellFoundry$Works", 125, "BellFoundry$Bell", "metal", "LBellFoundry$Mixture;") : String × Nat × String × String × String) ∈ NLf := List.mem_of_getElem? (i := 10) rfl
theorem fl_X0_18 : Cond.fieldLink "BellFoundry$Bell" 18 "BellFoundry$Bell" "profile" "I" ∈ WW := wwT 103 (by decide +kernel) (by decide +kernel)
theorem fl_X7_33 : (("BellFoundry$Order", 33, "BellFoundry$Bell", "profile", "I") : String × Nat × String × String × String) ∈ NLf := List.mem_of_getElem? (i := 11) rfl
theorem fl_X9_137 : (("BellFoundry$Works", 137, "BellFoundry$Bell", "profile", "I") : String × Nat × String × String × String) ∈ NLf := List.mem_of_getElem? (i := 12) rfl
theorem fl_X10_173 : (("BellFoundry", 173, "BellFoundry$Bell", "profile", "I") : String × Nat × String × String × String) ∈ NLf := List.mem_of_getElem? (i := 13) rfl
theorem fl_X0_22 : Cond.fieldLink "BellFoundry$Bell" 22 "BellFoundry$Bell" "pitch" "I" ∈ WW := wwT 107 (by decide +kernel) (by decide +kernel)
theorem fl_X7_34 : (("BellFoundry$Order", 34, "BellFoundry$Bell", "pitch", "I") : String × Nat × String × String × String) ∈ NLf := List.mem_of_getElem? (i := 14) rfl
theorem fl_X10_162 : (("BellFoundry", 162, "BellFoundry$Bell", "pitch", "I") : String × Nat × String × String × String) ∈ NLf := List.mem_of_getElem? (i := 15) rfl
theorem fl_X9_147 : (("BellFoundry$Works", 147, "BellFoundry$Bell", "pitch", "I") : String × Nat × String × String × String) ∈ NLf := List.mem_of_getElem? (i := 16) rfl
theorem fl_X0_25 : Cond.fieldLink "BellFoundry$Bell" 25 "BellFoundry$Bell" "weightPoured" "I" ∈ WW := wwT 111 (by decide +kernel) (by decide +kernel)
theorem fl_X9_150 : (("BellFoundry$Works", 150, "BellFoundry$Bell", "weightPoured", "I") : String × Nat × String × String × String) ∈ NLf := List.mem_of_getElem? (i := 17) rfl
theorem fl_X10_176 : (("BellFoundry", 176, "BellFoundry$Bell", "weightPoured", "I") : String × Nat × String × String × String) ∈ NLf := List.mem_of_getElem? (i := 18) rfl
theorem fl_X0_28 : Cond.fieldLink "BellFoundry$Bell" 28 "BellFoundry$Bell" "drawn" "I" ∈ WW := wwT 114 (by decide +kernel) (by decide +kernel)
theorem fl_X9_153 : (("BellFoundry$Works", 153, "BellFoundry$Bell", "drawn", "I") : String × Nat × String × String × String) ∈ NLf := List.mem_of_getElem? (i := 19) rfl
theorem fl_X10_179 : (("BellFoundry", 179, "BellFoundry$Bell", "drawn", "I") : String × Nat × String × String × String) ∈ NLf := List.mem_of_getElem? (i := 20) rfl
theorem fl_X0_31 : Cond.fieldLink "BellFoundry$Bell" 31 "BellFoundry$Bell" "state" "I" ∈ WW := wwT 117 (by decide +kernel) (by decide +kernel)
theorem fl_X7_30 : (("BellFoundry$Order", 30, "BellFoundry$Bell", "state", "I") : String × Nat × String × String × String) ∈ NLf := List.mem_of_getElem? (i := 21) rfl
theorem fl_X10_152 : (("BellFoundry", 152, "BellFoundry$Bell", "state", "I") : String × Nat × String × String × String) ∈ NLf := List.mem_of_getElem? (i := 22) rfl
theorem fl_X9_156 : (("BellFoundry$Works", 156, "BellFoundry$Bell", "state", "I") : String × Nat × String × String × String) ∈ NLf := List.mem_of_getElem? (i := 23) rfl
theorem fl_X0_34 : Cond.fieldLink "BellFoundry$Bell" 34 "BellFoundry$Bell" "order" "I" ∈ WW := wwT 121 (by decide +kernel) (by decide +kernel)
theorem fl_X9_159 : (("BellFoundry$Works", 159, "BellFoundry$Bell", "order", "I") : String × Nat × String × String × String) ∈ NLf := List.mem_of_getElem? (i := 24) rfl
theorem fl_X10_182 : (("BellFoundry", 182, "BellFoundry$Bell", "order", "I") : String × Nat × String × String × String) ∈ NLf := List.mem_of_getElem? (i := 25) rfl
theorem ac_int : Cond.arrayClass .int ∈ WW := wwT 139 (by decide +kernel) (by decide +kernel)
theorem is_X7 : Cond.instantiable "BellFoundry$Order" 4 ∈ WW := wwT 140 (by decide +kernel) (by decide +kernel)
theorem ml_X9_72 : (("BellFoundry$Works", 72, yX7_init) : String × Nat × MethodName) ∈ NLm := List.mem_of_getElem? (i := 5) rfl
theorem ml_X7_3 : Cond.methodLink "BellFoundry$Order" 3 objectInit ∈ WW := wwT 144 (by decide +kernel) (by decide +kernel)
theorem fl_X7_9 : Cond.fieldLink "BellFoundry$Order" 9 "BellFoundry$Order" "profile" "I" ∈ WW := wwT 145 (by decide +kernel) (by decide +kernel)
theorem fl_X9_172 : (("BellFoundry$Works", 172, "BellFoundry$Order", "profile", "I") : String × Nat × String × String × String) ∈ NLf := List.mem_of_getElem? (i := 26) rfl
theorem fl_X10_206 : (("BellFoundry", 206, "BellFoundry$Order", "profile", "I") : String × Nat × String × String × String) ∈ NLf := List.mem_of_getElem? (i := 27) rfl
theorem fl_X7_15 : Cond.fieldLink "BellFoundry$Order" 15 "BellFoundry$Order" "pitch" "I" ∈ WW := wwT 148 (by decide +kernel) (by decide +kernel)
theorem fl_X9_173 : (("BellFoundry$Works", 173, "BellFoundry$Order", "pitch", "I") : String × Nat × String × String × String) ∈ NLf := List.mem_of_getElem? (i := 28) rfl
theorem fl_X10_207 : (("BellFoundry", 207, "BellFoundry$Order", "pitch", "I") : String × Nat × String × String × String) ∈ NLf := List.mem_of_getElem? (i := 29) rfl
theorem fl_X7_18 : Cond.fieldLink "BellFoundry$Order" 18 "BellFoundry$Order" "tolerance" "I" ∈ WW := wwT 151 (by decide +kernel) (by decide +kernel)
theorem fl_X9_174 : (("BellFoundry$Works", 174, "BellFoundry$Order", "tolerance", "I") : String × Nat × String × String × String) ∈ NLf := List.mem_of_getElem? (i := 30) rfl
theorem fl_X10_208 : (("BellFoundry", 208, "BellFoundry$Order", "tolerance", "I") : String × Nat × String × String × String) ∈ NLf := List.mem_of_getElem? (i := 31) rfl
theorem fl_X7_21 : Cond.fieldLink "BellFoundry$Order" 21 "BellFoundry$Order" "state" "I" ∈ WW := wwT 154 (by decide +kernel) (by decide +kernel)
theorem fl_X10_199 : (("BellFoundry", 199, "BellFoundry$Order", "state", "I") : String × Nat × String × String × String) ∈ NLf := List.mem_of_getElem? (i := 32) rfl
theorem fl_X9_177 : (("BellFoundry$Works", 177, "BellFoundry$Order", "state", "I") : String × Nat × String × String × String) ∈ NLf := List.mem_of_getElem? (i := 33) rfl
theorem fl_X9_12 : Cond.fieldLink "BellFoundry$Works" 12 "BellFoundry$Works" "bought" "LBellFoundry$Mixture;" ∈ WW := wwT 166 (by decide +kernel) (by decide +kernel)
theorem fl_X10_69 : (("BellFoundry", 69, "BellFoundry$Works", "bought", "LBellFoundry$Mixture;") : String × Nat × String × String × String) ∈ NLf := List.mem_of_getElem? (i := 34) rfl
theorem fl_X9_18 : Cond.fieldLink "BellFoundry$Works" 18 "BellFoundry$Works" "stock" "LBellFoundry$Mixture;" ∈ WW := wwT 168 (by decide +kernel) (by decide +kernel)
theorem fl_X10_54 : (("BellFoundry", 54, "BellFoundry$Works", "stock", "LBellFoundry$Mixture;") : String × Nat × String × String × String) ∈ NLf := List.mem_of_getElem? (i := 35) rfl
theorem fl_X9_21 : Cond.fieldLink "BellFoundry$Works" 21 "BellFoundry$Works" "slag" "LBellFoundry$Mixture;" ∈ WW := wwT 170 (by decide +kernel) (by decide +kernel)
theorem fl_X10_245 : (("BellFoundry", 245, "BellFoundry$Works", "slag", "LBellFoundry$Mixture;") : String × Nat × String × String × String) ∈ NLf := List.mem_of_getElem? (i := 36) rfl
theorem fl_X9_24 : Cond.fieldLink "BellFoundry$Works" 24 "BellFoundry$Works" "melt" "LBellFoundry$Mixture;" ∈ WW := wwT 172 (by decide +kernel) (by decide +kernel)
theorem fl_X10_76 : (("BellFoundry", 76, "BellFoundry$Works", "melt", "LBellFoundry$Mixture;") : String × Nat × String × String × String) ∈ NLf := List.mem_of_getElem? (i := 37) rfl
theorem fl_X9_30 : Cond.fieldLink "BellFoundry$Works" 30 "BellFoundry$Works" "heap" "LBellFoundry$Heap;" ∈ WW := wwT 174 (by decide +kernel) (by decide +kernel)
theorem fl_X10_83 : (("BellFoundry", 83, "BellFoundry$Works", "heap", "LBellFoundry$Heap;") : String × Nat × String × String × String) ∈ NLf := List.mem_of_getElem? (i := 38) rfl
theorem fl_X9_43 : Cond.fieldLink "BellFoundry$Works" 43 "BellFoundry$Works" "settings" "[I" ∈ WW := wwT 176 (by decide +kernel) (by decide +kernel)
theorem fl_X10_129 : (("BellFoundry", 129, "BellFoundry$Works", "settings", "[I") : String × Nat × String × String × String) ∈ NLf := List.mem_of_getElem? (i := 39) rfl
theorem fl_X9_48 : Cond.fieldLink "BellFoundry$Works" 48 "BellFoundry$Works" "bells" "[LBellFoundry$Bell;" ∈ WW := wwT 178 (by decide +kernel) (by decide +kernel)
theorem fl_X10_228 : (("BellFoundry", 228, "BellFoundry$Works", "bells", "[LBellFoundry$Bell;") : String × Nat × String × String × String) ∈ NLf := List.mem_of_getElem? (i := 40) rfl
theorem fl_X9_54 : Cond.fieldLink "BellFoundry$Works" 54 "BellFoundry$Works" "orders" "[LBellFoundry$Order;" ∈ WW := wwT 180 (by decide +kernel) (by decide +kernel)
theorem fl_X9_58 : Cond.fieldLink "BellFoundry$Works" 58 "BellFoundry$Works" "poured" "I" ∈ WW := wwT 181 (by decide +kernel) (by decide +kernel)
theorem fl_X10_141 : (("BellFoundry", 141, "BellFoundry$Works", "poured", "I") : String × Nat × String × String × String) ∈ NLf := List.mem_of_getElem? (i := 41) rfl
theorem fl_X9_62 : Cond.fieldLink "BellFoundry$Works" 62 "BellFoundry$Works" "came" "I" ∈ WW := wwT 183 (by decide +kernel) (by decide +kernel)
theorem fl_X10_188 : (("BellFoundry", 188, "BellFoundry$Works", "came", "I") : String × Nat × String × String × String) ∈ NLf := List.mem_of_getElem? (i := 42) rfl
theorem fl_X9_65 : Cond.fieldLink "BellFoundry$Works" 65 "BellFoundry$Works" "ladle" "LBellFoundry$Mixture;" ∈ WW := wwT 185 (by decide +kernel) (by decide +kernel)
theorem fl_X9_68 : Cond.fieldLink "BellFoundry$Works" 68 "BellFoundry$Works" "burnt" "LBellFoundry$Mixture;" ∈ WW := wwT 186 (by decide +kernel) (by decide +kernel)
theorem cl_X10_16 : Cond.classLink "BellFoundry" 16 "BellFoundry$History" ∈ WW := wwT 212 (by decide +kernel) (by decide +kernel)
theorem is_X3 : Cond.instantiable "BellFoundry$History" 2 ∈ WW := wwT 213 (by decide +kernel) (by decide +kernel)
theorem ml_X10_18 : Cond.methodLink "BellFoundry" 18 yX3_init ∈ WW := wwT 214 (by decide +kernel) (by decide +kernel)
theorem ml_X3_3 : Cond.methodLink "BellFoundry$History" 3 objectInit ∈ WW := wwT 217 (by decide +kernel) (by decide +kernel)
theorem cl_X3_9 : Cond.classLink "BellFoundry$History" 9 "BellFoundry$Works" ∈ WW := wwT 218 (by decide +kernel) (by decide +kernel)
theorem ml_X3_21 : Cond.methodLink "BellFoundry$History" 21 yX9_init ∈ WW := wwT 220 (by decide +kernel) (by decide +kernel)
theorem fl_X3_11 : Cond.fieldLink "BellFoundry$History" 11 "BellFoundry$History" "states" "[LBellFoundry$Works;" ∈ WW := wwT 221 (by decide +kernel) (by decide +kernel)
theorem fl_X3_17 : Cond.fieldLink "BellFoundry$History" 17 "BellFoundry$History" "size" "I" ∈ WW := wwT 222 (by decide +kernel) (by decide +kernel)
theorem fl_X10_254 : (("BellFoundry", 254, "BellFoundry$History", "size", "I") : String × Nat × String × String × String) ∈ NLf := List.mem_of_getElem? (i := 43) rfl
theorem cl_X10_23 : Cond.classLink "BellFoundry" 23 "BellFoundry$WagonPacker" ∈ WW := wwT 229 (by decide +kernel) (by decide +kernel)
theorem is_X8 : Cond.instantiable "BellFoundry$WagonPacker" 3 ∈ WW := wwT 230 (by decide +kernel) (by decide +kernel)
theorem ml_X10_25 : (("BellFoundry", 25, yX8_init) : String × Nat × MethodName) ∈ NLm := List.mem_of_getElem? (i := 6) rfl
theorem ml_X8_3 : Cond.methodLink "BellFoundry$WagonPacker" 3 objectInit ∈ WW := wwT 234 (by decide +kernel) (by decide +kernel)
theorem fl_X8_9 : Cond.fieldLink "BellFoundry$WagonPacker" 9 "BellFoundry$WagonPacker" "weights" "[I" ∈ WW := wwT 235 (by decide +kernel) (by decide +kernel)
theorem fl_X8_15 : Cond.fieldLink "BellFoundry$WagonPacker" 15 "BellFoundry$WagonPacker" "best" "[I" ∈ WW := wwT 236 (by decide +kernel) (by decide +kernel)
theorem fl_X8_18 : Cond.fieldLink "BellFoundry$WagonPacker" 18 "BellFoundry$WagonPacker" "size" "I" ∈ WW := wwT 237 (by decide +kernel) (by decide +kernel)
theorem cl_X10_30 : Cond.classLink "BellFoundry" 30 "BellFoundry$FrameReader" ∈ WW := wwT 245 (by decide +kernel) (by decide +kernel)
theorem is_X1 : Cond.instantiable "BellFoundry$FrameReader" 12 ∈ WW := wwT 246 (by decide +kernel) (by decide +kernel)
theorem ml_X10_32 : Cond.methodLink "BellFoundry" 32 yX1_init ∈ WW := wwT 247 (by decide +kernel) (by decide +kernel)
theorem ml_X1_3 : Cond.methodLink "BellFoundry$FrameReader" 3 objectInit ∈ WW := wwT 250 (by decide +kernel) (by decide +kernel)
theorem cl_X1_21 : Cond.classLink "BellFoundry$FrameReader" 21 "BellFoundry$Load" ∈ WW := wwT 251 (by decide +kernel) (by decide +kernel)
theorem is_X4 : Cond.instantiable "BellFoundry$Load" 3 ∈ WW := wwT 252 (by decide +kernel) (by decide +kernel)
theorem ml_X1_23 : (("BellFoundry$FrameReader", 23, yX4_init) : String × Nat × MethodName) ∈ NLm := List.mem_of_getElem? (i := 7) rfl
theorem ml_X4_1 : Cond.methodLink "BellFoundry$Load" 1 objectInit ∈ WW := wwT 256 (by decide +kernel) (by decide +kernel)
theorem fl_X4_7 : Cond.fieldLink "BellFoundry$Load" 7 "BellFoundry$Load" "weight" "I" ∈ WW := wwT 257 (by decide +kernel) (by decide +kernel)
theorem fl_X1_128 : (("BellFoundry$FrameReader", 128, "BellFoundry$Load", "weight", "I") : String × Nat × String × String × String) ∈ NLf := List.mem_of_getElem? (i := 44) rfl
theorem fl_X4_13 : Cond.fieldLink "BellFoundry$Load" 13 "BellFoundry$Load" "leastLevel" "I" ∈ WW := wwT 259 (by decide +kernel) (by decide +kernel)
theorem fl_X1_137 : (("BellFoundry$FrameReader", 137, "BellFoundry$Load", "leastLevel", "I") : String × Nat × String × String × String) ∈ NLf := List.mem_of_getElem? (i := 45) rfl
theorem fl_X4_16 : Cond.fieldLink "BellFoundry$Load" 16 "BellFoundry$Load" "step" "I" ∈ WW := wwT 261 (by decide +kernel) (by decide +kernel)
theorem fl_X1_11 : Cond.fieldLink "BellFoundry$FrameReader" 11 "BellFoundry$FrameReader" "expected" "I" ∈ WW := wwT 270 (by decide +kernel) (by decide +kernel)
theorem fl_X1_15 : Cond.fieldLink "BellFoundry$FrameReader" 15 "BellFoundry$FrameReader" "position" "I" ∈ WW := wwT 271 (by decide +kernel) (by decide +kernel)
theorem fl_X10_265 : (("BellFoundry", 265, "BellFoundry$FrameReader", "position", "I") : String × Nat × String × String × String) ∈ NLf := List.mem_of_getElem? (i := 46) rfl
theorem fl_X1_18 : Cond.fieldLink "BellFoundry$FrameReader" 18 "BellFoundry$FrameReader" "reason" "I" ∈ WW := wwT 273 (by decide +kernel) (by decide +kernel)
theorem fl_X10_262 : (("BellFoundry", 262, "BellFoundry$FrameReader", "reason", "I") : String × Nat × String × String × String) ∈ NLf := List.mem_of_getElem? (i := 47) rfl
theorem fl_X1_24 : Cond.fieldLink "BellFoundry$FrameReader" 24 "BellFoundry$FrameReader" "latest" "LBellFoundry$Load;" ∈ WW := wwT 275 (by decide +kernel) (by decide +kernel)
theorem fl_X1_28 : Cond.fieldLink "BellFoundry$FrameReader" 28 "BellFoundry$FrameReader" "firsts" "[LBellFoundry$Load;" ∈ WW := wwT 276 (by decide +kernel) (by decide +kernel)
theorem fl_X1_32 : Cond.fieldLink "BellFoundry$FrameReader" 32 "BellFoundry$FrameReader" "behindComma" "[Z" ∈ WW := wwT 277 (by decide +kernel) (by decide +kernel)
theorem fl_X1_36 : Cond.fieldLink "BellFoundry$FrameReader" 36 "BellFoundry$FrameReader" "open" "I" ∈ WW := wwT 278 (by decide +kernel) (by decide +kernel)
theorem fl_X1_39 : Cond.fieldLink "BellFoundry$FrameReader" 39 "BellFoundry$FrameReader" "hangs" "[I" ∈ WW := wwT 279 (by decide +kernel) (by decide +kernel)
theorem fl_X1_43 : Cond.fieldLink "BellFoundry$FrameReader" 43 "BellFoundry$FrameReader" "bells" "I" ∈ WW := wwT 280 (by decide +kernel) (by decide +kernel)
theorem fl_X1_46 : Cond.fieldLink "BellFoundry$FrameReader" 46 "BellFoundry$FrameReader" "beams" "I" ∈ WW := wwT 281 (by decide +kernel) (by decide +kernel)
theorem fl_X1_49 : Cond.fieldLink "BellFoundry$FrameReader" 49 "BellFoundry$FrameReader" "deepest" "I" ∈ WW := wwT 282 (by decide +kernel) (by decide +kernel)
theorem fl_X1_52 : Cond.fieldLink "BellFoundry$FrameReader" 52 "BellFoundry$FrameReader" "greatestSlant" "I" ∈ WW := wwT 283 (by decide +kernel) (by decide +kernel)
theorem ac_boolean : Cond.arrayClass .boolean ∈ WW := wwT 309 (by decide +kernel) (by decide +kernel)
theorem fl_X10_10 : Cond.fieldLink "BellFoundry" 10 "BellFoundry" "works" "LBellFoundry$Works;" ∈ WW := wwT 310 (by decide +kernel) (by decide +kernel)
theorem fl_X10_19 : Cond.fieldLink "BellFoundry" 19 "BellFoundry" "history" "LBellFoundry$History;" ∈ WW := wwT 311 (by decide +kernel) (by decide +kernel)
theorem fl_X10_26 : Cond.fieldLink "BellFoundry" 26 "BellFoundry" "packer" "LBellFoundry$WagonPacker;" ∈ WW := wwT 312 (by decide +kernel) (by decide +kernel)
theorem fl_X10_33 : Cond.fieldLink "BellFoundry" 33 "BellFoundry" "reader" "LBellFoundry$FrameReader;" ∈ WW := wwT 313 (by decide +kernel) (by decide +kernel)
theorem fl_X10_37 : Cond.fieldLink "BellFoundry" 37 "BellFoundry" "text" "[C" ∈ WW := wwT 314 (by decide +kernel) (by decide +kernel)
theorem fl_X10_41 : Cond.fieldLink "BellFoundry" 41 "BellFoundry" "length" "I" ∈ WW := wwT 315 (by decide +kernel) (by decide +kernel)
theorem ac_char : Cond.arrayClass .char ∈ WW := wwT 329 (by decide +kernel) (by decide +kernel)
theorem ml_L_13 : Cond.methodLink "BellFoundryLaw" 13 yX10_buy ∈ WW := wwT 330 (by decide +kernel) (by decide +kernel)
theorem ml_X10_45 : Cond.methodLink "BellFoundry" 45 yX10_isMetal ∈ WW := wwT 334 (by decide +kernel) (by decide +kernel)
theorem ml_X10_50 : Cond.methodLink "BellFoundry" 50 yX10_isIn ∈ WW := wwT 337 (by decide +kernel) (by decide +kernel)
theorem kc_X10_49 : Cond.constant "BellFoundry" 49 100000 ∈ WW := wwT 340 (by decide +kernel) (by decide +kernel)
theorem ml_X10_58 : Cond.methodLink "BellFoundry" 58 yX6_of ∈ WW := wwT 341 (by decide +kernel) (by decide +kernel)
theorem kc_X10_64 : Cond.constant "BellFoundry" 64 1000000 ∈ WW := wwT 345 (by decide +kernel) (by decide +kernel)
theorem ml_X10_65 : Cond.methodLink "BellFoundry" 65 yX3_keep ∈ WW := wwT 346 (by decide +kernel) (by decide +kernel)
theorem ml_X3_22 : Cond.methodLink "BellFoundry$History" 22 yX3_dropOldest ∈ WW := wwT 350 (by decide +kernel) (by decide +kernel)
theorem ml_X3_25 : Cond.methodLink "BellFoundry$History" 25 yX9_copyFrom ∈ WW := wwT 354 (by decide +kernel) (by decide +kernel)
theorem ml_X9_73 : Cond.methodLink "BellFoundry$Works" 73 yX6_copyFrom ∈ WW := wwT 358 (by decide +kernel) (by decide +kernel)
theorem ml_X9_77 : Cond.methodLink "BellFoundry$Works" 77 yX2_copyFrom ∈ WW := wwT 362 (by decide +kernel) (by decide +kernel)
theorem ml_X2_50 : Cond.methodLink "BellFoundry$Heap" 50 yX6_copyFrom ∈ WW := wwT 366 (by decide +kernel) (by decide +kernel)
theorem ml_X9_80 : Cond.methodLink "BellFoundry$Works" 80 arraycopyName ∈ WW := wwT 367 (by decide +kernel) (by decide +kernel)
theorem nt_acopy : Cond.native arraycopyName ∈ WW := wwT 369 (by decide +kernel) (by decide +kernel)
theorem ml_X9_86 : Cond.methodLink "BellFoundry$Works" 86 yX0_copyFrom ∈ WW := wwT 370 (by decide +kernel) (by decide +kernel)
theorem ml_X0_47 : Cond.methodLink "BellFoundry$Bell" 47 yX6_copyFrom ∈ WW := wwT 374 (by decide +kernel) (by decide +kernel)
theorem ml_X9_89 : Cond.methodLink "BellFoundry$Works" 89 yX7_copyFrom ∈ WW := wwT 375 (by decide +kernel) (by decide +kernel)
theorem ml_X10_72 : Cond.methodLink "BellFoundry" 72 yX6_put ∈ WW := wwT 379 (by decide +kernel) (by decide +kernel)
theorem ml_L_18 : Cond.methodLink "BellFoundryLaw" 18 yX10_charge ∈ WW := wwT 383 (by decide +kernel) (by decide +kernel)
theorem ml_X10_79 : Cond.methodLink "BellFoundry" 79 yX6_weight ∈ WW := wwT 387 (by decide +kernel) (by decide +kernel)
theorem ml_L_22 : Cond.methodLink "BellFoundryLaw" 22 yX10_scrap ∈ WW := wwT 391 (by decide +kernel) (by decide +kernel)
theorem ml_X10_87 : Cond.methodLink "BellFoundry" 87 yX2_at ∈ WW := wwT 395 (by decide +kernel) (by decide +kernel)
theorem ml_X2_22 : (("BellFoundry$Heap", 22, yX10_isIn) : String × Nat × MethodName) ∈ NLm := List.mem_of_getElem? (i := 8) rfl
theorem ml_X10_98 : Cond.methodLink "BellFoundry" 98 yX9_meltDown ∈ WW := wwT 400 (by decide +kernel) (by decide +kernel)
theorem ml_X9_104 : Cond.methodLink "BellFoundry$Works" 104 yX9_burn ∈ WW := wwT 404 (by decide +kernel) (by decide +kernel)
theorem ml_X9_110 : Cond.methodLink "BellFoundry$Works" 110 yX6_lossOf ∈ WW := wwT 408 (by decide +kernel) (by decide +kernel)
theorem ml_X6_29 : Cond.methodLink "BellFoundry$Mixture" 29 yX6_of ∈ WW := wwT 412 (by decide +kernel) (by decide +kernel)
theorem ml_X6_33 : (("BellFoundry$Mixture", 33, yX10_shareRoundedUp) : String × Nat × MethodName) ∈ NLm := List.mem_of_getElem? (i := 9) rfl
theorem ml_X9_114 : Cond.methodLink "BellFoundry$Works" 114 yX6_put ∈ WW := wwT 416 (by decide +kernel) (by decide +kernel)
theorem ml_X9_107 : Cond.methodLink "BellFoundry$Works" 107 yX6_mixWith ∈ WW := wwT 417 (by decide +kernel) (by decide +kernel)
theorem ml_X10_102 : Cond.methodLink "BellFoundry" 102 yX2_remove ∈ WW := wwT 421 (by decide +kernel) (by decide +kernel)
theorem ml_L_27 : Cond.methodLink "BellFoundryLaw" 27 yX10_lot ∈ WW := wwT 425 (by decide +kernel) (by decide +kernel)
theorem ml_X10_109 : Cond.methodLink "BellFoundry" 109 yX6_tell ∈ WW := wwT 429 (by decide +kernel) (by decide +kernel)
theorem ml_X6_18 : Cond.methodLink "BellFoundry$Mixture" 18 yX6_weight ∈ WW := wwT 433 (by decide +kernel) (by decide +kernel)
theorem ml_X6_26 : Cond.methodLink "BellFoundry$Mixture" 26 yX6_alloy ∈ WW := wwT 434 (by decide +kernel) (by decide +kernel)
theorem ml_X6_22 : Cond.methodLink "BellFoundry$Mixture" 22 yX6_alloyOf ∈ WW := wwT 438 (by decide +kernel) (by decide +kernel)
theorem kc_X6_39 : Cond.constantLong "BellFoundry$Mixture" 39 1000 ∈ WW := wwT 441 (by decide +kernel) (by decide +kernel)
theorem ml_L_31 : Cond.methodLink "BellFoundryLaw" 31 yX10_melt ∈ WW := wwT 442 (by decide +kernel) (by decide +kernel)
theorem ml_X10_112 : Cond.methodLink "BellFoundry" 112 yX9_burntMelt ∈ WW := wwT 446 (by decide +kernel) (by decide +kernel)
theorem ml_X10_116 : Cond.methodLink "BellFoundry" 116 yX6_alloy ∈ WW := wwT 450 (by decide +kernel) (by decide +kernel)
theorem ml_L_35 : Cond.methodLink "BellFoundryLaw" 35 yX10_set ∈ WW := wwT 451 (by decide +kernel) (by decide +kernel)
theorem fl_X10_119 : Cond.fieldLink "BellFoundry" 119 "BellFoundry" "SETTING_FIRST" "[I" ∈ WW := wwT 455 (by decide +kernel) (by decide +kernel)
theorem fl_X10_123 : Cond.fieldLink "BellFoundry" 123 "BellFoundry" "SETTING_FROM" "[I" ∈ WW := wwT 456 (by decide +kernel) (by decide +kernel)
theorem fl_X10_126 : Cond.fieldLink "BellFoundry" 126 "BellFoundry" "SETTING_TO" "[I" ∈ WW := wwT 458 (by decide +kernel) (by decide +kernel)
theorem ml_L_39 : Cond.methodLink "BellFoundryLaw" 39 yX10_pour ∈ WW := wwT 460 (by decide +kernel) (by decide +kernel)
theorem ml_X10_132 : Cond.methodLink "BellFoundry" 132 yX10_isProfile ∈ WW := wwT 464 (by decide +kernel) (by decide +kernel)
theorem fl_X10_269 : Cond.fieldLink "BellFoundry" 269 "BellFoundry" "FACTORS" "[I" ∈ WW := wwT 467 (by decide +kernel) (by decide +kernel)
theorem ml_X10_135 : Cond.methodLink "BellFoundry" 135 yX9_weightWithSprue ∈ WW := wwT 469 (by decide +kernel) (by decide +kernel)
theorem ml_X9_121 : Cond.methodLink "BellFoundry$Works" 121 yX9_sprueOf ∈ WW := wwT 473 (by decide +kernel) (by decide +kernel)
theorem ml_X9_118 : (("BellFoundry$Works", 118, yX10_shareRoundedUp) : String × Nat × MethodName) ∈ NLm := List.mem_of_getElem? (i := 10) rfl
theorem ml_X10_138 : Cond.methodLink "BellFoundry" 138 yX9_remainingBells ∈ WW := wwT 478 (by decide +kernel) (by decide +kernel)
theorem ml_X9_178 : Cond.methodLink "BellFoundry$Works" 178 yX9_bellsIn ∈ WW := wwT 482 (by decide +kernel) (by decide +kernel)
theorem ml_X10_144 : Cond.methodLink "BellFoundry" 144 yX9_castBell ∈ WW := wwT 486 (by decide +kernel) (by decide +kernel)
theorem ml_X9_126 : Cond.methodLink "BellFoundry$Works" 126 yX6_drawInto ∈ WW := wwT 490 (by decide +kernel) (by decide +kernel)
theorem ml_X6_36 : Cond.methodLink "BellFoundry$Mixture" 36 yX6_copperOfDraw ∈ WW := wwT 494 (by decide +kernel) (by decide +kernel)
theorem ml_X9_130 : Cond.methodLink "BellFoundry$Works" 130 yX2_add ∈ WW := wwT 498 (by decide +kernel) (by decide +kernel)
theorem ml_X2_26 : Cond.methodLink "BellFoundry$Heap" 26 yX6_weight ∈ WW := wwT 502 (by decide +kernel) (by decide +kernel)
theorem ml_X2_36 : Cond.methodLink "BellFoundry$Heap" 36 yX6_empty ∈ WW := wwT 503 (by decide +kernel) (by decide +kernel)
theorem ml_X2_42 : Cond.methodLink "BellFoundry$Heap" 42 yX6_mixWith ∈ WW := wwT 507 (by decide +kernel) (by decide +kernel)
theorem ml_X9_133 : Cond.methodLink "BellFoundry$Works" 133 yX6_alloy ∈ WW := wwT 508 (by decide +kernel) (by decide +kernel)
theorem ml_X9_140 : (("BellFoundry$Works", 140, yX10_rootOf) : String × Nat × MethodName) ∈ NLm := List.mem_of_getElem? (i := 11) rfl
theorem ml_X10_272 : Cond.methodLink "BellFoundry" 272 yX10_cube ∈ WW := wwT 512 (by decide +kernel) (by decide +kernel)
theorem kc_X10_276 : Cond.constantLong "BellFoundry" 276 1000000 ∈ WW := wwT 515 (by decide +kernel) (by decide +kernel)
theorem ml_X9_143 : (("BellFoundry$Works", 143, yX10_firstPitch) : String × Nat × MethodName) ∈ NLm := List.mem_of_getElem? (i := 12) rfl
theorem ml_X10_278 : Cond.methodLink "BellFoundry" 278 Lib.Math.max.name ∈ WW := wwT 519 (by decide +kernel) (by decide +kernel)
theorem ml_X9_92 : (("BellFoundry$Works", 92, yX10_isIn) : String × Nat × MethodName) ∈ NLm := List.mem_of_getElem? (i := 13) rfl
theorem ml_L_43 : Cond.methodLink "BellFoundryLaw" 43 yX10_tune ∈ WW := wwT 523 (by decide +kernel) (by decide +kernel)
theorem ml_X10_148 : Cond.methodLink "BellFoundry" 148 yX9_bellAt ∈ WW := wwT 527 (by decide +kernel) (by decide +kernel)
theorem ml_X10_158 : Cond.methodLink "BellFoundry" 158 yX9_shave ∈ WW := wwT 531 (by decide +kernel) (by decide +kernel)
theorem ml_X9_162 : Cond.methodLink "BellFoundry$Works" 162 yX0_pitchBehind ∈ WW := wwT 535 (by decide +kernel) (by decide +kernel)
theorem ml_X0_37 : Cond.methodLink "BellFoundry$Bell" 37 yX6_weight ∈ WW := wwT 539 (by decide +kernel) (by decide +kernel)
theorem ml_X0_41 : Cond.methodLink "BellFoundry$Bell" 41 Lib.Math.max.name ∈ WW := wwT 540 (by decide +kernel) (by decide +kernel)
theorem ml_X9_165 : Cond.methodLink "BellFoundry$Works" 165 yX0_cracksBy ∈ WW := wwT 541 (by decide +kernel) (by decide +kernel)
theorem ml_L_47 : Cond.methodLink "BellFoundryLaw" 47 yX10_smash ∈ WW := wwT 545 (by decide +kernel) (by decide +kernel)
theorem ml_X10_165 : Cond.methodLink "BellFoundry" 165 yX0_remains ∈ WW := wwT 549 (by decide +kernel) (by decide +kernel)
theorem ml_X10_169 : Cond.methodLink "BellFoundry" 169 yX9_breakUp ∈ WW := wwT 553 (by decide +kernel) (by decide +kernel)
theorem ml_X9_169 : Cond.methodLink "BellFoundry$Works" 169 yX6_empty ∈ WW := wwT 557 (by decide +kernel) (by decide +kernel)
theorem ml_L_51 : Cond.methodLink "BellFoundryLaw" 51 yX10_bell ∈ WW := wwT 558 (by decide +kernel) (by decide +kernel)
theorem ml_L_55 : Cond.methodLink "BellFoundryLaw" 55 yX10_order ∈ WW := wwT 562 (by decide +kernel) (by decide +kernel)
theorem ml_X10_185 : Cond.methodLink "BellFoundry" 185 yX9_ordersIn ∈ WW := wwT 566 (by decide +kernel) (by decide +kernel)
theorem ml_X10_191 : Cond.methodLink "BellFoundry" 191 yX9_takeOrder ∈ WW := wwT 570 (by decide +kernel) (by decide +kernel)
theorem ml_L_60 : Cond.methodLink "BellFoundryLaw" 60 yX10_cancel ∈ WW := wwT 574 (by decide +kernel) (by decide +kernel)
theorem ml_X10_195 : Cond.methodLink "BellFoundry" 195 yX9_orderAt ∈ WW := wwT 578 (by decide +kernel) (by decide +kernel)
theorem ml_L_64 : Cond.methodLink "BellFoundryLaw" 64 yX10_send ∈ WW := wwT 582 (by decide +kernel) (by decide +kernel)
theorem ml_X10_202 : Cond.methodLink "BellFoundry" 202 yX7_isFitBy ∈ WW := wwT 586 (by decide +kernel) (by decide +kernel)
theorem ml_X7_35 : Cond.methodLink "BellFoundry$Order" 35 yX7_takesPitch ∈ WW := wwT 590 (by decide +kernel) (by decide +kernel)
theorem ml_X7_24 : Cond.methodLink "BellFoundry$Order" 24 Lib.Math.abs.name ∈ WW := wwT 594 (by decide +kernel) (by decide +kernel)
theorem ml_L_68 : Cond.methodLink "BellFoundryLaw" 68 yX10_orderOf ∈ WW := wwT 597 (by decide +kernel) (by decide +kernel)
theorem ml_X10_211 : Cond.methodLink "BellFoundry" 211 yX9_lowestBellFor ∈ WW := wwT 601 (by decide +kernel) (by decide +kernel)
theorem ml_X9_184 : Cond.methodLink "BellFoundry$Works" 184 yX7_isFitBy ∈ WW := wwT 605 (by decide +kernel) (by decide +kernel)
theorem ml_X10_215 : Cond.methodLink "BellFoundry" 215 yX9_bellsFor ∈ WW := wwT 606 (by decide +kernel) (by decide +kernel)
theorem ml_L_72 : Cond.methodLink "BellFoundryLaw" 72 yX10_tuneFor ∈ WW := wwT 610 (by decide +kernel) (by decide +kernel)
theorem ml_X10_218 : Cond.methodLink "BellFoundry" 218 yX9_fewestPoundsToFit ∈ WW := wwT 614 (by decide +kernel) (by decide +kernel)
theorem ml_X9_188 : Cond.methodLink "BellFoundry$Works" 188 yX6_weight ∈ WW := wwT 618 (by decide +kernel) (by decide +kernel)
theorem ml_X9_191 : Cond.methodLink "BellFoundry$Works" 191 Lib.Math.min.name ∈ WW := wwT 619 (by decide +kernel) (by decide +kernel)
theorem ml_X9_196 : Cond.methodLink "BellFoundry$Works" 196 yX7_takesPitch ∈ WW := wwT 622 (by decide +kernel) (by decide +kernel)
theorem ml_L_76 : Cond.methodLink "BellFoundryLaw" 76 yX10_pourFor ∈ WW := wwT 623 (by decide +kernel) (by decide +kernel)
theorem ml_X10_222 : Cond.methodLink "BellFoundry" 222 yX9_heaviestBellFor ∈ WW := wwT 627 (by decide +kernel) (by decide +kernel)
theorem ml_X9_199 : Cond.methodLink "BellFoundry$Works" 199 yX9_burntMelt ∈ WW := wwT 631 (by decide +kernel) (by decide +kernel)
theorem ml_X9_203 : (("BellFoundry$Works", 203, yX10_heaviestAtPitch) : String × Nat × MethodName) ∈ NLm := List.mem_of_getElem? (i := 14) rfl
theorem kc_X10_283 : Cond.constantLong "BellFoundry" 283 10000 ∈ WW := wwT 635 (by decide +kernel) (by decide +kernel)
theorem ml_X10_285 : Cond.methodLink "BellFoundry" 285 Lib.MathLoose.min_long.x ∈ WW := wwT 636 (by decide +kernel) (by decide +kernel)
theorem ml_X9_206 : (("BellFoundry$Works", 206, yX10_cube) : String × Nat × MethodName) ∈ NLm := List.mem_of_getElem? (i := 15) rfl
theorem kc_X9_210 : Cond.constantLong "BellFoundry$Works" 210 1000000 ∈ WW := wwT 640 (by decide +kernel) (by decide +kernel)
theorem ml_X9_212 : Cond.methodLink "BellFoundry$Works" 212 yX9_weightWithSprue ∈ WW := wwT 641 (by decide +kernel) (by decide +kernel)
theorem ml_X9_215 : Cond.methodLink "BellFoundry$Works" 215 yX6_alloyOfDraw ∈ WW := wwT 642 (by decide +kernel) (by decide +kernel)
theorem ml_L_80 : Cond.methodLink "BellFoundryLaw" 80 yX10_wagons ∈ WW := wwT 646 (by decide +kernel) (by decide +kernel)
theorem ml_X10_225 : Cond.methodLink "BellFoundry" 225 yX8_clear ∈ WW := wwT 650 (by decide +kernel) (by decide +kernel)
theorem ml_X10_232 : Cond.methodLink "BellFoundry" 232 yX8_add ∈ WW := wwT 654 (by decide +kernel) (by decide +kernel)
theorem ml_X10_235 : Cond.methodLink "BellFoundry" 235 yX8_heaviest ∈ WW := wwT 658 (by decide +kernel) (by decide +kernel)
theorem ml_X8_22 : Cond.methodLink "BellFoundry$WagonPacker" 22 Lib.Math.max.name ∈ WW := wwT 662 (by decide +kernel) (by decide +kernel)
theorem ml_X10_238 : Cond.methodLink "BellFoundry" 238 yX8_fewestWagons ∈ WW := wwT 663 (by decide +kernel) (by decide +kernel)
theorem ml_X8_28 : Cond.methodLink "BellFoundry$WagonPacker" 28 yX8_bestFor ∈ WW := wwT 667 (by decide +kernel) (by decide +kernel)
theorem kc_X8_31 : Cond.constant "BellFoundry$WagonPacker" 31 32768 ∈ WW := wwT 671 (by decide +kernel) (by decide +kernel)
theorem ml_X8_32 : Cond.methodLink "BellFoundry$WagonPacker" 32 Lib.Math.min.name ∈ WW := wwT 672 (by decide +kernel) (by decide +kernel)
theorem ml_L_84 : Cond.methodLink "BellFoundryLaw" 84 yX10_account ∈ WW := wwT 673 (by decide +kernel) (by decide +kernel)
theorem ml_X10_241 : Cond.methodLink "BellFoundry" 241 yX2_of ∈ WW := wwT 677 (by decide +kernel) (by decide +kernel)
theorem ml_X2_46 : Cond.methodLink "BellFoundry$Heap" 46 yX6_of ∈ WW := wwT 681 (by decide +kernel) (by decide +kernel)
theorem ml_X10_242 : Cond.methodLink "BellFoundry" 242 yX9_inBells ∈ WW := wwT 682 (by decide +kernel) (by decide +kernel)
theorem ml_X9_181 : Cond.methodLink "BellFoundry$Works" 181 yX6_of ∈ WW := wwT 686 (by decide +kernel) (by decide +kernel)
theorem ml_L_88 : Cond.methodLink "BellFoundryLaw" 88 yX10_count ∈ WW := wwT 687 (by decide +kernel) (by decide +kernel)
theorem ml_X10_251 : Cond.methodLink "BellFoundry" 251 yX9_bellsIn ∈ WW := wwT 691 (by decide +kernel) (by decide +kernel)
theorem ml_L_92 : Cond.methodLink "BellFoundryLaw" 92 yX10_undo ∈ WW := wwT 692 (by decide +kernel) (by decide +kernel)
theorem ml_X10_255 : Cond.methodLink "BellFoundry" 255 yX3_restore ∈ WW := wwT 696 (by decide +kernel) (by decide +kernel)
theorem ml_L_97 : Cond.methodLink "BellFoundryLaw" 97 yX10_type ∈ WW := wwT 700 (by decide +kernel) (by decide +kernel)
theorem ml_L_101 : Cond.methodLink "BellFoundryLaw" 101 yX10_clearText ∈ WW := wwT 704 (by decide +kernel) (by decide +kernel)
theorem ml_L_105 : Cond.methodLink "BellFoundryLaw" 105 yX10_fault ∈ WW := wwT 708 (by decide +kernel) (by decide +kernel)
theorem ml_X10_258 : Cond.methodLink "BellFoundry" 258 yX1_read ∈ WW := wwT 712 (by decide +kernel) (by decide +kernel)
theorem ml_X1_55 : Cond.methodLink "BellFoundry$FrameReader" 55 yX1_begin ∈ WW := wwT 716 (by decide +kernel) (by decide +kernel)
theorem ml_X1_74 : Cond.methodLink "BellFoundry$FrameReader" 74 yJ7_fill_53178 ∈ WW := wwT 720 (by decide +kernel) (by decide +kernel)
theorem ml_X1_58 : Cond.methodLink "BellFoundry$FrameReader" 58 yX1_isDigit ∈ WW := wwT 723 (by decide +kernel) (by decide +kernel)
theorem ml_X1_62 : Cond.methodLink "BellFoundry$FrameReader" 62 yX1_digit ∈ WW := wwT 726 (by decide +kernel) (by decide +kernel)
theorem ml_X1_66 : Cond.methodLink "BellFoundry$FrameReader" 66 yX1_readBell ∈ WW := wwT 729 (by decide +kernel) (by decide +kernel)
theorem ml_X1_90 : Cond.methodLink "BellFoundry$FrameReader" 90 yX9_bellAt ∈ WW := wwT 733 (by decide +kernel) (by decide +kernel)
theorem ml_X1_96 : Cond.methodLink "BellFoundry$FrameReader" 96 yX0_remains ∈ WW := wwT 734 (by decide +kernel) (by decide +kernel)
theorem ml_X1_106 : Cond.methodLink "BellFoundry$FrameReader" 106 yX6_weight ∈ WW := wwT 735 (by decide +kernel) (by decide +kernel)
theorem ml_X1_111 : Cond.methodLink "BellFoundry$FrameReader" 111 yX4_hangBell ∈ WW := wwT 736 (by decide +kernel) (by decide +kernel)
theorem ml_X1_115 : Cond.methodLink "BellFoundry$FrameReader" 115 yX1_endFrame ∈ WW := wwT 740 (by decide +kernel) (by decide +kernel)
theorem ml_X1_70 : Cond.methodLink "BellFoundry$FrameReader" 70 yX1_readSign ∈ WW := wwT 744 (by decide +kernel) (by decide +kernel)
theorem ml_X1_80 : Cond.methodLink "BellFoundry$FrameReader" 80 yX1_openBeam ∈ WW := wwT 748 (by decide +kernel) (by decide +kernel)
theorem ml_X1_118 : Cond.methodLink "BellFoundry$FrameReader" 118 Lib.Math.max.name ∈ WW := wwT 752 (by decide +kernel) (by decide +kernel)
theorem ml_X1_84 : Cond.methodLink "BellFoundry$FrameReader" 84 yX1_passComma ∈ WW := wwT 753 (by decide +kernel) (by decide +kernel)
theorem ml_X1_124 : Cond.methodLink "BellFoundry$FrameReader" 124 yX4_copyFrom ∈ WW := wwT 757 (by decide +kernel) (by decide +kernel)
theorem ml_X1_87 : Cond.methodLink "BellFoundry$FrameReader" 87 yX1_closeBeam ∈ WW := wwT 761 (by decide +kernel) (by decide +kernel)
theorem ml_X1_130 : Cond.methodLink "BellFoundry$FrameReader" 130 Lib.Math.abs.name ∈ WW := wwT 765 (by decide +kernel) (by decide +kernel)
theorem ml_X1_134 : Cond.methodLink "BellFoundry$FrameReader" 134 yX4_hangBeam ∈ WW := wwT 766 (by decide +kernel) (by decide +kernel)
theorem ml_X4_19 : Cond.methodLink "BellFoundry$Load" 19 Lib.Math.max.name ∈ WW := wwT 770 (by decide +kernel) (by decide +kernel)
theorem ml_X4_25 : Cond.methodLink "BellFoundry$Load" 25 yX4_roundUpTo ∈ WW := wwT 771 (by decide +kernel) (by decide +kernel)
theorem ml_L_109 : Cond.methodLink "BellFoundryLaw" 109 yX10_frame ∈ WW := wwT 774 (by decide +kernel) (by decide +kernel)
theorem ml_X10_268 : Cond.methodLink "BellFoundry" 268 yX1_tell ∈ WW := wwT 778 (by decide +kernel) (by decide +kernel)
theorem cl_L_10 : Cond.classLink "BellFoundryLaw" 10 "BellFoundryModel" ∈ WW := wwT 782 (by decide +kernel) (by decide +kernel)
theorem is_X11 : Cond.instantiable "BellFoundryModel" 21 ∈ WW := wwT 783 (by decide +kernel) (by decide +kernel)
theorem ml_L_12 : Cond.methodLink "BellFoundryLaw" 12 yX11_init ∈ WW := wwT 784 (by decide +kernel) (by decide +kernel)
theorem ml_X11_1 : Cond.methodLink "BellFoundryModel" 1 objectInit ∈ WW := wwT 787 (by decide +kernel) (by decide +kernel)
theorem fl_X11_7 : Cond.fieldLink "BellFoundryModel" 7 "BellFoundryModel" "s" "[I" ∈ WW := wwT 788 (by decide +kernel) (by decide +kernel)
theorem fl_X11_13 : Cond.fieldLink "BellFoundryModel" 13 "BellFoundryModel" "past" "[I" ∈ WW := wwT 789 (by decide +kernel) (by decide +kernel)
theorem fl_X11_16 : Cond.fieldLink "BellFoundryModel" 16 "BellFoundryModel" "aside" "[I" ∈ WW := wwT 790 (by decide +kernel) (by decide +kernel)
theorem fl_X11_43 : Cond.fieldLink "BellFoundryModel" 43 "BellFoundryModel" "kept" "I" ∈ WW := wwT 791 (by decide +kernel) (by decide +kernel)
theorem fl_X11_19 : Cond.fieldLink "BellFoundryModel" 19 "BellFoundryModel" "loads" "[I" ∈ WW := wwT 792 (by decide +kernel) (by decide +kernel)
theorem fl_X11_22 : Cond.fieldLink "BellFoundryModel" 22 "BellFoundryModel" "wagonsOf" "[I" ∈ WW := wwT 793 (by decide +kernel) (by decide +kernel)
theorem fl_X11_25 : Cond.fieldLink "BellFoundryModel" 25 "BellFoundryModel" "lastOf" "[I" ∈ WW := wwT 794 (by decide +kernel) (by decide +kernel)
theorem fl_X11_28 : Cond.fieldLink "BellFoundryModel" 28 "BellFoundryModel" "text" "[I" ∈ WW := wwT 795 (by decide +kernel) (by decide +kernel)
theorem fl_X11_182 : Cond.fieldLink "BellFoundryModel" 182 "BellFoundryModel" "typed" "I" ∈ WW := wwT 796 (by decide +kernel) (by decide +kernel)
theorem fl_X11_31 : Cond.fieldLink "BellFoundryModel" 31 "BellFoundryModel" "hangs" "[I" ∈ WW := wwT 797 (by decide +kernel) (by decide +kernel)
theorem fl_X11_34 : Cond.fieldLink "BellFoundryModel" 34 "BellFoundryModel" "deep" "[I" ∈ WW := wwT 798 (by decide +kernel) (by decide +kernel)
theorem fl_X11_197 : Cond.fieldLink "BellFoundryModel" 197 "BellFoundryModel" "many" "I" ∈ WW := wwT 799 (by decide +kernel) (by decide +kernel)
theorem fl_X11_209 : Cond.fieldLink "BellFoundryModel" 209 "BellFoundryModel" "beams" "I" ∈ WW := wwT 800 (by decide +kernel) (by decide +kernel)
theorem fl_X11_212 : Cond.fieldLink "BellFoundryModel" 212 "BellFoundryModel" "deepest" "I" ∈ WW := wwT 801 (by decide +kernel) (by decide +kernel)
theorem fl_X11_206 : Cond.fieldLink "BellFoundryModel" 206 "BellFoundryModel" "slant" "I" ∈ WW := wwT 802 (by decide +kernel) (by decide +kernel)
theorem fl_X11_200 : Cond.fieldLink "BellFoundryModel" 200 "BellFoundryModel" "open" "I" ∈ WW := wwT 803 (by decide +kernel) (by decide +kernel)
theorem fl_X11_37 : Cond.fieldLink "BellFoundryModel" 37 "BellFoundryModel" "firstOf" "[I" ∈ WW := wwT 804 (by decide +kernel) (by decide +kernel)
theorem fl_X11_40 : Cond.fieldLink "BellFoundryModel" 40 "BellFoundryModel" "framesOf" "[I" ∈ WW := wwT 805 (by decide +kernel) (by decide +kernel)
theorem fl_X11_188 : Cond.fieldLink "BellFoundryModel" 188 "BellFoundryModel" "at" "I" ∈ WW := wwT 806 (by decide +kernel) (by decide +kernel)
theorem fl_X11_185 : Cond.fieldLink "BellFoundryModel" 185 "BellFoundryModel" "reason" "I" ∈ WW := wwT 807 (by decide +kernel) (by decide +kernel)
theorem fl_X11_203 : Cond.fieldLink "BellFoundryModel" 203 "BellFoundryModel" "weighs" "I" ∈ WW := wwT 808 (by decide +kernel) (by decide +kernel)
theorem ml_L_17 : Cond.methodLink "BellFoundryLaw" 17 yX11_buy ∈ WW := wwT 852 (by decide +kernel) (by decide +kernel)
theorem ml_X11_79 : Cond.methodLink "BellFoundryModel" 79 yX11_isMetal ∈ WW := wwT 856 (by decide +kernel) (by decide +kernel)
theorem ml_X11_68 : Cond.methodLink "BellFoundryModel" 68 yX11_in ∈ WW := wwT 859 (by decide +kernel) (by decide +kernel)
theorem kc_X11_83 : Cond.constant "BellFoundryModel" 83 100000 ∈ WW := wwT 862 (by decide +kernel) (by decide +kernel)
theorem kc_X11_84 : Cond.constant "BellFoundryModel" 84 1000000 ∈ WW := wwT 863 (by decide +kernel) (by decide +kernel)
theorem ml_X11_85 : Cond.methodLink "BellFoundryModel" 85 yX11_keeps ∈ WW := wwT 864 (by decide +kernel) (by decide +kernel)
theorem ml_L_21 : Cond.methodLink "BellFoundryLaw" 21 yX11_charge ∈ WW := wwT 868 (by decide +kernel) (by decide +kernel)
theorem ml_X11_88 : Cond.methodLink "BellFoundryModel" 88 yX11_weight ∈ WW := wwT 872 (by decide +kernel) (by decide +kernel)
theorem ml_L_26 : Cond.methodLink "BellFoundryLaw" 26 yX11_scrap ∈ WW := wwT 876 (by decide +kernel) (by decide +kernel)
theorem ml_X11_91 : Cond.methodLink "BellFoundryModel" 91 yX11_isLot ∈ WW := wwT 880 (by decide +kernel) (by decide +kernel)
theorem ml_X11_94 : Cond.methodLink "BellFoundryModel" 94 yX11_burns ∈ WW := wwT 884 (by decide +kernel) (by decide +kernel)
theorem ml_X11_65 : Cond.methodLink "BellFoundryModel" 65 yX11_burnt ∈ WW := wwT 888 (by decide +kernel) (by decide +kernel)
theorem ml_X11_61 : Cond.methodLink "BellFoundryModel" 61 yX11_setting ∈ WW := wwT 892 (by decide +kernel) (by decide +kernel)
theorem ml_X11_57 : Cond.methodLink "BellFoundryModel" 57 yX11_moves ∈ WW := wwT 896 (by decide +kernel) (by decide +kernel)
theorem ml_L_30 : Cond.methodLink "BellFoundryLaw" 30 yX11_lot ∈ WW := wwT 900 (by decide +kernel) (by decide +kernel)
theorem ml_X11_98 : Cond.methodLink "BellFoundryModel" 98 yX11_alloy ∈ WW := wwT 904 (by decide +kernel) (by decide +kernel)
theorem ml_X11_49 : Cond.methodLink "BellFoundryModel" 49 yX11_alloyOf ∈ WW := wwT 908 (by decide +kernel) (by decide +kernel)
theorem kc_X11_47 : Cond.constantLong "BellFoundryModel" 47 1000 ∈ WW := wwT 911 (by decide +kernel) (by decide +kernel)
theorem ml_L_34 : Cond.methodLink "BellFoundryLaw" 34 yX11_melt ∈ WW := wwT 912 (by decide +kernel) (by decide +kernel)
theorem ml_L_38 : Cond.methodLink "BellFoundryLaw" 38 yX11_set ∈ WW := wwT 916 (by decide +kernel) (by decide +kernel)
theorem ml_X11_101 : Cond.methodLink "BellFoundryModel" 101 yX11_mostOf ∈ WW := wwT 920 (by decide +kernel) (by decide +kernel)
theorem ml_L_42 : Cond.methodLink "BellFoundryLaw" 42 yX11_pour ∈ WW := wwT 923 (by decide +kernel) (by decide +kernel)
theorem ml_X11_119 : Cond.methodLink "BellFoundryModel" 119 yX11_melt ∈ WW := wwT 927 (by decide +kernel) (by decide +kernel)
theorem ml_X11_122 : Cond.methodLink "BellFoundryModel" 122 yX11_sprueOf ∈ WW := wwT 928 (by decide +kernel) (by decide +kernel)
theorem ml_X11_125 : Cond.methodLink "BellFoundryModel" 125 yX11_here ∈ WW := wwT 932 (by decide +kernel) (by decide +kernel)
theorem ml_X11_107 : Cond.methodLink "BellFoundryModel" 107 yX11_isHere ∈ WW := wwT 936 (by decide +kernel) (by decide +kernel)
theorem ml_X11_104 : Cond.methodLink "BellFoundryModel" 104 yX11_of ∈ WW := wwT 940 (by decide +kernel) (by decide +kernel)
theorem ml_X11_129 : Cond.methodLink "BellFoundryModel" 129 yX11_atBell ∈ WW := wwT 944 (by decide +kernel) (by decide +kernel)
theorem ml_X11_75 : Cond.methodLink "BellFoundryModel" 75 yX11_draws ∈ WW := wwT 947 (by decide +kernel) (by decide +kernel)
theorem ml_X11_53 : Cond.methodLink "BellFoundryModel" 53 yX11_copperIn ∈ WW := wwT 951 (by decide +kernel) (by decide +kernel)
theorem ml_X11_132 : Cond.methodLink "BellFoundryModel" 132 yX11_scraps ∈ WW := wwT 954 (by decide +kernel) (by decide +kernel)
theorem ml_X11_72 : Cond.methodLink "BellFoundryModel" 72 yX11_comes ∈ WW := wwT 958 (by decide +kernel) (by decide +kernel)
theorem ml_X11_135 : Cond.methodLink "BellFoundryModel" 135 yX11_pitchOf ∈ WW := wwT 962 (by decide +kernel) (by decide +kernel)
theorem ml_X11_110 : Cond.methodLink "BellFoundryModel" 110 yX11_factor ∈ WW := wwT 965 (by decide +kernel) (by decide +kernel)
theorem kc_X11_113 : Cond.constantLong "BellFoundryModel" 113 1000000 ∈ WW := wwT 968 (by decide +kernel) (by decide +kernel)
theorem ml_X11_115 : Cond.methodLink "BellFoundryModel" 115 yX11_root ∈ WW := wwT 969 (by decide +kernel) (by decide +kernel)
theorem ml_L_46 : Cond.methodLink "BellFoundryLaw" 46 yX11_tune ∈ WW := wwT 972 (by decide +kernel) (by decide +kernel)
theorem ml_X11_138 : Cond.methodLink "BellFoundryModel" 138 yX11_isBell ∈ WW := wwT 976 (by decide +kernel) (by decide +kernel)
theorem ml_X11_141 : Cond.methodLink "BellFoundryModel" 141 yX11_lowered ∈ WW := wwT 980 (by decide +kernel) (by decide +kernel)
theorem ml_X11_144 : Cond.methodLink "BellFoundryModel" 144 yX11_wouldCrack ∈ WW := wwT 984 (by decide +kernel) (by decide +kernel)
theorem ml_L_50 : Cond.methodLink "BellFoundryLaw" 50 yX11_smash ∈ WW := wwT 988 (by decide +kernel) (by decide +kernel)
theorem ml_L_54 : Cond.methodLink "BellFoundryLaw" 54 yX11_bell ∈ WW := wwT 992 (by decide +kernel) (by decide +kernel)
theorem ml_L_59 : Cond.methodLink "BellFoundryLaw" 59 yX11_order ∈ WW := wwT 996 (by decide +kernel) (by decide +kernel)
theorem ml_X11_154 : Cond.methodLink "BellFoundryModel" 154 yX11_ordersThatAre ∈ WW := wwT 1000 (by decide +kernel) (by decide +kernel)
theorem ml_X11_148 : Cond.methodLink "BellFoundryModel" 148 yX11_ofOrder ∈ WW := wwT 1004 (by decide +kernel) (by decide +kernel)
theorem ml_L_63 : Cond.methodLink "BellFoundryLaw" 63 yX11_cancel ∈ WW := wwT 1008 (by decide +kernel) (by decide +kernel)
theorem ml_X11_157 : Cond.methodLink "BellFoundryModel" 157 yX11_isOrder ∈ WW := wwT 1012 (by decide +kernel) (by decide +kernel)
theorem ml_L_67 : Cond.methodLink "BellFoundryLaw" 67 yX11_send ∈ WW := wwT 1016 (by decide +kernel) (by decide +kernel)
theorem ml_X11_160 : Cond.methodLink "BellFoundryModel" 160 yX11_fits ∈ WW := wwT 1020 (by decide +kernel) (by decide +kernel)
theorem ml_X11_151 : Cond.methodLink "BellFoundryModel" 151 yX11_isPitch ∈ WW := wwT 1024 (by decide +kernel) (by decide +kernel)
theorem ml_L_71 : Cond.methodLink "BellFoundryLaw" 71 yX11_orderOf ∈ WW := wwT 1028 (by decide +kernel) (by decide +kernel)
theorem ml_L_75 : Cond.methodLink "BellFoundryLaw" 75 yX11_tuneFor ∈ WW := wwT 1032 (by decide +kernel) (by decide +kernel)
theorem ml_L_79 : Cond.methodLink "BellFoundryLaw" 79 yX11_pourFor ∈ WW := wwT 1036 (by decide +kernel) (by decide +kernel)
theorem ml_X11_163 : Cond.methodLink "BellFoundryModel" 163 yX11_laysAside ∈ WW := wwT 1040 (by decide +kernel) (by decide +kernel)
theorem ml_X11_166 : Cond.methodLink "BellFoundryModel" 166 yX11_bringsBack ∈ WW := wwT 1044 (by decide +kernel) (by decide +kernel)
theorem ml_L_83 : Cond.methodLink "BellFoundryLaw" 83 yX11_wagons ∈ WW := wwT 1048 (by decide +kernel) (by decide +kernel)
theorem ml_X11_169 : Cond.methodLink "BellFoundryModel" 169 yX11_takesBells ∈ WW := wwT 1052 (by decide +kernel) (by decide +kernel)
theorem ml_L_87 : Cond.methodLink "BellFoundryLaw" 87 yX11_account ∈ WW := wwT 1056 (by decide +kernel) (by decide +kernel)
theorem ml_X11_172 : Cond.methodLink "BellFoundryModel" 172 yX11_inScrap ∈ WW := wwT 1060 (by decide +kernel) (by decide +kernel)
theorem ml_X11_175 : Cond.methodLink "BellFoundryModel" 175 yX11_inBells ∈ WW := wwT 1064 (by decide +kernel) (by decide +kernel)
theorem ml_L_91 : Cond.methodLink "BellFoundryLaw" 91 yX11_count ∈ WW := wwT 1068 (by decide +kernel) (by decide +kernel)
theorem ml_X11_179 : Cond.methodLink "BellFoundryModel" 179 yX11_bellsThatAre ∈ WW := wwT 1072 (by decide +kernel) (by decide +kernel)
theorem ml_L_96 : Cond.methodLink "BellFoundryLaw" 96 yX11_undo ∈ WW := wwT 1076 (by decide +kernel) (by decide +kernel)
theorem ml_L_100 : Cond.methodLink "BellFoundryLaw" 100 yX11_type ∈ WW := wwT 1080 (by decide +kernel) (by decide +kernel)
theorem ml_L_104 : Cond.methodLink "BellFoundryLaw" 104 yX11_clearText ∈ WW := wwT 1084 (by decide +kernel) (by decide +kernel)
theorem ml_L_108 : Cond.methodLink "BellFoundryLaw" 108 yX11_fault ∈ WW := wwT 1088 (by decide +kernel) (by decide +kernel)
theorem ml_X11_222 : Cond.methodLink "BellFoundryModel" 222 yX11_reads ∈ WW := wwT 1092 (by decide +kernel) (by decide +kernel)
theorem ml_X11_194 : Cond.methodLink "BellFoundryModel" 194 yX11_fails ∈ WW := wwT 1096 (by decide +kernel) (by decide +kernel)
theorem ml_X11_191 : Cond.methodLink "BellFoundryModel" 191 yX11_isDigit ∈ WW := wwT 1100 (by decide +kernel) (by decide +kernel)
theorem ml_X11_215 : Cond.methodLink "BellFoundryModel" 215 yX11_takesBell ∈ WW := wwT 1104 (by decide +kernel) (by decide +kernel)
theorem ml_X11_219 : Cond.methodLink "BellFoundryModel" 219 yX11_takesRest ∈ WW := wwT 1108 (by decide +kernel) (by decide +kernel)
theorem ml_L_112 : Cond.methodLink "BellFoundryLaw" 112 yX11_frame ∈ WW := wwT 1112 (by decide +kernel) (by decide +kernel)
theorem ml_X11_225 : Cond.methodLink "BellFoundryModel" 225 yX11_added ∈ WW := wwT 1116 (by decide +kernel) (by decide +kernel)
theorem in_L : Cond.initialized "BellFoundryLaw" ∈ WW := wwT 0 (by decide +kernel) (by decide +kernel)
theorem in_X10 : Cond.initialized "BellFoundry" ∈ WW := wwT 1 (by decide +kernel) (by decide +kernel)
theorem in_X9 : Cond.initialized "BellFoundry$Works" ∈ WW := wwT 2 (by decide +kernel) (by decide +kernel)
theorem in_X6 : Cond.initialized "BellFoundry$Mixture" ∈ WW := wwT 3 (by decide +kernel) (by decide +kernel)
theorem in_X2 : Cond.initialized "BellFoundry$Heap" ∈ WW := wwT 4 (by decide +kernel) (by decide +kernel)
theorem in_X5 : Cond.initialized "BellFoundry$Lot" ∈ WW := wwT 5 (by decide +kernel) (by decide +kernel)
theorem in_X0 : Cond.initialized "BellFoundry$Bell" ∈ WW := wwT 6 (by decide +kernel) (by decide +kernel)
theorem in_X7 : Cond.initialized "BellFoundry$Order" ∈ WW := wwT 7 (by decide +kernel) (by decide +kernel)
theorem in_X3 : Cond.initialized "BellFoundry$History" ∈ WW := wwT 8 (by decide +kernel) (by decide +kernel)
theorem in_X8 : Cond.initialized "BellFoundry$WagonPacker" ∈ WW := wwT 9 (by decide +kernel) (by decide +kernel)
theorem in_X1 : Cond.initialized "BellFoundry$FrameReader" ∈ WW := wwT 10 (by decide +kernel) (by decide +kernel)
theorem in_X4 : Cond.initialized "BellFoundry$Load" ∈ WW := wwT 11 (by decide +kernel) (by decide +kernel)
theorem in_X11 : Cond.initialized "BellFoundryModel" ∈ WW := wwT 12 (by decide +kernel) (by decide +kernel)
theorem in_J10 : Cond.initialized "java/lang/System" ∈ WW := wwT 13 (by decide +kernel) (by decide +kernel)
theorem in_J9 : Cond.initialized "java/lang/Math" ∈ WW := wwT 14 (by decide +kernel) (by decide +kernel)
theorem in_J7 : Cond.initialized "java/util/Arrays" ∈ WW := wwT 15 (by decide +kernel) (by decide +kernel)
theorem im_X10_init : Cond.instanceMethod yX10_init ∈ WW := wwT 19 (by decide +kernel) (by decide +kernel)
theorem im_oinit : Cond.instanceMethod objectInit ∈ WW := wwT 22 (by decide +kernel) (by decide +kernel)
theorem im_X9_init : Cond.instanceMethod yX9_init ∈ WW := wwT 27 (by decide +kernel) (by decide +kernel)
theorem im_X6_init : Cond.instanceMethod yX6_init ∈ WW := wwT 33 (by decide +kernel) (by decide +kernel)
theorem im_X2_init : Cond.instanceMethod yX2_init ∈ WW := wwT 46 (by decide +kernel) (by decide +kernel)
theorem im_X5_init : Cond.instanceMethod yX5_init ∈ WW := wwT 53 (by decide +kernel) (by decide +kernel)
theorem im_qclone : Cond.instanceMethod ⟨"java/lang/Object", "clone", "()Ljava/lang/Object;"⟩ ∈ WW := wwT 84 (by decide +kernel) (by decide +kernel)
theorem im_X0_init : Cond.instanceMethod yX0_init ∈ WW := wwT 94 (by decide +kernel) (by decide +kernel)
theorem im_X7_init : Cond.instanceMethod yX7_init ∈ WW := wwT 142 (by decide +kernel) (by decide +kernel)
theorem im_X3_init : Cond.instanceMethod yX3_init ∈ WW := wwT 215 (by decide +kernel) (by decide +kernel)
theorem im_X8_init : Cond.instanceMethod yX8_init ∈ WW := wwT 232 (by decide +kernel) (by decide +kernel)
theorem im_X1_init : Cond.instanceMethod yX1_init ∈ WW := wwT 248 (by decide +kernel) (by decide +kernel)
theorem im_X4_init : Cond.instanceMethod yX4_init ∈ WW := wwT 254 (by decide +kernel) (by decide +kernel)
theorem im_X10_buy : Cond.instanceMethod yX10_buy ∈ WW := wwT 331 (by decide +kernel) (by decide +kernel)
theorem im_X6_of : Cond.instanceMethod yX6_of ∈ WW := wwT 342 (by decide +kernel) (by decide +kernel)
theorem im_X3_keep : Cond.instanceMethod yX3_keep ∈ WW := wwT 347 (by decide +kernel) (by decide +kernel)
theorem im_X3_dropOldest : Cond.instanceMethod yX3_dropOldest ∈ WW := wwT 352 (by decide +kernel) (by decide +kernel)
theorem im_X9_copyFrom : Cond.instanceMethod yX9_copyFrom ∈ WW := wwT 355 (by decide +kernel) (by decide +kernel)
theorem im_X6_copyFrom : Cond.instanceMethod yX6_copyFrom ∈ WW := wwT 359 (by decide +kernel) (by decide +kernel)
theorem im_X2_copyFrom : Cond.instanceMethod yX2_copyFrom ∈ WW := wwT 363 (by decide +kernel) (by decide +kernel)
theorem im_X0_copyFrom : Cond.instanceMethod yX0_copyFrom ∈ WW := wwT 371 (by decide +kernel) (by decide +kernel)
theorem im_X7_copyFrom : Cond.instanceMethod yX7_copyFrom ∈ WW := wwT 376 (by decide +kernel) (by decide +kernel)
theorem im_X6_put : Cond.instanceMethod yX6_put ∈ WW := wwT 380 (by decide +kernel) (by decide +kernel)
theorem im_X10_charge : Cond.instanceMethod yX10_charge ∈ WW := wwT 384 (by decide +kernel) (by decide +kernel)
theorem im_X6_weight : Cond.instanceMethod yX6_weight ∈ WW := wwT 388 (by decide +kernel) (by decide +kernel)
theorem im_X10_scrap : Cond.instanceMethod yX10_scrap ∈ WW := wwT 392 (by decide +kernel) (by decide +kernel)
theorem im_X2_at : Cond.instanceMethod yX2_at ∈ WW := wwT 396 (by decide +kernel) (by decide +kernel)
theorem im_X9_meltDown : Cond.instanceMethod yX9_meltDown ∈ WW := wwT 401 (by decide +kernel) (by decide +kernel)
theorem im_X9_burn : Cond.instanceMethod yX9_burn ∈ WW := wwT 406 (by decide +kernel) (by decide +kernel)
theorem im_X6_lossOf : Cond.instanceMethod yX6_lossOf ∈ WW := wwT 409 (by decide +kernel) (by decide +kernel)
theorem im_X6_mixWith : Cond.instanceMethod yX6_mixWith ∈ WW := wwT 418 (by decide +kernel) (by decide +kernel)
theorem im_X2_remove : Cond.instanceMethod yX2_remove ∈ WW := wwT 422 (by decide +kernel) (by decide +kernel)
theorem im_X10_lot : Cond.instanceMethod yX10_lot ∈ WW := wwT 426 (by decide +kernel) (by decide +kernel)
theorem im_X6_tell : Cond.instanceMethod yX6_tell ∈ WW := wwT 430 (by decide +kernel) (by decide +kernel)
theorem im_X6_alloy : Cond.instanceMethod yX6_alloy ∈ WW := wwT 435 (by decide +kernel) (by decide +kernel)
theorem im_X10_melt : Cond.instanceMethod yX10_melt ∈ WW := wwT 443 (by decide +kernel) (by decide +kernel)
theorem im_X9_burntMelt : Cond.instanceMethod yX9_burntMelt ∈ WW := wwT 447 (by decide +kernel) (by decide +kernel)
theorem im_X10_set : Cond.instanceMethod yX10_set ∈ WW := wwT 452 (by decide +kernel) (by decide +kernel)
theorem im_X10_pour : Cond.instanceMethod yX10_pour ∈ WW := wwT 461 (by decide +kernel) (by decide +kernel)
theorem im_X9_weightWithSprue : Cond.instanceMethod yX9_weightWithSprue ∈ WW := wwT 470 (by decide +kernel) (by decide +kernel)
theorem im_X9_sprueOf : Cond.instanceMethod yX9_sprueOf ∈ WW := wwT 475 (by decide +kernel) (by decide +kernel)
theorem im_X9_remainingBells : Cond.instanceMethod yX9_remainingBells ∈ WW := wwT 479 (by decide +kernel) (by decide +kernel)
theorem im_X9_bellsIn : Cond.instanceMethod yX9_bellsIn ∈ WW := wwT 483 (by decide +kernel) (by decide +kernel)
theorem im_X9_castBell : Cond.instanceMethod yX9_castBell ∈ WW := wwT 487 (by decide +kernel) (by decide +kernel)
theorem im_X6_drawInto : Cond.instanceMethod yX6_drawInto ∈ WW := wwT 491 (by decide +kernel) (by decide +kernel)
theorem im_X6_copperOfDraw : Cond.instanceMethod yX6_copperOfDraw ∈ WW := wwT 496 (by decide +kernel) (by decide +kernel)
theorem im_X2_add : Cond.instanceMethod yX2_add ∈ WW := wwT 499 (by decide +kernel) (by decide +kernel)
theorem im_X6_empty : Cond.instanceMethod yX6_empty ∈ WW := wwT 504 (by decide +kernel) (by decide +kernel)
theorem im_X10_tune : Cond.instanceMethod yX10_tune ∈ WW := wwT 524 (by decide +kernel) (by decide +kernel)
theorem im_X9_bellAt : Cond.instanceMethod yX9_bellAt ∈ WW := wwT 528 (by decide +kernel) (by decide +kernel)
theorem im_X9_shave : Cond.instanceMethod yX9_shave ∈ WW := wwT 532 (by decide +kernel) (by decide +kernel)
theorem im_X0_pitchBehind : Cond.instanceMethod yX0_pitchBehind ∈ WW := wwT 536 (by decide +kernel) (by decide +kernel)
theorem im_X0_cracksBy : Cond.instanceMethod yX0_cracksBy ∈ WW := wwT 542 (by decide +kernel) (by decide +kernel)
theorem im_X10_smash : Cond.instanceMethod yX10_smash ∈ WW := wwT 546 (by decide +kernel) (by decide +kernel)
theorem im_X0_remains : Cond.instanceMethod yX0_remains ∈ WW := wwT 550 (by decide +kernel) (by decide +kernel)
theorem im_X9_breakUp : Cond.instanceMethod yX9_breakUp ∈ WW := wwT 554 (by decide +kernel) (by decide +kernel)
theorem im_X10_bell : Cond.instanceMethod yX10_bell ∈ WW := wwT 559 (by decide +kernel) (by decide +kernel)
theorem im_X10_order : Cond.instanceMethod yX10_order ∈ WW := wwT 563 (by decide +kernel) (by decide +kernel)
theorem im_X9_ordersIn : Cond.instanceMethod yX9_ordersIn ∈ WW := wwT 567 (by decide +kernel) (by decide +kernel)
theorem im_X9_takeOrder : Cond.instanceMethod yX9_takeOrder ∈ WW := wwT 571 (by decide +kernel) (by decide +kernel)
theorem im_X10_cancel : Cond.instanceMethod yX10_cancel ∈ WW := wwT 575 (by decide +kernel) (by decide +kernel)
theorem im_X9_orderAt : Cond.instanceMethod yX9_orderAt ∈ WW := wwT 579 (by decide +kernel) (by decide +kernel)
theorem im_X10_send : Cond.instanceMethod yX10_send ∈ WW := wwT 583 (by decide +kernel) (by decide +kernel)
theorem im_X7_isFitBy : Cond.instanceMethod yX7_isFitBy ∈ WW := wwT 587 (by decide +kernel) (by decide +kernel)
theorem im_X7_takesPitch : Cond.instanceMethod yX7_takesPitch ∈ WW := wwT 591 (by decide +kernel) (by decide +kernel)
theorem im_X10_orderOf : Cond.instanceMethod yX10_orderOf ∈ WW := wwT 598 (by decide +kernel) (by decide +kernel)
theorem im_X9_lowestBellFor : Cond.instanceMethod yX9_lowestBellFor ∈ WW := wwT 602 (by decide +kernel) (by decide +kernel)
theorem im_X9_bellsFor : Cond.instanceMethod yX9_bellsFor ∈ WW := wwT 607 (by decide +kernel) (by decide +kernel)
theorem im_X10_tuneFor : Cond.instanceMethod yX10_tuneFor ∈ WW := wwT 611 (by decide +kernel) (by decide +kernel)
theorem im_X9_fewestPoundsToFit : Cond.instanceMethod yX9_fewestPoundsToFit ∈ WW := wwT 615 (by decide +kernel) (by decide +kernel)
theorem im_X10_pourFor : Cond.instanceMethod yX10_pourFor ∈ WW := wwT 624 (by decide +kernel) (by decide +kernel)
theorem im_X9_heaviestBellFor : Cond.instanceMethod yX9_heaviestBellFor ∈ WW := wwT 628 (by decide +kernel) (by decide +kernel)
theorem im_X6_alloyOfDraw : Cond.instanceMethod yX6_alloyOfDraw ∈ WW := wwT 643 (by decide +kernel) (by decide +kernel)
theorem im_X10_wagons : Cond.instanceMethod yX10_wagons ∈ WW := wwT 647 (by decide +kernel) (by decide +kernel)
theorem im_X8_clear : Cond.instanceMethod yX8_clear ∈ WW := wwT 651 (by decide +kernel) (by decide +kernel)
theorem im_X8_add : Cond.instanceMethod yX8_add ∈ WW := wwT 655 (by decide +kernel) (by decide +kernel)
theorem im_X8_heaviest : Cond.instanceMethod yX8_heaviest ∈ WW := wwT 659 (by decide +kernel) (by decide +kernel)
theorem im_X8_fewestWagons : Cond.instanceMethod yX8_fewestWagons ∈ WW := wwT 664 (by decide +kernel) (by decide +kernel)
theorem im_X8_bestFor : Cond.instanceMethod yX8_bestFor ∈ WW := wwT 669 (by decide +kernel) (by decide +kernel)
theorem im_X10_account : Cond.instanceMethod yX10_account ∈ WW := wwT 674 (by decide +kernel) (by decide +kernel)
theorem im_X2_of : Cond.instanceMethod yX2_of ∈ WW := wwT 678 (by decide +kernel) (by decide +kernel)
theorem im_X9_inBells : Cond.instanceMethod yX9_inBells ∈ WW := wwT 683 (by decide +kernel) (by decide +kernel)
theorem im_X10_count : Cond.instanceMethod yX10_count ∈ WW := wwT 688 (by decide +kernel) (by decide +kernel)
theorem im_X10_undo : Cond.instanceMethod yX10_undo ∈ WW := wwT 693 (by decide +kernel) (by decide +kernel)
theorem im_X3_restore : Cond.instanceMethod yX3_restore ∈ WW := wwT 697 (by decide +kernel) (by decide +kernel)
theorem im_X10_type : Cond.instanceMethod yX10_type ∈ WW := wwT 701 (by decide +kernel) (by decide +kernel)
theorem im_X10_clearText : Cond.instanceMethod yX10_clearText ∈ WW := wwT 705 (by decide +kernel) (by decide +kernel)
theorem im_X10_fault : Cond.instanceMethod yX10_fault ∈ WW := wwT 709 (by decide +kernel) (by decide +kernel)
theorem im_X1_read : Cond.instanceMethod yX1_read ∈ WW := wwT 713 (by decide +kernel) (by decide +kernel)
theorem im_X1_begin : Cond.instanceMethod yX1_begin ∈ WW := wwT 718 (by decide +kernel) (by decide +kernel)
theorem im_X1_readBell : Cond.instanceMethod yX1_readBell ∈ WW := wwT 731 (by decide +kernel) (by decide +kernel)
theorem im_X4_hangBell : Cond.instanceMethod yX4_hangBell ∈ WW := wwT 737 (by decide +kernel) (by decide +kernel)
theorem im_X1_endFrame : Cond.instanceMethod yX1_endFrame ∈ WW := wwT 742 (by decide +kernel) (by decide +kernel)
theorem im_X1_readSign : Cond.instanceMethod yX1_readSign ∈ WW := wwT 746 (by decide +kernel) (by decide +kernel)
theorem im_X1_openBeam : Cond.instanceMethod yX1_openBeam ∈ WW := wwT 750 (by decide +kernel) (by decide +kernel)
theorem im_X1_passComma : Cond.instanceMethod yX1_passComma ∈ WW := wwT 755 (by decide +kernel) (by decide +kernel)
theorem im_X4_copyFrom : Cond.instanceMethod yX4_copyFrom ∈ WW := wwT 758 (by decide +kernel) (by decide +kernel)
theorem im_X1_closeBeam : Cond.instanceMethod yX1_closeBeam ∈ WW := wwT 763 (by decide +kernel) (by decide +kernel)
theorem im_X4_hangBeam : Cond.instanceMethod yX4_hangBeam ∈ WW := wwT 767 (by decide +kernel) (by decide +kernel)
theorem im_X10_frame : Cond.instanceMethod yX10_frame ∈ WW := wwT 775 (by decide +kernel) (by decide +kernel)
theorem im_X1_tell : Cond.instanceMethod yX1_tell ∈ WW := wwT 779 (by decide +kernel) (by decide +kernel)
theorem im_X11_init : Cond.instanceMethod yX11_init ∈ WW := wwT 785 (by decide +kernel) (by decide +kernel)
theorem im_X11_buy : Cond.instanceMethod yX11_buy ∈ WW := wwT 853 (by decide +kernel) (by decide +kernel)
theorem im_X11_keeps : Cond.instanceMethod yX11_keeps ∈ WW := wwT 866 (by decide +kernel) (by decide +kernel)
theorem im_X11_charge : Cond.instanceMethod yX11_charge ∈ WW := wwT 869 (by decide +kernel) (by decide +kernel)
theorem im_X11_weight : Cond.instanceMethod yX11_weight ∈ WW := wwT 874 (by decide +kernel) (by decide +kernel)
theorem im_X11_scrap : Cond.instanceMethod yX11_scrap ∈ WW := wwT 877 (by decide +kernel) (by decide +kernel)
theorem im_X11_isLot : Cond.instanceMethod yX11_isLot ∈ WW := wwT 882 (by decide +kernel) (by decide +kernel)
theorem im_X11_burns : Cond.instanceMethod yX11_burns ∈ WW := wwT 886 (by decide +kernel) (by decide +kernel)
theorem im_X11_burnt : Cond.instanceMethod yX11_burnt ∈ WW := wwT 890 (by decide +kernel) (by decide +kernel)
theorem im_X11_setting : Cond.instanceMethod yX11_setting ∈ WW := wwT 894 (by decide +kernel) (by decide +kernel)
theorem im_X11_moves : Cond.instanceMethod yX11_moves ∈ WW := wwT 898 (by decide +kernel) (by decide +kernel)
theorem im_X11_lot : Cond.instanceMethod yX11_lot ∈ WW := wwT 901 (by decide +kernel) (by decide +kernel)
theorem im_X11_alloy : Cond.instanceMethod yX11_alloy ∈ WW := wwT 906 (by decide +kernel) (by decide +kernel)
theorem im_X11_melt : Cond.instanceMethod yX11_melt ∈ WW := wwT 913 (by decide +kernel) (by decide +kernel)
theorem im_X11_set : Cond.instanceMethod yX11_set ∈ WW := wwT 917 (by decide +kernel) (by decide +kernel)
theorem im_X11_pour : Cond.instanceMethod yX11_pour ∈ WW := wwT 924 (by decide +kernel) (by decide +kernel)
theorem im_X11_sprueOf : Cond.instanceMethod yX11_sprueOf ∈ WW := wwT 930 (by decide +kernel) (by decide +kernel)
theorem im_X11_here : Cond.instanceMethod yX11_here ∈ WW := wwT 934 (by decide +kernel) (by decide +kernel)
theorem im_X11_isHere : Cond.instanceMethod yX11_isHere ∈ WW := wwT 938 (by decide +kernel) (by decide +kernel)
theorem im_X11_of : Cond.instanceMethod yX11_of ∈ WW := wwT 942 (by decide +kernel) (by decide +kernel)
theorem im_X11_draws : Cond.instanceMethod yX11_draws ∈ WW := wwT 949 (by decide +kernel) (by decide +kernel)
theorem im_X11_scraps : Cond.instanceMethod yX11_scraps ∈ WW := wwT 956 (by decide +kernel) (by decide +kernel)
theorem im_X11_comes : Cond.instanceMethod yX11_comes ∈ WW := wwT 960 (by decide +kernel) (by decide +kernel)
theorem im_X11_tune : Cond.instanceMethod yX11_tune ∈ WW := wwT 973 (by decide +kernel) (by decide +kernel)
theorem im_X11_isBell : Cond.instanceMethod yX11_isBell ∈ WW := wwT 978 (by decide +kernel) (by decide +kernel)
theorem im_X11_lowered : Cond.instanceMethod yX11_lowered ∈ WW := wwT 982 (by decide +kernel) (by decide +kernel)
theorem im_X11_wouldCrack : Cond.instanceMethod yX11_wouldCrack ∈ WW := wwT 986 (by decide +kernel) (by decide +kernel)
theorem im_X11_smash : Cond.instanceMethod yX11_smash ∈ WW := wwT 989 (by decide +kernel) (by decide +kernel)
theorem im_X11_bell : Cond.instanceMethod yX11_bell ∈ WW := wwT 993 (by decide +kernel) (by decide +kernel)
theorem im_X11_order : Cond.instanceMethod yX11_order ∈ WW := wwT 997 (by decide +kernel) (by decide +kernel)
theorem im_X11_ordersThatAre : Cond.instanceMethod yX11_ordersThatAre ∈ WW := wwT 1002 (by decide +kernel) (by decide +kernel)
theorem im_X11_ofOrder : Cond.instanceMethod yX11_ofOrder ∈ WW := wwT 1006 (by decide +kernel) (by decide +kernel)
theorem im_X11_cancel : Cond.instanceMethod yX11_cancel ∈ WW := wwT 1009 (by decide +kernel) (by decide +kernel)
theorem im_X11_isOrder : Cond.instanceMethod yX11_isOrder ∈ WW := wwT 1014 (by decide +kernel) (by decide +kernel)
theorem im_X11_send : Cond.instanceMethod yX11_send ∈ WW := wwT 1017 (by decide +kernel) (by decide +kernel)
theorem im_X11_fits : Cond.instanceMethod yX11_fits ∈ WW := wwT 1022 (by decide +kernel) (by decide +kernel)
theorem im_X11_isPitch : Cond.instanceMethod yX11_isPitch ∈ WW := wwT 1026 (by decide +kernel) (by decide +kernel)
theorem im_X11_orderOf : Cond.instanceMethod yX11_orderOf ∈ WW := wwT 1029 (by decide +kernel) (by decide +kernel)
theorem im_X11_tuneFor : Cond.instanceMethod yX11_tuneFor ∈ WW := wwT 1033 (by decide +kernel) (by decide +kernel)
theorem im_X11_pourFor : Cond.instanceMethod yX11_pourFor ∈ WW := wwT 1037 (by decide +kernel) (by decide +kernel)
theorem im_X11_laysAside : Cond.instanceMethod yX11_laysAside ∈ WW := wwT 1042 (by decide +kernel) (by decide +kernel)
theorem im_X11_bringsBack : Cond.instanceMethod yX11_bringsBack ∈ WW := wwT 1046 (by decide +kernel) (by decide +kernel)
theorem im_X11_wagons : Cond.instanceMethod yX11_wagons ∈ WW := wwT 1049 (by decide +kernel) (by decide +kernel)
theorem im_X11_takesBells : Cond.instanceMethod yX11_takesBells ∈ WW := wwT 1054 (by decide +kernel) (by decide +kernel)
theorem im_X11_account : Cond.instanceMethod yX11_account ∈ WW := wwT 1057 (by decide +kernel) (by decide +kernel)
theorem im_X11_inScrap : Cond.instanceMethod yX11_inScrap ∈ WW := wwT 1062 (by decide +kernel) (by decide +kernel)
theorem im_X11_inBells : Cond.instanceMethod yX11_inBells ∈ WW := wwT 1066 (by decide +kernel) (by decide +kernel)
theorem im_X11_count : Cond.instanceMethod yX11_count ∈ WW := wwT 1069 (by decide +kernel) (by decide +kernel)
theorem im_X11_bellsThatAre : Cond.instanceMethod yX11_bellsThatAre ∈ WW := wwT 1074 (by decide +kernel) (by decide +kernel)
theorem im_X11_undo : Cond.instanceMethod yX11_undo ∈ WW := wwT 1077 (by decide +kernel) (by decide +kernel)
theorem im_X11_type : Cond.instanceMethod yX11_type ∈ WW := wwT 1081 (by decide +kernel) (by decide +kernel)
theorem im_X11_clearText : Cond.instanceMethod yX11_clearText ∈ WW := wwT 1085 (by decide +kernel) (by decide +kernel)
theorem im_X11_fault : Cond.instanceMethod yX11_fault ∈ WW := wwT 1089 (by decide +kernel) (by decide +kernel)
theorem im_X11_reads : Cond.instanceMethod yX11_reads ∈ WW := wwT 1094 (by decide +kernel) (by decide +kernel)
theorem im_X11_fails : Cond.instanceMethod yX11_fails ∈ WW := wwT 1098 (by decide +kernel) (by decide +kernel)
theorem im_X11_isDigit : Cond.instanceMethod yX11_isDigit ∈ WW := wwT 1102 (by decide +kernel) (by decide +kernel)
theorem im_X11_takesBell : Cond.instanceMethod yX11_takesBell ∈ WW := wwT 1106 (by decide +kernel) (by decide +kernel)
theorem im_X11_takesRest : Cond.instanceMethod yX11_takesRest ∈ WW := wwT 1110 (by decide +kernel) (by decide +kernel)
theorem im_X11_frame : Cond.instanceMethod yX11_frame ∈ WW := wwT 1113 (by decide +kernel) (by decide +kernel)
theorem im_X11_added : Cond.instanceMethod yX11_added ∈ WW := wwT 1118 (by decide +kernel) (by decide +kernel)
theorem st_X10_isMetal : Cond.static yX10_isMetal ∈ WW := wwT 335 (by decide +kernel) (by decide +kernel)
theorem st_X10_isIn : Cond.static yX10_isIn ∈ WW := wwT 338 (by decide +kernel) (by decide +kernel)
theorem st_acopy : Cond.static arraycopyName ∈ WW := wwT 368 (by decide +kernel) (by decide +kernel)
theorem st_X10_shareRoundedUp : Cond.static yX10_shareRoundedUp ∈ WW := wwT 414 (by decide +kernel) (by decide +kernel)
theorem st_X6_alloyOf : Cond.static yX6_alloyOf ∈ WW := wwT 439 (by decide +kernel) (by decide +kernel)
theorem st_X10_isProfile : Cond.static yX10_isProfile ∈ WW := wwT 465 (by decide +kernel) (by decide +kernel)
theorem st_X10_rootOf : Cond.static yX10_rootOf ∈ WW := wwT 510 (by decide +kernel) (by decide +kernel)
theorem st_X10_cube : Cond.static yX10_cube ∈ WW := wwT 513 (by decide +kernel) (by decide +kernel)
theorem st_X10_firstPitch : Cond.static yX10_firstPitch ∈ WW := wwT 517 (by decide +kernel) (by decide +kernel)
theorem st_max : Cond.static Lib.Math.max.name ∈ WW := wwT 520 (by decide +kernel) (by decide +kernel)
theorem st_abs : Cond.static Lib.Math.abs.name ∈ WW := wwT 595 (by decide +kernel) (by decide +kernel)
theorem st_min : Cond.static Lib.Math.min.name ∈ WW := wwT 620 (by decide +kernel) (by decide +kernel)
theorem st_X10_heaviestAtPitch : Cond.static yX10_heaviestAtPitch ∈ WW := wwT 633 (by decide +kernel) (by decide +kernel)
theorem st_lmin : Cond.static Lib.MathLoose.min_long.x ∈ WW := wwT 637 (by decide +kernel) (by decide +kernel)
theorem st_J7_fill_53178 : Cond.static yJ7_fill_53178 ∈ WW := wwT 721 (by decide +kernel) (by decide +kernel)
theorem st_X1_isDigit : Cond.static yX1_isDigit ∈ WW := wwT 724 (by decide +kernel) (by decide +kernel)
theorem st_X1_digit : Cond.static yX1_digit ∈ WW := wwT 727 (by decide +kernel) (by decide +kernel)
theorem st_X4_roundUpTo : Cond.static yX4_roundUpTo ∈ WW := wwT 772 (by decide +kernel) (by decide +kernel)
theorem st_X11_isMetal : Cond.static yX11_isMetal ∈ WW := wwT 857 (by decide +kernel) (by decide +kernel)
theorem st_X11_in : Cond.static yX11_in ∈ WW := wwT 860 (by decide +kernel) (by decide +kernel)
theorem st_X11_alloyOf : Cond.static yX11_alloyOf ∈ WW := wwT 909 (by decide +kernel) (by decide +kernel)
theorem st_X11_mostOf : Cond.static yX11_mostOf ∈ WW := wwT 921 (by decide +kernel) (by decide +kernel)
theorem st_X11_atBell : Cond.static yX11_atBell ∈ WW := wwT 945 (by decide +kernel) (by decide +kernel)
theorem st_X11_copperIn : Cond.static yX11_copperIn ∈ WW := wwT 952 (by decide +kernel) (by decide +kernel)
theorem st_X11_pitchOf : Cond.static yX11_pitchOf ∈ WW := wwT 963 (by decide +kernel) (by decide +kernel)
theorem st_X11_factor : Cond.static yX11_factor ∈ WW := wwT 966 (by decide +kernel) (by decide +kernel)
theorem st_X11_root : Cond.static yX11_root ∈ WW := wwT 970 (by decide +kernel) (by decide +kernel)
theorem co_X10_init : Cond.code yX10_init cX10_init 1 none ∈ WW := wwT 20 (by decide +kernel) (by decide +kernel)
theorem co_oinit : Cond.code objectInit object_method_1_code 1 none ∈ WW := wwT 23 (by decide +kernel) (by decide +kernel)
theorem co_X9_init : Cond.code yX9_init cX9_init 2 none ∈ WW := wwT 28 (by decide +kernel) (by decide +kernel)
theorem co_X6_init : Cond.code yX6_init cX6_init 1 none ∈ WW := wwT 34 (by decide +kernel) (by decide +kernel)
theorem co_X2_init : Cond.code yX2_init cX2_init 2 none ∈ WW := wwT 47 (by decide +kernel) (by decide +kernel)
theorem co_X5_init : Cond.code yX5_init cX5_init 1 none ∈ WW := wwT 54 (by decide +kernel) (by decide +kernel)
theorem co_X0_init : Cond.code yX0_init cX0_init 1 none ∈ WW := wwT 95 (by decide +kernel) (by decide +kernel)
theorem co_X7_init : Cond.code yX7_init cX7_init 1 none ∈ WW := wwT 143 (by decide +kernel) (by decide +kernel)
theorem co_X3_init : Cond.code yX3_init cX3_init 2 none ∈ WW := wwT 216 (by decide +kernel) (by decide +kernel)
theorem co_X8_init : Cond.code yX8_init cX8_init 1 none ∈ WW := wwT 233 (by decide +kernel) (by decide +kernel)
theorem co_X1_init : Cond.code yX1_init cX1_init 2 none ∈ WW := wwT 249 (by decide +kernel) (by decide +kernel)
theorem co_X4_init : Cond.code yX4_init cX4_init 1 none ∈ WW := wwT 255 (by decide +kernel) (by decide +kernel)
theorem co_X10_buy : Cond.code yX10_buy cX10_buy 3 (some .int) ∈ WW := wwT 333 (by decide +kernel) (by decide +kernel)
theorem co_X10_isMetal : Cond.code yX10_isMetal cX10_isMetal 1 (some .boolean) ∈ WW := wwT 336 (by decide +kernel) (by decide +kernel)
theorem co_X10_isIn : Cond.code yX10_isIn cX10_isIn 3 (some .boolean) ∈ WW := wwT 339 (by decide +kernel) (by decide +kernel)
theorem co_X6_of : Cond.code yX6_of cX6_of 2 (some .int) ∈ WW := wwT 344 (by decide +kernel) (by decide +kernel)
theorem co_X3_keep : Cond.code yX3_keep cX3_keep 2 none ∈ WW := wwT 349 (by decide +kernel) (by decide +kernel)
theorem co_X3_dropOldest : Cond.code yX3_dropOldest cX3_dropOldest 3 none ∈ WW := wwT 353 (by decide +kernel) (by decide +kernel)
theorem co_X9_copyFrom : Cond.code yX9_copyFrom cX9_copyFrom 3 none ∈ WW := wwT 357 (by decide +kernel) (by decide +kernel)
theorem co_X6_copyFrom : Cond.code yX6_copyFrom cX6_copyFrom 2 none ∈ WW := wwT 361 (by decide +kernel) (by decide +kernel)
theorem co_X2_copyFrom : Cond.code yX2_copyFrom cX2_copyFrom 3 none ∈ WW := wwT 365 (by decide +kernel) (by decide +kernel)
theorem co_X0_copyFrom : Cond.code yX0_copyFrom cX0_copyFrom 2 none ∈ WW := wwT 373 (by decide +kernel) (by decide +kernel)
theorem co_X7_copyFrom : Cond.code yX7_copyFrom cX7_copyFrom 2 none ∈ WW := wwT 378 (by decide +kernel) (by decide +kernel)
theorem co_X6_put : Cond.code yX6_put cX6_put 3 none ∈ WW := wwT 382 (by decide +kernel) (by decide +kernel)
theorem co_X10_charge : Cond.code yX10_charge cX10_charge 3 (some .int) ∈ WW := wwT 386 (by decide +kernel) (by decide +kernel)
theorem co_X6_weight : Cond.code yX6_weight cX6_weight 1 (some .int) ∈ WW := wwT 390 (by decide +kernel) (by decide +kernel)
theorem co_X10_scrap : Cond.code yX10_scrap cX10_scrap 3 (some .int) ∈ WW := wwT 394 (by decide +kernel) (by decide +kernel)
theorem co_X2_at : Cond.code yX2_at cX2_at 2 (some (.object "BellFoundry$Lot")) ∈ WW := wwT 398 (by decide +kernel) (by decide +kernel)
theorem co_X9_meltDown : Cond.code yX9_meltDown cX9_meltDown 2 none ∈ WW := wwT 403 (by decide +kernel) (by decide +kernel)
theorem co_X9_burn : Cond.code yX9_burn cX9_burn 4 none ∈ WW := wwT 407 (by decide +kernel) (by decide +kernel)
theorem co_X6_lossOf : Cond.code yX6_lossOf cX6_lossOf 3 (some .int) ∈ WW := wwT 411 (by decide +kernel) (by decide +kernel)
theorem co_X10_shareRoundedUp : Cond.code yX10_shareRoundedUp cX10_shareRoundedUp 2 (some .int) ∈ WW := wwT 415 (by decide +kernel) (by decide +kernel)
theorem co_X6_mixWith : Cond.code yX6_mixWith cX6_mixWith 2 none ∈ WW := wwT 420 (by decide +kernel) (by decide +kernel)
theorem co_X2_remove : Cond.code yX2_remove cX2_remove 4 none ∈ WW := wwT 424 (by decide +kernel) (by decide +kernel)
theorem co_X10_lot : Cond.code yX10_lot cX10_lot 4 (some .int) ∈ WW := wwT 428 (by decide +kernel) (by decide +kernel)
theorem co_X6_tell : Cond.code yX6_tell cX6_tell 2 (some .int) ∈ WW := wwT 432 (by decide +kernel) (by decide +kernel)
theorem co_X6_alloy : Cond.code yX6_alloy cX6_alloy 1 (some .int) ∈ WW := wwT 437 (by decide +kernel) (by decide +kernel)
theorem co_X6_alloyOf : Cond.code yX6_alloyOf cX6_alloyOf 2 (some .int) ∈ WW := wwT 440 (by decide +kernel) (by decide +kernel)
theorem co_X10_melt : Cond.code yX10_melt cX10_melt 2 (some .int) ∈ WW := wwT 445 (by decide +kernel) (by decide +kernel)
theorem co_X9_burntMelt : Cond.code yX9_burntMelt cX9_burntMelt 2 (some (.object "BellFoundry$Mixture")) ∈ WW := wwT 449 (by decide +kernel) (by decide +kernel)
theorem co_X10_set : Cond.code yX10_set cX10_set 4 (some .int) ∈ WW := wwT 454 (by decide +kernel) (by decide +kernel)
theorem co_X10_pour : Cond.code yX10_pour cX10_pour 3 (some .int) ∈ WW := wwT 463 (by decide +kernel) (by decide +kernel)
theorem co_X10_isProfile : Cond.code yX10_isProfile cX10_isProfile 1 (some .boolean) ∈ WW := wwT 466 (by decide +kernel) (by decide +kernel)
theorem co_X9_weightWithSprue : Cond.code yX9_weightWithSprue cX9_weightWithSprue 2 (some .int) ∈ WW := wwT 472 (by decide +kernel) (by decide +kernel)
theorem co_X9_sprueOf : Cond.code yX9_sprueOf cX9_sprueOf 2 (some .int) ∈ WW := wwT 476 (by decide +kernel) (by decide +kernel)
theorem co_X9_remainingBells : Cond.code yX9_remainingBells cX9_remainingBells 1 (some .int) ∈ WW := wwT 481 (by decide +kernel) (by decide +kernel)
theorem co_X9_bellsIn : Cond.code yX9_bellsIn cX9_bellsIn 4 (some .int) ∈ WW := wwT 485 (by decide +kernel) (by decide +kernel)
theorem co_X9_castBell : Cond.code yX9_castBell cX9_castBell 5 (some .int) ∈ WW := wwT 489 (by decide +kernel) (by decide +kernel)
theorem co_X6_drawInto : Cond.code yX6_drawInto cX6_drawInto 4 none ∈ WW := wwT 493 (by decide +kernel) (by decide +kernel)
theorem co_X6_copperOfDraw : Cond.code yX6_copperOfDraw cX6_copperOfDraw 3 (some .int) ∈ WW := wwT 497 (by decide +kernel) (by decide +kernel)
theorem co_X2_add : Cond.code yX2_add cX2_add 3 none ∈ WW := wwT 501 (by decide +kernel) (by decide +kernel)
theorem co_X6_empty : Cond.code yX6_empty cX6_empty 1 none ∈ WW := wwT 506 (by decide +kernel) (by decide +kernel)
theorem co_X10_rootOf : Cond.code yX10_rootOf cX10_rootOf 3 (some .int) ∈ WW := wwT 511 (by decide +kernel) (by decide +kernel)
theorem co_X10_cube : Cond.code yX10_cube cX10_cube 2 (some .long) ∈ WW := wwT 514 (by decide +kernel) (by decide +kernel)
theorem co_X10_firstPitch : Cond.code yX10_firstPitch cX10_firstPitch 3 (some .int) ∈ WW := wwT 518 (by decide +kernel) (by decide +kernel)
theorem co_max : Cond.code Lib.Math.max.name Lib.Math.max.code 2 (some .int) ∈ WW := wwT 521 (by decide +kernel) (by decide +kernel)
theorem co_X10_tune : Cond.code yX10_tune cX10_tune 4 (some .int) ∈ WW := wwT 526 (by decide +kernel) (by decide +kernel)
theorem co_X9_bellAt : Cond.code yX9_bellAt cX9_bellAt 2 (some (.object "BellFoundry$Bell")) ∈ WW := wwT 530 (by decide +kernel) (by decide +kernel)
theorem co_X9_shave : Cond.code yX9_shave cX9_shave 3 none ∈ WW := wwT 534 (by decide +kernel) (by decide +kernel)
theorem co_X0_pitchBehind : Cond.code yX0_pitchBehind cX0_pitchBehind 3 (some .int) ∈ WW := wwT 538 (by decide +kernel) (by decide +kernel)
theorem co_X0_cracksBy : Cond.code yX0_cracksBy cX0_cracksBy 2 (some .boolean) ∈ WW := wwT 544 (by decide +kernel) (by decide +kernel)
theorem co_X10_smash : Cond.code yX10_smash cX10_smash 4 (some .int) ∈ WW := wwT 548 (by decide +kernel) (by decide +kernel)
theorem co_X0_remains : Cond.code yX0_remains cX0_remains 1 (some .boolean) ∈ WW := wwT 552 (by decide +kernel) (by decide +kernel)
theorem co_X9_breakUp : Cond.code yX9_breakUp cX9_breakUp 2 none ∈ WW := wwT 556 (by decide +kernel) (by decide +kernel)
theorem co_X10_bell : Cond.code yX10_bell cX10_bell 4 (some .int) ∈ WW := wwT 561 (by decide +kernel) (by decide +kernel)
theorem co_X10_order : Cond.code yX10_order cX10_order 4 (some .int) ∈ WW := wwT 565 (by decide +kernel) (by decide +kernel)
theorem co_X9_ordersIn : Cond.code yX9_ordersIn cX9_ordersIn 4 (some .int) ∈ WW := wwT 569 (by decide +kernel) (by decide +kernel)
theorem co_X9_takeOrder : Cond.code yX9_takeOrder cX9_takeOrder 5 (some .int) ∈ WW := wwT 573 (by decide +kernel) (by decide +kernel)
theorem co_X10_cancel : Cond.code yX10_cancel cX10_cancel 3 (some .int) ∈ WW := wwT 577 (by decide +kernel) (by decide +kernel)
theorem co_X9_orderAt : Cond.code yX9_orderAt cX9_orderAt 2 (some (.object "BellFoundry$Order")) ∈ WW := wwT 581 (by decide +kernel) (by decide +kernel)
theorem co_X10_send : Cond.code yX10_send cX10_send 6 (some .int) ∈ WW := wwT 585 (by decide +kernel) (by decide +kernel)
theorem co_X7_isFitBy : Cond.code yX7_isFitBy cX7_isFitBy 2 (some .boolean) ∈ WW := wwT 589 (by decide +kernel) (by decide +kernel)
theorem co_X7_takesPitch : Cond.code yX7_takesPitch cX7_takesPitch 2 (some .boolean) ∈ WW := wwT 593 (by decide +kernel) (by decide +kernel)
theorem co_abs : Cond.code Lib.Math.abs.name Lib.Math.abs.code 1 (some .int) ∈ WW := wwT 596 (by decide +kernel) (by decide +kernel)
theorem co_X10_orderOf : Cond.code yX10_orderOf cX10_orderOf 4 (some .int) ∈ WW := wwT 600 (by decide +kernel) (by decide +kernel)
theorem co_X9_lowestBellFor : Cond.code yX9_lowestBellFor cX9_lowestBellFor 3 (some .int) ∈ WW := wwT 604 (by decide +kernel) (by decide +kernel)
theorem co_X9_bellsFor : Cond.code yX9_bellsFor cX9_bellsFor 4 (some .int) ∈ WW := wwT 609 (by decide +kernel) (by decide +kernel)
theorem co_X10_tuneFor : Cond.code yX10_tuneFor cX10_tuneFor 5 (some .int) ∈ WW := wwT 613 (by decide +kernel) (by decide +kernel)
theorem co_X9_fewestPoundsToFit : Cond.code yX9_fewestPoundsToFit cX9_fewestPoundsToFit 5 (some .int) ∈ WW := wwT 617 (by decide +kernel) (by decide +kernel)
theorem co_min : Cond.code Lib.Math.min.name Lib.Math.min.code 2 (some .int) ∈ WW := wwT 621 (by decide +kernel) (by decide +kernel)
theorem co_X10_pourFor : Cond.code yX10_pourFor cX10_pourFor 3 (some .int) ∈ WW := wwT 626 (by decide +kernel) (by decide +kernel)
theorem co_X9_heaviestBellFor : Cond.code yX9_heaviestBellFor cX9_heaviestBellFor 6 (some .int) ∈ WW := wwT 630 (by decide +kernel) (by decide +kernel)
theorem co_X10_heaviestAtPitch : Cond.code yX10_heaviestAtPitch cX10_heaviestAtPitch 5 (some .int) ∈ WW := wwT 634 (by decide +kernel) (by decide +kernel)
theorem co_lmin : Cond.code Lib.MathLoose.min_long.x Lib.MathLoose.min_long.code 4 (some .long) ∈ WW := wwT 638 (by decide +kernel) (by decide +kernel)
theorem co_X6_alloyOfDraw : Cond.code yX6_alloyOfDraw cX6_alloyOfDraw 2 (some .int) ∈ WW := wwT 645 (by decide +kernel) (by decide +kernel)
theorem co_X10_wagons : Cond.code yX10_wagons cX10_wagons 5 (some .int) ∈ WW := wwT 649 (by decide +kernel) (by decide +kernel)
theorem co_X8_clear : Cond.code yX8_clear cX8_clear 1 none ∈ WW := wwT 653 (by decide +kernel) (by decide +kernel)
theorem co_X8_add : Cond.code yX8_add cX8_add 2 none ∈ WW := wwT 657 (by decide +kernel) (by decide +kernel)
theorem co_X8_heaviest : Cond.code yX8_heaviest cX8_heaviest 3 (some .int) ∈ WW := wwT 661 (by decide +kernel) (by decide +kernel)
theorem co_X8_fewestWagons : Cond.code yX8_fewestWagons cX8_fewestWagons 4 (some .int) ∈ WW := wwT 666 (by decide +kernel) (by decide +kernel)
theorem co_X8_bestFor : Cond.code yX8_bestFor cX8_bestFor 8 (some .int) ∈ WW := wwT 670 (by decide +kernel) (by decide +kernel)
theorem co_X10_account : Cond.code yX10_account cX10_account 3 (some .int) ∈ WW := wwT 676 (by decide +kernel) (by decide +kernel)
theorem co_X2_of : Cond.code yX2_of cX2_of 4 (some .int) ∈ WW := wwT 680 (by decide +kernel) (by decide +kernel)
theorem co_X9_inBells : Cond.code yX9_inBells cX9_inBells 5 (some .int) ∈ WW := wwT 685 (by decide +kernel) (by decide +kernel)
theorem co_X10_count : Cond.code yX10_count cX10_count 2 (some .int) ∈ WW := wwT 690 (by decide +kernel) (by decide +kernel)
theorem co_X10_undo : Cond.code yX10_undo cX10_undo 1 (some .int) ∈ WW := wwT 695 (by decide +kernel) (by decide +kernel)
theorem co_X3_restore : Cond.code yX3_restore cX3_restore 2 none ∈ WW := wwT 699 (by decide +kernel) (by decide +kernel)
theorem co_X10_type : Cond.code yX10_type cX10_type 2 (some .int) ∈ WW := wwT 703 (by decide +kernel) (by decide +kernel)
theorem co_X10_clearText : Cond.code yX10_clearText cX10_clearText 2 (some .int) ∈ WW := wwT 707 (by decide +kernel) (by decide +kernel)
theorem co_X10_fault : Cond.code yX10_fault cX10_fault 2 (some .int) ∈ WW := wwT 711 (by decide +kernel) (by decide +kernel)
theorem co_X1_read : Cond.code yX1_read cX1_read 6 none ∈ WW := wwT 715 (by decide +kernel) (by decide +kernel)
theorem co_X1_begin : Cond.code yX1_begin cX1_begin 1 none ∈ WW := wwT 719 (by decide +kernel) (by decide +kernel)
theorem co_J7_fill_53178 : Cond.code yJ7_fill_53178 cJ7_fill_53178 4 none ∈ WW := wwT 722 (by decide +kernel) (by decide +kernel)
theorem co_X1_isDigit : Cond.code yX1_isDigit cX1_isDigit 1 (some .boolean) ∈ WW := wwT 725 (by decide +kernel) (by decide +kernel)
theorem co_X1_digit : Cond.code yX1_digit cX1_digit 1 (some .int) ∈ WW := wwT 728 (by decide +kernel) (by decide +kernel)
theorem co_X1_readBell : Cond.code yX1_readBell cX1_readBell 4 (some .int) ∈ WW := wwT 732 (by decide +kernel) (by decide +kernel)
theorem co_X4_hangBell : Cond.code yX4_hangBell cX4_hangBell 2 none ∈ WW := wwT 739 (by decide +kernel) (by decide +kernel)
theorem co_X1_endFrame : Cond.code yX1_endFrame cX1_endFrame 1 none ∈ WW := wwT 743 (by decide +kernel) (by decide +kernel)
theorem co_X1_readSign : Cond.code yX1_readSign cX1_readSign 3 (some .int) ∈ WW := wwT 747 (by decide +kernel) (by decide +kernel)
theorem co_X1_openBeam : Cond.code yX1_openBeam cX1_openBeam 1 (some .int) ∈ WW := wwT 751 (by decide +kernel) (by decide +kernel)
theorem co_X1_passComma : Cond.code yX1_passComma cX1_passComma 1 (some .int) ∈ WW := wwT 756 (by decide +kernel) (by decide +kernel)
theorem co_X4_copyFrom : Cond.code yX4_copyFrom cX4_copyFrom 2 none ∈ WW := wwT 760 (by decide +kernel) (by decide +kernel)
theorem co_X1_closeBeam : Cond.code yX1_closeBeam cX1_closeBeam 2 (some .int) ∈ WW := wwT 764 (by decide +kernel) (by decide +kernel)
theorem co_X4_hangBeam : Cond.code yX4_hangBeam cX4_hangBeam 4 none ∈ WW := wwT 769 (by decide +kernel) (by decide +kernel)
theorem co_X4_roundUpTo : Cond.code yX4_roundUpTo cX4_roundUpTo 2 (some .int) ∈ WW := wwT 773 (by decide +kernel) (by decide +kernel)
theorem co_X10_frame : Cond.code yX10_frame cX10_frame 2 (some .int) ∈ WW := wwT 777 (by decide +kernel) (by decide +kernel)
theorem co_X1_tell : Cond.code yX1_tell cX1_tell 2 (some .int) ∈ WW := wwT 781 (by decide +kernel) (by decide +kernel)
theorem co_X11_init : Cond.code yX11_init cX11_init 1 none ∈ WW := wwT 786 (by decide +kernel) (by decide +kernel)
theorem co_X11_buy : Cond.code yX11_buy cX11_buy 3 (some .int) ∈ WW := wwT 855 (by decide +kernel) (by decide +kernel)
theorem co_X11_isMetal : Cond.code yX11_isMetal cX11_isMetal 1 (some .boolean) ∈ WW := wwT 858 (by decide +kernel) (by decide +kernel)
theorem co_X11_in : Cond.code yX11_in cX11_in 3 (some .boolean) ∈ WW := wwT 861 (by decide +kernel) (by decide +kernel)
theorem co_X11_keeps : Cond.code yX11_keeps cX11_keeps 2 none ∈ WW := wwT 867 (by decide +kernel) (by decide +kernel)
theorem co_X11_charge : Cond.code yX11_charge cX11_charge 3 (some .int) ∈ WW := wwT 871 (by decide +kernel) (by decide +kernel)
theorem co_X11_weight : Cond.code yX11_weight cX11_weight 2 (some .int) ∈ WW := wwT 875 (by decide +kernel) (by decide +kernel)
theorem co_X11_scrap : Cond.code yX11_scrap cX11_scrap 4 (some .int) ∈ WW := wwT 879 (by decide +kernel) (by decide +kernel)
theorem co_X11_isLot : Cond.code yX11_isLot cX11_isLot 2 (some .boolean) ∈ WW := wwT 883 (by decide +kernel) (by decide +kernel)
theorem co_X11_burns : Cond.code yX11_burns cX11_burns 2 none ∈ WW := wwT 887 (by decide +kernel) (by decide +kernel)
theorem co_X11_burnt : Cond.code yX11_burnt cX11_burnt 3 (some .int) ∈ WW := wwT 891 (by decide +kernel) (by decide +kernel)
theorem co_X11_setting : Cond.code yX11_setting cX11_setting 2 (some .int) ∈ WW := wwT 895 (by decide +kernel) (by decide +kernel)
theorem co_X11_moves : Cond.code yX11_moves cX11_moves 5 none ∈ WW := wwT 899 (by decide +kernel) (by decide +kernel)
theorem co_X11_lot : Cond.code yX11_lot cX11_lot 4 (some .int) ∈ WW := wwT 903 (by decide +kernel) (by decide +kernel)
theorem co_X11_alloy : Cond.code yX11_alloy cX11_alloy 2 (some .int) ∈ WW := wwT 907 (by decide +kernel) (by decide +kernel)
theorem co_X11_alloyOf : Cond.code yX11_alloyOf cX11_alloyOf 2 (some .int) ∈ WW := wwT 910 (by decide +kernel) (by decide +kernel)
theorem co_X11_melt : Cond.code yX11_melt cX11_melt 4 (some .int) ∈ WW := wwT 915 (by decide +kernel) (by decide +kernel)
theorem co_X11_set : Cond.code yX11_set cX11_set 4 (some .int) ∈ WW := wwT 919 (by decide +kernel) (by decide +kernel)
theorem co_X11_mostOf : Cond.code yX11_mostOf cX11_mostOf 1 (some .int) ∈ WW := wwT 922 (by decide +kernel) (by decide +kernel)
theorem co_X11_pour : Cond.code yX11_pour cX11_pour 5 (some .int) ∈ WW := wwT 926 (by decide +kernel) (by decide +kernel)
theorem co_X11_sprueOf : Cond.code yX11_sprueOf cX11_sprueOf 2 (some .int) ∈ WW := wwT 931 (by decide +kernel) (by decide +kernel)
theorem co_X11_here : Cond.code yX11_here cX11_here 3 (some .int) ∈ WW := wwT 935 (by decide +kernel) (by decide +kernel)
theorem co_X11_isHere : Cond.code yX11_isHere cX11_isHere 2 (some .boolean) ∈ WW := wwT 939 (by decide +kernel) (by decide +kernel)
theorem co_X11_of : Cond.code yX11_of cX11_of 3 (some .int) ∈ WW := wwT 943 (by decide +kernel) (by decide +kernel)
theorem co_X11_atBell : Cond.code yX11_atBell cX11_atBell 1 (some .int) ∈ WW := wwT 946 (by decide +kernel) (by decide +kernel)
theorem co_X11_draws : Cond.code yX11_draws cX11_draws 5 none ∈ WW := wwT 950 (by decide +kernel) (by decide +kernel)
theorem co_X11_copperIn : Cond.code yX11_copperIn cX11_copperIn 3 (some .int) ∈ WW := wwT 953 (by decide +kernel) (by decide +kernel)
theorem co_X11_scraps : Cond.code yX11_scraps cX11_scraps 4 none ∈ WW := wwT 957 (by decide +kernel) (by decide +kernel)
theorem co_X11_comes : Cond.code yX11_comes cX11_comes 3 (some .int) ∈ WW := wwT 961 (by decide +kernel) (by decide +kernel)
theorem co_X11_pitchOf : Cond.code yX11_pitchOf cX11_pitchOf 3 (some .int) ∈ WW := wwT 964 (by decide +kernel) (by decide +kernel)
theorem co_X11_factor : Cond.code yX11_factor cX11_factor 1 (some .int) ∈ WW := wwT 967 (by decide +kernel) (by decide +kernel)
theorem co_X11_root : Cond.code yX11_root cX11_root 6 (some .int) ∈ WW := wwT 971 (by decide +kernel) (by decide +kernel)
theorem co_X11_tune : Cond.code yX11_tune cX11_tune 4 (some .int) ∈ WW := wwT 975 (by decide +kernel) (by decide +kernel)
theorem co_X11_isBell : Cond.code yX11_isBell cX11_isBell 2 (some .boolean) ∈ WW := wwT 979 (by decide +kernel) (by decide +kernel)
theorem co_X11_lowered : Cond.code yX11_lowered cX11_lowered 4 (some .int) ∈ WW := wwT 983 (by decide +kernel) (by decide +kernel)
theorem co_X11_wouldCrack : Cond.code yX11_wouldCrack cX11_wouldCrack 3 (some .boolean) ∈ WW := wwT 987 (by decide +kernel) (by decide +kernel)
theorem co_X11_smash : Cond.code yX11_smash cX11_smash 3 (some .int) ∈ WW := wwT 991 (by decide +kernel) (by decide +kernel)
theorem co_X11_bell : Cond.code yX11_bell cX11_bell 3 (some .int) ∈ WW := wwT 995 (by decide +kernel) (by decide +kernel)
theorem co_X11_order : Cond.code yX11_order cX11_order 5 (some .int) ∈ WW := wwT 999 (by decide +kernel) (by decide +kernel)
theorem co_X11_ordersThatAre : Cond.code yX11_ordersThatAre cX11_ordersThatAre 4 (some .int) ∈ WW := wwT 1003 (by decide +kernel) (by decide +kernel)
theorem co_X11_ofOrder : Cond.code yX11_ofOrder cX11_ofOrder 3 (some .int) ∈ WW := wwT 1007 (by decide +kernel) (by decide +kernel)
theorem co_X11_cancel : Cond.code yX11_cancel cX11_cancel 2 (some .int) ∈ WW := wwT 1011 (by decide +kernel) (by decide +kernel)
theorem co_X11_isOrder : Cond.code yX11_isOrder cX11_isOrder 2 (some .boolean) ∈ WW := wwT 1015 (by decide +kernel) (by decide +kernel)
theorem co_X11_send : Cond.code yX11_send cX11_send 4 (some .int) ∈ WW := wwT 1019 (by decide +kernel) (by decide +kernel)
theorem co_X11_fits : Cond.code yX11_fits cX11_fits 3 (some .boolean) ∈ WW := wwT 1023 (by decide +kernel) (by decide +kernel)
theorem co_X11_isPitch : Cond.code yX11_isPitch cX11_isPitch 4 (some .boolean) ∈ WW := wwT 1027 (by decide +kernel) (by decide +kernel)
theorem co_X11_orderOf : Cond.code yX11_orderOf cX11_orderOf 6 (some .int) ∈ WW := wwT 1031 (by decide +kernel) (by decide +kernel)
theorem co_X11_tuneFor : Cond.code yX11_tuneFor cX11_tuneFor 5 (some .int) ∈ WW := wwT 1035 (by decide +kernel) (by decide +kernel)
theorem co_X11_pourFor : Cond.code yX11_pourFor cX11_pourFor 6 (some .int) ∈ WW := wwT 1039 (by decide +kernel) (by decide +kernel)
theorem co_X11_laysAside : Cond.code yX11_laysAside cX11_laysAside 2 none ∈ WW := wwT 1043 (by decide +kernel) (by decide +kernel)
theorem co_X11_bringsBack : Cond.code yX11_bringsBack cX11_bringsBack 2 none ∈ WW := wwT 1047 (by decide +kernel) (by decide +kernel)
theorem co_X11_wagons : Cond.code yX11_wagons cX11_wagons 10 (some .int) ∈ WW := wwT 1051 (by decide +kernel) (by decide +kernel)
theorem co_X11_takesBells : Cond.code yX11_takesBells cX11_takesBells 6 (some .int) ∈ WW := wwT 1055 (by decide +kernel) (by decide +kernel)
theorem co_X11_account : Cond.code yX11_account cX11_account 3 (some .int) ∈ WW := wwT 1059 (by decide +kernel) (by decide +kernel)
theorem co_X11_inScrap : Cond.code yX11_inScrap cX11_inScrap 4 (some .int) ∈ WW := wwT 1063 (by decide +kernel) (by decide +kernel)
theorem co_X11_inBells : Cond.code yX11_inBells cX11_inBells 5 (some .int) ∈ WW := wwT 1067 (by decide +kernel) (by decide +kernel)
theorem co_X11_count : Cond.code yX11_count cX11_count 2 (some .int) ∈ WW := wwT 1071 (by decide +kernel) (by decide +kernel)
theorem co_X11_bellsThatAre : Cond.code yX11_bellsThatAre cX11_bellsThatAre 4 (some .int) ∈ WW := wwT 1075 (by decide +kernel) (by decide +kernel)
theorem co_X11_undo : Cond.code yX11_undo cX11_undo 2 (some .int) ∈ WW := wwT 1079 (by decide +kernel) (by decide +kernel)
theorem co_X11_type : Cond.code yX11_type cX11_type 2 (some .int) ∈ WW := wwT 1083 (by decide +kernel) (by decide +kernel)
theorem co_X11_clearText : Cond.code yX11_clearText cX11_clearText 2 (some .int) ∈ WW := wwT 1087 (by decide +kernel) (by decide +kernel)
theorem co_X11_fault : Cond.code yX11_fault cX11_fault 2 (some .int) ∈ WW := wwT 1091 (by decide +kernel) (by decide +kernel)
theorem co_X11_reads : Cond.code yX11_reads cX11_reads 3 (some .boolean) ∈ WW := wwT 1095 (by decide +kernel) (by decide +kernel)
theorem co_X11_fails : Cond.code yX11_fails cX11_fails 2 (some .boolean) ∈ WW := wwT 1099 (by decide +kernel) (by decide +kernel)
theorem co_X11_isDigit : Cond.code yX11_isDigit cX11_isDigit 2 (some .boolean) ∈ WW := wwT 1103 (by decide +kernel) (by decide +kernel)
theorem co_X11_takesBell : Cond.code yX11_takesBell cX11_takesBell 4 (some .boolean) ∈ WW := wwT 1107 (by decide +kernel) (by decide +kernel)
theorem co_X11_takesRest : Cond.code yX11_takesRest cX11_takesRest 3 (some .boolean) ∈ WW := wwT 1111 (by decide +kernel) (by decide +kernel)
theorem co_X11_frame : Cond.code yX11_frame cX11_frame 2 (some .int) ∈ WW := wwT 1115 (by decide +kernel) (by decide +kernel)
theorem co_X11_added : Cond.code yX11_added cX11_added 6 (some .int) ∈ WW := wwT 1119 (by decide +kernel) (by decide +kernel)
theorem se_clone : Cond.selects "[I" ⟨"[I", "clone", "()Ljava/lang/Object;"⟩ ⟨"java/lang/Object", "clone", "()Ljava/lang/Object;"⟩ ∈ WW := wwT 85 (by decide +kernel) (by decide +kernel)
theorem se_X10_buy : Cond.selects "BellFoundry" yX10_buy yX10_buy ∈ WW := wwT 332 (by decide +kernel) (by decide +kernel)
theorem se_X6_of : Cond.selects "BellFoundry$Mixture" yX6_of yX6_of ∈ WW := wwT 343 (by decide +kernel) (by decide +kernel)
theorem se_X3_keep : Cond.selects "BellFoundry$History" yX3_keep yX3_keep ∈ WW := wwT 348 (by decide +kernel) (by decide +kernel)
theorem se_X9_copyFrom : Cond.selects "BellFoundry$Works" yX9_copyFrom yX9_copyFrom ∈ WW := wwT 356 (by decide +kernel) (by decide +kernel)
theorem se_X6_copyFrom : Cond.selects "BellFoundry$Mixture" yX6_copyFrom yX6_copyFrom ∈ WW := wwT 360 (by decide +kernel) (by decide +kernel)
theorem se_X2_copyFrom : Cond.selects "BellFoundry$Heap" yX2_copyFrom yX2_copyFrom ∈ WW := wwT 364 (by decide +kernel) (by decide +kernel)
theorem se_X0_copyFrom : Cond.selects "BellFoundry$Bell" yX0_copyFrom yX0_copyFrom ∈ WW := wwT 372 (by decide +kernel) (by decide +kernel)
theorem se_X7_copyFrom : Cond.selects "BellFoundry$Order" yX7_copyFrom yX7_copyFrom ∈ WW := wwT 377 (by decide +kernel) (by decide +kernel)
theorem se_X6_put : Cond.selects "BellFoundry$Mixture" yX6_put yX6_put ∈ WW := wwT 381 (by decide +kernel) (by decide +kernel)
theorem se_X10_charge : Cond.selects "BellFoundry" yX10_charge yX10_charge ∈ WW := wwT 385 (by decide +kernel) (by decide +kernel)
theorem se_X6_weight : Cond.selects "BellFoundry$Mixture" yX6_weight yX6_weight ∈ WW := wwT 389 (by decide +kernel) (by decide +kernel)
theorem se_X10_scrap : Cond.selects "BellFoundry" yX10_scrap yX10_scrap ∈ WW := wwT 393 (by decide +kernel) (by decide +kernel)
theorem se_X2_at : Cond.selects "BellFoundry$Heap" yX2_at yX2_at ∈ WW := wwT 397 (by decide +kernel) (by decide +kernel)
theorem se_X9_meltDown : Cond.selects "BellFoundry$Works" yX9_meltDown yX9_meltDown ∈ WW := wwT 402 (by decide +kernel) (by decide +kernel)
theorem se_X6_lossOf : Cond.selects "BellFoundry$Mixture" yX6_lossOf yX6_lossOf ∈ WW := wwT 410 (by decide +kernel) (by decide +kernel)
theorem se_X6_mixWith : Cond.selects "BellFoundry$Mixture" yX6_mixWith yX6_mixWith ∈ WW := wwT 419 (by decide +kernel) (by decide +kernel)
theorem se_X2_remove : Cond.selects "BellFoundry$Heap" yX2_remove yX2_remove ∈ WW := wwT 423 (by decide +kernel) (by decide +kernel)
theorem se_X10_lot : Cond.selects "BellFoundry" yX10_lot yX10_lot ∈ WW := wwT 427 (by decide +kernel) (by decide +kernel)
theorem se_X6_tell : Cond.selects "BellFoundry$Mixture" yX6_tell yX6_tell ∈ WW := wwT 431 (by decide +kernel) (by decide +kernel)
theorem se_X6_alloy : Cond.selects "BellFoundry$Mixture" yX6_alloy yX6_alloy ∈ WW := wwT 436 (by decide +kernel) (by decide +kernel)
theorem se_X10_melt : Cond.selects "BellFoundry" yX10_melt yX10_melt ∈ WW := wwT 444 (by decide +kernel) (by decide +kernel)
theorem se_X9_burntMelt : Cond.selects "BellFoundry$Works" yX9_burntMelt yX9_burntMelt ∈ WW := wwT 448 (by decide +kernel) (by decide +kernel)
theorem se_X10_set : Cond.selects "BellFoundry" yX10_set yX10_set ∈ WW := wwT 453 (by decide +kernel) (by decide +kernel)
theorem se_X10_pour : Cond.selects "BellFoundry" yX10_pour yX10_pour ∈ WW := wwT 462 (by decide +kernel) (by decide +kernel)
theorem se_X9_weightWithSprue : Cond.selects "BellFoundry$Works" yX9_weightWithSprue yX9_weightWithSprue ∈ WW := wwT 471 (by decide +kernel) (by decide +kernel)
theorem se_X9_remainingBells : Cond.selects "BellFoundry$Works" yX9_remainingBells yX9_remainingBells ∈ WW := wwT 480 (by decide +kernel) (by decide +kernel)
theorem se_X9_bellsIn : Cond.selects "BellFoundry$Works" yX9_bellsIn yX9_bellsIn ∈ WW := wwT 484 (by decide +kernel) (by decide +kernel)
theorem se_X9_castBell : Cond.selects "BellFoundry$Works" yX9_castBell yX9_castBell ∈ WW := wwT 488 (by decide +kernel) (by decide +kernel)
theorem se_X6_drawInto : Cond.selects "BellFoundry$Mixture" yX6_drawInto yX6_drawInto ∈ WW := wwT 492 (by decide +kernel) (by decide +kernel)
theorem se_X2_add : Cond.selects "BellFoundry$Heap" yX2_add yX2_add ∈ WW := wwT 500 (by decide +kernel) (by decide +kernel)
theorem se_X6_empty : Cond.selects "BellFoundry$Mixture" yX6_empty yX6_empty ∈ WW := wwT 505 (by decide +kernel) (by decide +kernel)
theorem se_X10_tune : Cond.selects "BellFoundry" yX10_tune yX10_tune ∈ WW := wwT 525 (by decide +kernel) (by decide +kernel)
theorem se_X9_bellAt : Cond.selects "BellFoundry$Works" yX9_bellAt yX9_bellAt ∈ WW := wwT 529 (by decide +kernel) (by decide +kernel)
theorem se_X9_shave : Cond.selects "BellFoundry$Works" yX9_shave yX9_shave ∈ WW := wwT 533 (by decide +kernel) (by decide +kernel)
theorem se_X0_pitchBehind : Cond.selects "BellFoundry$Bell" yX0_pitchBehind yX0_pitchBehind ∈ WW := wwT 537 (by decide +kernel) (by decide +kernel)
theorem se_X0_cracksBy : Cond.selects "BellFoundry$Bell" yX0_cracksBy yX0_cracksBy ∈ WW := wwT 543 (by decide +kernel) (by decide +kernel)
theorem se_X10_smash : Cond.selects "BellFoundry" yX10_smash yX10_smash ∈ WW := wwT 547 (by decide +kernel) (by decide +kernel)
theorem se_X0_remains : Cond.selects "BellFoundry$Bell" yX0_remains yX0_remains ∈ WW := wwT 551 (by decide +kernel) (by decide +kernel)
theorem se_X9_breakUp : Cond.selects "BellFoundry$Works" yX9_breakUp yX9_breakUp ∈ WW := wwT 555 (by decide +kernel) (by decide +kernel)
theorem se_X10_bell : Cond.selects "BellFoundry" yX10_bell yX10_bell ∈ WW := wwT 560 (by decide +kernel) (by decide +kernel)
theorem se_X10_order : Cond.selects "BellFoundry" yX10_order yX10_order ∈ WW := wwT 564 (by decide +kernel) (by decide +kernel)
theorem se_X9_ordersIn : Cond.selects "BellFoundry$Works" yX9_ordersIn yX9_ordersIn ∈ WW := wwT 568 (by decide +kernel) (by decide +kernel)
theorem se_X9_takeOrder : Cond.selects "BellFoundry$Works" yX9_takeOrder yX9_takeOrder ∈ WW := wwT 572 (by decide +kernel) (by decide +kernel)
theorem se_X10_cancel : Cond.selects "BellFoundry" yX10_cancel yX10_cancel ∈ WW := wwT 576 (by decide +kernel) (by decide +kernel)
theorem se_X9_orderAt : Cond.selects "BellFoundry$Works" yX9_orderAt yX9_orderAt ∈ WW := wwT 580 (by decide +kernel) (by decide +kernel)
theorem se_X10_send : Cond.selects "BellFoundry" yX10_send yX10_send ∈ WW := wwT 584 (by decide +kernel) (by decide +kernel)
theorem se_X7_isFitBy : Cond.selects "BellFoundry$Order" yX7_isFitBy yX7_isFitBy ∈ WW := wwT 588 (by decide +kernel) (by decide +kernel)
theorem se_X7_takesPitch : Cond.selects "BellFoundry$Order" yX7_takesPitch yX7_takesPitch ∈ WW := wwT 592 (by decide +kernel) (by decide +kernel)
theorem se_X10_orderOf : Cond.selects "BellFoundry" yX10_orderOf yX10_orderOf ∈ WW := wwT 599 (by decide +kernel) (by decide +kernel)
theorem se_X9_lowestBellFor : Cond.selects "BellFoundry$Works" yX9_lowestBellFor yX9_lowestBellFor ∈ WW := wwT 603 (by decide +kernel) (by decide +kernel)
theorem se_X9_bellsFor : Cond.selects "BellFoundry$Works" yX9_bellsFor yX9_bellsFor ∈ WW := wwT 608 (by decide +kernel) (by decide +kernel)
theorem se_X10_tuneFor : Cond.selects "BellFoundry" yX10_tuneFor yX10_tuneFor ∈ WW := wwT 612 (by decide +kernel) (by decide +kernel)
theorem se_X9_fewestPoundsToFit : Cond.selects "BellFoundry$Works" yX9_fewestPoundsToFit yX9_fewestPoundsToFit ∈ WW := wwT 616 (by decide +kernel) (by decide +kernel)
theorem se_X10_pourFor : Cond.selects "BellFoundry" yX10_pourFor yX10_pourFor ∈ WW := wwT 625 (by decide +kernel) (by decide +kernel)
theorem se_X9_heaviestBellFor : Cond.selects "BellFoundry$Works" yX9_heaviestBellFor yX9_heaviestBellFor ∈ WW := wwT 629 (by decide +kernel) (by decide +kernel)
theorem se_X6_alloyOfDraw : Cond.selects "BellFoundry$Mixture" yX6_alloyOfDraw yX6_alloyOfDraw ∈ WW := wwT 644 (by decide +kernel) (by decide +kernel)
theorem se_X10_wagons : Cond.selects "BellFoundry" yX10_wagons yX10_wagons ∈ WW := wwT 648 (by decide +kernel) (by decide +kernel)
theorem se_X8_clear : Cond.selects "BellFoundry$WagonPacker" yX8_clear yX8_clear ∈ WW := wwT 652 (by decide +kernel) (by decide +kernel)
theorem se_X8_add : Cond.selects "BellFoundry$WagonPacker" yX8_add yX8_add ∈ WW := wwT 656 (by decide +kernel) (by decide +kernel)
theorem se_X8_heaviest : Cond.selects "BellFoundry$WagonPacker" yX8_heaviest yX8_heaviest ∈ WW := wwT 660 (by decide +kernel) (by decide +kernel)
theorem se_X8_fewestWagons : Cond.selects "BellFoundry$WagonPacker" yX8_fewestWagons yX8_fewestWagons ∈ WW := wwT 665 (by decide +kernel) (by decide +kernel)
theorem se_X10_account : Cond.selects "BellFoundry" yX10_account yX10_account ∈ WW := wwT 675 (by decide +kernel) (by decide +kernel)
theorem se_X2_of : Cond.selects "BellFoundry$Heap" yX2_of yX2_of ∈ WW := wwT 679 (by decide +kernel) (by decide +kernel)
theorem se_X9_inBells : Cond.selects "BellFoundry$Works" yX9_inBells yX9_inBells ∈ WW := wwT 684 (by decide +kernel) (by decide +kernel)
theorem se_X10_count : Cond.selects "BellFoundry" yX10_count yX10_count ∈ WW := wwT 689 (by decide +kernel) (by decide +kernel)
theorem se_X10_undo : Cond.selects "BellFoundry" yX10_undo yX10_undo ∈ WW := wwT 694 (by decide +kernel) (by decide +kernel)
theorem se_X3_restore : Cond.selects "BellFoundry$History" yX3_restore yX3_restore ∈ WW := wwT 698 (by decide +kernel) (by decide +kernel)
theorem se_X10_type : Cond.selects "BellFoundry" yX10_type yX10_type ∈ WW := wwT 702 (by decide +kernel) (by decide +kernel)
theorem se_X10_clearText : Cond.selects "BellFoundry" yX10_clearText yX10_clearText ∈ WW := wwT 706 (by decide +kernel) (by decide +kernel)
theorem se_X10_fault : Cond.selects "BellFoundry" yX10_fault yX10_fault ∈ WW := wwT 710 (by decide +kernel) (by decide +kernel)
theorem se_X1_read : Cond.selects "BellFoundry$FrameReader" yX1_read yX1_read ∈ WW := wwT 714 (by decide +kernel) (by decide +kernel)
theorem se_X4_hangBell : Cond.selects "BellFoundry$Load" yX4_hangBell yX4_hangBell ∈ WW := wwT 738 (by decide +kernel) (by decide +kernel)
theorem se_X4_copyFrom : Cond.selects "BellFoundry$Load" yX4_copyFrom yX4_copyFrom ∈ WW := wwT 759 (by decide +kernel) (by decide +kernel)
theorem se_X4_hangBeam : Cond.selects "BellFoundry$Load" yX4_hangBeam yX4_hangBeam ∈ WW := wwT 768 (by decide +kernel) (by decide +kernel)
theorem se_X10_frame : Cond.selects "BellFoundry" yX10_frame yX10_frame ∈ WW := wwT 776 (by decide +kernel) (by decide +kernel)
theorem se_X1_tell : Cond.selects "BellFoundry$FrameReader" yX1_tell yX1_tell ∈ WW := wwT 780 (by decide +kernel) (by decide +kernel)
theorem se_X11_buy : Cond.selects "BellFoundryModel" yX11_buy yX11_buy ∈ WW := wwT 854 (by decide +kernel) (by decide +kernel)
theorem se_X11_charge : Cond.selects "BellFoundryModel" yX11_charge yX11_charge ∈ WW := wwT 870 (by decide +kernel) (by decide +kernel)
theorem se_X11_scrap : Cond.selects "BellFoundryModel" yX11_scrap yX11_scrap ∈ WW := wwT 878 (by decide +kernel) (by decide +kernel)
theorem se_X11_lot : Cond.selects "BellFoundryModel" yX11_lot yX11_lot ∈ WW := wwT 902 (by decide +kernel) (by decide +kernel)
theorem se_X11_melt : Cond.selects "BellFoundryModel" yX11_melt yX11_melt ∈ WW := wwT 914 (by decide +kernel) (by decide +kernel)
theorem se_X11_set : Cond.selects "BellFoundryModel" yX11_set yX11_set ∈ WW := wwT 918 (by decide +kernel) (by decide +kernel)
theorem se_X11_pour : Cond.selects "BellFoundryModel" yX11_pour yX11_pour ∈ WW := wwT 925 (by decide +kernel) (by decide +kernel)
theorem se_X11_tune : Cond.selects "BellFoundryModel" yX11_tune yX11_tune ∈ WW := wwT 974 (by decide +kernel) (by decide +kernel)
theorem se_X11_smash : Cond.selects "BellFoundryModel" yX11_smash yX11_smash ∈ WW := wwT 990 (by decide +kernel) (by decide +kernel)
theorem se_X11_bell : Cond.selects "BellFoundryModel" yX11_bell yX11_bell ∈ WW := wwT 994 (by decide +kernel) (by decide +kernel)
theorem se_X11_order : Cond.selects "BellFoundryModel" yX11_order yX11_order ∈ WW := wwT 998 (by decide +kernel) (by decide +kernel)
theorem se_X11_cancel : Cond.selects "BellFoundryModel" yX11_cancel yX11_cancel ∈ WW := wwT 1010 (by decide +kernel) (by decide +kernel)
theorem se_X11_send : Cond.selects "BellFoundryModel" yX11_send yX11_send ∈ WW := wwT 1018 (by decide +kernel) (by decide +kernel)
theorem se_X11_orderOf : Cond.selects "BellFoundryModel" yX11_orderOf yX11_orderOf ∈ WW := wwT 1030 (by decide +kernel) (by decide +kernel)
theorem se_X11_tuneFor : Cond.selects "BellFoundryModel" yX11_tuneFor yX11_tuneFor ∈ WW := wwT 1034 (by decide +kernel) (by decide +kernel)
theorem se_X11_pourFor : Cond.selects "BellFoundryModel" yX11_pourFor yX11_pourFor ∈ WW := wwT 1038 (by decide +kernel) (by decide +kernel)
theorem se_X11_wagons : Cond.selects "BellFoundryModel" yX11_wagons yX11_wagons ∈ WW := wwT 1050 (by decide +kernel) (by decide +kernel)
theorem se_X11_account : Cond.selects "BellFoundryModel" yX11_account yX11_account ∈ WW := wwT 1058 (by decide +kernel) (by decide +kernel)
theorem se_X11_count : Cond.selects "BellFoundryModel" yX11_count yX11_count ∈ WW := wwT 1070 (by decide +kernel) (by decide +kernel)
theorem se_X11_undo : Cond.selects "BellFoundryModel" yX11_undo yX11_undo ∈ WW := wwT 1078 (by decide +kernel) (by decide +kernel)
theorem se_X11_type : Cond.selects "BellFoundryModel" yX11_type yX11_type ∈ WW := wwT 1082 (by decide +kernel) (by decide +kernel)
theorem se_X11_clearText : Cond.selects "BellFoundryModel" yX11_clearText yX11_clearText ∈ WW := wwT 1086 (by decide +kernel) (by decide +kernel)
theorem se_X11_fault : Cond.selects "BellFoundryModel" yX11_fault yX11_fault ∈ WW := wwT 1090 (by decide +kernel) (by decide +kernel)
theorem se_X11_frame : Cond.selects "BellFoundryModel" yX11_frame yX11_frame ∈ WW := wwT 1114 (by decide +kernel) (by decide +kernel)
theorem se_X3_dropOldest : Cond.selects yX3_dropOldest.cls yX3_dropOldest yX3_dropOldest ∈ WW := wwS (q := (yX3_dropOldest, 2)) 0 (by decide +kernel) (by decide +kernel)
theorem se_X9_burn : Cond.selects yX9_burn.cls yX9_burn yX9_burn ∈ WW := wwS (q := (yX9_burn, 12)) 1 (by decide +kernel) (by decide +kernel)
theorem se_X9_sprueOf : Cond.selects yX9_sprueOf.cls yX9_sprueOf yX9_sprueOf ∈ WW := wwS (q := (yX9_sprueOf, 12)) 2 (by decide +kernel) (by decide +kernel)
theorem se_X6_copperOfDraw : Cond.selects yX6_copperOfDraw.cls yX6_copperOfDraw yX6_copperOfDraw ∈ WW := wwS (q := (yX6_copperOfDraw, 2)) 3 (by decide +kernel) (by decide +kernel)
theorem se_X8_bestFor : Cond.selects yX8_bestFor.cls yX8_bestFor yX8_bestFor ∈ WW := wwS (q := (yX8_bestFor, 3)) 4 (by decide +kernel) (by decide +kernel)
theorem se_X1_begin : Cond.selects yX1_begin.cls yX1_begin yX1_begin ∈ WW := wwS (q := (yX1_begin, 12)) 5 (by decide +kernel) (by decide +kernel)
theorem se_X1_readBell : Cond.selects yX1_readBell.cls yX1_readBell yX1_readBell ∈ WW := wwS (q := (yX1_readBell, 12)) 6 (by decide +kernel) (by decide +kernel)
theorem se_X1_endFrame : Cond.selects yX1_endFrame.cls yX1_endFrame yX1_endFrame ∈ WW := wwS (q := (yX1_endFrame, 12)) 7 (by decide +kernel) (by decide +kernel)
theorem se_X1_readSign : Cond.selects yX1_readSign.cls yX1_readSign yX1_readSign ∈ WW := wwS (q := (yX1_readSign, 12)) 8 (by decide +kernel) (by decide +kernel)
theorem se_X1_openBeam : Cond.selects yX1_openBeam.cls yX1_openBeam yX1_openBeam ∈ WW := wwS (q := (yX1_openBeam, 12)) 9 (by decide +kernel) (by decide +kernel)
theorem se_X1_passComma : Cond.selects yX1_passComma.cls yX1_passComma yX1_passComma ∈ WW := wwS (q := (yX1_passComma, 12)) 10 (by decide +kernel) (by decide +kernel)
theorem se_X1_closeBeam : Cond.selects yX1_closeBeam.cls yX1_closeBeam yX1_closeBeam ∈ WW := wwS (q := (yX1_closeBeam, 12)) 11 (by decide +kernel) (by decide +kernel)
theorem se_X11_keeps : Cond.selects yX11_keeps.cls yX11_keeps yX11_keeps ∈ WW := wwS (q := (yX11_keeps, 21)) 12 (by decide +kernel) (by decide +kernel)
theorem se_X11_weight : Cond.selects yX11_weight.cls yX11_weight yX11_weight ∈ WW := wwS (q := (yX11_weight, 21)) 13 (by decide +kernel) (by decide +kernel)
theorem se_X11_isLot : Cond.selects yX11_isLot.cls yX11_isLot yX11_isLot ∈ WW := wwS (q := (yX11_isLot, 21)) 14 (by decide +kernel) (by decide +kernel)
theorem se_X11_burns : Cond.selects yX11_burns.cls yX11_burns yX11_burns ∈ WW := wwS (q := (yX11_burns, 21)) 15 (by decide +kernel) (by decide +kernel)
theorem se_X11_burnt : Cond.selects yX11_burnt.cls yX11_burnt yX11_burnt ∈ WW := wwS (q := (yX11_burnt, 21)) 16 (by decide +kernel) (by decide +kernel)
theorem se_X11_setting : Cond.selects yX11_setting.cls yX11_setting yX11_setting ∈ WW := wwS (q := (yX11_setting, 21)) 17 (by decide +kernel) (by decide +kernel)
theorem se_X11_moves : Cond.selects yX11_moves.cls yX11_moves yX11_moves ∈ WW := wwS (q := (yX11_moves, 21)) 18 (by decide +kernel) (by decide +kernel)
theorem se_X11_alloy : Cond.selects yX11_alloy.cls yX11_alloy yX11_alloy ∈ WW := wwS (q := (yX11_alloy, 21)) 19 (by decide +kernel) (by decide +kernel)
theorem se_X11_sprueOf : Cond.selects yX11_sprueOf.cls yX11_sprueOf yX11_sprueOf ∈ WW := wwS (q := (yX11_sprueOf, 21)) 20 (by decide +kernel) (by decide +kernel)
theorem se_X11_here : Cond.selects yX11_here.cls yX11_here yX11_here ∈ WW := wwS (q := (yX11_here, 21)) 21 (by decide +kernel) (by decide +kernel)
theorem se_X11_isHere : Cond.selects yX11_isHere.cls yX11_isHere yX11_isHere ∈ WW := wwS (q := (yX11_isHere, 21)) 22 (by decide +kernel) (by decide +kernel)
theorem se_X11_of : Cond.selects yX11_of.cls yX11_of yX11_of ∈ WW := wwS (q := (yX11_of, 21)) 23 (by decide +kernel) (by decide +kernel)
theorem se_X11_draws : Cond.selects yX11_draws.cls yX11_draws yX11_draws ∈ WW := wwS (q := (yX11_draws, 21)) 24 (by decide +kernel) (by decide +kernel)
theorem se_X11_scraps : Cond.selects yX11_scraps.cls yX11_scraps yX11_scraps ∈ WW := wwS (q := (yX11_scraps, 21)) 25 (by decide +kernel) (by decide +kernel)
theorem se_X11_comes : Cond.selects yX11_comes.cls yX11_comes yX11_comes ∈ WW := wwS (q := (yX11_comes, 21)) 26 (by decide +kernel) (by decide +kernel)
theorem se_X11_isBell : Cond.selects yX11_isBell.cls yX11_isBell yX11_isBell ∈ WW := wwS (q := (yX11_isBell, 21)) 27 (by decide +kernel) (by decide +kernel)
theorem se_X11_lowered : Cond.selects yX11_lowered.cls yX11_lowered yX11_lowered ∈ WW := wwS (q := (yX11_lowered, 21)) 28 (by decide +kernel) (by decide +kernel)
theorem se_X11_wouldCrack : Cond.selects yX11_wouldCrack.cls yX11_wouldCrack yX11_wouldCrack ∈ WW := wwS (q := (yX11_wouldCrack, 21)) 29 (by decide +kernel) (by decide +kernel)
theorem se_X11_ordersThatAre : Cond.selects yX11_ordersThatAre.cls yX11_ordersThatAre yX11_ordersThatAre ∈ WW := wwS (q := (yX11_ordersThatAre, 21)) 30 (by decide +kernel) (by decide +kernel)
theorem se_X11_ofOrder : Cond.selects yX11_ofOrder.cls yX11_ofOrder yX11_ofOrder ∈ WW := wwS (q := (yX11_ofOrder, 21)) 31 (by decide +kernel) (by decide +kernel)
theorem se_X11_isOrder : Cond.selects yX11_isOrder.cls yX11_isOrder yX11_isOrder ∈ WW := wwS (q := (yX11_isOrder, 21)) 32 (by decide +kernel) (by decide +kernel)
theorem se_X11_fits : Cond.selects yX11_fits.cls yX11_fits yX11_fits ∈ WW := wwS (q := (yX11_fits, 21)) 33 (by decide +kernel) (by decide +kernel)
theorem se_X11_isPitch : Cond.selects yX11_isPitch.cls yX11_isPitch yX11_isPitch ∈ WW := wwS (q := (yX11_isPitch, 21)) 34 (by decide +kernel) (by decide +kernel)
theorem se_X11_laysAside : Cond.selects yX11_laysAside.cls yX11_laysAside yX11_laysAside ∈ WW := wwS (q := (yX11_laysAside, 21)) 35 (by decide +kernel) (by decide +kernel)
theorem se_X11_bringsBack : Cond.selects yX11_bringsBack.cls yX11_bringsBack yX11_bringsBack ∈ WW := wwS (q := (yX11_bringsBack, 21)) 36 (by decide +kernel) (by decide +kernel)
theorem se_X11_takesBells : Cond.selects yX11_takesBells.cls yX11_takesBells yX11_takesBells ∈ WW := wwS (q := (yX11_takesBells, 21)) 37 (by decide +kernel) (by decide +kernel)
theorem se_X11_inScrap : Cond.selects yX11_inScrap.cls yX11_inScrap yX11_inScrap ∈ WW := wwS (q := (yX11_inScrap, 21)) 38 (by decide +kernel) (by decide +kernel)
theorem se_X11_inBells : Cond.selects yX11_inBells.cls yX11_inBells yX11_inBells ∈ WW := wwS (q := (yX11_inBells, 21)) 39 (by decide +kernel) (by decide +kernel)
theorem se_X11_bellsThatAre : Cond.selects yX11_bellsThatAre.cls yX11_bellsThatAre yX11_bellsThatAre ∈ WW := wwS (q := (yX11_bellsThatAre, 21)) 40 (by decide +kernel) (by decide +kernel)
theorem se_X11_reads : Cond.selects yX11_reads.cls yX11_reads yX11_reads ∈ WW := wwS (q := (yX11_reads, 21)) 41 (by decide +kernel) (by decide +kernel)
theorem se_X11_fails : Cond.selects yX11_fails.cls yX11_fails yX11_fails ∈ WW := wwS (q := (yX11_fails, 21)) 42 (by decide +kernel) (by decide +kernel)
theorem se_X11_isDigit : Cond.selects yX11_isDigit.cls yX11_isDigit yX11_isDigit ∈ WW := wwS (q := (yX11_isDigit, 21)) 43 (by decide +kernel) (by decide +kernel)
theorem se_X11_takesBell : Cond.selects yX11_takesBell.cls yX11_takesBell yX11_takesBell ∈ WW := wwS (q := (yX11_takesBell, 21)) 44 (by decide +kernel) (by decide +kernel)
theorem se_X11_takesRest : Cond.selects yX11_takesRest.cls yX11_takesRest yX11_takesRest ∈ WW := wwS (q := (yX11_takesRest, 21)) 45 (by decide +kernel) (by decide +kernel)
theorem se_X11_added : Cond.selects yX11_added.cls yX11_added yX11_added ∈ WW := wwS (q := (yX11_added, 21)) 46 (by decide +kernel) (by decide +kernel)
theorem kV_X10_buy : VW yX10_buy cX10_buy 3 (some .int) 2 := ⟨co_X10_buy, im_X10_buy, se_X10_buy, in_X10, by decide +kernel, by decide +kernel, by decide +kernel⟩
theorem kS_X10_isMetal : SW yX10_isMetal cX10_isMetal 1 (some .boolean) 1 := ⟨co_X10_isMetal, st_X10_isMetal, in_X10, by decide +kernel, by decide +kernel, by decide +kernel⟩
theorem kS_X10_isIn : SW yX10_isIn cX10_isIn 3 (some .boolean) 3 := ⟨co_X10_isIn, st_X10_isIn, in_X10, by decide +kernel, by decide +kernel, by decide +kernel⟩
theorem kV_X6_of : VW yX6_of cX6_of 2 (some .int) 1 := ⟨co_X6_of, im_X6_of, se_X6_of, in_X6, by decide +kernel, by decide +kernel, by decide +kernel⟩
theorem kV_X3_keep : VW yX3_keep cX3_keep 2 none 1 := ⟨co_X3_keep, im_X3_keep, se_X3_keep, in_X3, by decide +kernel, by decide +kernel, by decide +kernel⟩
theorem kV_X3_dropOldest : VW yX3_dropOldest cX3_dropOldest 3 none 0 := ⟨co_X3_dropOldest, im_X3_dropOldest, se_X3_dropOldest, in_X3, by decide +kernel, by decide +kernel, by decide +kernel⟩
theorem kV_X9_copyFrom : VW yX9_copyFrom cX9_copyFrom 3 none 1 := ⟨co_X9_copyFrom, im_X9_copyFrom, se_X9_copyFrom, in_X9, by decide +kernel, by decide +kernel, by decide +kernel⟩
theorem kV_X6_copyFrom : VW yX6_copyFrom cX6_copyFrom 2 none 1 := ⟨co_X6_copyFrom, im_X6_copyFrom, se_X6_copyFrom, in_X6, by decide +kernel, by decide +kernel, by decide +kernel⟩
theorem kV_X2_copyFrom : VW yX2_copyFrom cX2_copyFrom 3 none 1 := ⟨co_X2_copyFrom, im_X2_copyFrom, se_X2_copyFrom, in_X2, by decide +kernel, by decide +kernel, by decide +kernel⟩
theorem kV_X0_copyFrom : VW yX0_copyFrom cX0_copyFrom 2 none 1 := ⟨co_X0_copyFrom, im_X0_copyFrom, se_X0_copyFrom, in_X0, by decide +kernel, by decide +kernel, by decide +kernel⟩
theorem kV_X7_copyFrom : VW yX7_copyFrom cX7_copyFrom 2 none 1 := ⟨co_X7_copyFrom, im_X7_copyFrom, se_X7_copyFrom, in_X7, by decide +kernel, by decide +kernel, by decide +kernel⟩
theorem kV_X6_put : VW yX6_put cX6_put 3 none 2 := ⟨co_X6_put, im_X6_put, se_X6_put, in_X6, by decide +kernel, by decide +kernel, by decide +kernel⟩
theorem kV_X10_charge : VW yX10_charge cX10_charge 3 (some .int) 2 := ⟨co_X10_charge, im_X10_charge, se_X10_charge, in_X10, by decide +kernel, by decide +kernel, by decide +kernel⟩
theorem kV_X6_weight : VW yX6_weight cX6_weight 1 (some .int) 0 := ⟨co_X6_weight, im_X6_weight, se_X6_weight, in_X6, by decide +kernel, by decide +kernel, by decide +kernel⟩
theorem kV_X10_scrap : VW yX10_scrap cX10_scrap 3 (some .int) 1 := ⟨co_X10_scrap, im_X10_scrap, se_X10_scrap, in_X10, by decide +kernel, by decide +kernel, by decide +kernel⟩
theorem kV_X2_at : VW yX2_at cX2_at 2 (some (.object "BellFoundry$Lot")) 1 := ⟨co_X2_at, im_X2_at, se_X2_at, in_X2, by decide +kernel, by decide +kernel, by decide +kernel⟩
theorem kV_X9_meltDown : VW yX9_meltDown cX9_meltDown 2 none 1 := ⟨co_X9_meltDown, im_X9_meltDown, se_X9_meltDown, in_X9, by decide +kernel, by decide +kernel, by decide +kernel⟩
theorem kV_X9_burn : VW yX9_burn cX9_burn 4 none 1 := ⟨co_X9_burn, im_X9_burn, se_X9_burn, in_X9, by decide +kernel, by decide +kernel, by decide +kernel⟩
theorem kV_X6_lossOf : VW yX6_lossOf cX6_lossOf 3 (some .int) 2 := ⟨co_X6_lossOf, im_X6_lossOf, se_X6_lossOf, in_X6, by decide +kernel, by decide +kernel, by decide +kernel⟩
theorem kS_X10_shareRoundedUp : SW yX10_shareRoundedUp cX10_shareRoundedUp 2 (some .int) 2 := ⟨co_X10_shareRoundedUp, st_X10_shareRoundedUp, in_X10, by decide +kernel, by decide +kernel, by decide +kernel⟩
theorem kV_X6_mixWith : VW yX6_mixWith cX6_mixWith 2 none 1 := ⟨co_X6_mixWith, im_X6_mixWith, se_X6_mixWith, in_X6, by decide +kernel, by decide +kernel, by decide +kernel⟩
theorem kV_X2_remove : VW yX2_remove cX2_remove 4 none 1 := ⟨co_X2_remove, im_X2_remove, se_X2_remove, in_X2, by decide +kernel, by decide +kernel, by decide +kernel⟩
theorem kV_X10_lot : VW yX10_lot cX10_lot 4 (some .int) 2 := ⟨co_X10_lot, im_X10_lot, se_X10_lot, in_X10, by decide +kernel, by decide +kernel, by decide +kernel⟩
theorem kV_X6_tell : VW yX6_tell cX6_tell 2 (some .int) 1 := ⟨co_X6_tell, im_X6_tell, se_X6_tell, in_X6, by decide +kernel, by decide +kernel, by decide +kernel⟩
theorem kV_X6_alloy : VW yX6_alloy cX6_alloy 1 (some .int) 0 := ⟨co_X6_alloy, im_X6_alloy, se_X6_alloy, in_X6, by decide +kernel, by decide +kernel, by decide +kernel⟩
theorem kS_X6_alloyOf : SW yX6_alloyOf cX6_alloyOf 2 (some .int) 2 := ⟨co_X6_alloyOf, st_X6_alloyOf, in_X6, by decide +kernel, by decide +kernel, by decide +kernel⟩
theorem kV_X10_melt : VW yX10_melt cX10_melt 2 (some .int) 1 := ⟨co_X10_melt, im_X10_melt, se_X10_melt, in_X10, by decide +kernel, by decide +kernel, by decide +kernel⟩
theorem kV_X9_burntMelt : VW yX9_burntMelt cX9_burntMelt 2 (some (.object "BellFoundry$Mixture")) 0 := ⟨co_X9_burntMelt, im_X9_burntMelt, se_X9_burntMelt, in_X9, by decide +kernel, by decide +kernel, by decide +kernel⟩
theorem kV_X10_set : VW yX10_set cX10_set 4 (some .int) 2 := ⟨co_X10_set, im_X10_set, se_X10_set, in_X10, by decide +kernel, by decide +kernel, by decide +kernel⟩
theorem kV_X10_pour : VW yX10_pour cX10_pour 3 (some .int) 2 := ⟨co_X10_pour, im_X10_pour, se_X10_pour, in_X10, by decide +kernel, by decide +kernel, by decide +kernel⟩
theorem kS_X10_isProfile : SW yX10_isProfile cX10_isProfile 1 (some .boolean) 1 := ⟨co_X10_isProfile, st_X10_isProfile, in_X10, by decide +kernel, by decide +kernel, by decide +kernel⟩
theorem kV_X9_weightWithSprue : VW yX9_weightWithSprue cX9_weightWithSprue 2 (some .int) 1 := ⟨co_X9_weightWithSprue, im_X9_weightWithSprue, se_X9_weightWithSprue, in_X9, by decide +kernel, by decide +kernel, by decide +kernel⟩
theorem kV_X9_sprueOf : VW yX9_sprueOf cX9_sprueOf 2 (some .int) 1 := ⟨co_X9_sprueOf, im_X9_sprueOf, se_X9_sprueOf, in_X9, by decide +kernel, by decide +kernel, by decide +kernel⟩
theorem kV_X9_remainingBells : VW yX9_remainingBells cX9_remainingBells 1 (some .int) 0 := ⟨co_X9_remainingBells, im_X9_remainingBells, se_X9_remainingBells, in_X9, by decide +kernel, by decide +kernel, by decide +kernel⟩
theorem kV_X9_bellsIn : VW yX9_bellsIn cX9_bellsIn 4 (some .int) 1 := ⟨co_X9_bellsIn, im_X9_bellsIn, se_X9_bellsIn, in_X9, by decide +kernel, by decide +kernel, by decide +kernel⟩
theorem kV_X9_castBell : VW yX9_castBell cX9_castBell 5 (some .int) 2 := ⟨co_X9_castBell, im_X9_castBell, se_X9_castBell, in_X9, by decide +kernel, by decide +kernel, by decide +kernel⟩
theorem kV_X6_drawInto : VW yX6_drawInto cX6_drawInto 4 none 2 := ⟨co_X6_drawInto, im_X6_drawInto, se_X6_drawInto, in_X6, by decide +kernel, by decide +kernel, by decide +kernel⟩
theorem kV_X6_copperOfDraw : VW yX6_copperOfDraw cX6_copperOfDraw 3 (some .int) 1 := ⟨co_X6_copperOfDraw, im_X6_copperOfDraw, se_X6_copperOfDraw, in_X6, by decide +kernel, by decide +kernel, by decide +kernel⟩
theorem kV_X2_add : VW yX2_add cX2_add 3 none 2 := ⟨co_X2_add, im_X2_add, se_X2_add, in_X2, by decide +kernel, by decide +kernel, by decide +kernel⟩
theorem kV_X6_empty : VW yX6_empty cX6_empty 1 none 0 := ⟨co_X6_empty, im_X6_empty, se_X6_empty, in_X6, by decide +kernel, by decide +kernel, by decide +kernel⟩
theorem kS_X10_rootOf : SW yX10_rootOf cX10_rootOf 3 (some .int) 1 := ⟨co_X10_rootOf, st_X10_rootOf, in_X10, by decide +kernel, by decide +kernel, by decide +kernel⟩
theorem kS_X10_cube : SW yX10_cube cX10_cube 2 (some .long) 1 := ⟨co_X10_cube, st_X10_cube, in_X10, by decide +kernel, by decide +kernel, by decide +kernel⟩
theorem kS_X10_firstPitch : SW yX10_firstPitch cX10_firstPitch 3 (some .int) 3 := ⟨co_X10_firstPitch, st_X10_firstPitch, in_X10, by decide +kernel, by decide +kernel, by decide +kernel⟩
theorem kV_X10_tune : VW yX10_tune cX10_tune 4 (some .int) 2 := ⟨co_X10_tune, im_X10_tune, se_X10_tune, in_X10, by decide +kernel, by decide +kernel, by decide +kernel⟩
theorem kV_X9_bellAt : VW yX9_bellAt cX9_bellAt 2 (some (.object "BellFoundry$Bell")) 1 := ⟨co_X9_bellAt, im_X9_bellAt, se_X9_bellAt, in_X9, by decide +kernel, by decide +kernel, by decide +kernel⟩
theorem kV_X9_shave : VW yX9_shave cX9_shave 3 none 2 := ⟨co_X9_shave, im_X9_shave, se_X9_shave, in_X9, by decide +kernel, by decide +kernel, by decide +kernel⟩
theorem kV_X0_pitchBehind : VW yX0_pitchBehind cX0_pitchBehind 3 (some .int) 2 := ⟨co_X0_pitchBehind, im_X0_pitchBehind, se_X0_pitchBehind, in_X0, by decide +kernel, by decide +kernel, by decide +kernel⟩
theorem kV_X0_cracksBy : VW yX0_cracksBy cX0_cracksBy 2 (some .boolean) 1 := ⟨co_X0_cracksBy, im_X0_cracksBy, se_X0_cracksBy, in_X0, by decide +kernel, by decide +kernel, by decide +kernel⟩
theorem kV_X10_smash : VW yX10_smash cX10_smash 4 (some .int) 1 := ⟨co_X10_smash, im_X10_smash, se_X10_smash, in_X10, by decide +kernel, by decide +kernel, by decide +kernel⟩
theorem kV_X0_remains : VW yX0_remains cX0_remains 1 (some .boolean) 0 := ⟨co_X0_remains, im_X0_remains, se_X0_remains, in_X0, by decide +kernel, by decide +kernel, by decide +kernel⟩
theorem kV_X9_breakUp : VW yX9_breakUp cX9_breakUp 2 none 1 := ⟨co_X9_breakUp, im_X9_breakUp, se_X9_breakUp, in_X9, by decide +kernel, by decide +kernel, by decide +kernel⟩
theorem kV_X10_bell : VW yX10_bell cX10_bell 4 (some .int) 2 := ⟨co_X10_bell, im_X10_bell, se_X10_bell, in_X10, by decide +kernel, by decide +kernel, by decide +kernel⟩
theorem kV_X10_order : VW yX10_order cX10_order 4 (some .int) 3 := ⟨co_X10_order, im_X10_order, se_X10_order, in_X10, by decide +kernel, by decide +kernel, by decide +kernel⟩
theorem kV_X9_ordersIn : VW yX9_ordersIn cX9_ordersIn 4 (some .int) 1 := ⟨co_X9_ordersIn, im_X9_ordersIn, se_X9_ordersIn, in_X9, by decide +kernel, by decide +kernel, by decide +kernel⟩
theorem kV_X9_takeOrder : VW yX9_takeOrder cX9_takeOrder 5 (some .int) 3 := ⟨co_X9_takeOrder, im_X9_takeOrder, se_X9_takeOrder, in_X9, by decide +kernel, by decide +kernel, by decide +kernel⟩
theorem kV_X10_cancel : VW yX10_cancel cX10_cancel 3 (some .int) 1 := ⟨co_X10_cancel, im_X10_cancel, se_X10_cancel, in_X10, by decide +kernel, by decide +kernel, by decide +kernel⟩
theorem kV_X9_orderAt : VW yX9_orderAt cX9_orderAt 2 (some (.object "BellFoundry$Order")) 1 := ⟨co_X9_orderAt, im_X9_orderAt, se_X9_orderAt, in_X9, by decide +kernel, by decide +kernel, by decide +kernel⟩
theorem kV_X10_send : VW yX10_send cX10_send 6 (some .int) 2 := ⟨co_X10_send, im_X10_send, se_X10_send, in_X10, by decide +kernel, by decide +kernel, by decide +kernel⟩
theorem kV_X7_isFitBy : VW yX7_isFitBy cX7_isFitBy 2 (some .boolean) 1 := ⟨co_X7_isFitBy, im_X7_isFitBy, se_X7_isFitBy, in_X7, by decide +kernel, by decide +kernel, by decide +kernel⟩
theorem kV_X7_takesPitch : VW yX7_takesPitch cX7_takesPitch 2 (some .boolean) 1 := ⟨co_X7_takesPitch, im_X7_takesPitch, se_X7_takesPitch, in_X7, by decide +kernel, by decide +kernel, by decide +kernel⟩
theorem kV_X10_orderOf : VW yX10_orderOf cX10_orderOf 4 (some .int) 2 := ⟨co_X10_orderOf, im_X10_orderOf, se_X10_orderOf, in_X10, by decide +kernel, by decide +kernel, by decide +kernel⟩
theorem kV_X9_lowestBellFor : VW yX9_lowestBellFor cX9_lowestBellFor 3 (some .int) 1 := ⟨co_X9_lowestBellFor, im_X9_lowestBellFor, se_X9_lowestBellFor, in_X9, by decide +kernel, by decide +kernel, by decide +kernel⟩
theorem kV_X9_bellsFor : VW yX9_bellsFor cX9_bellsFor 4 (some .int) 1 := ⟨co_X9_bellsFor, im_X9_bellsFor, se_X9_bellsFor, in_X9, by decide +kernel, by decide +kernel, by decide +kernel⟩
theorem kV_X10_tuneFor : VW yX10_tuneFor cX10_tuneFor 5 (some .int) 2 := ⟨co_X10_tuneFor, im_X10_tuneFor, se_X10_tuneFor, in_X10, by decide +kernel, by decide +kernel, by decide +kernel⟩
theorem kV_X9_fewestPoundsToFit : VW yX9_fewestPoundsToFit cX9_fewestPoundsToFit 5 (some .int) 2 := ⟨co_X9_fewestPoundsToFit, im_X9_fewestPoundsToFit, se_X9_fewestPoundsToFit, in_X9, by decide +kernel, by decide +kernel, by decide +kernel⟩
theorem kV_X10_pourFor : VW yX10_pourFor cX10_pourFor 3 (some .int) 1 := ⟨co_X10_pourFor, im_X10_pourFor, se_X10_pourFor, in_X10, by decide +kernel, by decide +kernel, by decide +kernel⟩
theorem kV_X9_heaviestBellFor : VW yX9_heaviestBellFor cX9_heaviestBellFor 6 (some .int) 1 := ⟨co_X9_heaviestBellFor, im_X9_heaviestBellFor, se_X9_heaviestBellFor, in_X9, by decide +kernel, by decide +kernel, by decide +kernel⟩
theorem kS_X10_heaviestAtPitch : SW yX10_heaviestAtPitch cX10_heaviestAtPitch 5 (some .int) 2 := ⟨co_X10_heaviestAtPitch, st_X10_heaviestAtPitch, in_X10, by decide +kernel, by decide +kernel, by decide +kernel⟩
theorem kV_X6_alloyOfDraw : VW yX6_alloyOfDraw cX6_alloyOfDraw 2 (some .int) 1 := ⟨co_X6_alloyOfDraw, im_X6_alloyOfDraw, se_X6_alloyOfDraw, in_X6, by decide +kernel, by decide +kernel, by decide +kernel⟩
theorem kV_X10_wagons : VW yX10_wagons cX10_wagons 5 (some .int) 1 := ⟨co_X10_wagons, im_X10_wagons, se_X10_wagons, in_X10, by decide +kernel, by decide +kernel, by decide +kernel⟩
theorem kV_X8_clear : VW yX8_clear cX8_clear 1 none 0 := ⟨co_X8_clear, im_X8_clear, se_X8_clear, in_X8, by decide +kernel, by decide +kernel, by decide +kernel⟩
theorem kV_X8_add : VW yX8_add cX8_add 2 none 1 := ⟨co_X8_add, im_X8_add, se_X8_add, in_X8, by decide +kernel, by decide +kernel, by decide +kernel⟩
theorem kV_X8_heaviest : VW yX8_heaviest cX8_heaviest 3 (some .int) 0 := ⟨co_X8_heaviest, im_X8_heaviest, se_X8_heaviest, in_X8, by decide +kernel, by decide +kernel, by decide +kernel⟩
theorem kV_X8_fewestWagons : VW yX8_fewestWagons cX8_fewestWagons 4 (some .int) 1 := ⟨co_X8_fewestWagons, im_X8_fewestWagons, se_X8_fewestWagons, in_X8, by decide +kernel, by decide +kernel, by decide +kernel⟩
theorem kV_X8_bestFor : VW yX8_bestFor cX8_bestFor 8 (some .int) 2 := ⟨co_X8_bestFor, im_X8_bestFor, se_X8_bestFor, in_X8, by decide +kernel, by decide +kernel, by decide +kernel⟩
theorem kV_X10_account : VW yX10_account cX10_account 3 (some .int) 2 := ⟨co_X10_account, im_X10_account, se_X10_account, in_X10, by decide +kernel, by decide +kernel, by decide +kernel⟩
theorem kV_X2_of : VW yX2_of cX2_of 4 (some .int) 1 := ⟨co_X2_of, im_X2_of, se_X2_of, in_X2, by decide +kernel, by decide +kernel, by decide +kernel⟩
theorem kV_X9_inBells : VW yX9_inBells cX9_inBells 5 (some .int) 2 := ⟨co_X9_inBells, im_X9_inBells, se_X9_inBells, in_X9, by decide +kernel, by decide +kernel, by decide +kernel⟩
theorem kV_X10_count : VW yX10_count cX10_count 2 (some .int) 1 := ⟨co_X10_count, im_X10_count, se_X10_count, in_X10, by decide +kernel, by decide +kernel, by decide +kernel⟩
theorem kV_X10_undo : VW yX10_undo cX10_undo 1 (some .int) 0 := ⟨co_X10_undo, im_X10_undo, se_X10_undo, in_X10, by decide +kernel, by decide +kernel, by decide +kernel⟩
theorem kV_X3_restore : VW yX3_restore cX3_restore 2 none 1 := ⟨co_X3_restore, im_X3_restore, se_X3_restore, in_X3, by decide +kernel, by decide +kernel, by decide +kernel⟩
theorem kV_X10_type : VW yX10_type cX10_type 2 (some .int) 1 := ⟨co_X10_type, im_X10_type, se_X10_type, in_X10, by decide +kernel, by decide +kernel, by decide +kernel⟩
theorem kV_X10_clearText : VW yX10_clearText cX10_clearText 2 (some .int) 0 := ⟨co_X10_clearText, im_X10_clearText, se_X10_clearText, in_X10, by decide +kernel, by decide +kernel, by decide +kernel⟩
theorem kV_X10_fault : VW yX10_fault cX10_fault 2 (some .int) 1 := ⟨co_X10_fault, im_X10_fault, se_X10_fault, in_X10, by decide +kernel, by decide +kernel, by decide +kernel⟩
theorem kV_X1_read : VW yX1_read cX1_read 6 none 3 := ⟨co_X1_read, im_X1_read, se_X1_read, in_X1, by decide +kernel, by decide +kernel, by decide +kernel⟩
theorem kV_X1_begin : VW yX1_begin cX1_begin 1 none 0 := ⟨co_X1_begin, im_X1_begin, se_X1_begin, in_X1, by decide +kernel, by decide +kernel, by decide +kernel⟩
theorem kS_J7_fill_53178 : SW yJ7_fill_53178 cJ7_fill_53178 4 none 2 := ⟨co_J7_fill_53178, st_J7_fill_53178, in_J7, by decide +kernel, by decide +kernel, by decide +kernel⟩
theorem kS_X1_isDigit : SW yX1_isDigit cX1_isDigit 1 (some .boolean) 1 := ⟨co_X1_isDigit, st_X1_isDigit, in_X1, by decide +kernel, by decide +kernel, by decide +kernel⟩
theorem kS_X1_digit : SW yX1_digit cX1_digit 1 (some .int) 1 := ⟨co_X1_digit, st_X1_digit, in_X1, by decide +kernel, by decide +kernel, by decide +kernel⟩
theorem kV_X1_readBell : VW yX1_readBell cX1_readBell 4 (some .int) 2 := ⟨co_X1_readBell, im_X1_readBell, se_X1_readBell, in_X1, by decide +kernel, by decide +kernel, by decide +kernel⟩
theorem kV_X4_hangBell : VW yX4_hangBell cX4_hangBell 2 none 1 := ⟨co_X4_hangBell, im_X4_hangBell, se_X4_hangBell, in_X4, by decide +kernel, by decide +kernel, by decide +kernel⟩
theorem kV_X1_endFrame : VW yX1_endFrame cX1_endFrame 1 none 0 := ⟨co_X1_endFrame, im_X1_endFrame, se_X1_endFrame, in_X1, by decide +kernel, by decide +kernel, by decide +kernel⟩
theorem kV_X1_readSign : VW yX1_readSign cX1_readSign 3 (some .int) 2 := ⟨co_X1_readSign, im_X1_readSign, se_X1_readSign, in_X1, by decide +kernel, by decide +kernel, by decide +kernel⟩
theorem kV_X1_openBeam : VW yX1_openBeam cX1_openBeam 1 (some .int) 0 := ⟨co_X1_openBeam, im_X1_openBeam, se_X1_openBeam, in_X1, by decide +kernel, by decide +kernel, by decide +kernel⟩
theorem kV_X1_passComma : VW yX1_passComma cX1_passComma 1 (some .int) 0 := ⟨co_X1_passComma, im_X1_passComma, se_X1_passComma, in_X1, by decide +kernel, by decide +kernel, by decide +kernel⟩
theorem kV_X4_copyFrom : VW yX4_copyFrom cX4_copyFrom 2 none 1 := ⟨co_X4_copyFrom, im_X4_copyFrom, se_X4_copyFrom, in_X4, by decide +kernel, by decide +kernel, by decide +kernel⟩
theorem kV_X1_closeBeam : VW yX1_closeBeam cX1_closeBeam 2 (some .int) 0 := ⟨co_X1_closeBeam, im_X1_closeBeam, se_X1_closeBeam, in_X1, by decide +kernel, by decide +kernel, by decide +kernel⟩
theorem kV_X4_hangBeam : VW yX4_hangBeam cX4_hangBeam 4 none 1 := ⟨co_X4_hangBeam, im_X4_hangBeam, se_X4_hangBeam, in_X4, by decide +kernel, by decide +kernel, by decide +kernel⟩
theorem kS_X4_roundUpTo : SW yX4_roundUpTo cX4_roundUpTo 2 (some .int) 2 := ⟨co_X4_roundUpTo, st_X4_roundUpTo, in_X4, by decide +kernel, by decide +kernel, by decide +kernel⟩
theorem kV_X10_frame : VW yX10_frame cX10_frame 2 (some .int) 1 := ⟨co_X10_frame, im_X10_frame, se_X10_frame, in_X10, by decide +kernel, by decide +kernel, by decide +kernel⟩
theorem kV_X1_tell : VW yX1_tell cX1_tell 2 (some .int) 1 := ⟨co_X1_tell, im_X1_tell, se_X1_tell, in_X1, by decide +kernel, by decide +kernel, by decide +kernel⟩
theorem kV_X11_buy : VW yX11_buy cX11_buy 3 (some .int) 2 := ⟨co_X11_buy, im_X11_buy, se_X11_buy, in_X11, by decide +kernel, by decide +kernel, by decide +kernel⟩
theorem kS_X11_isMetal : SW yX11_isMetal cX11_isMetal 1 (some .boolean) 1 := ⟨co_X11_isMetal, st_X11_isMetal, in_X11, by decide +kernel, by decide +kernel, by decide +kernel⟩
theorem kS_X11_in : SW yX11_in cX11_in 3 (some .boolean) 3 := ⟨co_X11_in, st_X11_in, in_X11, by decide +kernel, by decide +kernel, by decide +kernel⟩
theorem kV_X11_keeps : VW yX11_keeps cX11_keeps 2 none 0 := ⟨co_X11_keeps, im_X11_keeps, se_X11_keeps, in_X11, by decide +kernel, by decide +kernel, by decide +kernel⟩
theorem kV_X11_charge : VW yX11_charge cX11_charge 3 (some .int) 2 := ⟨co_X11_charge, im_X11_charge, se_X11_charge, in_X11, by decide +kernel, by decide +kernel, by decide +kernel⟩
theorem kV_X11_weight : VW yX11_weight cX11_weight 2 (some .int) 1 := ⟨co_X11_weight, im_X11_weight, se_X11_weight, in_X11, by decide +kernel, by decide +kernel, by decide +kernel⟩
theorem kV_X11_scrap : VW yX11_scrap cX11_scrap 4 (some .int) 1 := ⟨co_X11_scrap, im_X11_scrap, se_X11_scrap, in_X11, by decide +kernel, by decide +kernel, by decide +kernel⟩
theorem kV_X11_isLot : VW yX11_isLot cX11_isLot 2 (some .boolean) 1 := ⟨co_X11_isLot, im_X11_isLot, se_X11_isLot, in_X11, by decide +kernel, by decide +kernel, by decide +kernel⟩
theorem kV_X11_burns : VW yX11_burns cX11_burns 2 none 1 := ⟨co_X11_burns, im_X11_burns, se_X11_burns, in_X11, by decide +kernel, by decide +kernel, by decide +kernel⟩
theorem kV_X11_burnt : VW yX11_burnt cX11_burnt 3 (some .int) 2 := ⟨co_X11_burnt, im_X11_burnt, se_X11_burnt, in_X11, by decide +kernel, by decide +kernel, by decide +kernel⟩
theorem kV_X11_setting : VW yX11_setting cX11_setting 2 (some .int) 1 := ⟨co_X11_setting, im_X11_setting, se_X11_setting, in_X11, by decide +kernel, by decide +kernel, by decide +kernel⟩
theorem kV_X11_moves : VW yX11_moves cX11_moves 5 none 4 := ⟨co_X11_moves, im_X11_moves, se_X11_moves, in_X11, by decide +kernel, by decide +kernel, by decide +kernel⟩
theorem kV_X11_lot : VW yX11_lot cX11_lot 4 (some .int) 2 := ⟨co_X11_lot, im_X11_lot, se_X11_lot, in_X11, by decide +kernel, by decide +kernel, by decide +kernel⟩
theorem kV_X11_alloy : VW yX11_alloy cX11_alloy 2 (some .int) 1 := ⟨co_X11_alloy, im_X11_alloy, se_X11_alloy, in_X11, by decide +kernel, by decide +kernel, by decide +kernel⟩
theorem kS_X11_alloyOf : SW yX11_alloyOf cX11_alloyOf 2 (some .int) 2 := ⟨co_X11_alloyOf, st_X11_alloyOf, in_X11, by decide +kernel, by decide +kernel, by decide +kernel⟩
theorem kV_X11_melt : VW yX11_melt cX11_melt 4 (some .int) 1 := ⟨co_X11_melt, im_X11_melt, se_X11_melt, in_X11, by decide +kernel, by decide +kernel, by decide +kernel⟩
theorem kV_X11_set : VW yX11_set cX11_set 4 (some .int) 2 := ⟨co_X11_set, im_X11_set, se_X11_set, in_X11, by decide +kernel, by decide +kernel, by decide +kernel⟩
theorem kS_X11_mostOf : SW yX11_mostOf cX11_mostOf 1 (some .int) 1 := ⟨co_X11_mostOf, st_X11_mostOf, in_X11, by decide +kernel, by decide +kernel, by decide +kernel⟩
theorem kV_X11_pour : VW yX11_pour cX11_pour 5 (some .int) 2 := ⟨co_X11_pour, im_X11_pour, se_X11_pour, in_X11, by decide +kernel, by decide +kernel, by decide +kernel⟩
theorem kV_X11_sprueOf : VW yX11_sprueOf cX11_sprueOf 2 (some .int) 1 := ⟨co_X11_sprueOf, im_X11_sprueOf, se_X11_sprueOf, in_X11, by decide +kernel, by decide +kernel, by decide +kernel⟩
theorem kV_X11_here : VW yX11_here cX11_here 3 (some .int) 0 := ⟨co_X11_here, im_X11_here, se_X11_here, in_X11, by decide +kernel, by decide +kernel, by decide +kernel⟩
theorem kV_X11_isHere : VW yX11_isHere cX11_isHere 2 (some .boolean) 1 := ⟨co_X11_isHere, im_X11_isHere, se_X11_isHere, in_X11, by decide +kernel, by decide +kernel, by decide +kernel⟩
theorem kV_X11_of : VW yX11_of cX11_of 3 (some .int) 2 := ⟨co_X11_of, im_X11_of, se_X11_of, in_X11, by decide +kernel, by decide +kernel, by decide +kernel⟩
theorem kS_X11_atBell : SW yX11_atBell cX11_atBell 1 (some .int) 1 := ⟨co_X11_atBell, st_X11_atBell, in_X11, by decide +kernel, by decide +kernel, by decide +kernel⟩
theorem kV_X11_draws : VW yX11_draws cX11_draws 5 none 3 := ⟨co_X11_draws, im_X11_draws, se_X11_draws, in_X11, by decide +kernel, by decide +kernel, by decide +kernel⟩
theorem kS_X11_copperIn : SW yX11_copperIn cX11_copperIn 3 (some .int) 3 := ⟨co_X11_copperIn, st_X11_copperIn, in_X11, by decide +kernel, by decide +kernel, by decide +kernel⟩
theorem kV_X11_scraps : VW yX11_scraps cX11_scraps 4 none 3 := ⟨co_X11_scraps, im_X11_scraps, se_X11_scraps, in_X11, by decide +kernel, by decide +kernel, by decide +kernel⟩
theorem kV_X11_comes : VW yX11_comes cX11_comes 3 (some .int) 1 := ⟨co_X11_comes, im_X11_comes, se_X11_comes, in_X11, by decide +kernel, by decide +kernel, by decide +kernel⟩
theorem kS_X11_pitchOf : SW yX11_pitchOf cX11_pitchOf 3 (some .int) 3 := ⟨co_X11_pitchOf, st_X11_pitchOf, in_X11, by decide +kernel, by decide +kernel, by decide +kernel⟩
theorem kS_X11_factor : SW yX11_factor cX11_factor 1 (some .int) 1 := ⟨co_X11_factor, st_X11_factor, in_X11, by decide +kernel, by decide +kernel, by decide +kernel⟩
theorem kS_X11_root : SW yX11_root cX11_root 6 (some .int) 1 := ⟨co_X11_root, st_X11_root, in_X11, by decide +kernel, by decide +kernel, by decide +kernel⟩
theorem kV_X11_tune : VW yX11_tune cX11_tune 4 (some .int) 2 := ⟨co_X11_tune, im_X11_tune, se_X11_tune, in_X11, by decide +kernel, by decide +kernel, by decide +kernel⟩
theorem kV_X11_isBell : VW yX11_isBell cX11_isBell 2 (some .boolean) 1 := ⟨co_X11_isBell, im_X11_isBell, se_X11_isBell, in_X11, by decide +kernel, by decide +kernel, by decide +kernel⟩
theorem kV_X11_lowered : VW yX11_lowered cX11_lowered 4 (some .int) 2 := ⟨co_X11_lowered, im_X11_lowered, se_X11_lowered, in_X11, by decide +kernel, by decide +kernel, by decide +kernel⟩
theorem kV_X11_wouldCrack : VW yX11_wouldCrack cX11_wouldCrack 3 (some .boolean) 2 := ⟨co_X11_wouldCrack, im_X11_wouldCrack, se_X11_wouldCrack, in_X11, by decide +kernel, by decide +kernel, by decide +kernel⟩
theorem kV_X11_smash : VW yX11_smash cX11_smash 3 (some .int) 1 := ⟨co_X11_smash, im_X11_smash, se_X11_smash, in_X11, by decide +kernel, by decide +kernel, by decide +kernel⟩
theorem kV_X11_bell : VW yX11_bell cX11_bell 3 (some .int) 2 := ⟨co_X11_bell, im_X11_bell, se_X11_bell, in_X11, by decide +kernel, by decide +kernel, by decide +kernel⟩
theorem kV_X11_order : VW yX11_order cX11_order 5 (some .int) 3 := ⟨co_X11_order, im_X11_order, se_X11_order, in_X11, by decide +kernel, by decide +kernel, by decide +kernel⟩
theorem kV_X11_ordersThatAre : VW yX11_ordersThatAre cX11_ordersThatAre 4 (some .int) 1 := ⟨co_X11_ordersThatAre, im_X11_ordersThatAre, se_X11_ordersThatAre, in_X11, by decide +kernel, by decide +kernel, by decide +kernel⟩
theorem kV_X11_ofOrder : VW yX11_ofOrder cX11_ofOrder 3 (some .int) 2 := ⟨co_X11_ofOrder, im_X11_ofOrder, se_X11_ofOrder, in_X11, by decide +kernel, by decide +kernel, by decide +kernel⟩
theorem kV_X11_cancel : VW yX11_cancel cX11_cancel 2 (some .int) 1 := ⟨co_X11_cancel, im_X11_cancel, se_X11_cancel, in_X11, by decide +kernel, by decide +kernel, by decide +kernel⟩
theorem kV_X11_isOrder : VW yX11_isOrder cX11_isOrder 2 (some .boolean) 1 := ⟨co_X11_isOrder, im_X11_isOrder, se_X11_isOrder, in_X11, by decide +kernel, by decide +kernel, by decide +kernel⟩
theorem kV_X11_send : VW yX11_send cX11_send 4 (some .int) 2 := ⟨co_X11_send, im_X11_send, se_X11_send, in_X11, by decide +kernel, by decide +kernel, by decide +kernel⟩
theorem kV_X11_fits : VW yX11_fits cX11_fits 3 (some .boolean) 2 := ⟨co_X11_fits, im_X11_fits, se_X11_fits, in_X11, by decide +kernel, by decide +kernel, by decide +kernel⟩
theorem kV_X11_isPitch : VW yX11_isPitch cX11_isPitch 4 (some .boolean) 2 := ⟨co_X11_isPitch, im_X11_isPitch, se_X11_isPitch, in_X11, by decide +kernel, by decide +kernel, by decide +kernel⟩
theorem kV_X11_orderOf : VW yX11_orderOf cX11_orderOf 6 (some .int) 2 := ⟨co_X11_orderOf, im_X11_orderOf, se_X11_orderOf, in_X11, by decide +kernel, by decide +kernel, by decide +kernel⟩
theorem kV_X11_tuneFor : VW yX11_tuneFor cX11_tuneFor 5 (some .int) 2 := ⟨co_X11_tuneFor, im_X11_tuneFor, se_X11_tuneFor, in_X11, by decide +kernel, by decide +kernel, by decide +kernel⟩
theorem kV_X11_pourFor : VW yX11_pourFor cX11_pourFor 6 (some .int) 1 := ⟨co_X11_pourFor, im_X11_pourFor, se_X11_pourFor, in_X11, by decide +kernel, by decide +kernel, by decide +kernel⟩
theorem kV_X11_laysAside : VW yX11_laysAside cX11_laysAside 2 none 0 := ⟨co_X11_laysAside, im_X11_laysAside, se_X11_laysAside, in_X11, by decide +kernel, by decide +kernel, by decide +kernel⟩
theorem kV_X11_bringsBack : VW yX11_bringsBack cX11_bringsBack 2 none 0 := ⟨co_X11_bringsBack, im_X11_bringsBack, se_X11_bringsBack, in_X11, by decide +kernel, by decide +kernel, by decide +kernel⟩
theorem kV_X11_wagons : VW yX11_wagons cX11_wagons 10 (some .int) 1 := ⟨co_X11_wagons, im_X11_wagons, se_X11_wagons, in_X11, by decide +kernel, by decide +kernel, by decide +kernel⟩
theorem kV_X11_takesBells : VW yX11_takesBells cX11_takesBells 6 (some .int) 1 := ⟨co_X11_takesBells, im_X11_takesBells, se_X11_takesBells, in_X11, by decide +kernel, by decide +kernel, by decide +kernel⟩
theorem kV_X11_account : VW yX11_account cX11_account 3 (some .int) 2 := ⟨co_X11_account, im_X11_account, se_X11_account, in_X11, by decide +kernel, by decide +kernel, by decide +kernel⟩
theorem kV_X11_inScrap : VW yX11_inScrap cX11_inScrap 4 (some .int) 1 := ⟨co_X11_inScrap, im_X11_inScrap, se_X11_inScrap, in_X11, by decide +kernel, by decide +kernel, by decide +kernel⟩
theorem kV_X11_inBells : VW yX11_inBells cX11_inBells 5 (some .int) 2 := ⟨co_X11_inBells, im_X11_inBells, se_X11_inBells, in_X11, by decide +kernel, by decide +kernel, by decide +kernel⟩
theorem kV_X11_count : VW yX11_count cX11_count 2 (some .int) 1 := ⟨co_X11_count, im_X11_count, se_X11_count, in_X11, by decide +kernel, by decide +kernel, by decide +kernel⟩
theorem kV_X11_bellsThatAre : VW yX11_bellsThatAre cX11_bellsThatAre 4 (some .int) 1 := ⟨co_X11_bellsThatAre, im_X11_bellsThatAre, se_X11_bellsThatAre, in_X11, by decide +kernel, by decide +kernel, by decide +kernel⟩
theorem kV_X11_undo : VW yX11_undo cX11_undo 2 (some .int) 0 := ⟨co_X11_undo, im_X11_undo, se_X11_undo, in_X11, by decide +kernel, by decide +kernel, by decide +kernel⟩
theorem kV_X11_type : VW yX11_type cX11_type 2 (some .int) 1 := ⟨co_X11_type, im_X11_type, se_X11_type, in_X11, by decide +kernel, by decide +kernel, by decide +kernel⟩
theorem kV_X11_clearText : VW yX11_clearText cX11_clearText 2 (some .int) 0 := ⟨co_X11_clearText, im_X11_clearText, se_X11_clearText, in_X11, by decide +kernel, by decide +kernel, by decide +kernel⟩
theorem kV_X11_fault : VW yX11_fault cX11_fault 2 (some .int) 1 := ⟨co_X11_fault, im_X11_fault, se_X11_fault, in_X11, by decide +kernel, by decide +kernel, by decide +kernel⟩
theorem kV_X11_reads : VW yX11_reads cX11_reads 3 (some .boolean) 0 := ⟨co_X11_reads, im_X11_reads, se_X11_reads, in_X11, by decide +kernel, by decide +kernel, by decide +kernel⟩
theorem kV_X11_fails : VW yX11_fails cX11_fails 2 (some .boolean) 1 := ⟨co_X11_fails, im_X11_fails, se_X11_fails, in_X11, by decide +kernel, by decide +kernel, by decide +kernel⟩
theorem kV_X11_isDigit : VW yX11_isDigit cX11_isDigit 2 (some .boolean) 1 := ⟨co_X11_isDigit, im_X11_isDigit, se_X11_isDigit, in_X11, by decide +kernel, by decide +kernel, by decide +kernel⟩
theorem kV_X11_takesBell : VW yX11_takesBell cX11_takesBell 4 (some .boolean) 0 := ⟨co_X11_takesBell, im_X11_takesBell, se_X11_takesBell, in_X11, by decide +kernel, by decide +kernel, by decide +kernel⟩
theorem kV_X11_takesRest : VW yX11_takesRest cX11_takesRest 3 (some .boolean) 0 := ⟨co_X11_takesRest, im_X11_takesRest, se_X11_takesRest, in_X11, by decide +kernel, by decide +kernel, by decide +kernel⟩
theorem kV_X11_frame : VW yX11_frame cX11_frame 2 (some .int) 1 := ⟨co_X11_frame, im_X11_frame, se_X11_frame, in_X11, by decide +kernel, by decide +kernel, by decide +kernel⟩
theorem kV_X11_added : VW yX11_added cX11_added 6 (some .int) 0 := ⟨co_X11_added, im_X11_added, se_X11_added, in_X11, by decide +kernel, by decide +kernel, by decide +kernel⟩
theorem inX0 : ∀ w ∈ u_ws RX0 TX0 7, w ∈ WW := by
  intro w h
  obtain ⟨k, hk, rfl⟩ := List.mem_map.mp h
  have hk := List.mem_range.mp hk
  rcases (show k = 0 ∨ k = 1 ∨ k = 2 ∨ k = 3 ∨ k = 4 ∨ k = 5 ∨ k = 6 by omega) with rfl | rfl | rfl | rfl | rfl | rfl | rfl
  · exact wwT 124 (by decide +kernel) (by decide +kernel)
  · exact wwT 126 (by decide +kernel) (by decide +kernel)
  · exact wwT 128 (by decide +kernel) (by decide +kernel)
  · exact wwT 130 (by decide +kernel) (by decide +kernel)
  · exact wwT 132 (by decide +kernel) (by decide +kernel)
  · exact wwT 134 (by decide +kernel) (by decide +kernel)
  · exact wwT 136 (by decide +kernel) (by decide +kernel)
theorem inX1 : ∀ w ∈ u_ws RX1 TX1 12, w ∈ WW := by
  intro w h
  obtain ⟨k, hk, rfl⟩ := List.mem_map.mp h
  have hk := List.mem_range.mp hk
  rcases (show k = 0 ∨ k = 1 ∨ k = 2 ∨ k = 3 ∨ k = 4 ∨ k = 5 ∨ k = 6 ∨ k = 7 ∨ k = 8 ∨ k = 9 ∨ k = 10 ∨ k = 11 by omega) with rfl | rfl | rfl | rfl | rfl | rfl | rfl | rfl | rfl | rfl | rfl | rfl
  · exact wwT 284 (by decide +kernel) (by decide +kernel)
  · exact wwT 286 (by decide +kernel) (by decide +kernel)
  · exact wwT 288 (by decide +kernel) (by decide +kernel)
  · exact wwT 290 (by decide +kernel) (by decide +kernel)
  · exact wwT 292 (by decide +kernel) (by decide +kernel)
  · exact wwT 294 (by decide +kernel) (by decide +kernel)
  · exact wwT 296 (by decide +kernel) (by decide +kernel)
  · exact wwT 298 (by decide +kernel) (by decide +kernel)
  · exact wwT 300 (by decide +kernel) (by decide +kernel)
  · exact wwT 302 (by decide +kernel) (by decide +kernel)
  · exact wwT 304 (by decide +kernel) (by decide +kernel)
  · exact wwT 306 (by decide +kernel) (by decide +kernel)
theorem inX2 : ∀ w ∈ u_ws RX2 TX2 2, w ∈ WW := by
  intro w h
  obtain ⟨k, hk, rfl⟩ := List.mem_map.mp h
  have hk := List.mem_range.mp hk
  rcases (show k = 0 ∨ k = 1 by omega) with rfl | rfl
  · exact wwT 74 (by decide +kernel) (by decide +kernel)
  · exact wwT 76 (by decide +kernel) (by decide +kernel)
theorem inX3 : ∀ w ∈ u_ws RX3 TX3 2, w ∈ WW := by
  intro w h
  obtain ⟨k, hk, rfl⟩ := List.mem_map.mp h
  have hk := List.mem_range.mp hk
  rcases (show k = 0 ∨ k = 1 by omega) with rfl | rfl
  · exact wwT 224 (by decide +kernel) (by decide +kernel)
  · exact wwT 226 (by decide +kernel) (by decide +kernel)
theorem inX4 : ∀ w ∈ u_ws RX4 TX4 3, w ∈ WW := by
  intro w h
  obtain ⟨k, hk, rfl⟩ := List.mem_map.mp h
  have hk := List.mem_range.mp hk
  rcases (show k = 0 ∨ k = 1 ∨ k = 2 by omega) with rfl | rfl | rfl
  · exact wwT 262 (by decide +kernel) (by decide +kernel)
  · exact wwT 264 (by decide +kernel) (by decide +kernel)
  · exact wwT 266 (by decide +kernel) (by decide +kernel)
theorem inX5 : ∀ w ∈ u_ws RX5 TX5 2, w ∈ WW := by
  intro w h
  obtain ⟨k, hk, rfl⟩ := List.mem_map.mp h
  have hk := List.mem_range.mp hk
  rcases (show k = 0 ∨ k = 1 by omega) with rfl | rfl
  · exact wwT 66 (by decide +kernel) (by decide +kernel)
  · exact wwT 68 (by decide +kernel) (by decide +kernel)
theorem inX6 : ∀ w ∈ u_ws RX6 TX6 2, w ∈ WW := by
  intro w h
  obtain ⟨k, hk, rfl⟩ := List.mem_map.mp h
  have hk := List.mem_range.mp hk
  rcases (show k = 0 ∨ k = 1 by omega) with rfl | rfl
  · exact wwT 38 (by decide +kernel) (by decide +kernel)
  · exact wwT 40 (by decide +kernel) (by decide +kernel)
theorem inX7 : ∀ w ∈ u_ws RX7 TX7 4, w ∈ WW := by
  intro w h
  obtain ⟨k, hk, rfl⟩ := List.mem_map.mp h
  have hk := List.mem_range.mp hk
  rcases (show k = 0 ∨ k = 1 ∨ k = 2 ∨ k = 3 by omega) with rfl | rfl | rfl | rfl
  · exact wwT 157 (by decide +kernel) (by decide +kernel)
  · exact wwT 159 (by decide +kernel) (by decide +kernel)
  · exact wwT 161 (by decide +kernel) (by decide +kernel)
  · exact wwT 163 (by decide +kernel) (by decide +kernel)
theorem inX8 : ∀ w ∈ u_ws RX8 TX8 3, w ∈ WW := by
  intro w h
  obtain ⟨k, hk, rfl⟩ := List.mem_map.mp h
  have hk := List.mem_range.mp hk
  rcases (show k = 0 ∨ k = 1 ∨ k = 2 by omega) with rfl | rfl | rfl
  · exact wwT 238 (by decide +kernel) (by decide +kernel)
  · exact wwT 240 (by decide +kernel) (by decide +kernel)
  · exact wwT 242 (by decide +kernel) (by decide +kernel)
theorem inX9 : ∀ w ∈ u_ws RX9 TX9 12, w ∈ WW := by
  intro w h
  obtain ⟨k, hk, rfl⟩ := List.mem_map.mp h
  have hk := List.mem_range.mp hk
  rcases (show k = 0 ∨ k = 1 ∨ k = 2 ∨ k = 3 ∨ k = 4 ∨ k = 5 ∨ k = 6 ∨ k = 7 ∨ k = 8 ∨ k = 9 ∨ k = 10 ∨ k = 11 by omega) with rfl | rfl | rfl | rfl | rfl | rfl | rfl | rfl | rfl | rfl | rfl | rfl
  · exact wwT 187 (by decide +kernel) (by decide +kernel)
  · exact wwT 189 (by decide +kernel) (by decide +kernel)
  · exact wwT 191 (by decide +kernel) (by decide +kernel)
  · exact wwT 193 (by decide +kernel) (by decide +kernel)
  · exact wwT 195 (by decide +kernel) (by decide +kernel)
  · exact wwT 197 (by decide +kernel) (by decide +kernel)
  · exact wwT 199 (by decide +kernel) (by decide +kernel)
  · exact wwT 201 (by decide +kernel) (by decide +kernel)
  · exact wwT 203 (by decide +kernel) (by decide +kernel)
  · exact wwT 205 (by decide +kernel) (by decide +kernel)
  · exact wwT 207 (by decide +kernel) (by decide +kernel)
  · exact wwT 209 (by decide +kernel) (by decide +kernel)
theorem inX10 : ∀ w ∈ u_ws RX10 TX10 6, w ∈ WW := by
  intro w h
  obtain ⟨k, hk, rfl⟩ := List.mem_map.mp h
  have hk := List.mem_range.mp hk
  rcases (show k = 0 ∨ k = 1 ∨ k = 2 ∨ k = 3 ∨ k = 4 ∨ k = 5 by omega) with rfl | rfl | rfl | rfl | rfl | rfl
  · exact wwT 316 (by decide +kernel) (by decide +kernel)
  · exact wwT 318 (by decide +kernel) (by decide +kernel)
  · exact wwT 320 (by decide +kernel) (by decide +kernel)
  · exact wwT 322 (by decide +kernel) (by decide +kernel)
  · exact wwT 324 (by decide +kernel) (by decide +kernel)
  · exact wwT 326 (by decide +kernel) (by decide +kernel)
theorem inX11 : ∀ w ∈ u_ws RX11 TX11 21, w ∈ WW := by
  intro w h
  obtain ⟨k, hk, rfl⟩ := List.mem_map.mp h
  have hk := List.mem_range.mp hk
  rcases (show k = 0 ∨ k = 1 ∨ k = 2 ∨ k = 3 ∨ k = 4 ∨ k = 5 ∨ k = 6 ∨ k = 7 ∨ k = 8 ∨ k = 9 ∨ k = 10 ∨ k = 11 ∨ k = 12 ∨ k = 13 ∨ k = 14 ∨ k = 15 ∨ k = 16 ∨ k = 17 ∨ k = 18 ∨ k = 19 ∨ k = 20 by omega) with rfl | rfl | rfl | rfl | rfl | rfl | rfl | rfl | rfl | rfl | rfl | rfl | rfl | rfl | rfl | rfl | rfl | rfl | rfl | rfl | rfl
  · exact wwT 809 (by decide +kernel) (by decide +kernel)
  · exact wwT 811 (by decide +kernel) (by decide +kernel)
  · exact wwT 813 (by decide +kernel) (by decide +kernel)
  · exact wwT 815 (by decide +kernel) (by decide +kernel)
  · exact wwT 817 (by decide +kernel) (by decide +kernel)
  · exact wwT 819 (by decide +kernel) (by decide +kernel)
  · exact wwT 821 (by decide +kernel) (by decide +kernel)
  · exact wwT 823 (by decide +kernel) (by decide +kernel)
  · exact wwT 825 (by decide +kernel) (by decide +kernel)
  · exact wwT 827 (by decide +kernel) (by decide +kernel)
  · exact wwT 829 (by decide +kernel) (by decide +kernel)
  · exact wwT 831 (by decide +kernel) (by decide +kernel)
  · exact wwT 833 (by decide +kernel) (by decide +kernel)
  · exact wwT 835 (by decide +kernel) (by decide +kernel)
  · exact wwT 837 (by decide +kernel) (by decide +kernel)
  · exact wwT 839 (by decide +kernel) (by decide +kernel)
  · exact wwT 841 (by decide +kernel) (by decide +kernel)
  · exact wwT 843 (by decide +kernel) (by decide +kernel)
  · exact wwT 845 (by decide +kernel) (by decide +kernel)
  · exact wwT 847 (by decide +kernel) (by decide +kernel)
  · exact wwT 849 (by decide +kernel) (by decide +kernel)
