def WA : List Cond := lw_tbl.filter goodWord
theorem WA_of {w : Cond} (h : w ∈ lw_tbl) (g : goodWord w = true) : w ∈ WA := List.mem_filter.mpr ⟨h, g⟩
theorem WA_tbl {w : Cond} (h : w ∈ WA) : w ∈ lw_tbl := (List.mem_filter.mp h).1
theorem WA_good {w : Cond} (h : w ∈ WA) : goodWord w = true := (List.mem_filter.mp h).2
theorem WA_in {y : MethodName} {c : ByteArray} {n : Nat} {r : Option FieldType} (h : Cond.code y c n r ∈ WA) : GoodIn WA (Cond.code y c n r :: WA) := fun w hw => (List.mem_cons.mp hw).elim (fun e => by subst e; exact ⟨h, good_of_word (WA_good h)⟩) (fun h => ⟨h, good_of_word (WA_good h)⟩)
theorem wm_0 : (Cond.initialized RL) ∈ WA := WA_of (List.mem_of_getElem? (i := 43) (by decide +kernel)) (by decide)
theorem wm_1 : (Cond.initialized RX7) ∈ WA := WA_of (List.mem_of_getElem? (i := 44) (by decide +kernel)) (by decide)
theorem wm_2 : (Cond.initialized RX5) ∈ WA := WA_of (List.mem_of_getElem? (i := 45) (by decide +kernel)) (by decide)
theorem wm_3 : (Cond.initialized RX4) ∈ WA := WA_of (List.mem_of_getElem? (i := 46) (by decide +kernel)) (by decide)
theorem wm_4 : (Cond.initialized RX3) ∈ WA := WA_of (List.mem_of_getElem? (i := 47) (by decide +kernel)) (by decide)
theorem wm_5 : (Cond.initialized RX1) ∈ WA := WA_of (List.mem_of_getElem? (i := 48) (by decide +kernel)) (by decide)
theorem wm_6 : (Cond.initialized RX0) ∈ WA := WA_of (List.mem_of_getElem? (i := 49) (by decide +kernel)) (by decide)
theorem wm_7 : (Cond.initialized RJ10) ∈ WA := WA_of (List.mem_of_getElem? (i := 50) (by decide +kernel)) (by decide)
theorem wm_8 : (Cond.initialized RX2) ∈ WA := WA_of (List.mem_of_getElem? (i := 51) (by decide +kernel)) (by decide)
theorem wm_9 : (Cond.initialized RX6) ∈ WA := WA_of (List.mem_of_getElem? (i := 52) (by decide +kernel)) (by decide)
theorem wm_10 : (Cond.initialized "java/lang/Throwable") ∈ WA := WA_of (List.mem_of_getElem? (i := 53) (by decide +kernel)) (by decide)
theorem wm_11 : (Cond.initialized "java/lang/Exception") ∈ WA := WA_of (List.mem_of_getElem? (i := 54) (by decide +kernel)) (by decide)
theorem wm_12 : (Cond.initialized "java/lang/RuntimeException") ∈ WA := WA_of (List.mem_of_getElem? (i := 55) (by decide +kernel)) (by decide)
theorem wm_13 : (Cond.initialized "java/lang/IndexOutOfBoundsException") ∈ WA := WA_of (List.mem_of_getElem? (i := 56) (by decide +kernel)) (by decide)
theorem wm_14 : (Cond.initialized RJ9) ∈ WA := WA_of (List.mem_of_getElem? (i := 57) (by decide +kernel)) (by decide)
theorem wm_15 : (Cond.initialized "java/lang/IllegalArgumentException") ∈ WA := WA_of (List.mem_of_getElem? (i := 58) (by decide +kernel)) (by decide)
theorem wm_16 : (Cond.initialized RJ6) ∈ WA := WA_of (List.mem_of_getElem? (i := 59) (by decide +kernel)) (by decide)
theorem wm_17 : (Cond.initialized "java/lang/IllegalStateException") ∈ WA := WA_of (List.mem_of_getElem? (i := 60) (by decide +kernel)) (by decide)
theorem wm_18 : (Cond.classLink RL 10 RX7) ∈ WA := WA_of (List.mem_of_getElem? (i := 61) (by decide +kernel)) (by decide)
theorem wm_19 : (Cond.instantiable RX7 7) ∈ WA := WA_of (List.mem_of_getElem? (i := 62) (by decide +kernel)) (by decide)
theorem wm_20 : (Cond.methodLink RL 127 yX7_init) ∈ WA := WA_of (List.mem_of_getElem? (i := 63) (by decide +kernel)) (by decide)
theorem wm_21 : (Cond.instanceMethod yX7_init) ∈ WA := WA_of (List.mem_of_getElem? (i := 64) (by decide +kernel)) (by decide)
theorem wm_22 : (Cond.code yX7_init prog_1_method_1_code 2 none) ∈ WA := WA_of (List.mem_of_getElem? (i := 65) (by decide +kernel)) (by decide)
theorem wm_23 : (Cond.methodLink RX7 1 ⟨"java/lang/Object", "<init>", "()V"⟩) ∈ WA := WA_of (List.mem_of_getElem? (i := 66) (by decide +kernel)) (by decide)
theorem wm_24 : (Cond.instanceMethod ⟨"java/lang/Object", "<init>", "()V"⟩) ∈ WA := WA_of (List.mem_of_getElem? (i := 67) (by decide +kernel)) (by decide)
theorem wm_25 : (Cond.code ⟨"java/lang/Object", "<init>", "()V"⟩ object_method_1_code 1 none) ∈ WA := WA_of (List.mem_of_getElem? (i := 68) (by decide +kernel)) (by decide)
theorem wm_26 : (Cond.classLink RX7 7 RX5) ∈ WA := WA_of (List.mem_of_getElem? (i := 69) (by decide +kernel)) (by decide)
theorem wm_27 : (Cond.instantiable RX5 9) ∈ WA := WA_of (List.mem_of_getElem? (i := 70) (by decide +kernel)) (by decide)
theorem wm_29 : (Cond.instanceMethod yX5_init) ∈ WA := WA_of (List.mem_of_getElem? (i := 72) (by decide +kernel)) (by decide)
theorem wm_30 : (Cond.code yX5_init prog_7_method_1_code 1 none) ∈ WA := WA_of (List.mem_of_getElem? (i := 73) (by decide +kernel)) (by decide)
theorem wm_31 : (Cond.methodLink RX5 3 ⟨"java/lang/Object", "<init>", "()V"⟩) ∈ WA := WA_of (List.mem_of_getElem? (i := 74) (by decide +kernel)) (by decide)
theorem wm_32 : (Cond.classLink RX5 18 RX4) ∈ WA := WA_of (List.mem_of_getElem? (i := 75) (by decide +kernel)) (by decide)
theorem wm_33 : (Cond.instantiable RX4 5) ∈ WA := WA_of (List.mem_of_getElem? (i := 76) (by decide +kernel)) (by decide)
theorem wm_35 : (Cond.instanceMethod yX4_init) ∈ WA := WA_of (List.mem_of_getElem? (i := 78) (by decide +kernel)) (by decide)
theorem wm_36 : (Cond.code yX4_init prog_6_method_1_code 1 none) ∈ WA := WA_of (List.mem_of_getElem? (i := 79) (by decide +kernel)) (by decide)
theorem wm_37 : (Cond.methodLink RX4 3 ⟨"java/lang/Object", "<init>", "()V"⟩) ∈ WA := WA_of (List.mem_of_getElem? (i := 80) (by decide +kernel)) (by decide)
theorem wm_38 : (Cond.fieldLink RX4 9 "BentScope$Stars" "count" "I") ∈ WA := WA_of (List.mem_of_getElem? (i := 81) (by decide +kernel)) (by decide)
theorem wm_42 : (Cond.fieldLink RX4 15 "BentScope$Stars" "azimuths" "[I") ∈ WA := WA_of (List.mem_of_getElem? (i := 85) (by decide +kernel)) (by decide)
theorem wm_44 : (Cond.fieldLink RX4 19 "BentScope$Stars" "altitudes" "[I") ∈ WA := WA_of (List.mem_of_getElem? (i := 87) (by decide +kernel)) (by decide)
theorem wm_46 : (Cond.fieldLink RX4 22 "BentScope$Stars" "aims" "[I") ∈ WA := WA_of (List.mem_of_getElem? (i := 89) (by decide +kernel)) (by decide)
theorem wm_48 : (Cond.fieldLink RX4 25 "BentScope$Stars" "finds" "[I") ∈ WA := WA_of (List.mem_of_getElem? (i := 91) (by decide +kernel)) (by decide)
theorem wm_62 : (Cond.classLink RX5 25 RX3) ∈ WA := WA_of (List.mem_of_getElem? (i := 105) (by decide +kernel)) (by decide)
theorem wm_63 : (Cond.instantiable RX3 3) ∈ WA := WA_of (List.mem_of_getElem? (i := 106) (by decide +kernel)) (by decide)
theorem wm_65 : (Cond.instanceMethod yX3_init) ∈ WA := WA_of (List.mem_of_getElem? (i := 108) (by decide +kernel)) (by decide)
theorem wm_66 : (Cond.code yX3_init prog_5_method_1_code 1 none) ∈ WA := WA_of (List.mem_of_getElem? (i := 109) (by decide +kernel)) (by decide)
theorem wm_67 : (Cond.methodLink RX3 3 ⟨"java/lang/Object", "<init>", "()V"⟩) ∈ WA := WA_of (List.mem_of_getElem? (i := 110) (by decide +kernel)) (by decide)
theorem wm_68 : (Cond.fieldLink RX3 9 "BentScope$Regions" "lessonCounts" "[I") ∈ WA := WA_of (List.mem_of_getElem? (i := 111) (by decide +kernel)) (by decide)
theorem wm_70 : (Cond.fieldLink RX3 15 "BentScope$Regions" "azimuths" "[D") ∈ WA := WA_of (List.mem_of_getElem? (i := 113) (by decide +kernel)) (by decide)
theorem wm_71 : (Cond.fieldLink RX3 19 "BentScope$Regions" "altitudes" "[D") ∈ WA := WA_of (List.mem_of_getElem? (i := 114) (by decide +kernel)) (by decide)
theorem wm_80 : (Cond.classLink RX5 32 RX1) ∈ WA := WA_of (List.mem_of_getElem? (i := 123) (by decide +kernel)) (by decide)
theorem wm_81 : (Cond.instantiable RX1 3) ∈ WA := WA_of (List.mem_of_getElem? (i := 124) (by decide +kernel)) (by decide)
theorem wm_83 : (Cond.instanceMethod yX1_init) ∈ WA := WA_of (List.mem_of_getElem? (i := 126) (by decide +kernel)) (by decide)
theorem wm_84 : (Cond.code yX1_init prog_3_method_1_code 1 none) ∈ WA := WA_of (List.mem_of_getElem? (i := 127) (by decide +kernel)) (by decide)
theorem wm_85 : (Cond.methodLink RX1 3 ⟨"java/lang/Object", "<init>", "()V"⟩) ∈ WA := WA_of (List.mem_of_getElem? (i := 128) (by decide +kernel)) (by decide)
theorem wm_86 : (Cond.fieldLink RX1 9 "BentScope$Mount" "turn" "I") ∈ WA := WA_of (List.mem_of_getElem? (i := 129) (by decide +kernel)) (by decide)
theorem wm_88 : (Cond.fieldLink RX1 15 "BentScope$Mount" "altitude" "I") ∈ WA := WA_of (List.mem_of_getElem? (i := 131) (by decide +kernel)) (by decide)
theorem wm_90 : (Cond.fieldLink RX1 18 "BentScope$Mount" "side" "I") ∈ WA := WA_of (List.mem_of_getElem? (i := 133) (by decide +kernel)) (by decide)
theorem wm_99 : (Cond.classLink RX5 39 RX0) ∈ WA := WA_of (List.mem_of_getElem? (i := 142) (by decide +kernel)) (by decide)
theorem wm_100 : (Cond.instantiable RX0 10) ∈ WA := WA_of (List.mem_of_getElem? (i := 143) (by decide +kernel)) (by decide)
theorem wm_102 : (Cond.instanceMethod yX0_init) ∈ WA := WA_of (List.mem_of_getElem? (i := 145) (by decide +kernel)) (by decide)
theorem wm_103 : (Cond.code yX0_init prog_2_method_1_code 1 none) ∈ WA := WA_of (List.mem_of_getElem? (i := 146) (by decide +kernel)) (by decide)
theorem wm_104 : (Cond.methodLink RX0 3 ⟨"java/lang/Object", "<init>", "()V"⟩) ∈ WA := WA_of (List.mem_of_getElem? (i := 147) (by decide +kernel)) (by decide)
theorem wm_105 : (Cond.fieldLink RX0 9 "BentScope$Aim" "star" "I") ∈ WA := WA_of (List.mem_of_getElem? (i := 148) (by decide +kernel)) (by decide)
theorem wm_109 : (Cond.fieldLink RX0 15 "BentScope$Aim" "side" "I") ∈ WA := WA_of (List.mem_of_getElem? (i := 152) (by decide +kernel)) (by decide)
theorem wm_112 : (Cond.fieldLink RX0 18 "BentScope$Aim" "region" "I") ∈ WA := WA_of (List.mem_of_getElem? (i := 155) (by decide +kernel)) (by decide)
theorem wm_115 : (Cond.fieldLink RX0 21 "BentScope$Aim" "azimuth" "I") ∈ WA := WA_of (List.mem_of_getElem? (i := 158) (by decide +kernel)) (by decide)
theorem wm_118 : (Cond.fieldLink RX0 24 "BentScope$Aim" "altitude" "I") ∈ WA := WA_of (List.mem_of_getElem? (i := 161) (by decide +kernel)) (by decide)
theorem wm_121 : (Cond.fieldLink RX0 27 "BentScope$Aim" "heldAzimuth" "D") ∈ WA := WA_of (List.mem_of_getElem? (i := 164) (by decide +kernel)) (by decide)
theorem wm_124 : (Cond.fieldLink RX0 31 "BentScope$Aim" "heldAltitude" "D") ∈ WA := WA_of (List.mem_of_getElem? (i := 167) (by decide +kernel)) (by decide)
theorem wm_127 : (Cond.fieldLink RX0 34 "BentScope$Aim" "missAzimuth" "D") ∈ WA := WA_of (List.mem_of_getElem? (i := 170) (by decide +kernel)) (by decide)
theorem wm_130 : (Cond.fieldLink RX0 37 "BentScope$Aim" "missAltitude" "D") ∈ WA := WA_of (List.mem_of_getElem? (i := 173) (by decide +kernel)) (by decide)
theorem wm_133 : (Cond.fieldLink RX0 40 "BentScope$Aim" "learnable" "Z") ∈ WA := WA_of (List.mem_of_getElem? (i := 176) (by decide +kernel)) (by decide)
theorem wm_159 : (Cond.methodLink RX5 59 ⟨"java/lang/System", "arraycopy", "(Ljava/lang/Object;ILjava/lang/Object;II)V"⟩) ∈ WA := WA_of (List.mem_of_getElem? (i := 202) (by decide +kernel)) (by decide)
theorem wm_160 : (Cond.static ⟨"java/lang/System", "arraycopy", "(Ljava/lang/Object;ILjava/lang/Object;II)V"⟩) ∈ WA := WA_of (List.mem_of_getElem? (i := 203) (by decide +kernel)) (by decide)
theorem wm_161 : (Cond.native ⟨"java/lang/System", "arraycopy", "(Ljava/lang/Object;ILjava/lang/Object;II)V"⟩) ∈ WA := WA_of (List.mem_of_getElem? (i := 204) (by decide +kernel)) (by decide)
theorem wm_162 : (Cond.fieldLink RX5 9 "BentScope$State" "settings" "[I") ∈ WA := WA_of (List.mem_of_getElem? (i := 205) (by decide +kernel)) (by decide)
theorem wm_165 : (Cond.fieldLink RX5 15 "BentScope$State" "bends" "[I") ∈ WA := WA_of (List.mem_of_getElem? (i := 208) (by decide +kernel)) (by decide)
theorem wm_167 : (Cond.fieldLink RX5 21 "BentScope$State" "stars" "LBentScope$Stars;") ∈ WA := WA_of (List.mem_of_getElem? (i := 210) (by decide +kernel)) (by decide)
theorem wm_170 : (Cond.fieldLink RX5 28 "BentScope$State" "regions" "LBentScope$Regions;") ∈ WA := WA_of (List.mem_of_getElem? (i := 213) (by decide +kernel)) (by decide)
theorem wm_172 : (Cond.fieldLink RX5 35 "BentScope$State" "mount" "LBentScope$Mount;") ∈ WA := WA_of (List.mem_of_getElem? (i := 215) (by decide +kernel)) (by decide)
theorem wm_175 : (Cond.fieldLink RX5 42 "BentScope$State" "latest" "LBentScope$Aim;") ∈ WA := WA_of (List.mem_of_getElem? (i := 218) (by decide +kernel)) (by decide)
theorem wm_177 : (Cond.fieldLink RX5 46 "BentScope$State" "time" "I") ∈ WA := WA_of (List.mem_of_getElem? (i := 220) (by decide +kernel)) (by decide)
theorem wm_178 : (Cond.fieldLink RX5 50 "BentScope$State" "flips" "I") ∈ WA := WA_of (List.mem_of_getElem? (i := 221) (by decide +kernel)) (by decide)
theorem wm_179 : (Cond.fieldLink RX5 53 "BentScope$State" "next" "LBentScope$Aim;") ∈ WA := WA_of (List.mem_of_getElem? (i := 222) (by decide +kernel)) (by decide)
theorem wm_200 : (Cond.classLink RX7 27 RX2) ∈ WA := WA_of (List.mem_of_getElem? (i := 243) (by decide +kernel)) (by decide)
theorem wm_201 : (Cond.instantiable RX2 8) ∈ WA := WA_of (List.mem_of_getElem? (i := 244) (by decide +kernel)) (by decide)
theorem wm_203 : (Cond.instanceMethod yX2_init) ∈ WA := WA_of (List.mem_of_getElem? (i := 246) (by decide +kernel)) (by decide)
theorem wm_204 : (Cond.code yX2_init prog_4_method_1_code 1 none) ∈ WA := WA_of (List.mem_of_getElem? (i := 247) (by decide +kernel)) (by decide)
theorem wm_205 : (Cond.methodLink RX2 3 ⟨"java/lang/Object", "<init>", "()V"⟩) ∈ WA := WA_of (List.mem_of_getElem? (i := 248) (by decide +kernel)) (by decide)
theorem wm_206 : (Cond.fieldLink RX2 9 "BentScope$OrderText" "bytes" "[I") ∈ WA := WA_of (List.mem_of_getElem? (i := 249) (by decide +kernel)) (by decide)
theorem wm_207 : (Cond.fieldLink RX2 15 "BentScope$OrderText" "length" "I") ∈ WA := WA_of (List.mem_of_getElem? (i := 250) (by decide +kernel)) (by decide)
theorem wm_208 : (Cond.fieldLink RX2 19 "BentScope$OrderText" "at" "I") ∈ WA := WA_of (List.mem_of_getElem? (i := 251) (by decide +kernel)) (by decide)
theorem wm_209 : (Cond.fieldLink RX2 22 "BentScope$OrderText" "error" "I") ∈ WA := WA_of (List.mem_of_getElem? (i := 252) (by decide +kernel)) (by decide)
theorem wm_210 : (Cond.fieldLink RX2 25 "BentScope$OrderText" "kind" "I") ∈ WA := WA_of (List.mem_of_getElem? (i := 253) (by decide +kernel)) (by decide)
theorem wm_211 : (Cond.fieldLink RX2 28 "BentScope$OrderText" "first" "I") ∈ WA := WA_of (List.mem_of_getElem? (i := 254) (by decide +kernel)) (by decide)
theorem wm_212 : (Cond.fieldLink RX2 31 "BentScope$OrderText" "second" "I") ∈ WA := WA_of (List.mem_of_getElem? (i := 255) (by decide +kernel)) (by decide)
theorem wm_213 : (Cond.fieldLink RX2 34 "BentScope$OrderText" "third" "I") ∈ WA := WA_of (List.mem_of_getElem? (i := 256) (by decide +kernel)) (by decide)
theorem wm_231 : (Cond.classLink RX7 34 RX0) ∈ WA := WA_of (List.mem_of_getElem? (i := 274) (by decide +kernel)) (by decide)
theorem wm_233 : (Cond.classLink RX7 41 RX6) ∈ WA := WA_of (List.mem_of_getElem? (i := 276) (by decide +kernel)) (by decide)
theorem wm_234 : (Cond.instantiable RX6 6) ∈ WA := WA_of (List.mem_of_getElem? (i := 277) (by decide +kernel)) (by decide)
theorem wm_236 : (Cond.instanceMethod yX6_init) ∈ WA := WA_of (List.mem_of_getElem? (i := 279) (by decide +kernel)) (by decide)
theorem wm_237 : (Cond.code yX6_init prog_8_method_1_code 2 none) ∈ WA := WA_of (List.mem_of_getElem? (i := 280) (by decide +kernel)) (by decide)
theorem wm_238 : (Cond.methodLink RX6 3 ⟨"java/lang/Object", "<init>", "()V"⟩) ∈ WA := WA_of (List.mem_of_getElem? (i := 281) (by decide +kernel)) (by decide)
theorem wm_239 : (Cond.classLink RX6 9 RX0) ∈ WA := WA_of (List.mem_of_getElem? (i := 282) (by decide +kernel)) (by decide)
theorem wm_241 : (Cond.classLink RX6 24 RX1) ∈ WA := WA_of (List.mem_of_getElem? (i := 284) (by decide +kernel)) (by decide)
theorem wm_244 : (Cond.fieldLink RX6 11 "BentScope$TourSearch" "plans" "[LBentScope$Aim;") ∈ WA := WA_of (List.mem_of_getElem? (i := 287) (by decide +kernel)) (by decide)
theorem wm_245 : (Cond.fieldLink RX6 17 "BentScope$TourSearch" "order" "[I") ∈ WA := WA_of (List.mem_of_getElem? (i := 288) (by decide +kernel)) (by decide)
theorem wm_246 : (Cond.fieldLink RX6 21 "BentScope$TourSearch" "best" "[I") ∈ WA := WA_of (List.mem_of_getElem? (i := 289) (by decide +kernel)) (by decide)
theorem wm_247 : (Cond.fieldLink RX6 27 "BentScope$TourSearch" "mount" "LBentScope$Mount;") ∈ WA := WA_of (List.mem_of_getElem? (i := 290) (by decide +kernel)) (by decide)
theorem wm_248 : (Cond.fieldLink RX6 31 "BentScope$TourSearch" "size" "I") ∈ WA := WA_of (List.mem_of_getElem? (i := 291) (by decide +kernel)) (by decide)
theorem wm_249 : (Cond.fieldLink RX6 35 "BentScope$TourSearch" "bestTime" "I") ∈ WA := WA_of (List.mem_of_getElem? (i := 292) (by decide +kernel)) (by decide)
theorem wm_264 : (Cond.fieldLink RX7 10 "BentScope" "now" "LBentScope$State;") ∈ WA := WA_of (List.mem_of_getElem? (i := 307) (by decide +kernel)) (by decide)
theorem wm_265 : (Cond.fieldLink RX7 16 "BentScope" "trial" "LBentScope$State;") ∈ WA := WA_of (List.mem_of_getElem? (i := 308) (by decide +kernel)) (by decide)
theorem wm_266 : (Cond.fieldLink RX7 19 "BentScope" "saved" "[LBentScope$State;") ∈ WA := WA_of (List.mem_of_getElem? (i := 309) (by decide +kernel)) (by decide)
theorem wm_267 : (Cond.fieldLink RX7 23 "BentScope" "savedCount" "I") ∈ WA := WA_of (List.mem_of_getElem? (i := 310) (by decide +kernel)) (by decide)
theorem wm_268 : (Cond.fieldLink RX7 30 "BentScope" "text" "LBentScope$OrderText;") ∈ WA := WA_of (List.mem_of_getElem? (i := 311) (by decide +kernel)) (by decide)
theorem wm_269 : (Cond.fieldLink RX7 37 "BentScope" "whatIf" "LBentScope$Aim;") ∈ WA := WA_of (List.mem_of_getElem? (i := 312) (by decide +kernel)) (by decide)
theorem wm_270 : (Cond.fieldLink RX7 44 "BentScope" "tourSearch" "LBentScope$TourSearch;") ∈ WA := WA_of (List.mem_of_getElem? (i := 313) (by decide +kernel)) (by decide)
theorem wm_286 : (Cond.methodLink RL 104 yX7_addStar) ∈ WA := WA_of (List.mem_of_getElem? (i := 329) (by decide +kernel)) (by decide)
theorem wm_287 : (Cond.instanceMethod yX7_addStar) ∈ WA := WA_of (List.mem_of_getElem? (i := 330) (by decide +kernel)) (by decide)
theorem wm_288 : (Cond.selects RX7 yX7_addStar yX7_addStar) ∈ WA := WA_of (List.mem_of_getElem? (i := 331) (by decide +kernel)) (by decide)
theorem wm_289 : (Cond.code yX7_addStar prog_1_method_4_code 3 (some .int)) ∈ WA := WA_of (List.mem_of_getElem? (i := 332) (by decide +kernel)) (by decide)
theorem wm_290 : (Cond.classLink RX7 59 "java/lang/IllegalArgumentException") ∈ WA := WA_of (List.mem_of_getElem? (i := 333) (by decide +kernel)) (by decide)
theorem wm_291 : (Cond.instantiable "java/lang/IllegalArgumentException" 6) ∈ WA := WA_of (List.mem_of_getElem? (i := 334) (by decide +kernel)) (by decide)
theorem wm_299 : (Cond.selects "java/lang/IllegalArgumentException" ⟨"java/lang/Throwable", "fillInStackTrace", "(I)Ljava/lang/Throwable;"⟩ ⟨"java/lang/Throwable", "fillInStackTrace", "(I)Ljava/lang/Throwable;"⟩) ∈ WA := WA_of (List.mem_of_getElem? (i := 342) (by decide +kernel)) (by decide)
theorem wm_300 : (Cond.selects "java/lang/IllegalArgumentException" ⟨"java/lang/Throwable", "fillInStackTrace", "()Ljava/lang/Throwable;"⟩ ⟨"java/lang/Throwable", "fillInStackTrace", "()Ljava/lang/Throwable;"⟩) ∈ WA := WA_of (List.mem_of_getElem? (i := 343) (by decide +kernel)) (by decide)
theorem wm_311 : (Cond.fieldLink "java/lang/Throwable" 198 "java/lang/Throwable" "backtrace" "Ljava/lang/Object;") ∈ WA := WA_of (List.mem_of_getElem? (i := 354) (by decide +kernel)) (by decide)
theorem wm_313 : (Cond.instanceMethod ⟨"java/lang/Throwable", "<init>", "()V"⟩) ∈ WA := WA_of (List.mem_of_getElem? (i := 356) (by decide +kernel)) (by decide)
theorem wm_314 : (Cond.code ⟨"java/lang/Throwable", "<init>", "()V"⟩ prog_20_method_1_code 1 none) ∈ WA := WA_of (List.mem_of_getElem? (i := 357) (by decide +kernel)) (by decide)
theorem wm_315 : (Cond.methodLink "java/lang/Throwable" 1 ⟨"java/lang/Object", "<init>", "()V"⟩) ∈ WA := WA_of (List.mem_of_getElem? (i := 358) (by decide +kernel)) (by decide)
theorem wm_316 : (Cond.fieldLink "java/lang/Throwable" 13 "java/lang/Throwable" "UNASSIGNED_STACK" "[Ljava/lang/StackTraceElement;") ∈ WA := WA_of (List.mem_of_getElem? (i := 359) (by decide +kernel)) (by decide)
theorem wm_318 : (Cond.fieldLink "java/lang/Throwable" 20 "java/lang/Throwable" "SUPPRESSED_SENTINEL" "Ljava/util/List;") ∈ WA := WA_of (List.mem_of_getElem? (i := 361) (by decide +kernel)) (by decide)
theorem wm_320 : (Cond.methodLink "java/lang/Throwable" 27 ⟨"java/lang/Throwable", "fillInStackTrace", "()Ljava/lang/Throwable;"⟩) ∈ WA := WA_of (List.mem_of_getElem? (i := 363) (by decide +kernel)) (by decide)
theorem wm_321 : (Cond.instanceMethod ⟨"java/lang/Throwable", "fillInStackTrace", "()Ljava/lang/Throwable;"⟩) ∈ WA := WA_of (List.mem_of_getElem? (i := 364) (by decide +kernel)) (by decide)
theorem wm_323 : (Cond.selects "java/lang/IllegalStateException" ⟨"java/lang/Throwable", "fillInStackTrace", "()Ljava/lang/Throwable;"⟩ ⟨"java/lang/Throwable", "fillInStackTrace", "()Ljava/lang/Throwable;"⟩) ∈ WA := WA_of (List.mem_of_getElem? (i := 366) (by decide +kernel)) (by decide)
theorem wm_324 : (Cond.selects "java/lang/IndexOutOfBoundsException" ⟨"java/lang/Throwable", "fillInStackTrace", "()Ljava/lang/Throwable;"⟩ ⟨"java/lang/Throwable", "fillInStackTrace", "()Ljava/lang/Throwable;"⟩) ∈ WA := WA_of (List.mem_of_getElem? (i := 367) (by decide +kernel)) (by decide)
theorem wm_326 : (Cond.methodLink "java/lang/Throwable" 202 ⟨"java/lang/Throwable", "fillInStackTrace", "(I)Ljava/lang/Throwable;"⟩) ∈ WA := WA_of (List.mem_of_getElem? (i := 369) (by decide +kernel)) (by decide)
theorem wm_328 : (Cond.instanceMethod ⟨"java/lang/Throwable", "fillInStackTrace", "(I)Ljava/lang/Throwable;"⟩) ∈ WA := WA_of (List.mem_of_getElem? (i := 371) (by decide +kernel)) (by decide)
theorem wm_329 : (Cond.instantiable "java/lang/Throwable" 6) ∈ WA := WA_of (List.mem_of_getElem? (i := 372) (by decide +kernel)) (by decide)
theorem wm_330 : (Cond.native ⟨"java/lang/Throwable", "fillInStackTrace", "(I)Ljava/lang/Throwable;"⟩) ∈ WA := WA_of (List.mem_of_getElem? (i := 373) (by decide +kernel)) (by decide)
theorem wm_332 : (Cond.methodLink RX7 63 ⟨"java/lang/IllegalArgumentException", "<init>", "(Ljava/lang/String;)V"⟩) ∈ WA := WA_of (List.mem_of_getElem? (i := 375) (by decide +kernel)) (by decide)
theorem wm_333 : (Cond.instanceMethod ⟨"java/lang/IllegalArgumentException", "<init>", "(Ljava/lang/String;)V"⟩) ∈ WA := WA_of (List.mem_of_getElem? (i := 376) (by decide +kernel)) (by decide)
theorem wm_334 : (Cond.code ⟨"java/lang/IllegalArgumentException", "<init>", "(Ljava/lang/String;)V"⟩ prog_12_method_2_code 2 none) ∈ WA := WA_of (List.mem_of_getElem? (i := 377) (by decide +kernel)) (by decide)
theorem wm_335 : (Cond.methodLink "java/lang/IllegalArgumentException" 7 ⟨"java/lang/RuntimeException", "<init>", "(Ljava/lang/String;)V"⟩) ∈ WA := WA_of (List.mem_of_getElem? (i := 378) (by decide +kernel)) (by decide)
theorem wm_336 : (Cond.instanceMethod ⟨"java/lang/RuntimeException", "<init>", "(Ljava/lang/String;)V"⟩) ∈ WA := WA_of (List.mem_of_getElem? (i := 379) (by decide +kernel)) (by decide)
theorem wm_337 : (Cond.code ⟨"java/lang/RuntimeException", "<init>", "(Ljava/lang/String;)V"⟩ prog_17_method_2_code 2 none) ∈ WA := WA_of (List.mem_of_getElem? (i := 380) (by decide +kernel)) (by decide)
theorem wm_338 : (Cond.methodLink "java/lang/RuntimeException" 7 ⟨"java/lang/Exception", "<init>", "(Ljava/lang/String;)V"⟩) ∈ WA := WA_of (List.mem_of_getElem? (i := 381) (by decide +kernel)) (by decide)
theorem wm_339 : (Cond.instanceMethod ⟨"java/lang/Exception", "<init>", "(Ljava/lang/String;)V"⟩) ∈ WA := WA_of (List.mem_of_getElem? (i := 382) (by decide +kernel)) (by decide)
theorem wm_340 : (Cond.code ⟨"java/lang/Exception", "<init>", "(Ljava/lang/String;)V"⟩ prog_11_method_2_code 2 none) ∈ WA := WA_of (List.mem_of_getElem? (i := 383) (by decide +kernel)) (by decide)
theorem wm_341 : (Cond.methodLink "java/lang/Exception" 7 ⟨"java/lang/Throwable", "<init>", "(Ljava/lang/String;)V"⟩) ∈ WA := WA_of (List.mem_of_getElem? (i := 384) (by decide +kernel)) (by decide)
theorem wm_342 : (Cond.instanceMethod ⟨"java/lang/Throwable", "<init>", "(Ljava/lang/String;)V"⟩) ∈ WA := WA_of (List.mem_of_getElem? (i := 385) (by decide +kernel)) (by decide)
theorem wm_343 : (Cond.code ⟨"java/lang/Throwable", "<init>", "(Ljava/lang/String;)V"⟩ prog_20_method_2_code 2 none) ∈ WA := WA_of (List.mem_of_getElem? (i := 386) (by decide +kernel)) (by decide)
theorem wm_345 : (Cond.fieldLink "java/lang/Throwable" 31 "java/lang/Throwable" "detailMessage" "Ljava/lang/String;") ∈ WA := WA_of (List.mem_of_getElem? (i := 388) (by decide +kernel)) (by decide)
theorem wm_346 : (Cond.fieldLink "java/lang/Throwable" 7 "java/lang/Throwable" "cause" "Ljava/lang/Throwable;") ∈ WA := WA_of (List.mem_of_getElem? (i := 389) (by decide +kernel)) (by decide)
theorem wm_347 : (Cond.fieldLink "java/lang/Throwable" 17 "java/lang/Throwable" "stackTrace" "[Ljava/lang/StackTraceElement;") ∈ WA := WA_of (List.mem_of_getElem? (i := 390) (by decide +kernel)) (by decide)
theorem wm_348 : (Cond.fieldLink "java/lang/Throwable" 24 "java/lang/Throwable" "suppressedExceptions" "Ljava/util/List;") ∈ WA := WA_of (List.mem_of_getElem? (i := 391) (by decide +kernel)) (by decide)
theorem wm_358 : (Cond.classLink RX7 70 "java/lang/IllegalStateException") ∈ WA := WA_of (List.mem_of_getElem? (i := 401) (by decide +kernel)) (by decide)
theorem wm_359 : (Cond.instantiable "java/lang/IllegalStateException" 6) ∈ WA := WA_of (List.mem_of_getElem? (i := 402) (by decide +kernel)) (by decide)
theorem wm_361 : (Cond.selects "java/lang/IllegalStateException" ⟨"java/lang/Throwable", "fillInStackTrace", "(I)Ljava/lang/Throwable;"⟩ ⟨"java/lang/Throwable", "fillInStackTrace", "(I)Ljava/lang/Throwable;"⟩) ∈ WA := WA_of (List.mem_of_getElem? (i := 404) (by decide +kernel)) (by decide)
theorem wm_368 : (Cond.methodLink RX7 74 ⟨"java/lang/IllegalStateException", "<init>", "(Ljava/lang/String;)V"⟩) ∈ WA := WA_of (List.mem_of_getElem? (i := 411) (by decide +kernel)) (by decide)
theorem wm_369 : (Cond.instanceMethod ⟨"java/lang/IllegalStateException", "<init>", "(Ljava/lang/String;)V"⟩) ∈ WA := WA_of (List.mem_of_getElem? (i := 412) (by decide +kernel)) (by decide)
theorem wm_370 : (Cond.code ⟨"java/lang/IllegalStateException", "<init>", "(Ljava/lang/String;)V"⟩ prog_13_method_2_code 2 none) ∈ WA := WA_of (List.mem_of_getElem? (i := 413) (by decide +kernel)) (by decide)
theorem wm_371 : (Cond.methodLink "java/lang/IllegalStateException" 7 ⟨"java/lang/RuntimeException", "<init>", "(Ljava/lang/String;)V"⟩) ∈ WA := WA_of (List.mem_of_getElem? (i := 414) (by decide +kernel)) (by decide)
theorem wm_374 : (Cond.methodLink RX7 75 yX7_saveState) ∈ WA := WA_of (List.mem_of_getElem? (i := 417) (by decide +kernel)) (by decide)
theorem wm_376 : (Cond.instanceMethod yX7_saveState) ∈ WA := WA_of (List.mem_of_getElem? (i := 419) (by decide +kernel)) (by decide)
theorem wm_377 : (Cond.code yX7_saveState prog_1_method_34_code 1 none) ∈ WA := WA_of (List.mem_of_getElem? (i := 420) (by decide +kernel)) (by decide)
theorem wm_378 : (Cond.methodLink RX7 285 yX7_dropOldest) ∈ WA := WA_of (List.mem_of_getElem? (i := 421) (by decide +kernel)) (by decide)
theorem wm_380 : (Cond.instanceMethod yX7_dropOldest) ∈ WA := WA_of (List.mem_of_getElem? (i := 423) (by decide +kernel)) (by decide)
theorem wm_381 : (Cond.code yX7_dropOldest prog_1_method_35_code 3 none) ∈ WA := WA_of (List.mem_of_getElem? (i := 424) (by decide +kernel)) (by decide)
theorem wm_384 : (Cond.instanceMethod yX5_copyFrom) ∈ WA := WA_of (List.mem_of_getElem? (i := 427) (by decide +kernel)) (by decide)
theorem wm_385 : (Cond.code yX5_copyFrom prog_7_method_2_code 2 none) ∈ WA := WA_of (List.mem_of_getElem? (i := 428) (by decide +kernel)) (by decide)
theorem wm_388 : (Cond.instanceMethod yX4_copyFrom) ∈ WA := WA_of (List.mem_of_getElem? (i := 431) (by decide +kernel)) (by decide)
theorem wm_389 : (Cond.code yX4_copyFrom prog_6_method_2_code 2 none) ∈ WA := WA_of (List.mem_of_getElem? (i := 432) (by decide +kernel)) (by decide)
theorem wm_390 : (Cond.methodLink RX4 28 ⟨"java/lang/System", "arraycopy", "(Ljava/lang/Object;ILjava/lang/Object;II)V"⟩) ∈ WA := WA_of (List.mem_of_getElem? (i := 433) (by decide +kernel)) (by decide)
theorem wm_393 : (Cond.instanceMethod yX3_copyFrom) ∈ WA := WA_of (List.mem_of_getElem? (i := 436) (by decide +kernel)) (by decide)
theorem wm_394 : (Cond.code yX3_copyFrom prog_5_method_2_code 2 none) ∈ WA := WA_of (List.mem_of_getElem? (i := 437) (by decide +kernel)) (by decide)
theorem wm_395 : (Cond.methodLink RX3 22 ⟨"java/lang/System", "arraycopy", "(Ljava/lang/Object;ILjava/lang/Object;II)V"⟩) ∈ WA := WA_of (List.mem_of_getElem? (i := 438) (by decide +kernel)) (by decide)
theorem wm_398 : (Cond.instanceMethod yX1_copyFrom) ∈ WA := WA_of (List.mem_of_getElem? (i := 441) (by decide +kernel)) (by decide)
theorem wm_399 : (Cond.code yX1_copyFrom prog_3_method_2_code 2 none) ∈ WA := WA_of (List.mem_of_getElem? (i := 442) (by decide +kernel)) (by decide)
theorem wm_402 : (Cond.instanceMethod yX0_copyFrom) ∈ WA := WA_of (List.mem_of_getElem? (i := 445) (by decide +kernel)) (by decide)
theorem wm_403 : (Cond.code yX0_copyFrom prog_2_method_2_code 2 none) ∈ WA := WA_of (List.mem_of_getElem? (i := 446) (by decide +kernel)) (by decide)
theorem wm_406 : (Cond.instanceMethod yX4_put) ∈ WA := WA_of (List.mem_of_getElem? (i := 449) (by decide +kernel)) (by decide)
theorem wm_407 : (Cond.code yX4_put prog_6_method_3_code 4 (some .int)) ∈ WA := WA_of (List.mem_of_getElem? (i := 450) (by decide +kernel)) (by decide)
theorem wm_408 : (Cond.methodLink RL 137 yL_lot) ∈ WA := WA_of (List.mem_of_getElem? (i := 451) (by decide +kernel)) (by decide)
theorem wm_409 : (Cond.static yL_lot) ∈ WA := WA_of (List.mem_of_getElem? (i := 452) (by decide +kernel)) (by decide)
theorem wm_410 : (Cond.code yL_lot method_2_code 2 (some .int)) ∈ WA := WA_of (List.mem_of_getElem? (i := 453) (by decide +kernel)) (by decide)
theorem wm_412 : (Cond.methodLink RL 93 yL_low) ∈ WA := WA_of (List.mem_of_getElem? (i := 455) (by decide +kernel)) (by decide)
theorem wm_413 : (Cond.static yL_low) ∈ WA := WA_of (List.mem_of_getElem? (i := 456) (by decide +kernel)) (by decide)
theorem wm_414 : (Cond.code yL_low method_3_code 2 (some .int)) ∈ WA := WA_of (List.mem_of_getElem? (i := 457) (by decide +kernel)) (by decide)
theorem wm_416 : (Cond.methodLink RL 89 yL_aim) ∈ WA := WA_of (List.mem_of_getElem? (i := 459) (by decide +kernel)) (by decide)
theorem wm_417 : (Cond.static yL_aim) ∈ WA := WA_of (List.mem_of_getElem? (i := 460) (by decide +kernel)) (by decide)
theorem wm_419 : (Cond.classLink RL 15 "java/lang/IndexOutOfBoundsException") ∈ WA := WA_of (List.mem_of_getElem? (i := 462) (by decide +kernel)) (by decide)
theorem wm_420 : (Cond.classLink RL 17 "java/lang/IllegalStateException") ∈ WA := WA_of (List.mem_of_getElem? (i := 463) (by decide +kernel)) (by decide)
theorem wm_421 : (Cond.methodLink RL 9 yX7_aim) ∈ WA := WA_of (List.mem_of_getElem? (i := 464) (by decide +kernel)) (by decide)
theorem wm_422 : (Cond.instanceMethod yX7_aim) ∈ WA := WA_of (List.mem_of_getElem? (i := 465) (by decide +kernel)) (by decide)
theorem wm_423 : (Cond.selects RX7 yX7_aim yX7_aim) ∈ WA := WA_of (List.mem_of_getElem? (i := 466) (by decide +kernel)) (by decide)
theorem wm_424 : (Cond.code yX7_aim prog_1_method_5_code 2 (some .int)) ∈ WA := WA_of (List.mem_of_getElem? (i := 467) (by decide +kernel)) (by decide)
theorem wm_425 : (Cond.methodLink RX7 109 yX7_isStar) ∈ WA := WA_of (List.mem_of_getElem? (i := 468) (by decide +kernel)) (by decide)
theorem wm_427 : (Cond.instanceMethod yX7_isStar) ∈ WA := WA_of (List.mem_of_getElem? (i := 470) (by decide +kernel)) (by decide)
theorem wm_428 : (Cond.code yX7_isStar prog_1_method_27_code 2 (some .boolean)) ∈ WA := WA_of (List.mem_of_getElem? (i := 471) (by decide +kernel)) (by decide)
theorem wm_429 : (Cond.classLink RX7 112 "java/lang/IndexOutOfBoundsException") ∈ WA := WA_of (List.mem_of_getElem? (i := 472) (by decide +kernel)) (by decide)
theorem wm_430 : (Cond.instantiable "java/lang/IndexOutOfBoundsException" 6) ∈ WA := WA_of (List.mem_of_getElem? (i := 473) (by decide +kernel)) (by decide)
theorem wm_432 : (Cond.selects "java/lang/IndexOutOfBoundsException" ⟨"java/lang/Throwable", "fillInStackTrace", "(I)Ljava/lang/Throwable;"⟩ ⟨"java/lang/Throwable", "fillInStackTrace", "(I)Ljava/lang/Throwable;"⟩) ∈ WA := WA_of (List.mem_of_getElem? (i := 475) (by decide +kernel)) (by decide)
theorem wm_439 : (Cond.methodLink RX7 116 ⟨"java/lang/IndexOutOfBoundsException", "<init>", "(Ljava/lang/String;)V"⟩) ∈ WA := WA_of (List.mem_of_getElem? (i := 482) (by decide +kernel)) (by decide)
theorem wm_440 : (Cond.instanceMethod ⟨"java/lang/IndexOutOfBoundsException", "<init>", "(Ljava/lang/String;)V"⟩) ∈ WA := WA_of (List.mem_of_getElem? (i := 483) (by decide +kernel)) (by decide)
theorem wm_441 : (Cond.code ⟨"java/lang/IndexOutOfBoundsException", "<init>", "(Ljava/lang/String;)V"⟩ prog_14_method_2_code 2 none) ∈ WA := WA_of (List.mem_of_getElem? (i := 484) (by decide +kernel)) (by decide)
theorem wm_442 : (Cond.methodLink "java/lang/IndexOutOfBoundsException" 7 ⟨"java/lang/RuntimeException", "<init>", "(Ljava/lang/String;)V"⟩) ∈ WA := WA_of (List.mem_of_getElem? (i := 485) (by decide +kernel)) (by decide)
theorem wm_447 : (Cond.instanceMethod yX5_canPointAt) ∈ WA := WA_of (List.mem_of_getElem? (i := 490) (by decide +kernel)) (by decide)
theorem wm_448 : (Cond.code yX5_canPointAt prog_7_method_7_code 2 (some .boolean)) ∈ WA := WA_of (List.mem_of_getElem? (i := 491) (by decide +kernel)) (by decide)
theorem wm_449 : (Cond.methodLink RX5 156 yX5_isWithinLimits) ∈ WA := WA_of (List.mem_of_getElem? (i := 492) (by decide +kernel)) (by decide)
theorem wm_451 : (Cond.instanceMethod yX5_isWithinLimits) ∈ WA := WA_of (List.mem_of_getElem? (i := 494) (by decide +kernel)) (by decide)
theorem wm_452 : (Cond.code yX5_isWithinLimits prog_7_method_3_code 3 (some .boolean)) ∈ WA := WA_of (List.mem_of_getElem? (i := 495) (by decide +kernel)) (by decide)
theorem wm_453 : (Cond.methodLink RX5 160 yX5_planAim) ∈ WA := WA_of (List.mem_of_getElem? (i := 496) (by decide +kernel)) (by decide)
theorem wm_455 : (Cond.instanceMethod yX5_planAim) ∈ WA := WA_of (List.mem_of_getElem? (i := 498) (by decide +kernel)) (by decide)
theorem wm_456 : (Cond.code yX5_planAim prog_7_method_6_code 6 none) ∈ WA := WA_of (List.mem_of_getElem? (i := 499) (by decide +kernel)) (by decide)
theorem wm_459 : (Cond.instanceMethod yX4_sideOf) ∈ WA := WA_of (List.mem_of_getElem? (i := 502) (by decide +kernel)) (by decide)
theorem wm_460 : (Cond.code yX4_sideOf prog_6_method_4_code 2 (some .int)) ∈ WA := WA_of (List.mem_of_getElem? (i := 503) (by decide +kernel)) (by decide)
theorem wm_463 : (Cond.instanceMethod yX4_regionOf) ∈ WA := WA_of (List.mem_of_getElem? (i := 506) (by decide +kernel)) (by decide)
theorem wm_464 : (Cond.code yX4_regionOf prog_6_method_5_code 2 (some .int)) ∈ WA := WA_of (List.mem_of_getElem? (i := 507) (by decide +kernel)) (by decide)
theorem wm_467 : (Cond.instanceMethod yX3_holding) ∈ WA := WA_of (List.mem_of_getElem? (i := 510) (by decide +kernel)) (by decide)
theorem wm_468 : (Cond.code yX3_holding prog_5_method_6_code 4 (some .double)) ∈ WA := WA_of (List.mem_of_getElem? (i := 511) (by decide +kernel)) (by decide)
theorem wm_469 : (Cond.methodLink RX3 41 yX3_sourceOf) ∈ WA := WA_of (List.mem_of_getElem? (i := 512) (by decide +kernel)) (by decide)
theorem wm_471 : (Cond.instanceMethod yX3_sourceOf) ∈ WA := WA_of (List.mem_of_getElem? (i := 514) (by decide +kernel)) (by decide)
theorem wm_472 : (Cond.code yX3_sourceOf prog_5_method_4_code 6 (some .int)) ∈ WA := WA_of (List.mem_of_getElem? (i := 515) (by decide +kernel)) (by decide)
theorem wm_473 : (Cond.methodLink RX3 28 yX3_distance) ∈ WA := WA_of (List.mem_of_getElem? (i := 516) (by decide +kernel)) (by decide)
theorem wm_474 : (Cond.static yX3_distance) ∈ WA := WA_of (List.mem_of_getElem? (i := 517) (by decide +kernel)) (by decide)
theorem wm_475 : (Cond.code yX3_distance prog_5_method_5_code 3 (some .int)) ∈ WA := WA_of (List.mem_of_getElem? (i := 518) (by decide +kernel)) (by decide)
theorem wm_476 : (Cond.methodLink RX3 32 yJ9_abs_0f7a4) ∈ WA := WA_of (List.mem_of_getElem? (i := 519) (by decide +kernel)) (by decide)
theorem wm_477 : (Cond.static yJ9_abs_0f7a4) ∈ WA := WA_of (List.mem_of_getElem? (i := 520) (by decide +kernel)) (by decide)
theorem wm_478 : (Cond.code yJ9_abs_0f7a4 prog_16_method_59_code 1 (some .int)) ∈ WA := WA_of (List.mem_of_getElem? (i := 521) (by decide +kernel)) (by decide)
theorem wm_479 : (Cond.methodLink RX3 38 yJ9_min_7cf53) ∈ WA := WA_of (List.mem_of_getElem? (i := 522) (by decide +kernel)) (by decide)
theorem wm_480 : (Cond.static yJ9_min_7cf53) ∈ WA := WA_of (List.mem_of_getElem? (i := 523) (by decide +kernel)) (by decide)
theorem wm_481 : (Cond.code yJ9_min_7cf53 prog_16_method_69_code 2 (some .int)) ∈ WA := WA_of (List.mem_of_getElem? (i := 524) (by decide +kernel)) (by decide)
theorem wm_483 : (Cond.static yX7_rounded) ∈ WA := WA_of (List.mem_of_getElem? (i := 526) (by decide +kernel)) (by decide)
theorem wm_484 : (Cond.code yX7_rounded prog_1_method_42_code 2 (some .int)) ∈ WA := WA_of (List.mem_of_getElem? (i := 527) (by decide +kernel)) (by decide)
theorem wm_486 : (Cond.methodLink RX5 125 yJ9_floorMod_7cf53) ∈ WA := WA_of (List.mem_of_getElem? (i := 529) (by decide +kernel)) (by decide)
theorem wm_487 : (Cond.static yJ9_floorMod_7cf53) ∈ WA := WA_of (List.mem_of_getElem? (i := 530) (by decide +kernel)) (by decide)
theorem wm_488 : (Cond.code yJ9_floorMod_7cf53 prog_16_method_50_code 3 (some .int)) ∈ WA := WA_of (List.mem_of_getElem? (i := 531) (by decide +kernel)) (by decide)
theorem wm_489 : (Cond.methodLink RX5 133 yJ9_min_7cf53) ∈ WA := WA_of (List.mem_of_getElem? (i := 532) (by decide +kernel)) (by decide)
theorem wm_490 : (Cond.methodLink RX5 136 yJ9_max_7cf53) ∈ WA := WA_of (List.mem_of_getElem? (i := 533) (by decide +kernel)) (by decide)
theorem wm_491 : (Cond.static yJ9_max_7cf53) ∈ WA := WA_of (List.mem_of_getElem? (i := 534) (by decide +kernel)) (by decide)
theorem wm_492 : (Cond.code yJ9_max_7cf53 prog_16_method_65_code 2 (some .int)) ∈ WA := WA_of (List.mem_of_getElem? (i := 535) (by decide +kernel)) (by decide)
theorem wm_493 : (Cond.methodLink RX5 142 yX5_bendAt) ∈ WA := WA_of (List.mem_of_getElem? (i := 536) (by decide +kernel)) (by decide)
theorem wm_495 : (Cond.instanceMethod yX5_bendAt) ∈ WA := WA_of (List.mem_of_getElem? (i := 538) (by decide +kernel)) (by decide)
theorem wm_496 : (Cond.code yX5_bendAt prog_7_method_5_code 5 (some .double)) ∈ WA := WA_of (List.mem_of_getElem? (i := 539) (by decide +kernel)) (by decide)
theorem wm_498 : (Cond.static yX7_bendIndex) ∈ WA := WA_of (List.mem_of_getElem? (i := 541) (by decide +kernel)) (by decide)
theorem wm_499 : (Cond.code yX7_bendIndex prog_1_method_31_code 2 (some .int)) ∈ WA := WA_of (List.mem_of_getElem? (i := 542) (by decide +kernel)) (by decide)
theorem wm_503 : (Cond.instanceMethod yX1_timeTo) ∈ WA := WA_of (List.mem_of_getElem? (i := 546) (by decide +kernel)) (by decide)
theorem wm_504 : (Cond.code yX1_timeTo prog_3_method_3_code 6 (some .int)) ∈ WA := WA_of (List.mem_of_getElem? (i := 547) (by decide +kernel)) (by decide)
theorem wm_506 : (Cond.static yX7_nearestTurn) ∈ WA := WA_of (List.mem_of_getElem? (i := 549) (by decide +kernel)) (by decide)
theorem wm_507 : (Cond.code yX7_nearestTurn prog_1_method_44_code 3 (some .int)) ∈ WA := WA_of (List.mem_of_getElem? (i := 550) (by decide +kernel)) (by decide)
theorem wm_508 : (Cond.methodLink RX7 306 yJ9_abs_0f7a4) ∈ WA := WA_of (List.mem_of_getElem? (i := 551) (by decide +kernel)) (by decide)
theorem wm_509 : (Cond.methodLink RX1 30 yJ9_abs_0f7a4) ∈ WA := WA_of (List.mem_of_getElem? (i := 552) (by decide +kernel)) (by decide)
theorem wm_510 : (Cond.methodLink RX1 37 yJ9_max_7cf53) ∈ WA := WA_of (List.mem_of_getElem? (i := 553) (by decide +kernel)) (by decide)
theorem wm_512 : (Cond.static yX7_dividedUp) ∈ WA := WA_of (List.mem_of_getElem? (i := 555) (by decide +kernel)) (by decide)
theorem wm_513 : (Cond.code yX7_dividedUp prog_1_method_43_code 2 (some .int)) ∈ WA := WA_of (List.mem_of_getElem? (i := 556) (by decide +kernel)) (by decide)
theorem wm_518 : (Cond.instanceMethod yX5_pointAt) ∈ WA := WA_of (List.mem_of_getElem? (i := 561) (by decide +kernel)) (by decide)
theorem wm_519 : (Cond.code yX5_pointAt prog_7_method_8_code 3 (some .int)) ∈ WA := WA_of (List.mem_of_getElem? (i := 562) (by decide +kernel)) (by decide)
theorem wm_522 : (Cond.instanceMethod yX1_moveTo) ∈ WA := WA_of (List.mem_of_getElem? (i := 565) (by decide +kernel)) (by decide)
theorem wm_523 : (Cond.code yX1_moveTo prog_3_method_4_code 2 none) ∈ WA := WA_of (List.mem_of_getElem? (i := 566) (by decide +kernel)) (by decide)
theorem wm_524 : (Cond.methodLink RX5 173 yX5_finds) ∈ WA := WA_of (List.mem_of_getElem? (i := 567) (by decide +kernel)) (by decide)
theorem wm_526 : (Cond.instanceMethod yX5_finds) ∈ WA := WA_of (List.mem_of_getElem? (i := 569) (by decide +kernel)) (by decide)
theorem wm_527 : (Cond.code yX5_finds prog_7_method_4_code 2 (some .boolean)) ∈ WA := WA_of (List.mem_of_getElem? (i := 570) (by decide +kernel)) (by decide)
theorem wm_530 : (Cond.instanceMethod yX0_size) ∈ WA := WA_of (List.mem_of_getElem? (i := 573) (by decide +kernel)) (by decide)
theorem wm_531 : (Cond.code yX0_size prog_2_method_3_code 5 (some .double)) ∈ WA := WA_of (List.mem_of_getElem? (i := 574) (by decide +kernel)) (by decide)
theorem wm_533 : (Cond.static yX7_withoutSign) ∈ WA := WA_of (List.mem_of_getElem? (i := 576) (by decide +kernel)) (by decide)
theorem wm_534 : (Cond.code yX7_withoutSign prog_1_method_41_code 2 (some .double)) ∈ WA := WA_of (List.mem_of_getElem? (i := 577) (by decide +kernel)) (by decide)
theorem wm_537 : (Cond.instanceMethod yX4_countAim) ∈ WA := WA_of (List.mem_of_getElem? (i := 580) (by decide +kernel)) (by decide)
theorem wm_538 : (Cond.code yX4_countAim prog_6_method_6_code 3 none) ∈ WA := WA_of (List.mem_of_getElem? (i := 581) (by decide +kernel)) (by decide)
theorem wm_539 : (Cond.methodLink RL 98 yL_learn) ∈ WA := WA_of (List.mem_of_getElem? (i := 582) (by decide +kernel)) (by decide)
theorem wm_540 : (Cond.static yL_learn) ∈ WA := WA_of (List.mem_of_getElem? (i := 583) (by decide +kernel)) (by decide)
theorem wm_542 : (Cond.methodLink RL 19 yX7_learn) ∈ WA := WA_of (List.mem_of_getElem? (i := 585) (by decide +kernel)) (by decide)
theorem wm_543 : (Cond.instanceMethod yX7_learn) ∈ WA := WA_of (List.mem_of_getElem? (i := 586) (by decide +kernel)) (by decide)
theorem wm_544 : (Cond.selects RX7 yX7_learn yX7_learn) ∈ WA := WA_of (List.mem_of_getElem? (i := 587) (by decide +kernel)) (by decide)
theorem wm_545 : (Cond.code yX7_learn prog_1_method_6_code 1 (some .int)) ∈ WA := WA_of (List.mem_of_getElem? (i := 588) (by decide +kernel)) (by decide)
theorem wm_549 : (Cond.instanceMethod yX5_takeLesson) ∈ WA := WA_of (List.mem_of_getElem? (i := 592) (by decide +kernel)) (by decide)
theorem wm_550 : (Cond.code yX5_takeLesson prog_7_method_9_code 1 (some .int)) ∈ WA := WA_of (List.mem_of_getElem? (i := 593) (by decide +kernel)) (by decide)
theorem wm_553 : (Cond.instanceMethod yX3_teach) ∈ WA := WA_of (List.mem_of_getElem? (i := 596) (by decide +kernel)) (by decide)
theorem wm_554 : (Cond.code yX3_teach prog_5_method_7_code 4 (some .int)) ∈ WA := WA_of (List.mem_of_getElem? (i := 597) (by decide +kernel)) (by decide)
theorem wm_556 : (Cond.methodLink RL 135 yL_star) ∈ WA := WA_of (List.mem_of_getElem? (i := 599) (by decide +kernel)) (by decide)
theorem wm_557 : (Cond.static yL_star) ∈ WA := WA_of (List.mem_of_getElem? (i := 600) (by decide +kernel)) (by decide)
theorem wm_559 : (Cond.classLink RL 30 "java/lang/IllegalArgumentException") ∈ WA := WA_of (List.mem_of_getElem? (i := 602) (by decide +kernel)) (by decide)
theorem wm_560 : (Cond.methodLink RL 36 yX7_star) ∈ WA := WA_of (List.mem_of_getElem? (i := 603) (by decide +kernel)) (by decide)
theorem wm_561 : (Cond.instanceMethod yX7_star) ∈ WA := WA_of (List.mem_of_getElem? (i := 604) (by decide +kernel)) (by decide)
theorem wm_562 : (Cond.selects RX7 yX7_star yX7_star) ∈ WA := WA_of (List.mem_of_getElem? (i := 605) (by decide +kernel)) (by decide)
theorem wm_563 : (Cond.code yX7_star prog_1_method_9_code 3 (some .int)) ∈ WA := WA_of (List.mem_of_getElem? (i := 606) (by decide +kernel)) (by decide)
theorem wm_567 : (Cond.instanceMethod yX5_starFact) ∈ WA := WA_of (List.mem_of_getElem? (i := 610) (by decide +kernel)) (by decide)
theorem wm_568 : (Cond.code yX5_starFact prog_7_method_12_code 3 (some .int)) ∈ WA := WA_of (List.mem_of_getElem? (i := 611) (by decide +kernel)) (by decide)
theorem wm_569 : (Cond.methodLink RL 101 yL_tour) ∈ WA := WA_of (List.mem_of_getElem? (i := 612) (by decide +kernel)) (by decide)
theorem wm_570 : (Cond.static yL_tour) ∈ WA := WA_of (List.mem_of_getElem? (i := 613) (by decide +kernel)) (by decide)
theorem wm_572 : (Cond.methodLink RL 39 yX7_tour) ∈ WA := WA_of (List.mem_of_getElem? (i := 615) (by decide +kernel)) (by decide)
theorem wm_573 : (Cond.instanceMethod yX7_tour) ∈ WA := WA_of (List.mem_of_getElem? (i := 616) (by decide +kernel)) (by decide)
theorem wm_574 : (Cond.selects RX7 yX7_tour yX7_tour) ∈ WA := WA_of (List.mem_of_getElem? (i := 617) (by decide +kernel)) (by decide)
theorem wm_575 : (Cond.code yX7_tour prog_1_method_21_code 3 (some .int)) ∈ WA := WA_of (List.mem_of_getElem? (i := 618) (by decide +kernel)) (by decide)
theorem wm_576 : (Cond.methodLink RX7 215 yJ6_bitCount_0f7a4) ∈ WA := WA_of (List.mem_of_getElem? (i := 619) (by decide +kernel)) (by decide)
theorem wm_577 : (Cond.static yJ6_bitCount_0f7a4) ∈ WA := WA_of (List.mem_of_getElem? (i := 620) (by decide +kernel)) (by decide)
theorem wm_578 : (Cond.code yJ6_bitCount_0f7a4 prog_15_method_49_code 1 (some .int)) ∈ WA := WA_of (List.mem_of_getElem? (i := 621) (by decide +kernel)) (by decide)
theorem wm_586 : (Cond.instanceMethod yX6_search) ∈ WA := WA_of (List.mem_of_getElem? (i := 629) (by decide +kernel)) (by decide)
theorem wm_587 : (Cond.code yX6_search prog_8_method_3_code 6 none) ∈ WA := WA_of (List.mem_of_getElem? (i := 630) (by decide +kernel)) (by decide)
theorem wm_588 : (Cond.methodLink RX6 42 yX6_collect) ∈ WA := WA_of (List.mem_of_getElem? (i := 631) (by decide +kernel)) (by decide)
theorem wm_590 : (Cond.instanceMethod yX6_collect) ∈ WA := WA_of (List.mem_of_getElem? (i := 633) (by decide +kernel)) (by decide)
theorem wm_591 : (Cond.code yX6_collect prog_8_method_4_code 4 none) ∈ WA := WA_of (List.mem_of_getElem? (i := 634) (by decide +kernel)) (by decide)
theorem wm_593 : (Cond.methodLink RX6 46 yX6_timeOfOrder) ∈ WA := WA_of (List.mem_of_getElem? (i := 636) (by decide +kernel)) (by decide)
theorem wm_595 : (Cond.instanceMethod yX6_timeOfOrder) ∈ WA := WA_of (List.mem_of_getElem? (i := 638) (by decide +kernel)) (by decide)
theorem wm_596 : (Cond.code yX6_timeOfOrder prog_8_method_5_code 5 (some .int)) ∈ WA := WA_of (List.mem_of_getElem? (i := 639) (by decide +kernel)) (by decide)
theorem wm_600 : (Cond.methodLink RX6 50 ⟨"java/lang/System", "arraycopy", "(Ljava/lang/Object;ILjava/lang/Object;II)V"⟩) ∈ WA := WA_of (List.mem_of_getElem? (i := 643) (by decide +kernel)) (by decide)
theorem wm_601 : (Cond.methodLink RX6 56 yX6_stepToNextOrder) ∈ WA := WA_of (List.mem_of_getElem? (i := 644) (by decide +kernel)) (by decide)
theorem wm_603 : (Cond.instanceMethod yX6_stepToNextOrder) ∈ WA := WA_of (List.mem_of_getElem? (i := 646) (by decide +kernel)) (by decide)
theorem wm_604 : (Cond.code yX6_stepToNextOrder prog_8_method_6_code 5 (some .boolean)) ∈ WA := WA_of (List.mem_of_getElem? (i := 647) (by decide +kernel)) (by decide)
theorem wm_605 : (Cond.methodLink RX6 91 yX6_swap) ∈ WA := WA_of (List.mem_of_getElem? (i := 648) (by decide +kernel)) (by decide)
theorem wm_607 : (Cond.instanceMethod yX6_swap) ∈ WA := WA_of (List.mem_of_getElem? (i := 650) (by decide +kernel)) (by decide)
theorem wm_608 : (Cond.code yX6_swap prog_8_method_7_code 4 none) ∈ WA := WA_of (List.mem_of_getElem? (i := 651) (by decide +kernel)) (by decide)
theorem wm_611 : (Cond.instanceMethod yX6_starAt) ∈ WA := WA_of (List.mem_of_getElem? (i := 654) (by decide +kernel)) (by decide)
theorem wm_612 : (Cond.code yX6_starAt prog_8_method_2_code 2 (some .int)) ∈ WA := WA_of (List.mem_of_getElem? (i := 655) (by decide +kernel)) (by decide)
theorem wm_613 : (Cond.methodLink RL 125 yL_undo) ∈ WA := WA_of (List.mem_of_getElem? (i := 656) (by decide +kernel)) (by decide)
theorem wm_614 : (Cond.static yL_undo) ∈ WA := WA_of (List.mem_of_getElem? (i := 657) (by decide +kernel)) (by decide)
theorem wm_616 : (Cond.methodLink RL 42 yX7_undo) ∈ WA := WA_of (List.mem_of_getElem? (i := 659) (by decide +kernel)) (by decide)
theorem wm_617 : (Cond.instanceMethod yX7_undo) ∈ WA := WA_of (List.mem_of_getElem? (i := 660) (by decide +kernel)) (by decide)
theorem wm_618 : (Cond.selects RX7 yX7_undo yX7_undo) ∈ WA := WA_of (List.mem_of_getElem? (i := 661) (by decide +kernel)) (by decide)
theorem wm_619 : (Cond.code yX7_undo prog_1_method_25_code 1 (some .int)) ∈ WA := WA_of (List.mem_of_getElem? (i := 662) (by decide +kernel)) (by decide)
theorem wm_621 : (Cond.methodLink RL 128 yL_regions) ∈ WA := WA_of (List.mem_of_getElem? (i := 664) (by decide +kernel)) (by decide)
theorem wm_622 : (Cond.static yL_regions) ∈ WA := WA_of (List.mem_of_getElem? (i := 665) (by decide +kernel)) (by decide)
theorem wm_623 : (Cond.code yL_regions method_14_code 6 (some .boolean)) ∈ WA := WA_of (List.mem_of_getElem? (i := 666) (by decide +kernel)) (by decide)
theorem wm_624 : (Cond.methodLink RL 45 yX7_source) ∈ WA := WA_of (List.mem_of_getElem? (i := 667) (by decide +kernel)) (by decide)
theorem wm_625 : (Cond.instanceMethod yX7_source) ∈ WA := WA_of (List.mem_of_getElem? (i := 668) (by decide +kernel)) (by decide)
theorem wm_626 : (Cond.selects RX7 yX7_source yX7_source) ∈ WA := WA_of (List.mem_of_getElem? (i := 669) (by decide +kernel)) (by decide)
theorem wm_627 : (Cond.code yX7_source prog_1_method_11_code 2 (some .int)) ∈ WA := WA_of (List.mem_of_getElem? (i := 670) (by decide +kernel)) (by decide)
theorem wm_628 : (Cond.methodLink RX7 148 yX7_isRegion) ∈ WA := WA_of (List.mem_of_getElem? (i := 671) (by decide +kernel)) (by decide)
theorem wm_629 : (Cond.static yX7_isRegion) ∈ WA := WA_of (List.mem_of_getElem? (i := 672) (by decide +kernel)) (by decide)
theorem wm_630 : (Cond.code yX7_isRegion prog_1_method_28_code 1 (some .boolean)) ∈ WA := WA_of (List.mem_of_getElem? (i := 673) (by decide +kernel)) (by decide)
theorem wm_633 : (Cond.methodLink RL 48 yX7_lessons) ∈ WA := WA_of (List.mem_of_getElem? (i := 676) (by decide +kernel)) (by decide)
theorem wm_634 : (Cond.instanceMethod yX7_lessons) ∈ WA := WA_of (List.mem_of_getElem? (i := 677) (by decide +kernel)) (by decide)
theorem wm_635 : (Cond.selects RX7 yX7_lessons yX7_lessons) ∈ WA := WA_of (List.mem_of_getElem? (i := 678) (by decide +kernel)) (by decide)
theorem wm_636 : (Cond.code yX7_lessons prog_1_method_12_code 2 (some .int)) ∈ WA := WA_of (List.mem_of_getElem? (i := 679) (by decide +kernel)) (by decide)
theorem wm_637 : (Cond.methodLink RL 53 yX7_value) ∈ WA := WA_of (List.mem_of_getElem? (i := 680) (by decide +kernel)) (by decide)
theorem wm_638 : (Cond.instanceMethod yX7_value) ∈ WA := WA_of (List.mem_of_getElem? (i := 681) (by decide +kernel)) (by decide)
theorem wm_639 : (Cond.selects RX7 yX7_value yX7_value) ∈ WA := WA_of (List.mem_of_getElem? (i := 682) (by decide +kernel)) (by decide)
theorem wm_640 : (Cond.code yX7_value prog_1_method_14_code 2 (some .int)) ∈ WA := WA_of (List.mem_of_getElem? (i := 683) (by decide +kernel)) (by decide)
theorem wm_644 : (Cond.instanceMethod yX5_number) ∈ WA := WA_of (List.mem_of_getElem? (i := 687) (by decide +kernel)) (by decide)
theorem wm_645 : (Cond.code yX5_number prog_7_method_13_code 2 (some .int)) ∈ WA := WA_of (List.mem_of_getElem? (i := 688) (by decide +kernel)) (by decide)
theorem wm_648 : (Cond.instanceMethod yX4_allAims) ∈ WA := WA_of (List.mem_of_getElem? (i := 691) (by decide +kernel)) (by decide)
theorem wm_649 : (Cond.code yX4_allAims prog_6_method_7_code 3 (some .int)) ∈ WA := WA_of (List.mem_of_getElem? (i := 692) (by decide +kernel)) (by decide)
theorem wm_652 : (Cond.instanceMethod yX4_allFinds) ∈ WA := WA_of (List.mem_of_getElem? (i := 695) (by decide +kernel)) (by decide)
theorem wm_653 : (Cond.code yX4_allFinds prog_6_method_8_code 3 (some .int)) ∈ WA := WA_of (List.mem_of_getElem? (i := 696) (by decide +kernel)) (by decide)
theorem wm_656 : (Cond.instanceMethod yX3_allLessons) ∈ WA := WA_of (List.mem_of_getElem? (i := 699) (by decide +kernel)) (by decide)
theorem wm_657 : (Cond.code yX3_allLessons prog_5_method_8_code 3 (some .int)) ∈ WA := WA_of (List.mem_of_getElem? (i := 700) (by decide +kernel)) (by decide)
theorem wm_660 : (Cond.instanceMethod yX3_taught) ∈ WA := WA_of (List.mem_of_getElem? (i := 703) (by decide +kernel)) (by decide)
theorem wm_661 : (Cond.code yX3_taught prog_5_method_9_code 3 (some .int)) ∈ WA := WA_of (List.mem_of_getElem? (i := 704) (by decide +kernel)) (by decide)
theorem wm_662 : (Cond.methodLink RL 56 yX7_correction) ∈ WA := WA_of (List.mem_of_getElem? (i := 705) (by decide +kernel)) (by decide)
theorem wm_663 : (Cond.instanceMethod yX7_correction) ∈ WA := WA_of (List.mem_of_getElem? (i := 706) (by decide +kernel)) (by decide)
theorem wm_664 : (Cond.selects RX7 yX7_correction yX7_correction) ∈ WA := WA_of (List.mem_of_getElem? (i := 707) (by decide +kernel)) (by decide)
theorem wm_665 : (Cond.code yX7_correction prog_1_method_10_code 3 (some .double)) ∈ WA := WA_of (List.mem_of_getElem? (i := 708) (by decide +kernel)) (by decide)
theorem wm_667 : (Cond.methodLink RL 60 yL_apart) ∈ WA := WA_of (List.mem_of_getElem? (i := 710) (by decide +kernel)) (by decide)
theorem wm_668 : (Cond.static yL_apart) ∈ WA := WA_of (List.mem_of_getElem? (i := 711) (by decide +kernel)) (by decide)
theorem wm_669 : (Cond.code yL_apart method_12_code 4 (some .int)) ∈ WA := WA_of (List.mem_of_getElem? (i := 712) (by decide +kernel)) (by decide)
theorem wm_670 : (Cond.methodLink RL 132 yL_stars) ∈ WA := WA_of (List.mem_of_getElem? (i := 713) (by decide +kernel)) (by decide)
theorem wm_671 : (Cond.static yL_stars) ∈ WA := WA_of (List.mem_of_getElem? (i := 714) (by decide +kernel)) (by decide)
theorem wm_673 : (Cond.methodLink RL 63 yX7_nearest) ∈ WA := WA_of (List.mem_of_getElem? (i := 716) (by decide +kernel)) (by decide)
theorem wm_674 : (Cond.instanceMethod yX7_nearest) ∈ WA := WA_of (List.mem_of_getElem? (i := 717) (by decide +kernel)) (by decide)
theorem wm_675 : (Cond.selects RX7 yX7_nearest yX7_nearest) ∈ WA := WA_of (List.mem_of_getElem? (i := 718) (by decide +kernel)) (by decide)
theorem wm_676 : (Cond.code yX7_nearest prog_1_method_20_code 5 (some .int)) ∈ WA := WA_of (List.mem_of_getElem? (i := 719) (by decide +kernel)) (by decide)
theorem wm_678 : (Cond.methodLink RX7 205 yX7_timeNow) ∈ WA := WA_of (List.mem_of_getElem? (i := 721) (by decide +kernel)) (by decide)
theorem wm_680 : (Cond.instanceMethod yX7_timeNow) ∈ WA := WA_of (List.mem_of_getElem? (i := 723) (by decide +kernel)) (by decide)
theorem wm_681 : (Cond.code yX7_timeNow prog_1_method_33_code 2 (some .int)) ∈ WA := WA_of (List.mem_of_getElem? (i := 724) (by decide +kernel)) (by decide)
theorem wm_684 : (Cond.methodLink RL 66 yX7_bend) ∈ WA := WA_of (List.mem_of_getElem? (i := 727) (by decide +kernel)) (by decide)
theorem wm_685 : (Cond.instanceMethod yX7_bend) ∈ WA := WA_of (List.mem_of_getElem? (i := 728) (by decide +kernel)) (by decide)
theorem wm_686 : (Cond.selects RX7 yX7_bend yX7_bend) ∈ WA := WA_of (List.mem_of_getElem? (i := 729) (by decide +kernel)) (by decide)
theorem wm_687 : (Cond.code yX7_bend prog_1_method_16_code 3 (some .int)) ∈ WA := WA_of (List.mem_of_getElem? (i := 730) (by decide +kernel)) (by decide)
theorem wm_688 : (Cond.methodLink RX7 81 yX7_isBend) ∈ WA := WA_of (List.mem_of_getElem? (i := 731) (by decide +kernel)) (by decide)
theorem wm_689 : (Cond.static yX7_isBend) ∈ WA := WA_of (List.mem_of_getElem? (i := 732) (by decide +kernel)) (by decide)
theorem wm_690 : (Cond.code yX7_isBend prog_1_method_30_code 2 (some .boolean)) ∈ WA := WA_of (List.mem_of_getElem? (i := 733) (by decide +kernel)) (by decide)
theorem wm_692 : (Cond.methodLink RX7 86 yX7_bendIndex) ∈ WA := WA_of (List.mem_of_getElem? (i := 735) (by decide +kernel)) (by decide)
theorem wm_693 : (Cond.methodLink RL 69 yX7_setting) ∈ WA := WA_of (List.mem_of_getElem? (i := 736) (by decide +kernel)) (by decide)
theorem wm_694 : (Cond.instanceMethod yX7_setting) ∈ WA := WA_of (List.mem_of_getElem? (i := 737) (by decide +kernel)) (by decide)
theorem wm_695 : (Cond.selects RX7 yX7_setting yX7_setting) ∈ WA := WA_of (List.mem_of_getElem? (i := 738) (by decide +kernel)) (by decide)
theorem wm_696 : (Cond.code yX7_setting prog_1_method_15_code 2 (some .int)) ∈ WA := WA_of (List.mem_of_getElem? (i := 739) (by decide +kernel)) (by decide)
theorem wm_697 : (Cond.methodLink RX7 48 yX7_isSetting) ∈ WA := WA_of (List.mem_of_getElem? (i := 740) (by decide +kernel)) (by decide)
theorem wm_698 : (Cond.static yX7_isSetting) ∈ WA := WA_of (List.mem_of_getElem? (i := 741) (by decide +kernel)) (by decide)
theorem wm_699 : (Cond.code yX7_isSetting prog_1_method_29_code 1 (some .boolean)) ∈ WA := WA_of (List.mem_of_getElem? (i := 742) (by decide +kernel)) (by decide)
theorem wm_701 : (Cond.methodLink RL 72 yX7_missOf) ∈ WA := WA_of (List.mem_of_getElem? (i := 744) (by decide +kernel)) (by decide)
theorem wm_702 : (Cond.instanceMethod yX7_missOf) ∈ WA := WA_of (List.mem_of_getElem? (i := 745) (by decide +kernel)) (by decide)
theorem wm_703 : (Cond.selects RX7 yX7_missOf yX7_missOf) ∈ WA := WA_of (List.mem_of_getElem? (i := 746) (by decide +kernel)) (by decide)
theorem wm_704 : (Cond.code yX7_missOf prog_1_method_17_code 2 (some .double)) ∈ WA := WA_of (List.mem_of_getElem? (i := 747) (by decide +kernel)) (by decide)
theorem wm_706 : (Cond.methodLink RL 76 yX7_slewTo) ∈ WA := WA_of (List.mem_of_getElem? (i := 749) (by decide +kernel)) (by decide)
theorem wm_707 : (Cond.instanceMethod yX7_slewTo) ∈ WA := WA_of (List.mem_of_getElem? (i := 750) (by decide +kernel)) (by decide)
theorem wm_708 : (Cond.selects RX7 yX7_slewTo yX7_slewTo) ∈ WA := WA_of (List.mem_of_getElem? (i := 751) (by decide +kernel)) (by decide)
theorem wm_709 : (Cond.code yX7_slewTo prog_1_method_18_code 2 (some .int)) ∈ WA := WA_of (List.mem_of_getElem? (i := 752) (by decide +kernel)) (by decide)
theorem wm_710 : (Cond.methodLink RL 79 yX7_miss) ∈ WA := WA_of (List.mem_of_getElem? (i := 753) (by decide +kernel)) (by decide)
theorem wm_711 : (Cond.instanceMethod yX7_miss) ∈ WA := WA_of (List.mem_of_getElem? (i := 754) (by decide +kernel)) (by decide)
theorem wm_712 : (Cond.selects RX7 yX7_miss yX7_miss) ∈ WA := WA_of (List.mem_of_getElem? (i := 755) (by decide +kernel)) (by decide)
theorem wm_713 : (Cond.code yX7_miss prog_1_method_13_code 2 (some .double)) ∈ WA := WA_of (List.mem_of_getElem? (i := 756) (by decide +kernel)) (by decide)
theorem wm_718 : (Cond.instanceMethod yX0_missNumber) ∈ WA := WA_of (List.mem_of_getElem? (i := 761) (by decide +kernel)) (by decide)
theorem wm_719 : (Cond.code yX0_missNumber prog_2_method_4_code 2 (some .double)) ∈ WA := WA_of (List.mem_of_getElem? (i := 762) (by decide +kernel)) (by decide)
theorem wm_720 : (Cond.methodLink RX0 48 yX0_size) ∈ WA := WA_of (List.mem_of_getElem? (i := 763) (by decide +kernel)) (by decide)
theorem wm_721 : (Cond.methodLink RL 82 yL_size) ∈ WA := WA_of (List.mem_of_getElem? (i := 764) (by decide +kernel)) (by decide)
theorem wm_722 : (Cond.static yL_size) ∈ WA := WA_of (List.mem_of_getElem? (i := 765) (by decide +kernel)) (by decide)
theorem wm_723 : (Cond.code yL_size method_13_code 2 (some .double)) ∈ WA := WA_of (List.mem_of_getElem? (i := 766) (by decide +kernel)) (by decide)
theorem wm_724 : (Cond.methodLink RL 86 yX7_found) ∈ WA := WA_of (List.mem_of_getElem? (i := 767) (by decide +kernel)) (by decide)
theorem wm_725 : (Cond.instanceMethod yX7_found) ∈ WA := WA_of (List.mem_of_getElem? (i := 768) (by decide +kernel)) (by decide)
theorem wm_726 : (Cond.selects RX7 yX7_found yX7_found) ∈ WA := WA_of (List.mem_of_getElem? (i := 769) (by decide +kernel)) (by decide)
theorem wm_727 : (Cond.code yX7_found prog_1_method_19_code 3 (some .int)) ∈ WA := WA_of (List.mem_of_getElem? (i := 770) (by decide +kernel)) (by decide)
theorem wm_729 : (Cond.methodLink RL 141 yL_acts) ∈ WA := WA_of (List.mem_of_getElem? (i := 772) (by decide +kernel)) (by decide)
theorem wm_730 : (Cond.static yL_acts) ∈ WA := WA_of (List.mem_of_getElem? (i := 773) (by decide +kernel)) (by decide)
theorem wm_732 : (Cond.methodLink RL 107 yL_goes) ∈ WA := WA_of (List.mem_of_getElem? (i := 775) (by decide +kernel)) (by decide)
theorem wm_733 : (Cond.static yL_goes) ∈ WA := WA_of (List.mem_of_getElem? (i := 776) (by decide +kernel)) (by decide)
theorem wm_737 : (Cond.methodLink RL 111 yL_setBend) ∈ WA := WA_of (List.mem_of_getElem? (i := 780) (by decide +kernel)) (by decide)
theorem wm_738 : (Cond.static yL_setBend) ∈ WA := WA_of (List.mem_of_getElem? (i := 781) (by decide +kernel)) (by decide)
theorem wm_740 : (Cond.methodLink RL 32 yX7_setBend) ∈ WA := WA_of (List.mem_of_getElem? (i := 783) (by decide +kernel)) (by decide)
theorem wm_741 : (Cond.instanceMethod yX7_setBend) ∈ WA := WA_of (List.mem_of_getElem? (i := 784) (by decide +kernel)) (by decide)
theorem wm_742 : (Cond.selects RX7 yX7_setBend yX7_setBend) ∈ WA := WA_of (List.mem_of_getElem? (i := 785) (by decide +kernel)) (by decide)
theorem wm_743 : (Cond.code yX7_setBend prog_1_method_3_code 6 (some .int)) ∈ WA := WA_of (List.mem_of_getElem? (i := 786) (by decide +kernel)) (by decide)
theorem wm_745 : (Cond.methodLink RL 114 yL_set) ∈ WA := WA_of (List.mem_of_getElem? (i := 788) (by decide +kernel)) (by decide)
theorem wm_746 : (Cond.static yL_set) ∈ WA := WA_of (List.mem_of_getElem? (i := 789) (by decide +kernel)) (by decide)
theorem wm_748 : (Cond.methodLink RL 26 yX7_set) ∈ WA := WA_of (List.mem_of_getElem? (i := 791) (by decide +kernel)) (by decide)
theorem wm_749 : (Cond.instanceMethod yX7_set) ∈ WA := WA_of (List.mem_of_getElem? (i := 792) (by decide +kernel)) (by decide)
theorem wm_750 : (Cond.selects RX7 yX7_set yX7_set) ∈ WA := WA_of (List.mem_of_getElem? (i := 793) (by decide +kernel)) (by decide)
theorem wm_751 : (Cond.code yX7_set prog_1_method_2_code 4 (some .int)) ∈ WA := WA_of (List.mem_of_getElem? (i := 794) (by decide +kernel)) (by decide)
theorem wm_752 : (Cond.fieldLink RX7 52 "BentScope" "LOWEST_SETTINGS" "[I") ∈ WA := WA_of (List.mem_of_getElem? (i := 795) (by decide +kernel)) (by decide)
theorem wm_754 : (Cond.fieldLink RX7 56 "BentScope" "HIGHEST_SETTINGS" "[I") ∈ WA := WA_of (List.mem_of_getElem? (i := 797) (by decide +kernel)) (by decide)
theorem wm_757 : (Cond.methodLink RX7 66 yX7_crossesLimits) ∈ WA := WA_of (List.mem_of_getElem? (i := 800) (by decide +kernel)) (by decide)
theorem wm_759 : (Cond.instanceMethod yX7_crossesLimits) ∈ WA := WA_of (List.mem_of_getElem? (i := 802) (by decide +kernel)) (by decide)
theorem wm_760 : (Cond.code yX7_crossesLimits prog_1_method_32_code 3 (some .boolean)) ∈ WA := WA_of (List.mem_of_getElem? (i := 803) (by decide +kernel)) (by decide)
theorem wm_762 : (Cond.methodLink RL 116 yX7_forget) ∈ WA := WA_of (List.mem_of_getElem? (i := 805) (by decide +kernel)) (by decide)
theorem wm_763 : (Cond.instanceMethod yX7_forget) ∈ WA := WA_of (List.mem_of_getElem? (i := 806) (by decide +kernel)) (by decide)
theorem wm_764 : (Cond.selects RX7 yX7_forget yX7_forget) ∈ WA := WA_of (List.mem_of_getElem? (i := 807) (by decide +kernel)) (by decide)
theorem wm_765 : (Cond.code yX7_forget prog_1_method_8_code 2 (some .int)) ∈ WA := WA_of (List.mem_of_getElem? (i := 808) (by decide +kernel)) (by decide)
theorem wm_768 : (Cond.instanceMethod yX3_clear) ∈ WA := WA_of (List.mem_of_getElem? (i := 811) (by decide +kernel)) (by decide)
theorem wm_769 : (Cond.code yX3_clear prog_5_method_3_code 3 (some .int)) ∈ WA := WA_of (List.mem_of_getElem? (i := 812) (by decide +kernel)) (by decide)
theorem wm_770 : (Cond.methodLink RL 119 yL_tours) ∈ WA := WA_of (List.mem_of_getElem? (i := 813) (by decide +kernel)) (by decide)
theorem wm_771 : (Cond.static yL_tours) ∈ WA := WA_of (List.mem_of_getElem? (i := 814) (by decide +kernel)) (by decide)
theorem wm_772 : (Cond.code yL_tours method_17_code 11 (some .boolean)) ∈ WA := WA_of (List.mem_of_getElem? (i := 815) (by decide +kernel)) (by decide)
theorem wm_773 : (Cond.methodLink RL 123 yL_learnAll) ∈ WA := WA_of (List.mem_of_getElem? (i := 816) (by decide +kernel)) (by decide)
theorem wm_774 : (Cond.static yL_learnAll) ∈ WA := WA_of (List.mem_of_getElem? (i := 817) (by decide +kernel)) (by decide)
theorem wm_776 : (Cond.methodLink RL 23 yX7_learnAll) ∈ WA := WA_of (List.mem_of_getElem? (i := 819) (by decide +kernel)) (by decide)
theorem wm_777 : (Cond.instanceMethod yX7_learnAll) ∈ WA := WA_of (List.mem_of_getElem? (i := 820) (by decide +kernel)) (by decide)
theorem wm_778 : (Cond.selects RX7 yX7_learnAll yX7_learnAll) ∈ WA := WA_of (List.mem_of_getElem? (i := 821) (by decide +kernel)) (by decide)
theorem wm_779 : (Cond.code yX7_learnAll prog_1_method_7_code 2 (some .int)) ∈ WA := WA_of (List.mem_of_getElem? (i := 822) (by decide +kernel)) (by decide)
theorem wm_782 : (Cond.instanceMethod yX5_takeAllLessons) ∈ WA := WA_of (List.mem_of_getElem? (i := 825) (by decide +kernel)) (by decide)
theorem wm_783 : (Cond.code yX5_takeAllLessons prog_7_method_10_code 3 (some .int)) ∈ WA := WA_of (List.mem_of_getElem? (i := 826) (by decide +kernel)) (by decide)
theorem wm_784 : (Cond.methodLink RX5 187 yX5_canPointAt) ∈ WA := WA_of (List.mem_of_getElem? (i := 827) (by decide +kernel)) (by decide)
theorem wm_785 : (Cond.methodLink RX5 190 yX5_pointAt) ∈ WA := WA_of (List.mem_of_getElem? (i := 828) (by decide +kernel)) (by decide)
theorem wm_786 : (Cond.methodLink RX5 193 yX5_takeLesson) ∈ WA := WA_of (List.mem_of_getElem? (i := 829) (by decide +kernel)) (by decide)
theorem ws_0 : (Cond.selects "java/lang/Throwable" ⟨"java/lang/Throwable", "fillInStackTrace", "(I)Ljava/lang/Throwable;"⟩ ⟨"java/lang/Throwable", "fillInStackTrace", "(I)Ljava/lang/Throwable;"⟩) ∈ WA := WA_of (List.mem_of_getElem? (i := 0) (by decide +kernel)) (by decide)
theorem ws_1 : (Cond.selects RX7 yX7_saveState yX7_saveState) ∈ WA := WA_of (List.mem_of_getElem? (i := 1) (by decide +kernel)) (by decide)
theorem ws_2 : (Cond.selects RX7 yX7_dropOldest yX7_dropOldest) ∈ WA := WA_of (List.mem_of_getElem? (i := 2) (by decide +kernel)) (by decide)
theorem ws_3 : (Cond.selects RX5 yX5_copyFrom yX5_copyFrom) ∈ WA := WA_of (List.mem_of_getElem? (i := 3) (by decide +kernel)) (by decide)
theorem ws_4 : (Cond.selects RX4 yX4_copyFrom yX4_copyFrom) ∈ WA := WA_of (List.mem_of_getElem? (i := 4) (by decide +kernel)) (by decide)
theorem ws_5 : (Cond.selects RX3 yX3_copyFrom yX3_copyFrom) ∈ WA := WA_of (List.mem_of_getElem? (i := 5) (by decide +kernel)) (by decide)
theorem ws_6 : (Cond.selects RX1 yX1_copyFrom yX1_copyFrom) ∈ WA := WA_of (List.mem_of_getElem? (i := 6) (by decide +kernel)) (by decide)
theorem ws_7 : (Cond.selects RX0 yX0_copyFrom yX0_copyFrom) ∈ WA := WA_of (List.mem_of_getElem? (i := 7) (by decide +kernel)) (by decide)
theorem ws_8 : (Cond.selects RX4 yX4_put yX4_put) ∈ WA := WA_of (List.mem_of_getElem? (i := 8) (by decide +kernel)) (by decide)
theorem ws_9 : (Cond.selects RX7 yX7_isStar yX7_isStar) ∈ WA := WA_of (List.mem_of_getElem? (i := 9) (by decide +kernel)) (by decide)
theorem ws_10 : (Cond.selects RX5 yX5_canPointAt yX5_canPointAt) ∈ WA := WA_of (List.mem_of_getElem? (i := 10) (by decide +kernel)) (by decide)
theorem ws_11 : (Cond.selects RX5 yX5_isWithinLimits yX5_isWithinLimits) ∈ WA := WA_of (List.mem_of_getElem? (i := 11) (by decide +kernel)) (by decide)
theorem ws_12 : (Cond.selects RX5 yX5_planAim yX5_planAim) ∈ WA := WA_of (List.mem_of_getElem? (i := 12) (by decide +kernel)) (by decide)
theorem ws_13 : (Cond.selects RX4 yX4_sideOf yX4_sideOf) ∈ WA := WA_of (List.mem_of_getElem? (i := 13) (by decide +kernel)) (by decide)
theorem ws_14 : (Cond.selects RX4 yX4_regionOf yX4_regionOf) ∈ WA := WA_of (List.mem_of_getElem? (i := 14) (by decide +kernel)) (by decide)
theorem ws_15 : (Cond.selects RX3 yX3_holding yX3_holding) ∈ WA := WA_of (List.mem_of_getElem? (i := 15) (by decide +kernel)) (by decide)
theorem ws_16 : (Cond.selects RX3 yX3_sourceOf yX3_sourceOf) ∈ WA := WA_of (List.mem_of_getElem? (i := 16) (by decide +kernel)) (by decide)
theorem ws_17 : (Cond.selects RX5 yX5_bendAt yX5_bendAt) ∈ WA := WA_of (List.mem_of_getElem? (i := 17) (by decide +kernel)) (by decide)
theorem ws_18 : (Cond.selects RX1 yX1_timeTo yX1_timeTo) ∈ WA := WA_of (List.mem_of_getElem? (i := 18) (by decide +kernel)) (by decide)
theorem ws_19 : (Cond.selects RX5 yX5_pointAt yX5_pointAt) ∈ WA := WA_of (List.mem_of_getElem? (i := 19) (by decide +kernel)) (by decide)
theorem ws_20 : (Cond.selects RX1 yX1_moveTo yX1_moveTo) ∈ WA := WA_of (List.mem_of_getElem? (i := 20) (by decide +kernel)) (by decide)
theorem ws_21 : (Cond.selects RX5 yX5_finds yX5_finds) ∈ WA := WA_of (List.mem_of_getElem? (i := 21) (by decide +kernel)) (by decide)
theorem ws_22 : (Cond.selects RX0 yX0_size yX0_size) ∈ WA := WA_of (List.mem_of_getElem? (i := 22) (by decide +kernel)) (by decide)
theorem ws_23 : (Cond.selects RX4 yX4_countAim yX4_countAim) ∈ WA := WA_of (List.mem_of_getElem? (i := 23) (by decide +kernel)) (by decide)
theorem ws_24 : (Cond.selects RX5 yX5_takeLesson yX5_takeLesson) ∈ WA := WA_of (List.mem_of_getElem? (i := 24) (by decide +kernel)) (by decide)
theorem ws_25 : (Cond.selects RX3 yX3_teach yX3_teach) ∈ WA := WA_of (List.mem_of_getElem? (i := 25) (by decide +kernel)) (by decide)
theorem ws_26 : (Cond.selects RX5 yX5_starFact yX5_starFact) ∈ WA := WA_of (List.mem_of_getElem? (i := 26) (by decide +kernel)) (by decide)
theorem ws_27 : (Cond.selects RX6 yX6_search yX6_search) ∈ WA := WA_of (List.mem_of_getElem? (i := 27) (by decide +kernel)) (by decide)
theorem ws_28 : (Cond.selects RX6 yX6_collect yX6_collect) ∈ WA := WA_of (List.mem_of_getElem? (i := 28) (by decide +kernel)) (by decide)
theorem ws_29 : (Cond.selects RX6 yX6_timeOfOrder yX6_timeOfOrder) ∈ WA := WA_of (List.mem_of_getElem? (i := 29) (by decide +kernel)) (by decide)
theorem ws_30 : (Cond.selects RX6 yX6_stepToNextOrder yX6_stepToNextOrder) ∈ WA := WA_of (List.mem_of_getElem? (i := 30) (by decide +kernel)) (by decide)
theorem ws_31 : (Cond.selects RX6 yX6_swap yX6_swap) ∈ WA := WA_of (List.mem_of_getElem? (i := 31) (by decide +kernel)) (by decide)
theorem ws_32 : (Cond.selects RX6 yX6_starAt yX6_starAt) ∈ WA := WA_of (List.mem_of_getElem? (i := 32) (by decide +kernel)) (by decide)
theorem ws_33 : (Cond.selects RX5 yX5_number yX5_number) ∈ WA := WA_of (List.mem_of_getElem? (i := 33) (by decide +kernel)) (by decide)
theorem ws_34 : (Cond.selects RX4 yX4_allAims yX4_allAims) ∈ WA := WA_of (List.mem_of_getElem? (i := 34) (by decide +kernel)) (by decide)
theorem ws_35 : (Cond.selects RX4 yX4_allFinds yX4_allFinds) ∈ WA := WA_of (List.mem_of_getElem? (i := 35) (by decide +kernel)) (by decide)
theorem ws_36 : (Cond.selects RX3 yX3_allLessons yX3_allLessons) ∈ WA := WA_of (List.mem_of_getElem? (i := 36) (by decide +kernel)) (by decide)
theorem ws_37 : (Cond.selects RX3 yX3_taught yX3_taught) ∈ WA := WA_of (List.mem_of_getElem? (i := 37) (by decide +kernel)) (by decide)
theorem ws_38 : (Cond.selects RX7 yX7_timeNow yX7_timeNow) ∈ WA := WA_of (List.mem_of_getElem? (i := 38) (by decide +kernel)) (by decide)
theorem ws_39 : (Cond.selects RX0 yX0_missNumber yX0_missNumber) ∈ WA := WA_of (List.mem_of_getElem? (i := 39) (by decide +kernel)) (by decide)
theorem ws_40 : (Cond.selects RX7 yX7_crossesLimits yX7_crossesLimits) ∈ WA := WA_of (List.mem_of_getElem? (i := 40) (by decide +kernel)) (by decide)
theorem ws_41 : (Cond.selects RX3 yX3_clear yX3_clear) ∈ WA := WA_of (List.mem_of_getElem? (i := 41) (by decide +kernel)) (by decide)
theorem ws_42 : (Cond.selects RX5 yX5_takeAllLessons yX5_takeAllLessons) ∈ WA := WA_of (List.mem_of_getElem? (i := 42) (by decide +kernel)) (by decide)
def nestL : List Cond := [.methodLinkNest RX7 9 yX5_init RX7, .methodLinkNest RX5 20 yX4_init RX7, .fieldLinkNest RX6 66 "BentScope$Stars" "count" "I" RX7, .fieldLinkNest RX7 99 "BentScope$Stars" "count" "I" RX7, .fieldLinkNest RX5 184 "BentScope$Stars" "count" "I" RX7, .fieldLinkNest RX5 122 "BentScope$Stars" "azimuths" "[I" RX7, .fieldLinkNest RX5 78 "BentScope$Stars" "altitudes" "[I" RX7, .fieldLinkNest RX5 214 "BentScope$Stars" "aims" "[I" RX7, .fieldLinkNest RX5 217 "BentScope$Stars" "finds" "[I" RX7, .methodLinkNest RX5 27 yX3_init RX7, .fieldLinkNest RX7 174 "BentScope$Regions" "lessonCounts" "[I" RX7, .methodLinkNest RX5 34 yX1_init RX7, .fieldLinkNest RX5 219 "BentScope$Mount" "turn" "I" RX7, .fieldLinkNest RX5 222 "BentScope$Mount" "altitude" "I" RX7, .fieldLinkNest RX5 169 "BentScope$Mount" "side" "I" RX7, .methodLinkNest RX5 41 yX0_init RX7, .fieldLinkNest RX6 39 "BentScope$Aim" "star" "I" RX7, .fieldLinkNest RX5 91 "BentScope$Aim" "star" "I" RX7, .fieldLinkNest RX7 179 "BentScope$Aim" "star" "I" RX7, .fieldLinkNest RX1 43 "BentScope$Aim" "side" "I" RX7, .fieldLinkNest RX5 98 "BentScope$Aim" "side" "I" RX7, .fieldLinkNest RX5 104 "BentScope$Aim" "region" "I" RX7, .fieldLinkNest RX3 44 "BentScope$Aim" "region" "I" RX7, .fieldLinkNest RX1 21 "BentScope$Aim" "azimuth" "I" RX7, .fieldLinkNest RX5 130 "BentScope$Aim" "azimuth" "I" RX7, .fieldLinkNest RX1 36 "BentScope$Aim" "altitude" "I" RX7, .fieldLinkNest RX5 139 "BentScope$Aim" "altitude" "I" RX7, .fieldLinkNest RX5 111 "BentScope$Aim" "heldAzimuth" "D" RX7, .fieldLinkNest RX3 50 "BentScope$Aim" "heldAzimuth" "D" RX7, .fieldLinkNest RX5 115 "BentScope$Aim" "heldAltitude" "D" RX7, .fieldLinkNest RX3 54 "BentScope$Aim" "heldAltitude" "D" RX7, .fieldLinkNest RX5 146 "BentScope$Aim" "missAzimuth" "D" RX7, .fieldLinkNest RX3 57 "BentScope$Aim" "missAzimuth" "D" RX7, .fieldLinkNest RX5 149 "BentScope$Aim" "missAltitude" "D" RX7, .fieldLinkNest RX3 62 "BentScope$Aim" "missAltitude" "D" RX7, .fieldLinkNest RX7 129 "BentScope$Aim" "learnable" "Z" RX7, .fieldLinkNest RX5 152 "BentScope$Aim" "learnable" "Z" RX7, .fieldLinkNest RX5 56 "BentScope" "FIRST_SETTINGS" "[I" RX7, .fieldLinkNest RX7 78 "BentScope$State" "settings" "[I" RX7, .fieldLinkNest RX6 80 "BentScope$State" "settings" "[I" RX7, .fieldLinkNest RX7 90 "BentScope$State" "bends" "[I" RX7, .fieldLinkNest RX6 60 "BentScope$State" "stars" "LBentScope$Stars;" RX7, .fieldLinkNest RX7 95 "BentScope$State" "stars" "LBentScope$Stars;" RX7, .fieldLinkNest RX7 153 "BentScope$State" "regions" "LBentScope$Regions;" RX7, .fieldLinkNest RX6 75 "BentScope$State" "mount" "LBentScope$Mount;" RX7, .fieldLinkNest RX7 275 "BentScope$State" "mount" "LBentScope$Mount;" RX7, .fieldLinkNest RX7 126 "BentScope$State" "latest" "LBentScope$Aim;" RX7, .methodLinkNest RX7 29 yX2_init RX7, .methodLinkNest RX7 36 yX0_init RX7, .methodLinkNest RX7 43 yX6_init RX7, .methodLinkNest RX6 26 yX1_init RX7, .methodLinkNest RX6 38 yX0_init RX7, .fieldLinkNest RX7 228 "BentScope$TourSearch" "bestTime" "I" RX7, .methodLinkNest RX7 139 yX5_copyFrom RX7, .methodLinkNest RX5 65 yX4_copyFrom RX7, .methodLinkNest RX5 69 yX3_copyFrom RX7, .methodLinkNest RX5 72 yX1_copyFrom RX7, .methodLinkNest RX5 75 yX0_copyFrom RX7, .methodLinkNest RX7 106 yX4_put RX7, .methodLinkNest RX7 117 yX5_canPointAt RX7, .methodLinkNest RX5 94 yX4_sideOf RX7, .methodLinkNest RX5 101 yX4_regionOf RX7, .methodLinkNest RX5 107 yX3_holding RX7, .methodLinkNest RX5 118 yX7_rounded RX7, .methodLinkNest RX5 85 yX7_bendIndex RX7, .methodLinkNest RX5 164 yX1_timeTo RX7, .methodLinkNest RX1 26 yX7_nearestTurn RX7, .methodLinkNest RX1 40 yX7_dividedUp RX7, .methodLinkNest RX7 122 yX5_pointAt RX7, .methodLinkNest RX5 170 yX1_moveTo RX7, .methodLinkNest RX5 81 yX0_size RX7, .methodLinkNest RX0 44 yX7_withoutSign RX7, .methodLinkNest RX5 177 yX4_countAim RX7, .methodLinkNest RX7 135 yX5_takeLesson RX7, .methodLinkNest RX5 181 yX3_teach RX7, .methodLinkNest RX7 164 yX5_starFact RX7, .methodLinkNest RX7 224 yX6_search RX7, .methodLinkNest RX6 71 yX5_planAim RX7, .methodLinkNest RX6 76 yX1_copyFrom RX7, .methodLinkNest RX6 83 yX1_timeTo RX7, .methodLinkNest RX6 87 yX1_moveTo RX7, .methodLinkNest RX7 231 yX6_starAt RX7, .methodLinkNest RX7 171 yX3_sourceOf RX7, .methodLinkNest RX7 190 yX5_number RX7, .methodLinkNest RX5 223 yX4_allAims RX7, .methodLinkNest RX5 226 yX4_allFinds RX7, .methodLinkNest RX5 229 yX3_allLessons RX7, .methodLinkNest RX5 232 yX3_taught RX7, .methodLinkNest RX7 167 yX3_holding RX7, .methodLinkNest RX7 212 yX5_isWithinLimits RX7, .methodLinkNest RX7 197 yX5_planAim RX7, .methodLinkNest RX7 279 yX1_timeTo RX7, .methodLinkNest RX7 201 yX0_size RX7, .methodLinkNest RX7 184 yX0_missNumber RX7, .methodLinkNest RX7 208 yX5_finds RX7, .methodLinkNest RX7 157 yX3_clear RX7, .methodLinkNest RX7 143 yX5_takeAllLessons RX7]
theorem nl_0 : (Cond.methodLinkNest RX7 9 yX5_init RX7) ∈ nestL := List.mem_of_getElem? (i := 0) rfl
theorem nl_1 : (Cond.methodLinkNest RX5 20 yX4_init RX7) ∈ nestL := List.mem_of_getElem? (i := 1) rfl
theorem nl_2 : (Cond.fieldLinkNest RX6 66 "BentScope$Stars" "count" "I" RX7) ∈ nestL := List.mem_of_getElem? (i := 2) rfl
theorem nl_3 : (Cond.fieldLinkNest RX7 99 "BentScope$Stars" "count" "I" RX7) ∈ nestL := List.mem_of_getElem? (i := 3) rfl
theorem nl_4 : (Cond.fieldLinkNest RX5 184 "BentScope$Stars" "count" "I" RX7) ∈ nestL := List.mem_of_getElem? (i := 4) rfl
theorem nl_5 : (Cond.fieldLinkNest RX5 122 "BentScope$Stars" "azimuths" "[I" RX7) ∈ nestL := List.mem_of_getElem? (i := 5) rfl
theorem nl_6 : (Cond.fieldLinkNest RX5 78 "BentScope$Stars" "altitudes" "[I" RX7) ∈ nestL := List.mem_of_getElem? (i := 6) rfl
theorem nl_7 : (Cond.fieldLinkNest RX5 214 "BentScope$Stars" "aims" "[I" RX7) ∈ nestL := List.mem_of_getElem? (i := 7) rfl
theorem nl_8 : (Cond.fieldLinkNest RX5 217 "BentScope$Stars" "finds" "[I" RX7) ∈ nestL := List.mem_of_getElem? (i := 8) rfl
theorem nl_9 : (Cond.methodLinkNest RX5 27 yX3_init RX7) ∈ nestL := List.mem_of_getElem? (i := 9) rfl
theorem nl_10 : (Cond.fieldLinkNest RX7 174 "BentScope$Regions" "lessonCounts" "[I" RX7) ∈ nestL := List.mem_of_getElem? (i := 10) rfl
theorem nl_11 : (Cond.methodLinkNest RX5 34 yX1_init RX7) ∈ nestL := List.mem_of_getElem? (i := 11) rfl
theorem nl_12 : (Cond.fieldLinkNest RX5 219 "BentScope$Mount" "turn" "I" RX7) ∈ nestL := List.mem_of_getElem? (i := 12) rfl
theorem nl_13 : (Cond.fieldLinkNest RX5 222 "BentScope$Mount" "altitude" "I" RX7) ∈ nestL := List.mem_of_getElem? (i := 13) rfl
theorem nl_14 : (Cond.fieldLinkNest RX5 169 "BentScope$Mount" "side" "I" RX7) ∈ nestL := List.mem_of_getElem? (i := 14) rfl
theorem nl_15 : (Cond.methodLinkNest RX5 41 yX0_init RX7) ∈ nestL := List.mem_of_getElem? (i := 15) rfl
theorem nl_16 : (Cond.fieldLinkNest RX6 39 "BentScope$Aim" "star" "I" RX7) ∈ nestL := List.mem_of_getElem? (i := 16) rfl
theorem nl_17 : (Cond.fieldLinkNest RX5 91 "BentScope$Aim" "star" "I" RX7) ∈ nestL := List.mem_of_getElem? (i := 17) rfl
theorem nl_18 : (Cond.fieldLinkNest RX7 179 "BentScope$Aim" "star" "I" RX7) ∈ nestL := List.mem_of_getElem? (i := 18) rfl
theorem nl_19 : (Cond.fieldLinkNest RX1 43 "BentScope$Aim" "side" "I" RX7) ∈ nestL := List.mem_of_getElem? (i := 19) rfl
theorem nl_20 : (Cond.fieldLinkNest RX5 98 "BentScope$Aim" "side" "I" RX7) ∈ nestL := List.mem_of_getElem? (i := 20) rfl
theorem nl_21 : (Cond.fieldLinkNest RX5 104 "BentScope$Aim" "region" "I" RX7) ∈ nestL := List.mem_of_getElem? (i := 21) rfl
theorem nl_22 : (Cond.fieldLinkNest RX3 44 "BentScope$Aim" "region" "I" RX7) ∈ nestL := List.mem_of_getElem? (i := 22) rfl
theorem nl_23 : (Cond.fieldLinkNest RX1 21 "BentScope$Aim" "azimuth" "I" RX7) ∈ nestL := List.mem_of_getElem? (i := 23) rfl
theorem nl_24 : (Cond.fieldLinkNest RX5 130 "BentScope$Aim" "azimuth" "I" RX7) ∈ nestL := List.mem_of_getElem? (i := 24) rfl
theorem nl_25 : (Cond.fieldLinkNest RX1 36 "BentScope$Aim" "altitude" "I" RX7) ∈ nestL := List.mem_of_getElem? (i := 25) rfl
theorem nl_26 : (Cond.fieldLinkNest RX5 139 "BentScope$Aim" "altitude" "I" RX7) ∈ nestL := List.mem_of_getElem? (i := 26) rfl
theorem nl_27 : (Cond.fieldLinkNest RX5 111 "BentScope$Aim" "heldAzimuth" "D" RX7) ∈ nestL := List.mem_of_getElem? (i := 27) rfl
theorem nl_28 : (Cond.fieldLinkNest RX3 50 "BentScope$Aim" "heldAzimuth" "D" RX7) ∈ nestL := List.mem_of_getElem? (i := 28) rfl
theorem nl_29 : (Cond.fieldLinkNest RX5 115 "BentScope$Aim" "heldAltitude" "D" RX7) ∈ nestL := List.mem_of_getElem? (i := 29) rfl
theorem nl_30 : (Cond.fieldLinkNest RX3 54 "BentScope$Aim" "heldAltitude" "D" RX7) ∈ nestL := List.mem_of_getElem? (i := 30) rfl
theorem nl_31 : (Cond.fieldLinkNest RX5 146 "BentScope$Aim" "missAzimuth" "D" RX7) ∈ nestL := List.mem_of_getElem? (i := 31) rfl
theorem nl_32 : (Cond.fieldLinkNest RX3 57 "BentScope$Aim" "missAzimuth" "D" RX7) ∈ nestL := List.mem_of_getElem? (i := 32) rfl
theorem nl_33 : (Cond.fieldLinkNest RX5 149 "BentScope$Aim" "missAltitude" "D" RX7) ∈ nestL := List.mem_of_getElem? (i := 33) rfl
theorem nl_34 : (Cond.fieldLinkNest RX3 62 "BentScope$Aim" "missAltitude" "D" RX7) ∈ nestL := List.mem_of_getElem? (i := 34) rfl
theorem nl_35 : (Cond.fieldLinkNest RX7 129 "BentScope$Aim" "learnable" "Z" RX7) ∈ nestL := List.mem_of_getElem? (i := 35) rfl
theorem nl_36 : (Cond.fieldLinkNest RX5 152 "BentScope$Aim" "learnable" "Z" RX7) ∈ nestL := List.mem_of_getElem? (i := 36) rfl
theorem nl_37 : (Cond.fieldLinkNest RX5 56 "BentScope" "FIRST_SETTINGS" "[I" RX7) ∈ nestL := List.mem_of_getElem? (i := 37) rfl
theorem nl_38 : (Cond.fieldLinkNest RX7 78 "BentScope$State" "settings" "[I" RX7) ∈ nestL := List.mem_of_getElem? (i := 38) rfl
theorem nl_39 : (Cond.fieldLinkNest RX6 80 "BentScope$State" "settings" "[I" RX7) ∈ nestL := List.mem_of_getElem? (i := 39) rfl
theorem nl_40 : (Cond.fieldLinkNest RX7 90 "BentScope$State" "bends" "[I" RX7) ∈ nestL := List.mem_of_getElem? (i := 40) rfl
theorem nl_41 : (Cond.fieldLinkNest RX6 60 "BentScope$State" "stars" "LBentScope$Stars;" RX7) ∈ nestL := List.mem_of_getElem? (i := 41) rfl
theorem nl_42 : (Cond.fieldLinkNest RX7 95 "BentScope$State" "stars" "LBentScope$Stars;" RX7) ∈ nestL := List.mem_of_getElem? (i := 42) rfl
theorem nl_43 : (Cond.fieldLinkNest RX7 153 "BentScope$State" "regions" "LBentScope$Regions;" RX7) ∈ nestL := List.mem_of_getElem? (i := 43) rfl
theorem nl_44 : (Cond.fieldLinkNest RX6 75 "BentScope$State" "mount" "LBentScope$Mount;" RX7) ∈ nestL := List.mem_of_getElem? (i := 44) rfl
theorem nl_45 : (Cond.fieldLinkNest RX7 275 "BentScope$State" "mount" "LBentScope$Mount;" RX7) ∈ nestL := List.mem_of_getElem? (i := 45) rfl
theorem nl_46 : (Cond.fieldLinkNest RX7 126 "BentScope$State" "latest" "LBentScope$Aim;" RX7) ∈ nestL := List.mem_of_getElem? (i := 46) rfl
theorem nl_47 : (Cond.methodLinkNest RX7 29 yX2_init RX7) ∈ nestL := List.mem_of_getElem? (i := 47) rfl
theorem nl_48 : (Cond.methodLinkNest RX7 36 yX0_init RX7) ∈ nestL := List.mem_of_getElem? (i := 48) rfl
theorem nl_49 : (Cond.methodLinkNest RX7 43 yX6_init RX7) ∈ nestL := List.mem_of_getElem? (i := 49) rfl
theorem nl_50 : (Cond.methodLinkNest RX6 26 yX1_init RX7) ∈ nestL := List.mem_of_getElem? (i := 50) rfl
theorem nl_51 : (Cond.methodLinkNest RX6 38 yX0_init RX7) ∈ nestL := List.mem_of_getElem? (i := 51) rfl
theorem nl_52 : (Cond.fieldLinkNest RX7 228 "BentScope$TourSearch" "bestTime" "I" RX7) ∈ nestL := List.mem_of_getElem? (i := 52) rfl
theorem nl_53 : (Cond.methodLinkNest RX7 139 yX5_copyFrom RX7) ∈ nestL := List.mem_of_getElem? (i := 53) rfl
theorem nl_54 : (Cond.methodLinkNest RX5 65 yX4_copyFrom RX7) ∈ nestL := List.mem_of_getElem? (i := 54) rfl
theorem nl_55 : (Cond.methodLinkNest RX5 69 yX3_copyFrom RX7) ∈ nestL := List.mem_of_getElem? (i := 55) rfl
theorem nl_56 : (Cond.methodLinkNest RX5 72 yX1_copyFrom RX7) ∈ nestL := List.mem_of_getElem? (i := 56) rfl
theorem nl_57 : (Cond.methodLinkNest RX5 75 yX0_copyFrom RX7) ∈ nestL := List.mem_of_getElem? (i := 57) rfl
theorem nl_58 : (Cond.methodLinkNest RX7 106 yX4_put RX7) ∈ nestL := List.mem_of_getElem? (i := 58) rfl
theorem nl_59 : (Cond.methodLinkNest RX7 117 yX5_canPointAt RX7) ∈ nestL := List.mem_of_getElem? (i := 59) rfl
theorem nl_60 : (Cond.methodLinkNest RX5 94 yX4_sideOf RX7) ∈ nestL := List.mem_of_getElem? (i := 60) rfl
theorem nl_61 : (Cond.methodLinkNest RX5 101 yX4_regionOf RX7) ∈ nestL := List.mem_of_getElem? (i := 61) rfl
theorem nl_62 : (Cond.methodLinkNest RX5 107 yX3_holding RX7) ∈ nestL := List.mem_of_getElem? (i := 62) rfl
theorem nl_63 : (Cond.methodLinkNest RX5 118 yX7_rounded RX7) ∈ nestL := List.mem_of_getElem? (i := 63) rfl
theorem nl_64 : (Cond.methodLinkNest RX5 85 yX7_bendIndex RX7) ∈ nestL := List.mem_of_getElem? (i := 64) rfl
theorem nl_65 : (Cond.methodLinkNest RX5 164 yX1_timeTo RX7) ∈ nestL := List.mem_of_getElem? (i := 65) rfl
theorem nl_66 : (Cond.methodLinkNest RX1 26 yX7_nearestTurn RX7) ∈ nestL := List.mem_of_getElem? (i := 66) rfl
theorem nl_67 : (Cond.methodLinkNest RX1 40 yX7_dividedUp RX7) ∈ nestL := List.mem_of_getElem? (i := 67) rfl
theorem nl_68 : (Cond.methodLinkNest RX7 122 yX5_pointAt RX7) ∈ nestL := List.mem_of_getElem? (i := 68) rfl
theorem nl_69 : (Cond.methodLinkNest RX5 170 yX1_moveTo RX7) ∈ nestL := List.mem_of_getElem? (i := 69) rfl
theorem nl_70 : (Cond.methodLinkNest RX5 81 yX0_size RX7) ∈ nestL := List.mem_of_getElem? (i := 70) rfl
theorem nl_71 : (Cond.methodLinkNest RX0 44 yX7_withoutSign RX7) ∈ nestL := List.mem_of_getElem? (i := 71) rfl
theorem nl_72 : (Cond.methodLinkNest RX5 177 yX4_countAim RX7) ∈ nestL := List.mem_of_getElem? (i := 72) rfl
theorem nl_73 : (Cond.methodLinkNest RX7 135 yX5_takeLesson RX7) ∈ nestL := List.mem_of_getElem? (i := 73) rfl
theorem nl_74 : (Cond.methodLinkNest RX5 181 yX3_teach RX7) ∈ nestL := List.mem_of_getElem? (i := 74) rfl
theorem nl_75 : (Cond.methodLinkNest RX7 164 yX5_starFact RX7) ∈ nestL := List.mem_of_getElem? (i := 75) rfl
theorem nl_76 : (Cond.methodLinkNest RX7 224 yX6_search RX7) ∈ nestL := List.mem_of_getElem? (i := 76) rfl
theorem nl_77 : (Cond.methodLinkNest RX6 71 yX5_planAim RX7) ∈ nestL := List.mem_of_getElem? (i := 77) rfl
theorem nl_78 : (Cond.methodLinkNest RX6 76 yX1_copyFrom RX7) ∈ nestL := List.mem_of_getElem? (i := 78) rfl
theorem nl_79 : (Cond.methodLinkNest RX6 83 yX1_timeTo RX7) ∈ nestL := List.mem_of_getElem? (i := 79) rfl
theorem nl_80 : (Cond.methodLinkNest RX6 87 yX1_moveTo RX7) ∈ nestL := List.mem_of_getElem? (i := 80) rfl
theorem nl_81 : (Cond.methodLinkNest RX7 231 yX6_starAt RX7) ∈ nestL := List.mem_of_getElem? (i := 81) rfl
theorem nl_82 : (Cond.methodLinkNest RX7 171 yX3_sourceOf RX7) ∈ nestL := List.mem_of_getElem? (i := 82) rfl
theorem nl_83 : (Cond.methodLinkNest RX7 190 yX5_number RX7) ∈ nestL := List.mem_of_getElem? (i := 83) rfl
theorem nl_84 : (Cond.methodLinkNest RX5 223 yX4_allAims RX7) ∈ nestL := List.mem_of_getElem? (i := 84) rfl
theorem nl_85 : (Cond.methodLinkNest RX5 226 yX4_allFinds RX7) ∈ nestL := List.mem_of_getElem? (i := 85) rfl
theorem nl_86 : (Cond.methodLinkNest RX5 229 yX3_allLessons RX7) ∈ nestL := List.mem_of_getElem? (i := 86) rfl
theorem nl_87 : (Cond.methodLinkNest RX5 232 yX3_taught RX7) ∈ nestL := List.mem_of_getElem? (i := 87) rfl
theorem nl_88 : (Cond.methodLinkNest RX7 167 yX3_holding RX7) ∈ nestL := List.mem_of_getElem? (i := 88) rfl
theorem nl_89 : (Cond.methodLinkNest RX7 212 yX5_isWithinLimits RX7) ∈ nestL := List.mem_of_getElem? (i := 89) rfl
theorem nl_90 : (Cond.methodLinkNest RX7 197 yX5_planAim RX7) ∈ nestL := List.mem_of_getElem? (i := 90) rfl
theorem nl_91 : (Cond.methodLinkNest RX7 279 yX1_timeTo RX7) ∈ nestL := List.mem_of_getElem? (i := 91) rfl
theorem nl_92 : (Cond.methodLinkNest RX7 201 yX0_size RX7) ∈ nestL := List.mem_of_getElem? (i := 92) rfl
theorem nl_93 : (Cond.methodLinkNest RX7 184 yX0_missNumber RX7) ∈ nestL := List.mem_of_getElem? (i := 93) rfl
theorem nl_94 : (Cond.methodLinkNest RX7 208 yX5_finds RX7) ∈ nestL := List.mem_of_getElem? (i := 94) rfl
theorem nl_95 : (Cond.methodLinkNest RX7 157 yX3_clear RX7) ∈ nestL := List.mem_of_getElem? (i := 95) rfl
theorem nl_96 : (Cond.methodLinkNest RX7 143 yX5_takeAllLessons RX7) ∈ nestL := List.mem_of_getElem? (i := 96) rfl
theorem inX0 : ∀ w ∈ u_ws RX0 TX0 10, w ∈ WA := by
  have h : ∀ w ∈ u_ws RX0 TX0 10, w ∈ lw_tbl ∧ goodWord w = true := by decide +kernel
  exact fun w hw => WA_of (h w hw).1 (h w hw).2
theorem inX1 : ∀ w ∈ u_ws RX1 TX1 3, w ∈ WA := by
  have h : ∀ w ∈ u_ws RX1 TX1 3, w ∈ lw_tbl ∧ goodWord w = true := by decide +kernel
  exact fun w hw => WA_of (h w hw).1 (h w hw).2
theorem inX2 : ∀ w ∈ u_ws RX2 TX2 8, w ∈ WA := by
  have h : ∀ w ∈ u_ws RX2 TX2 8, w ∈ lw_tbl ∧ goodWord w = true := by decide +kernel
  exact fun w hw => WA_of (h w hw).1 (h w hw).2
theorem inX3 : ∀ w ∈ u_ws RX3 TX3 3, w ∈ WA := by
  have h : ∀ w ∈ u_ws RX3 TX3 3, w ∈ lw_tbl ∧ goodWord w = true := by decide +kernel
  exact fun w hw => WA_of (h w hw).1 (h w hw).2
theorem inX4 : ∀ w ∈ u_ws RX4 TX4 5, w ∈ WA := by
  have h : ∀ w ∈ u_ws RX4 TX4 5, w ∈ lw_tbl ∧ goodWord w = true := by decide +kernel
  exact fun w hw => WA_of (h w hw).1 (h w hw).2
theorem inX5 : ∀ w ∈ u_ws RX5 TX5 9, w ∈ WA := by
  have h : ∀ w ∈ u_ws RX5 TX5 9, w ∈ lw_tbl ∧ goodWord w = true := by decide +kernel
  exact fun w hw => WA_of (h w hw).1 (h w hw).2
theorem inX6 : ∀ w ∈ u_ws RX6 TX6 6, w ∈ WA := by
  have h : ∀ w ∈ u_ws RX6 TX6 6, w ∈ lw_tbl ∧ goodWord w = true := by decide +kernel
  exact fun w hw => WA_of (h w hw).1 (h w hw).2
theorem inX7 : ∀ w ∈ u_ws RX7 TX7 7, w ∈ WA := by
  have h : ∀ w ∈ u_ws RX7 TX7 7, w ∈ lw_tbl ∧ goodWord w = true := by decide +kernel
  exact fun w hw => WA_of (h w hw).1 (h w hw).2
theorem wm_61 : (Cond.arrayClass .int) ∈ WA := WA_of (List.mem_of_getElem? (i := 104) (by decide +kernel)) (by decide)
theorem wm_79 : (Cond.arrayClass .double) ∈ WA := WA_of (List.mem_of_getElem? (i := 122) (by decide +kernel)) (by decide)
theorem wm_357 : (Cond.arrayClass .byte) ∈ WA := WA_of (List.mem_of_getElem? (i := 400) (by decide +kernel)) (by decide)
theorem wm_411 : (Cond.constant RL 7 (2108672845)) ∈ WA := WA_of (List.mem_of_getElem? (i := 454) (by decide +kernel)) (by decide)
theorem wm_415 : (Cond.constant RL 8 (2147483647)) ∈ WA := WA_of (List.mem_of_getElem? (i := 458) (by decide +kernel)) (by decide)
theorem wm_485 : (Cond.constantDouble RX7 304 (4602678819172646912)) ∈ WA := WA_of (List.mem_of_getElem? (i := 528) (by decide +kernel)) (by decide)
theorem wm_500 : (Cond.constantDouble RX5 89 (4662659377491083264)) ∈ WA := WA_of (List.mem_of_getElem? (i := 543) (by decide +kernel)) (by decide)
theorem wm_514 : (Cond.constant RX5 168 (1000000)) ∈ WA := WA_of (List.mem_of_getElem? (i := 557) (by decide +kernel)) (by decide)
theorem wm_555 : (Cond.constantDouble RX3 60 (4636737291354636288)) ∈ WA := WA_of (List.mem_of_getElem? (i := 598) (by decide +kernel)) (by decide)
theorem wm_579 : (Cond.constant RJ6 265 (1431655765)) ∈ WA := WA_of (List.mem_of_getElem? (i := 622) (by decide +kernel)) (by decide)
theorem wm_580 : (Cond.constant RJ6 266 (858993459)) ∈ WA := WA_of (List.mem_of_getElem? (i := 623) (by decide +kernel)) (by decide)
theorem wm_581 : (Cond.constant RJ6 267 (252645135)) ∈ WA := WA_of (List.mem_of_getElem? (i := 624) (by decide +kernel)) (by decide)
theorem wm_735 : (Cond.constant RL 92 (1000000)) ∈ WA := WA_of (List.mem_of_getElem? (i := 778) (by decide +kernel)) (by decide)
theorem wm_736 : (Cond.constantDouble RL 96 (4636737291354636288)) ∈ WA := WA_of (List.mem_of_getElem? (i := 779) (by decide +kernel)) (by decide)
