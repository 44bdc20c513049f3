-- the good words of the tables: a callee's words stand among the caller's
theorem og_g {w : Cond} (h : w ∈ og_tb) : w ∈ og_tb ∧ ((w.onTables && w.keeps) = true ∨ ∃ ty, w = .arrayClass ty) := ⟨h, good_of_word (List.mem_filter.mp h).2⟩
theorem og_gC {cw : Cond} (h : cw ∈ og_tb) : GoodIn og_tb (cw :: og_tb) := fun w hw => by
  rcases List.mem_cons.mp hw with rfl | hw
  · exact og_g h
  · exact og_g hw
theorem og_gV {own : String} {idx : Nat} {C : String} {y : MethodName} {cw : Cond} (h1 : Cond.methodLink own idx y ∈ og_tb) (h2 : Cond.instanceMethod y ∈ og_tb) (h3 : Cond.selects C y y ∈ og_tb) (h4 : Cond.initialized C ∈ og_tb) (h5 : cw ∈ og_tb) : GoodIn og_tb (wsV own idx C y (cw :: og_tb)) := fun w hw => by
  rcases List.mem_append.mp hw with hw | hw
  · rcases List.mem_cons.mp hw with rfl | hw
    · exact og_g h1
    · rcases List.mem_cons.mp hw with rfl | hw
      · exact og_g h2
      · rcases List.mem_cons.mp hw with rfl | hw
        · exact og_g h3
        · rcases List.mem_cons.mp hw with rfl | hw
          · exact og_g h4
          · exact absurd hw List.not_mem_nil
  · exact og_gC h5 w hw
theorem og_gS {own : String} {idx : Nat} {y : MethodName} {cw : Cond} (h1 : Cond.methodLink own idx y ∈ og_tb) (h2 : Cond.static y ∈ og_tb) (h4 : Cond.initialized y.cls ∈ og_tb) (h5 : cw ∈ og_tb) : GoodIn og_tb (va_wsS own idx y (cw :: og_tb)) := fun w hw => by
  rcases List.mem_append.mp hw with hw | hw
  · rcases List.mem_cons.mp hw with rfl | hw
    · exact og_g h1
    · rcases List.mem_cons.mp hw with rfl | hw
      · exact og_g h2
      · rcases List.mem_cons.mp hw with rfl | hw
        · exact og_g h4
        · exact absurd hw List.not_mem_nil
  · exact og_gC h5 w hw

theorem tb_0 : Cond.fieldLink R_K 9 "CycleRows$Keys" "count" "I" ∈ og_tb := List.mem_filter.mpr ⟨List.mem_append_right _ (List.mem_of_getElem? (i := 25) (by decide +kernel)), by decide +kernel⟩
theorem tb_1 : Cond.fieldLink R_K 15 "CycleRows$Keys" "names" "[I" ∈ og_tb := List.mem_filter.mpr ⟨List.mem_append_right _ (List.mem_of_getElem? (i := 29) (by decide +kernel)), by decide +kernel⟩
theorem tb_2 : Cond.fieldLink R_K 22 "CycleRows$Keys" "rankOf" "[I" ∈ og_tb := List.mem_filter.mpr ⟨List.mem_append_right _ (List.mem_of_getElem? (i := 32) (by decide +kernel)), by decide +kernel⟩
theorem tb_3 : Cond.fieldLink R_K 19 "CycleRows$Keys" "byRank" "[I" ∈ og_tb := List.mem_filter.mpr ⟨List.mem_append_right _ (List.mem_of_getElem? (i := 30) (by decide +kernel)), by decide +kernel⟩
theorem tb_4 : Cond.methodLink R_K 25 y_K_isNamed ∈ og_tb := List.mem_filter.mpr ⟨List.mem_append_right _ (List.mem_of_getElem? (i := 193) (by decide +kernel)), by decide +kernel⟩
theorem tb_5 : Cond.instanceMethod y_K_isNamed ∈ og_tb := List.mem_filter.mpr ⟨List.mem_append_right _ (List.mem_of_getElem? (i := 195) (by decide +kernel)), by decide +kernel⟩
theorem tb_6 : Cond.selects R_K y_K_isNamed y_K_isNamed ∈ og_tb := List.mem_filter.mpr ⟨List.mem_append_left _ (List.mem_of_getElem? (i := 0) (by decide +kernel)), by decide +kernel⟩
theorem tb_7 : Cond.initialized R_K ∈ og_tb := List.mem_filter.mpr ⟨List.mem_append_right _ (List.mem_of_getElem? (i := 2) (by decide +kernel)), by decide +kernel⟩
theorem tb_8 : Cond.code y_K_isNamed b_K_isNamed 3 (some .boolean) ∈ og_tb := List.mem_filter.mpr ⟨List.mem_append_right _ (List.mem_of_getElem? (i := 196) (by decide +kernel)), by decide +kernel⟩
theorem tb_9 : Cond.methodLink R_K 29 y_K_insert ∈ og_tb := List.mem_filter.mpr ⟨List.mem_append_right _ (List.mem_of_getElem? (i := 197) (by decide +kernel)), by decide +kernel⟩
theorem tb_10 : Cond.instanceMethod y_K_insert ∈ og_tb := List.mem_filter.mpr ⟨List.mem_append_right _ (List.mem_of_getElem? (i := 199) (by decide +kernel)), by decide +kernel⟩
theorem tb_11 : Cond.selects R_K y_K_insert y_K_insert ∈ og_tb := List.mem_filter.mpr ⟨List.mem_append_left _ (List.mem_of_getElem? (i := 1) (by decide +kernel)), by decide +kernel⟩
theorem tb_12 : Cond.code y_K_insert b_K_insert 4 none ∈ og_tb := List.mem_filter.mpr ⟨List.mem_append_right _ (List.mem_of_getElem? (i := 200) (by decide +kernel)), by decide +kernel⟩
theorem tb_13 : Cond.fieldLink R_C 10 "CycleRows" "keys" "LCycleRows$Keys;" ∈ og_tb := List.mem_filter.mpr ⟨List.mem_append_right _ (List.mem_of_getElem? (i := 169) (by decide +kernel)), by decide +kernel⟩
theorem tb_14 : Cond.methodLink R_C 44 y_K_add ∈ og_tb := List.mem_filter.mpr ⟨List.mem_append_right _ (List.mem_of_getElem? (i := 189) (by decide +kernel)), by decide +kernel⟩
theorem tb_15 : Cond.instanceMethod y_K_add ∈ og_tb := List.mem_filter.mpr ⟨List.mem_append_right _ (List.mem_of_getElem? (i := 190) (by decide +kernel)), by decide +kernel⟩
theorem tb_16 : Cond.selects R_K y_K_add y_K_add ∈ og_tb := List.mem_filter.mpr ⟨List.mem_append_right _ (List.mem_of_getElem? (i := 191) (by decide +kernel)), by decide +kernel⟩
theorem tb_17 : Cond.code y_K_add b_K_add 3 (some .int) ∈ og_tb := List.mem_filter.mpr ⟨List.mem_append_right _ (List.mem_of_getElem? (i := 192) (by decide +kernel)), by decide +kernel⟩
theorem tb_18 : Cond.fieldLink R_E 9 "CycleRows$Edges" "count" "I" ∈ og_tb := List.mem_filter.mpr ⟨List.mem_append_right _ (List.mem_of_getElem? (i := 50) (by decide +kernel)), by decide +kernel⟩
theorem tb_19 : Cond.fieldLink R_E 15 "CycleRows$Edges" "from" "[I" ∈ og_tb := List.mem_filter.mpr ⟨List.mem_append_right _ (List.mem_of_getElem? (i := 53) (by decide +kernel)), by decide +kernel⟩
theorem tb_20 : Cond.fieldLink R_E 19 "CycleRows$Edges" "to" "[I" ∈ og_tb := List.mem_filter.mpr ⟨List.mem_append_right _ (List.mem_of_getElem? (i := 56) (by decide +kernel)), by decide +kernel⟩
theorem tb_21 : Cond.fieldLink R_E 22 "CycleRows$Edges" "places" "[I" ∈ og_tb := List.mem_filter.mpr ⟨List.mem_append_right _ (List.mem_of_getElem? (i := 59) (by decide +kernel)), by decide +kernel⟩
theorem tb_22 : Cond.fieldLink R_E 25 "CycleRows$Edges" "configurations" "[I" ∈ og_tb := List.mem_filter.mpr ⟨List.mem_append_right _ (List.mem_of_getElem? (i := 60) (by decide +kernel)), by decide +kernel⟩
theorem tb_23 : Cond.methodLink R_C 48 y_K_has ∈ og_tb := List.mem_filter.mpr ⟨List.mem_append_right _ (List.mem_of_getElem? (i := 205) (by decide +kernel)), by decide +kernel⟩
theorem tb_24 : Cond.instanceMethod y_K_has ∈ og_tb := List.mem_filter.mpr ⟨List.mem_append_right _ (List.mem_of_getElem? (i := 206) (by decide +kernel)), by decide +kernel⟩
theorem tb_25 : Cond.selects R_K y_K_has y_K_has ∈ og_tb := List.mem_filter.mpr ⟨List.mem_append_right _ (List.mem_of_getElem? (i := 207) (by decide +kernel)), by decide +kernel⟩
theorem tb_26 : Cond.code y_K_has b_K_has 2 (some .boolean) ∈ og_tb := List.mem_filter.mpr ⟨List.mem_append_right _ (List.mem_of_getElem? (i := 208) (by decide +kernel)), by decide +kernel⟩
theorem tb_27 : Cond.fieldLink R_C 19 "CycleRows" "edges" "LCycleRows$Edges;" ∈ og_tb := List.mem_filter.mpr ⟨List.mem_append_right _ (List.mem_of_getElem? (i := 170) (by decide +kernel)), by decide +kernel⟩
theorem tb_28 : Cond.methodLink R_C 52 y_E_add ∈ og_tb := List.mem_filter.mpr ⟨List.mem_append_right _ (List.mem_of_getElem? (i := 209) (by decide +kernel)), by decide +kernel⟩
theorem tb_29 : Cond.instanceMethod y_E_add ∈ og_tb := List.mem_filter.mpr ⟨List.mem_append_right _ (List.mem_of_getElem? (i := 210) (by decide +kernel)), by decide +kernel⟩
theorem tb_30 : Cond.selects R_E y_E_add y_E_add ∈ og_tb := List.mem_filter.mpr ⟨List.mem_append_right _ (List.mem_of_getElem? (i := 211) (by decide +kernel)), by decide +kernel⟩
theorem tb_31 : Cond.initialized R_E ∈ og_tb := List.mem_filter.mpr ⟨List.mem_append_right _ (List.mem_of_getElem? (i := 3) (by decide +kernel)), by decide +kernel⟩
theorem tb_32 : Cond.code y_E_add b_E_add 6 (some .int) ∈ og_tb := List.mem_filter.mpr ⟨List.mem_append_right _ (List.mem_of_getElem? (i := 212) (by decide +kernel)), by decide +kernel⟩
theorem tb_33 : Cond.methodLink R_E 32 y_E_has ∈ og_tb := List.mem_filter.mpr ⟨List.mem_append_right _ (List.mem_of_getElem? (i := 229) (by decide +kernel)), by decide +kernel⟩
theorem tb_34 : Cond.instanceMethod y_E_has ∈ og_tb := List.mem_filter.mpr ⟨List.mem_append_right _ (List.mem_of_getElem? (i := 231) (by decide +kernel)), by decide +kernel⟩
theorem tb_35 : Cond.selects R_E y_E_has y_E_has ∈ og_tb := List.mem_filter.mpr ⟨List.mem_append_left _ (List.mem_of_getElem? (i := 3) (by decide +kernel)), by decide +kernel⟩
theorem tb_36 : Cond.code y_E_has b_E_has 2 (some .boolean) ∈ og_tb := List.mem_filter.mpr ⟨List.mem_append_right _ (List.mem_of_getElem? (i := 232) (by decide +kernel)), by decide +kernel⟩
theorem tb_37 : Cond.fieldLink R_E 28 "CycleRows$Edges" "gone" "[Z" ∈ og_tb := List.mem_filter.mpr ⟨List.mem_append_right _ (List.mem_of_getElem? (i := 61) (by decide +kernel)), by decide +kernel⟩
theorem tb_38 : Cond.methodLink R_E 36 y_E_joins ∈ og_tb := List.mem_filter.mpr ⟨List.mem_append_right _ (List.mem_of_getElem? (i := 221) (by decide +kernel)), by decide +kernel⟩
theorem tb_39 : Cond.instanceMethod y_E_joins ∈ og_tb := List.mem_filter.mpr ⟨List.mem_append_right _ (List.mem_of_getElem? (i := 223) (by decide +kernel)), by decide +kernel⟩
theorem tb_40 : Cond.selects R_E y_E_joins y_E_joins ∈ og_tb := List.mem_filter.mpr ⟨List.mem_append_left _ (List.mem_of_getElem? (i := 2) (by decide +kernel)), by decide +kernel⟩
theorem tb_41 : Cond.code y_E_joins b_E_joins 4 (some .boolean) ∈ og_tb := List.mem_filter.mpr ⟨List.mem_append_right _ (List.mem_of_getElem? (i := 224) (by decide +kernel)), by decide +kernel⟩
theorem tb_42 : Cond.methodLink R_E 40 y_E_drop ∈ og_tb := List.mem_filter.mpr ⟨List.mem_append_right _ (List.mem_of_getElem? (i := 225) (by decide +kernel)), by decide +kernel⟩
theorem tb_43 : Cond.instanceMethod y_E_drop ∈ og_tb := List.mem_filter.mpr ⟨List.mem_append_right _ (List.mem_of_getElem? (i := 226) (by decide +kernel)), by decide +kernel⟩
theorem tb_44 : Cond.selects R_E y_E_drop y_E_drop ∈ og_tb := List.mem_filter.mpr ⟨List.mem_append_right _ (List.mem_of_getElem? (i := 227) (by decide +kernel)), by decide +kernel⟩
theorem tb_45 : Cond.code y_E_drop b_E_drop 2 (some .boolean) ∈ og_tb := List.mem_filter.mpr ⟨List.mem_append_right _ (List.mem_of_getElem? (i := 228) (by decide +kernel)), by decide +kernel⟩
theorem tb_46 : Cond.methodLink R_C 55 y_E_dropBetween ∈ og_tb := List.mem_filter.mpr ⟨List.mem_append_right _ (List.mem_of_getElem? (i := 217) (by decide +kernel)), by decide +kernel⟩
theorem tb_47 : Cond.instanceMethod y_E_dropBetween ∈ og_tb := List.mem_filter.mpr ⟨List.mem_append_right _ (List.mem_of_getElem? (i := 218) (by decide +kernel)), by decide +kernel⟩
theorem tb_48 : Cond.selects R_E y_E_dropBetween y_E_dropBetween ∈ og_tb := List.mem_filter.mpr ⟨List.mem_append_right _ (List.mem_of_getElem? (i := 219) (by decide +kernel)), by decide +kernel⟩
theorem tb_49 : Cond.code y_E_dropBetween b_E_dropBetween 5 (some .int) ∈ og_tb := List.mem_filter.mpr ⟨List.mem_append_right _ (List.mem_of_getElem? (i := 220) (by decide +kernel)), by decide +kernel⟩
theorem tb_50 : Cond.methodLink R_C 59 y_E_drop ∈ og_tb := List.mem_filter.mpr ⟨List.mem_append_right _ (List.mem_of_getElem? (i := 237) (by decide +kernel)), by decide +kernel⟩
theorem tb_51 : Cond.constantLong R_X 314 6148914691236517205 ∈ og_tb := List.mem_filter.mpr ⟨List.mem_append_right _ (List.mem_of_getElem? (i := 264) (by decide +kernel)), by decide +kernel⟩
theorem tb_52 : Cond.constantLong R_X 316 3689348814741910323 ∈ og_tb := List.mem_filter.mpr ⟨List.mem_append_right _ (List.mem_of_getElem? (i := 265) (by decide +kernel)), by decide +kernel⟩
theorem tb_53 : Cond.constantLong R_X 318 1085102592571150095 ∈ og_tb := List.mem_filter.mpr ⟨List.mem_append_right _ (List.mem_of_getElem? (i := 266) (by decide +kernel)), by decide +kernel⟩
theorem tb_54 : Cond.methodLink R_R 69 y_X_bitCount ∈ og_tb := List.mem_filter.mpr ⟨List.mem_append_right _ (List.mem_of_getElem? (i := 261) (by decide +kernel)), by decide +kernel⟩
theorem tb_55 : Cond.static y_X_bitCount ∈ og_tb := List.mem_filter.mpr ⟨List.mem_append_right _ (List.mem_of_getElem? (i := 262) (by decide +kernel)), by decide +kernel⟩
theorem tb_56 : Cond.initialized R_X ∈ og_tb := List.mem_filter.mpr ⟨List.mem_append_right _ (List.mem_of_getElem? (i := 8) (by decide +kernel)), by decide +kernel⟩
theorem tb_57 : Cond.code y_X_bitCount b_X_bitCount 2 (some .int) ∈ og_tb := List.mem_filter.mpr ⟨List.mem_append_right _ (List.mem_of_getElem? (i := 263) (by decide +kernel)), by decide +kernel⟩
theorem tb_58 : Cond.fieldLink R_R 15 "CycleRows$Reaches" "asked" "[J" ∈ og_tb := List.mem_filter.mpr ⟨List.mem_append_right _ (List.mem_of_getElem? (i := 83) (by decide +kernel)), by decide +kernel⟩
theorem tb_59 : Cond.methodLink R_R 60 y_R_lowest ∈ og_tb := List.mem_filter.mpr ⟨List.mem_append_right _ (List.mem_of_getElem? (i := 267) (by decide +kernel)), by decide +kernel⟩
theorem tb_60 : Cond.static y_R_lowest ∈ og_tb := List.mem_filter.mpr ⟨List.mem_append_right _ (List.mem_of_getElem? (i := 268) (by decide +kernel)), by decide +kernel⟩
theorem tb_61 : Cond.initialized R_R ∈ og_tb := List.mem_filter.mpr ⟨List.mem_append_right _ (List.mem_of_getElem? (i := 4) (by decide +kernel)), by decide +kernel⟩
theorem tb_62 : Cond.code y_R_lowest b_R_lowest 2 (some .int) ∈ og_tb := List.mem_filter.mpr ⟨List.mem_append_right _ (List.mem_of_getElem? (i := 269) (by decide +kernel)), by decide +kernel⟩
theorem tb_63 : Cond.fieldLink R_R 22 "CycleRows$Reaches" "shortest" "[I" ∈ og_tb := List.mem_filter.mpr ⟨List.mem_append_right _ (List.mem_of_getElem? (i := 85) (by decide +kernel)), by decide +kernel⟩
theorem tb_64 : Cond.fieldLink R_R 19 "CycleRows$Reaches" "reached" "[J" ∈ og_tb := List.mem_filter.mpr ⟨List.mem_append_right _ (List.mem_of_getElem? (i := 84) (by decide +kernel)), by decide +kernel⟩
theorem tb_65 : Cond.fieldLink R_R 9 "CycleRows$Reaches" "count" "I" ∈ og_tb := List.mem_filter.mpr ⟨List.mem_append_right _ (List.mem_of_getElem? (i := 82) (by decide +kernel)), by decide +kernel⟩
theorem tb_66 : Cond.methodLink R_R 52 y_R_contains ∈ og_tb := List.mem_filter.mpr ⟨List.mem_append_right _ (List.mem_of_getElem? (i := 254) (by decide +kernel)), by decide +kernel⟩
theorem tb_67 : Cond.static y_R_contains ∈ og_tb := List.mem_filter.mpr ⟨List.mem_append_right _ (List.mem_of_getElem? (i := 255) (by decide +kernel)), by decide +kernel⟩
theorem tb_68 : Cond.code y_R_contains b_R_contains 3 (some .boolean) ∈ og_tb := List.mem_filter.mpr ⟨List.mem_append_right _ (List.mem_of_getElem? (i := 256) (by decide +kernel)), by decide +kernel⟩
theorem tb_69 : Cond.methodLink R_R 64 y_R_askedBy ∈ og_tb := List.mem_filter.mpr ⟨List.mem_append_right _ (List.mem_of_getElem? (i := 257) (by decide +kernel)), by decide +kernel⟩
theorem tb_70 : Cond.instanceMethod y_R_askedBy ∈ og_tb := List.mem_filter.mpr ⟨List.mem_append_right _ (List.mem_of_getElem? (i := 259) (by decide +kernel)), by decide +kernel⟩
theorem tb_71 : Cond.selects R_R y_R_askedBy y_R_askedBy ∈ og_tb := List.mem_filter.mpr ⟨List.mem_append_left _ (List.mem_of_getElem? (i := 5) (by decide +kernel)), by decide +kernel⟩
theorem tb_72 : Cond.code y_R_askedBy b_R_askedBy 8 (some .long) ∈ og_tb := List.mem_filter.mpr ⟨List.mem_append_right _ (List.mem_of_getElem? (i := 260) (by decide +kernel)), by decide +kernel⟩
theorem tb_73 : Cond.constantLong R_R 67 (-1) ∈ og_tb := List.mem_filter.mpr ⟨List.mem_append_right _ (List.mem_of_getElem? (i := 270) (by decide +kernel)), by decide +kernel⟩
theorem tb_74 : Cond.fieldLink R_R 29 "CycleRows$Keys" "count" "I" ∈ og_tb := List.mem_filter.mpr ⟨List.mem_append_right _ (List.mem_of_getElem? (i := 26) (by decide +kernel)), by decide +kernel⟩
theorem tb_75 : Cond.methodLink R_R 48 y_R_follow ∈ og_tb := List.mem_filter.mpr ⟨List.mem_append_right _ (List.mem_of_getElem? (i := 250) (by decide +kernel)), by decide +kernel⟩
theorem tb_76 : Cond.instanceMethod y_R_follow ∈ og_tb := List.mem_filter.mpr ⟨List.mem_append_right _ (List.mem_of_getElem? (i := 252) (by decide +kernel)), by decide +kernel⟩
theorem tb_77 : Cond.selects R_R y_R_follow y_R_follow ∈ og_tb := List.mem_filter.mpr ⟨List.mem_append_left _ (List.mem_of_getElem? (i := 4) (by decide +kernel)), by decide +kernel⟩
theorem tb_78 : Cond.code y_R_follow b_R_follow 7 none ∈ og_tb := List.mem_filter.mpr ⟨List.mem_append_right _ (List.mem_of_getElem? (i := 253) (by decide +kernel)), by decide +kernel⟩
theorem tb_79 : Cond.fieldLink R_R 32 "CycleRows$Edges" "count" "I" ∈ og_tb := List.mem_filter.mpr ⟨List.mem_append_right _ (List.mem_of_getElem? (i := 51) (by decide +kernel)), by decide +kernel⟩
theorem tb_80 : Cond.methodLink R_R 35 y_E_isIn ∈ og_tb := List.mem_filter.mpr ⟨List.mem_append_right _ (List.mem_of_getElem? (i := 246) (by decide +kernel)), by decide +kernel⟩
theorem tb_81 : Cond.instanceMethod y_E_isIn ∈ og_tb := List.mem_filter.mpr ⟨List.mem_append_right _ (List.mem_of_getElem? (i := 247) (by decide +kernel)), by decide +kernel⟩
theorem tb_82 : Cond.selects R_E y_E_isIn y_E_isIn ∈ og_tb := List.mem_filter.mpr ⟨List.mem_append_right _ (List.mem_of_getElem? (i := 248) (by decide +kernel)), by decide +kernel⟩
theorem tb_83 : Cond.code y_E_isIn b_E_isIn 3 (some .boolean) ∈ og_tb := List.mem_filter.mpr ⟨List.mem_append_right _ (List.mem_of_getElem? (i := 249) (by decide +kernel)), by decide +kernel⟩
theorem tb_84 : Cond.fieldLink R_R 39 "CycleRows$Keys" "rankOf" "[I" ∈ og_tb := List.mem_filter.mpr ⟨List.mem_append_right _ (List.mem_of_getElem? (i := 33) (by decide +kernel)), by decide +kernel⟩
theorem tb_85 : Cond.fieldLink R_R 42 "CycleRows$Edges" "from" "[I" ∈ og_tb := List.mem_filter.mpr ⟨List.mem_append_right _ (List.mem_of_getElem? (i := 54) (by decide +kernel)), by decide +kernel⟩
theorem tb_86 : Cond.fieldLink R_R 45 "CycleRows$Edges" "to" "[I" ∈ og_tb := List.mem_filter.mpr ⟨List.mem_append_right _ (List.mem_of_getElem? (i := 57) (by decide +kernel)), by decide +kernel⟩
theorem tb_87 : Cond.fieldLink R_T 31 "CycleRows$Told" "keyCount" "I" ∈ og_tb := List.mem_filter.mpr ⟨List.mem_append_right _ (List.mem_of_getElem? (i := 117) (by decide +kernel)), by decide +kernel⟩
theorem tb_88 : Cond.fieldLink R_T 68 "CycleRows$Keys" "byRank" "[I" ∈ og_tb := List.mem_filter.mpr ⟨List.mem_append_right _ (List.mem_of_getElem? (i := 31) (by decide +kernel)), by decide +kernel⟩
theorem tb_89 : Cond.fieldLink R_T 25 "CycleRows$Told" "leastOf" "[I" ∈ og_tb := List.mem_filter.mpr ⟨List.mem_append_right _ (List.mem_of_getElem? (i := 113) (by decide +kernel)), by decide +kernel⟩
theorem tb_90 : Cond.methodLink R_T 71 y_R_shortestRing ∈ og_tb := List.mem_filter.mpr ⟨List.mem_append_right _ (List.mem_of_getElem? (i := 279) (by decide +kernel)), by decide +kernel⟩
theorem tb_91 : Cond.instanceMethod y_R_shortestRing ∈ og_tb := List.mem_filter.mpr ⟨List.mem_append_right _ (List.mem_of_getElem? (i := 280) (by decide +kernel)), by decide +kernel⟩
theorem tb_92 : Cond.selects R_R y_R_shortestRing y_R_shortestRing ∈ og_tb := List.mem_filter.mpr ⟨List.mem_append_right _ (List.mem_of_getElem? (i := 281) (by decide +kernel)), by decide +kernel⟩
theorem tb_93 : Cond.code y_R_shortestRing b_R_shortestRing 2 (some .int) ∈ og_tb := List.mem_filter.mpr ⟨List.mem_append_right _ (List.mem_of_getElem? (i := 282) (by decide +kernel)), by decide +kernel⟩
theorem tb_94 : Cond.fieldLink R_T 22 "CycleRows$Told" "stateOf" "[I" ∈ og_tb := List.mem_filter.mpr ⟨List.mem_append_right _ (List.mem_of_getElem? (i := 111) (by decide +kernel)), by decide +kernel⟩
theorem tb_95 : Cond.methodLink R_T 77 y_R_reachesRinged ∈ og_tb := List.mem_filter.mpr ⟨List.mem_append_right _ (List.mem_of_getElem? (i := 283) (by decide +kernel)), by decide +kernel⟩
theorem tb_96 : Cond.instanceMethod y_R_reachesRinged ∈ og_tb := List.mem_filter.mpr ⟨List.mem_append_right _ (List.mem_of_getElem? (i := 284) (by decide +kernel)), by decide +kernel⟩
theorem tb_97 : Cond.selects R_R y_R_reachesRinged y_R_reachesRinged ∈ og_tb := List.mem_filter.mpr ⟨List.mem_append_right _ (List.mem_of_getElem? (i := 285) (by decide +kernel)), by decide +kernel⟩
theorem tb_98 : Cond.code y_R_reachesRinged b_R_reachesRinged 3 (some .boolean) ∈ og_tb := List.mem_filter.mpr ⟨List.mem_append_right _ (List.mem_of_getElem? (i := 286) (by decide +kernel)), by decide +kernel⟩
theorem tb_99 : Cond.methodLink R_T 92 y_R_reachEachOther ∈ og_tb := List.mem_filter.mpr ⟨List.mem_append_right _ (List.mem_of_getElem? (i := 295) (by decide +kernel)), by decide +kernel⟩
theorem tb_100 : Cond.instanceMethod y_R_reachEachOther ∈ og_tb := List.mem_filter.mpr ⟨List.mem_append_right _ (List.mem_of_getElem? (i := 296) (by decide +kernel)), by decide +kernel⟩
theorem tb_101 : Cond.selects R_R y_R_reachEachOther y_R_reachEachOther ∈ og_tb := List.mem_filter.mpr ⟨List.mem_append_right _ (List.mem_of_getElem? (i := 297) (by decide +kernel)), by decide +kernel⟩
theorem tb_102 : Cond.code y_R_reachEachOther b_R_reachEachOther 3 (some .boolean) ∈ og_tb := List.mem_filter.mpr ⟨List.mem_append_right _ (List.mem_of_getElem? (i := 298) (by decide +kernel)), by decide +kernel⟩
theorem tb_103 : Cond.methodLink R_T 81 y_T_firstOfPart ∈ og_tb := List.mem_filter.mpr ⟨List.mem_append_right _ (List.mem_of_getElem? (i := 291) (by decide +kernel)), by decide +kernel⟩
theorem tb_104 : Cond.instanceMethod y_T_firstOfPart ∈ og_tb := List.mem_filter.mpr ⟨List.mem_append_right _ (List.mem_of_getElem? (i := 293) (by decide +kernel)), by decide +kernel⟩
theorem tb_105 : Cond.selects R_T y_T_firstOfPart y_T_firstOfPart ∈ og_tb := List.mem_filter.mpr ⟨List.mem_append_left _ (List.mem_of_getElem? (i := 8) (by decide +kernel)), by decide +kernel⟩
theorem tb_106 : Cond.initialized R_T ∈ og_tb := List.mem_filter.mpr ⟨List.mem_append_right _ (List.mem_of_getElem? (i := 5) (by decide +kernel)), by decide +kernel⟩
theorem tb_107 : Cond.code y_T_firstOfPart b_T_firstOfPart 4 (some .int) ∈ og_tb := List.mem_filter.mpr ⟨List.mem_append_right _ (List.mem_of_getElem? (i := 294) (by decide +kernel)), by decide +kernel⟩
theorem tb_108 : Cond.fieldLink R_T 18 "CycleRows$Told" "partOf" "[I" ∈ og_tb := List.mem_filter.mpr ⟨List.mem_append_right _ (List.mem_of_getElem? (i := 109) (by decide +kernel)), by decide +kernel⟩
theorem tb_109 : Cond.fieldLink R_R 26 "CycleRows$Reaches" "layers" "[J" ∈ og_tb := List.mem_filter.mpr ⟨List.mem_append_right _ (List.mem_of_getElem? (i := 86) (by decide +kernel)), by decide +kernel⟩
theorem tb_110 : Cond.methodLink R_R 56 y_R_askersOf ∈ og_tb := List.mem_filter.mpr ⟨List.mem_append_right _ (List.mem_of_getElem? (i := 315) (by decide +kernel)), by decide +kernel⟩
theorem tb_111 : Cond.instanceMethod y_R_askersOf ∈ og_tb := List.mem_filter.mpr ⟨List.mem_append_right _ (List.mem_of_getElem? (i := 317) (by decide +kernel)), by decide +kernel⟩
theorem tb_112 : Cond.selects R_R y_R_askersOf y_R_askersOf ∈ og_tb := List.mem_filter.mpr ⟨List.mem_append_left _ (List.mem_of_getElem? (i := 12) (by decide +kernel)), by decide +kernel⟩
theorem tb_113 : Cond.code y_R_askersOf b_R_askersOf 6 (some .long) ∈ og_tb := List.mem_filter.mpr ⟨List.mem_append_right _ (List.mem_of_getElem? (i := 318) (by decide +kernel)), by decide +kernel⟩
theorem tb_114 : Cond.fieldLink R_T 34 "CycleRows$Told" "starts" "[I" ∈ og_tb := List.mem_filter.mpr ⟨List.mem_append_right _ (List.mem_of_getElem? (i := 118) (by decide +kernel)), by decide +kernel⟩
theorem tb_115 : Cond.fieldLink R_T 15 "CycleRows$Told" "ringCount" "I" ∈ og_tb := List.mem_filter.mpr ⟨List.mem_append_right _ (List.mem_of_getElem? (i := 107) (by decide +kernel)), by decide +kernel⟩
theorem tb_116 : Cond.methodLink R_T 96 y_R_layTowards ∈ og_tb := List.mem_filter.mpr ⟨List.mem_append_right _ (List.mem_of_getElem? (i := 311) (by decide +kernel)), by decide +kernel⟩
theorem tb_117 : Cond.instanceMethod y_R_layTowards ∈ og_tb := List.mem_filter.mpr ⟨List.mem_append_right _ (List.mem_of_getElem? (i := 312) (by decide +kernel)), by decide +kernel⟩
theorem tb_118 : Cond.selects R_R y_R_layTowards y_R_layTowards ∈ og_tb := List.mem_filter.mpr ⟨List.mem_append_right _ (List.mem_of_getElem? (i := 313) (by decide +kernel)), by decide +kernel⟩
theorem tb_119 : Cond.code y_R_layTowards b_R_layTowards 4 none ∈ og_tb := List.mem_filter.mpr ⟨List.mem_append_right _ (List.mem_of_getElem? (i := 314) (by decide +kernel)), by decide +kernel⟩
theorem tb_120 : Cond.fieldLink R_T 37 "CycleRows$Told" "ringKeys" "[I" ∈ og_tb := List.mem_filter.mpr ⟨List.mem_append_right _ (List.mem_of_getElem? (i := 119) (by decide +kernel)), by decide +kernel⟩
theorem tb_121 : Cond.methodLink R_T 100 y_R_firstAsked ∈ og_tb := List.mem_filter.mpr ⟨List.mem_append_right _ (List.mem_of_getElem? (i := 319) (by decide +kernel)), by decide +kernel⟩
theorem tb_122 : Cond.instanceMethod y_R_firstAsked ∈ og_tb := List.mem_filter.mpr ⟨List.mem_append_right _ (List.mem_of_getElem? (i := 320) (by decide +kernel)), by decide +kernel⟩
theorem tb_123 : Cond.selects R_R y_R_firstAsked y_R_firstAsked ∈ og_tb := List.mem_filter.mpr ⟨List.mem_append_right _ (List.mem_of_getElem? (i := 321) (by decide +kernel)), by decide +kernel⟩
theorem tb_124 : Cond.code y_R_firstAsked b_R_firstAsked 5 (some .int) ∈ og_tb := List.mem_filter.mpr ⟨List.mem_append_right _ (List.mem_of_getElem? (i := 322) (by decide +kernel)), by decide +kernel⟩
theorem tb_125 : Cond.methodLink R_T 85 y_T_leastRinged ∈ og_tb := List.mem_filter.mpr ⟨List.mem_append_right _ (List.mem_of_getElem? (i := 303) (by decide +kernel)), by decide +kernel⟩
theorem tb_126 : Cond.instanceMethod y_T_leastRinged ∈ og_tb := List.mem_filter.mpr ⟨List.mem_append_right _ (List.mem_of_getElem? (i := 305) (by decide +kernel)), by decide +kernel⟩
theorem tb_127 : Cond.selects R_T y_T_leastRinged y_T_leastRinged ∈ og_tb := List.mem_filter.mpr ⟨List.mem_append_left _ (List.mem_of_getElem? (i := 10) (by decide +kernel)), by decide +kernel⟩
theorem tb_128 : Cond.code y_T_leastRinged b_T_leastRinged 5 (some .int) ∈ og_tb := List.mem_filter.mpr ⟨List.mem_append_right _ (List.mem_of_getElem? (i := 306) (by decide +kernel)), by decide +kernel⟩
theorem tb_129 : Cond.methodLink R_T 88 y_T_tellRing ∈ og_tb := List.mem_filter.mpr ⟨List.mem_append_right _ (List.mem_of_getElem? (i := 307) (by decide +kernel)), by decide +kernel⟩
theorem tb_130 : Cond.instanceMethod y_T_tellRing ∈ og_tb := List.mem_filter.mpr ⟨List.mem_append_right _ (List.mem_of_getElem? (i := 309) (by decide +kernel)), by decide +kernel⟩
theorem tb_131 : Cond.selects R_T y_T_tellRing y_T_tellRing ∈ og_tb := List.mem_filter.mpr ⟨List.mem_append_left _ (List.mem_of_getElem? (i := 11) (by decide +kernel)), by decide +kernel⟩
theorem tb_132 : Cond.code y_T_tellRing b_T_tellRing 8 none ∈ og_tb := List.mem_filter.mpr ⟨List.mem_append_right _ (List.mem_of_getElem? (i := 310) (by decide +kernel)), by decide +kernel⟩
theorem tb_133 : Cond.methodLink R_E 43 y_E_isIn ∈ og_tb := List.mem_filter.mpr ⟨List.mem_append_right _ (List.mem_of_getElem? (i := 331) (by decide +kernel)), by decide +kernel⟩
theorem tb_134 : Cond.fieldLink R_T 28 "CycleRows$Told" "onlyIn" "[I" ∈ og_tb := List.mem_filter.mpr ⟨List.mem_append_right _ (List.mem_of_getElem? (i := 115) (by decide +kernel)), by decide +kernel⟩
theorem tb_135 : Cond.fieldLink R_T 9 "CycleRows$Told" "configuration" "I" ∈ og_tb := List.mem_filter.mpr ⟨List.mem_append_right _ (List.mem_of_getElem? (i := 105) (by decide +kernel)), by decide +kernel⟩
theorem tb_136 : Cond.fieldLink R_T 40 "CycleRows$Told" "ringEdges" "[I" ∈ og_tb := List.mem_filter.mpr ⟨List.mem_append_right _ (List.mem_of_getElem? (i := 120) (by decide +kernel)), by decide +kernel⟩
theorem tb_137 : Cond.methodLink R_T 103 y_E_leastPlaced ∈ og_tb := List.mem_filter.mpr ⟨List.mem_append_right _ (List.mem_of_getElem? (i := 327) (by decide +kernel)), by decide +kernel⟩
theorem tb_138 : Cond.instanceMethod y_E_leastPlaced ∈ og_tb := List.mem_filter.mpr ⟨List.mem_append_right _ (List.mem_of_getElem? (i := 328) (by decide +kernel)), by decide +kernel⟩
theorem tb_139 : Cond.selects R_E y_E_leastPlaced y_E_leastPlaced ∈ og_tb := List.mem_filter.mpr ⟨List.mem_append_right _ (List.mem_of_getElem? (i := 329) (by decide +kernel)), by decide +kernel⟩
theorem tb_140 : Cond.code y_E_leastPlaced b_E_leastPlaced 6 (some .int) ∈ og_tb := List.mem_filter.mpr ⟨List.mem_append_right _ (List.mem_of_getElem? (i := 330) (by decide +kernel)), by decide +kernel⟩
theorem tb_141 : Cond.methodLink R_T 109 y_E_configurationsBetween ∈ og_tb := List.mem_filter.mpr ⟨List.mem_append_right _ (List.mem_of_getElem? (i := 332) (by decide +kernel)), by decide +kernel⟩
theorem tb_142 : Cond.instanceMethod y_E_configurationsBetween ∈ og_tb := List.mem_filter.mpr ⟨List.mem_append_right _ (List.mem_of_getElem? (i := 333) (by decide +kernel)), by decide +kernel⟩
theorem tb_143 : Cond.selects R_E y_E_configurationsBetween y_E_configurationsBetween ∈ og_tb := List.mem_filter.mpr ⟨List.mem_append_right _ (List.mem_of_getElem? (i := 334) (by decide +kernel)), by decide +kernel⟩
theorem tb_144 : Cond.code y_E_configurationsBetween b_E_configurationsBetween 5 (some .int) ∈ og_tb := List.mem_filter.mpr ⟨List.mem_append_right _ (List.mem_of_getElem? (i := 335) (by decide +kernel)), by decide +kernel⟩
theorem tb_145 : Cond.fieldLink R_T 49 "CycleRows$Keys" "count" "I" ∈ og_tb := List.mem_filter.mpr ⟨List.mem_append_right _ (List.mem_of_getElem? (i := 27) (by decide +kernel)), by decide +kernel⟩
theorem tb_146 : Cond.methodLink R_T 54 y_T_tellKeys ∈ og_tb := List.mem_filter.mpr ⟨List.mem_append_right _ (List.mem_of_getElem? (i := 275) (by decide +kernel)), by decide +kernel⟩
theorem tb_147 : Cond.instanceMethod y_T_tellKeys ∈ og_tb := List.mem_filter.mpr ⟨List.mem_append_right _ (List.mem_of_getElem? (i := 277) (by decide +kernel)), by decide +kernel⟩
theorem tb_148 : Cond.selects R_T y_T_tellKeys y_T_tellKeys ∈ og_tb := List.mem_filter.mpr ⟨List.mem_append_left _ (List.mem_of_getElem? (i := 6) (by decide +kernel)), by decide +kernel⟩
theorem tb_149 : Cond.code y_T_tellKeys b_T_tellKeys 5 none ∈ og_tb := List.mem_filter.mpr ⟨List.mem_append_right _ (List.mem_of_getElem? (i := 278) (by decide +kernel)), by decide +kernel⟩
theorem tb_150 : Cond.methodLink R_T 58 y_T_numberParts ∈ og_tb := List.mem_filter.mpr ⟨List.mem_append_right _ (List.mem_of_getElem? (i := 287) (by decide +kernel)), by decide +kernel⟩
theorem tb_151 : Cond.instanceMethod y_T_numberParts ∈ og_tb := List.mem_filter.mpr ⟨List.mem_append_right _ (List.mem_of_getElem? (i := 289) (by decide +kernel)), by decide +kernel⟩
theorem tb_152 : Cond.selects R_T y_T_numberParts y_T_numberParts ∈ og_tb := List.mem_filter.mpr ⟨List.mem_append_left _ (List.mem_of_getElem? (i := 7) (by decide +kernel)), by decide +kernel⟩
theorem tb_153 : Cond.code y_T_numberParts b_T_numberParts 6 none ∈ og_tb := List.mem_filter.mpr ⟨List.mem_append_right _ (List.mem_of_getElem? (i := 290) (by decide +kernel)), by decide +kernel⟩
theorem tb_154 : Cond.methodLink R_T 61 y_T_tellRings ∈ og_tb := List.mem_filter.mpr ⟨List.mem_append_right _ (List.mem_of_getElem? (i := 299) (by decide +kernel)), by decide +kernel⟩
theorem tb_155 : Cond.instanceMethod y_T_tellRings ∈ og_tb := List.mem_filter.mpr ⟨List.mem_append_right _ (List.mem_of_getElem? (i := 301) (by decide +kernel)), by decide +kernel⟩
theorem tb_156 : Cond.selects R_T y_T_tellRings y_T_tellRings ∈ og_tb := List.mem_filter.mpr ⟨List.mem_append_left _ (List.mem_of_getElem? (i := 9) (by decide +kernel)), by decide +kernel⟩
theorem tb_157 : Cond.code y_T_tellRings b_T_tellRings 4 none ∈ og_tb := List.mem_filter.mpr ⟨List.mem_append_right _ (List.mem_of_getElem? (i := 302) (by decide +kernel)), by decide +kernel⟩
theorem tb_158 : Cond.methodLink R_T 64 y_T_tellEdges ∈ og_tb := List.mem_filter.mpr ⟨List.mem_append_right _ (List.mem_of_getElem? (i := 323) (by decide +kernel)), by decide +kernel⟩
theorem tb_159 : Cond.instanceMethod y_T_tellEdges ∈ og_tb := List.mem_filter.mpr ⟨List.mem_append_right _ (List.mem_of_getElem? (i := 325) (by decide +kernel)), by decide +kernel⟩
theorem tb_160 : Cond.selects R_T y_T_tellEdges y_T_tellEdges ∈ og_tb := List.mem_filter.mpr ⟨List.mem_append_left _ (List.mem_of_getElem? (i := 13) (by decide +kernel)), by decide +kernel⟩
theorem tb_161 : Cond.code y_T_tellEdges b_T_tellEdges 7 none ∈ og_tb := List.mem_filter.mpr ⟨List.mem_append_right _ (List.mem_of_getElem? (i := 326) (by decide +kernel)), by decide +kernel⟩
theorem tb_162 : Cond.fieldLink R_C 26 "CycleRows" "reaches" "LCycleRows$Reaches;" ∈ og_tb := List.mem_filter.mpr ⟨List.mem_append_right _ (List.mem_of_getElem? (i := 171) (by decide +kernel)), by decide +kernel⟩
theorem tb_163 : Cond.methodLink R_C 62 y_R_draw ∈ og_tb := List.mem_filter.mpr ⟨List.mem_append_right _ (List.mem_of_getElem? (i := 242) (by decide +kernel)), by decide +kernel⟩
theorem tb_164 : Cond.instanceMethod y_R_draw ∈ og_tb := List.mem_filter.mpr ⟨List.mem_append_right _ (List.mem_of_getElem? (i := 243) (by decide +kernel)), by decide +kernel⟩
theorem tb_165 : Cond.selects R_R y_R_draw y_R_draw ∈ og_tb := List.mem_filter.mpr ⟨List.mem_append_right _ (List.mem_of_getElem? (i := 244) (by decide +kernel)), by decide +kernel⟩
theorem tb_166 : Cond.code y_R_draw b_R_draw 5 none ∈ og_tb := List.mem_filter.mpr ⟨List.mem_append_right _ (List.mem_of_getElem? (i := 245) (by decide +kernel)), by decide +kernel⟩
theorem tb_167 : Cond.fieldLink R_C 33 "CycleRows" "told" "LCycleRows$Told;" ∈ og_tb := List.mem_filter.mpr ⟨List.mem_append_right _ (List.mem_of_getElem? (i := 172) (by decide +kernel)), by decide +kernel⟩
theorem tb_168 : Cond.methodLink R_C 66 y_T_tell ∈ og_tb := List.mem_filter.mpr ⟨List.mem_append_right _ (List.mem_of_getElem? (i := 271) (by decide +kernel)), by decide +kernel⟩
theorem tb_169 : Cond.instanceMethod y_T_tell ∈ og_tb := List.mem_filter.mpr ⟨List.mem_append_right _ (List.mem_of_getElem? (i := 272) (by decide +kernel)), by decide +kernel⟩
theorem tb_170 : Cond.selects R_T y_T_tell y_T_tell ∈ og_tb := List.mem_filter.mpr ⟨List.mem_append_right _ (List.mem_of_getElem? (i := 273) (by decide +kernel)), by decide +kernel⟩
theorem tb_171 : Cond.code y_T_tell b_T_tell 6 none ∈ og_tb := List.mem_filter.mpr ⟨List.mem_append_right _ (List.mem_of_getElem? (i := 274) (by decide +kernel)), by decide +kernel⟩
theorem tb_172 : Cond.fieldLink R_C 70 "CycleRows$Told" "ringCount" "I" ∈ og_tb := List.mem_filter.mpr ⟨List.mem_append_right _ (List.mem_of_getElem? (i := 108) (by decide +kernel)), by decide +kernel⟩
theorem tb_173 : Cond.methodLink R_C 74 y_T_hasRing ∈ og_tb := List.mem_filter.mpr ⟨List.mem_append_right _ (List.mem_of_getElem? (i := 340) (by decide +kernel)), by decide +kernel⟩
theorem tb_174 : Cond.instanceMethod y_T_hasRing ∈ og_tb := List.mem_filter.mpr ⟨List.mem_append_right _ (List.mem_of_getElem? (i := 341) (by decide +kernel)), by decide +kernel⟩
theorem tb_175 : Cond.selects R_T y_T_hasRing y_T_hasRing ∈ og_tb := List.mem_filter.mpr ⟨List.mem_append_right _ (List.mem_of_getElem? (i := 342) (by decide +kernel)), by decide +kernel⟩
theorem tb_176 : Cond.code y_T_hasRing b_T_hasRing 2 (some .boolean) ∈ og_tb := List.mem_filter.mpr ⟨List.mem_append_right _ (List.mem_of_getElem? (i := 343) (by decide +kernel)), by decide +kernel⟩
theorem tb_177 : Cond.methodLink R_C 77 y_T_length ∈ og_tb := List.mem_filter.mpr ⟨List.mem_append_right _ (List.mem_of_getElem? (i := 344) (by decide +kernel)), by decide +kernel⟩
theorem tb_178 : Cond.instanceMethod y_T_length ∈ og_tb := List.mem_filter.mpr ⟨List.mem_append_right _ (List.mem_of_getElem? (i := 345) (by decide +kernel)), by decide +kernel⟩
theorem tb_179 : Cond.selects R_T y_T_length y_T_length ∈ og_tb := List.mem_filter.mpr ⟨List.mem_append_right _ (List.mem_of_getElem? (i := 346) (by decide +kernel)), by decide +kernel⟩
theorem tb_180 : Cond.code y_T_length b_T_length 2 (some .int) ∈ og_tb := List.mem_filter.mpr ⟨List.mem_append_right _ (List.mem_of_getElem? (i := 347) (by decide +kernel)), by decide +kernel⟩
theorem tb_181 : Cond.methodLink R_C 80 y_T_keyAt ∈ og_tb := List.mem_filter.mpr ⟨List.mem_append_right _ (List.mem_of_getElem? (i := 352) (by decide +kernel)), by decide +kernel⟩
theorem tb_182 : Cond.instanceMethod y_T_keyAt ∈ og_tb := List.mem_filter.mpr ⟨List.mem_append_right _ (List.mem_of_getElem? (i := 353) (by decide +kernel)), by decide +kernel⟩
theorem tb_183 : Cond.selects R_T y_T_keyAt y_T_keyAt ∈ og_tb := List.mem_filter.mpr ⟨List.mem_append_right _ (List.mem_of_getElem? (i := 354) (by decide +kernel)), by decide +kernel⟩
theorem tb_184 : Cond.code y_T_keyAt b_T_keyAt 3 (some .int) ∈ og_tb := List.mem_filter.mpr ⟨List.mem_append_right _ (List.mem_of_getElem? (i := 355) (by decide +kernel)), by decide +kernel⟩
theorem tb_185 : Cond.methodLink R_C 83 y_T_edgeAt ∈ og_tb := List.mem_filter.mpr ⟨List.mem_append_right _ (List.mem_of_getElem? (i := 356) (by decide +kernel)), by decide +kernel⟩
theorem tb_186 : Cond.instanceMethod y_T_edgeAt ∈ og_tb := List.mem_filter.mpr ⟨List.mem_append_right _ (List.mem_of_getElem? (i := 357) (by decide +kernel)), by decide +kernel⟩
theorem tb_187 : Cond.selects R_T y_T_edgeAt y_T_edgeAt ∈ og_tb := List.mem_filter.mpr ⟨List.mem_append_right _ (List.mem_of_getElem? (i := 358) (by decide +kernel)), by decide +kernel⟩
theorem tb_188 : Cond.code y_T_edgeAt b_T_edgeAt 3 (some .int) ∈ og_tb := List.mem_filter.mpr ⟨List.mem_append_right _ (List.mem_of_getElem? (i := 359) (by decide +kernel)), by decide +kernel⟩
theorem tb_189 : Cond.methodLink R_C 86 y_E_placeOf ∈ og_tb := List.mem_filter.mpr ⟨List.mem_append_right _ (List.mem_of_getElem? (i := 360) (by decide +kernel)), by decide +kernel⟩
theorem tb_190 : Cond.instanceMethod y_E_placeOf ∈ og_tb := List.mem_filter.mpr ⟨List.mem_append_right _ (List.mem_of_getElem? (i := 361) (by decide +kernel)), by decide +kernel⟩
theorem tb_191 : Cond.selects R_E y_E_placeOf y_E_placeOf ∈ og_tb := List.mem_filter.mpr ⟨List.mem_append_right _ (List.mem_of_getElem? (i := 362) (by decide +kernel)), by decide +kernel⟩
theorem tb_192 : Cond.code y_E_placeOf b_E_placeOf 2 (some .int) ∈ og_tb := List.mem_filter.mpr ⟨List.mem_append_right _ (List.mem_of_getElem? (i := 363) (by decide +kernel)), by decide +kernel⟩
theorem tb_193 : Cond.fieldLink R_C 89 "CycleRows$Told" "onlyIn" "[I" ∈ og_tb := List.mem_filter.mpr ⟨List.mem_append_right _ (List.mem_of_getElem? (i := 116) (by decide +kernel)), by decide +kernel⟩
theorem tb_194 : Cond.methodLink R_T 43 Lib.Math.max.name ∈ og_tb := List.mem_filter.mpr ⟨List.mem_append_right _ (List.mem_of_getElem? (i := 376) (by decide +kernel)), by decide +kernel⟩
theorem tb_195 : Cond.static Lib.Math.max.name ∈ og_tb := List.mem_filter.mpr ⟨List.mem_append_right _ (List.mem_of_getElem? (i := 377) (by decide +kernel)), by decide +kernel⟩
theorem tb_196 : Cond.initialized "java/lang/Math" ∈ og_tb := List.mem_filter.mpr ⟨List.mem_append_right _ (List.mem_of_getElem? (i := 9) (by decide +kernel)), by decide +kernel⟩
theorem tb_197 : Cond.code Lib.Math.max.name Lib.Math.max.code 2 (some .int) ∈ og_tb := List.mem_filter.mpr ⟨List.mem_append_right _ (List.mem_of_getElem? (i := 378) (by decide +kernel)), by decide +kernel⟩
theorem tb_198 : Cond.methodLink R_C 93 y_T_lastEdge ∈ og_tb := List.mem_filter.mpr ⟨List.mem_append_right _ (List.mem_of_getElem? (i := 372) (by decide +kernel)), by decide +kernel⟩
theorem tb_199 : Cond.instanceMethod y_T_lastEdge ∈ og_tb := List.mem_filter.mpr ⟨List.mem_append_right _ (List.mem_of_getElem? (i := 373) (by decide +kernel)), by decide +kernel⟩
theorem tb_200 : Cond.selects R_T y_T_lastEdge y_T_lastEdge ∈ og_tb := List.mem_filter.mpr ⟨List.mem_append_right _ (List.mem_of_getElem? (i := 374) (by decide +kernel)), by decide +kernel⟩
theorem tb_201 : Cond.code y_T_lastEdge b_T_lastEdge 4 (some .int) ∈ og_tb := List.mem_filter.mpr ⟨List.mem_append_right _ (List.mem_of_getElem? (i := 375) (by decide +kernel)), by decide +kernel⟩
theorem tb_202 : Cond.methodLink R_C 96 y_T_hasKey ∈ og_tb := List.mem_filter.mpr ⟨List.mem_append_right _ (List.mem_of_getElem? (i := 383) (by decide +kernel)), by decide +kernel⟩
theorem tb_203 : Cond.instanceMethod y_T_hasKey ∈ og_tb := List.mem_filter.mpr ⟨List.mem_append_right _ (List.mem_of_getElem? (i := 384) (by decide +kernel)), by decide +kernel⟩
theorem tb_204 : Cond.selects R_T y_T_hasKey y_T_hasKey ∈ og_tb := List.mem_filter.mpr ⟨List.mem_append_right _ (List.mem_of_getElem? (i := 385) (by decide +kernel)), by decide +kernel⟩
theorem tb_205 : Cond.code y_T_hasKey b_T_hasKey 2 (some .boolean) ∈ og_tb := List.mem_filter.mpr ⟨List.mem_append_right _ (List.mem_of_getElem? (i := 386) (by decide +kernel)), by decide +kernel⟩
theorem tb_206 : Cond.fieldLink R_C 99 "CycleRows$Told" "partOf" "[I" ∈ og_tb := List.mem_filter.mpr ⟨List.mem_append_right _ (List.mem_of_getElem? (i := 110) (by decide +kernel)), by decide +kernel⟩
theorem tb_207 : Cond.fieldLink R_C 102 "CycleRows$Told" "stateOf" "[I" ∈ og_tb := List.mem_filter.mpr ⟨List.mem_append_right _ (List.mem_of_getElem? (i := 112) (by decide +kernel)), by decide +kernel⟩
theorem tb_208 : Cond.fieldLink R_C 105 "CycleRows$Told" "leastOf" "[I" ∈ og_tb := List.mem_filter.mpr ⟨List.mem_append_right _ (List.mem_of_getElem? (i := 114) (by decide +kernel)), by decide +kernel⟩
theorem tb_209 : Cond.fieldLink R_A 19 "CycleRows$Asking" "openCount" "I" ∈ og_tb := List.mem_filter.mpr ⟨List.mem_append_right _ (List.mem_of_getElem? (i := 152) (by decide +kernel)), by decide +kernel⟩
theorem tb_210 : Cond.fieldLink R_A 22 "CycleRows$Asking" "open" "[I" ∈ og_tb := List.mem_filter.mpr ⟨List.mem_append_right _ (List.mem_of_getElem? (i := 153) (by decide +kernel)), by decide +kernel⟩
theorem tb_211 : Cond.fieldLink R_A 28 "CycleRows$Asking" "wasAsked" "[Z" ∈ og_tb := List.mem_filter.mpr ⟨List.mem_append_right _ (List.mem_of_getElem? (i := 155) (by decide +kernel)), by decide +kernel⟩
theorem tb_212 : Cond.fieldLink R_A 25 "CycleRows$Asking" "nextEdge" "[I" ∈ og_tb := List.mem_filter.mpr ⟨List.mem_append_right _ (List.mem_of_getElem? (i := 154) (by decide +kernel)), by decide +kernel⟩
theorem tb_213 : Cond.fieldLink R_A 9 "CycleRows$Asking" "metCount" "I" ∈ og_tb := List.mem_filter.mpr ⟨List.mem_append_right _ (List.mem_of_getElem? (i := 148) (by decide +kernel)), by decide +kernel⟩
theorem tb_214 : Cond.methodLink R_A 32 y_A_push ∈ og_tb := List.mem_filter.mpr ⟨List.mem_append_right _ (List.mem_of_getElem? (i := 403) (by decide +kernel)), by decide +kernel⟩
theorem tb_215 : Cond.instanceMethod y_A_push ∈ og_tb := List.mem_filter.mpr ⟨List.mem_append_right _ (List.mem_of_getElem? (i := 405) (by decide +kernel)), by decide +kernel⟩
theorem tb_216 : Cond.selects R_A y_A_push y_A_push ∈ og_tb := List.mem_filter.mpr ⟨List.mem_append_left _ (List.mem_of_getElem? (i := 14) (by decide +kernel)), by decide +kernel⟩
theorem tb_217 : Cond.initialized R_A ∈ og_tb := List.mem_filter.mpr ⟨List.mem_append_right _ (List.mem_of_getElem? (i := 6) (by decide +kernel)), by decide +kernel⟩
theorem tb_218 : Cond.code y_A_push b_A_push 2 none ∈ og_tb := List.mem_filter.mpr ⟨List.mem_append_right _ (List.mem_of_getElem? (i := 406) (by decide +kernel)), by decide +kernel⟩
theorem tb_219 : Cond.fieldLink R_A 43 "CycleRows$Edges" "count" "I" ∈ og_tb := List.mem_filter.mpr ⟨List.mem_append_right _ (List.mem_of_getElem? (i := 52) (by decide +kernel)), by decide +kernel⟩
theorem tb_220 : Cond.fieldLink R_A 48 "CycleRows$Edges" "from" "[I" ∈ og_tb := List.mem_filter.mpr ⟨List.mem_append_right _ (List.mem_of_getElem? (i := 55) (by decide +kernel)), by decide +kernel⟩
theorem tb_221 : Cond.methodLink R_A 51 y_E_isIn ∈ og_tb := List.mem_filter.mpr ⟨List.mem_append_right _ (List.mem_of_getElem? (i := 415) (by decide +kernel)), by decide +kernel⟩
theorem tb_222 : Cond.fieldLink R_A 55 "CycleRows$Edges" "to" "[I" ∈ og_tb := List.mem_filter.mpr ⟨List.mem_append_right _ (List.mem_of_getElem? (i := 58) (by decide +kernel)), by decide +kernel⟩
theorem tb_223 : Cond.methodLink R_A 58 y_A_openAt ∈ og_tb := List.mem_filter.mpr ⟨List.mem_append_right _ (List.mem_of_getElem? (i := 416) (by decide +kernel)), by decide +kernel⟩
theorem tb_224 : Cond.instanceMethod y_A_openAt ∈ og_tb := List.mem_filter.mpr ⟨List.mem_append_right _ (List.mem_of_getElem? (i := 418) (by decide +kernel)), by decide +kernel⟩
theorem tb_225 : Cond.selects R_A y_A_openAt y_A_openAt ∈ og_tb := List.mem_filter.mpr ⟨List.mem_append_left _ (List.mem_of_getElem? (i := 16) (by decide +kernel)), by decide +kernel⟩
theorem tb_226 : Cond.code y_A_openAt b_A_openAt 3 (some .int) ∈ og_tb := List.mem_filter.mpr ⟨List.mem_append_right _ (List.mem_of_getElem? (i := 419) (by decide +kernel)), by decide +kernel⟩
theorem tb_227 : Cond.fieldLink R_A 15 "CycleRows$Asking" "metKeys" "[I" ∈ og_tb := List.mem_filter.mpr ⟨List.mem_append_right _ (List.mem_of_getElem? (i := 150) (by decide +kernel)), by decide +kernel⟩
theorem tb_228 : Cond.methodLink R_A 62 arraycopyName ∈ og_tb := List.mem_filter.mpr ⟨List.mem_append_right _ (List.mem_of_getElem? (i := 424) (by decide +kernel)), by decide +kernel⟩
theorem tb_229 : Cond.native arraycopyName ∈ og_tb := List.mem_filter.mpr ⟨List.mem_append_right _ (List.mem_of_getElem? (i := 426) (by decide +kernel)), by decide +kernel⟩
theorem tb_230 : Cond.static arraycopyName ∈ og_tb := List.mem_filter.mpr ⟨List.mem_append_right _ (List.mem_of_getElem? (i := 425) (by decide +kernel)), by decide +kernel⟩
theorem tb_231 : Cond.initialized "java/lang/System" ∈ og_tb := List.mem_filter.mpr ⟨List.mem_append_right _ (List.mem_of_getElem? (i := 10) (by decide +kernel)), by decide +kernel⟩
theorem tb_232 : Cond.methodLink R_A 36 y_A_nextTarget ∈ og_tb := List.mem_filter.mpr ⟨List.mem_append_right _ (List.mem_of_getElem? (i := 411) (by decide +kernel)), by decide +kernel⟩
theorem tb_233 : Cond.instanceMethod y_A_nextTarget ∈ og_tb := List.mem_filter.mpr ⟨List.mem_append_right _ (List.mem_of_getElem? (i := 413) (by decide +kernel)), by decide +kernel⟩
theorem tb_234 : Cond.selects R_A y_A_nextTarget y_A_nextTarget ∈ og_tb := List.mem_filter.mpr ⟨List.mem_append_left _ (List.mem_of_getElem? (i := 15) (by decide +kernel)), by decide +kernel⟩
theorem tb_235 : Cond.code y_A_nextTarget b_A_nextTarget 6 (some .int) ∈ og_tb := List.mem_filter.mpr ⟨List.mem_append_right _ (List.mem_of_getElem? (i := 414) (by decide +kernel)), by decide +kernel⟩
theorem tb_236 : Cond.methodLink R_A 40 y_A_meet ∈ og_tb := List.mem_filter.mpr ⟨List.mem_append_right _ (List.mem_of_getElem? (i := 420) (by decide +kernel)), by decide +kernel⟩
theorem tb_237 : Cond.instanceMethod y_A_meet ∈ og_tb := List.mem_filter.mpr ⟨List.mem_append_right _ (List.mem_of_getElem? (i := 422) (by decide +kernel)), by decide +kernel⟩
theorem tb_238 : Cond.selects R_A y_A_meet y_A_meet ∈ og_tb := List.mem_filter.mpr ⟨List.mem_append_left _ (List.mem_of_getElem? (i := 17) (by decide +kernel)), by decide +kernel⟩
theorem tb_239 : Cond.code y_A_meet b_A_meet 3 none ∈ og_tb := List.mem_filter.mpr ⟨List.mem_append_right _ (List.mem_of_getElem? (i := 423) (by decide +kernel)), by decide +kernel⟩
theorem tb_240 : Cond.fieldLink R_C 108 "CycleRows$Told" "configuration" "I" ∈ og_tb := List.mem_filter.mpr ⟨List.mem_append_right _ (List.mem_of_getElem? (i := 106) (by decide +kernel)), by decide +kernel⟩
theorem tb_241 : Cond.fieldLink R_C 40 "CycleRows" "asking" "LCycleRows$Asking;" ∈ og_tb := List.mem_filter.mpr ⟨List.mem_append_right _ (List.mem_of_getElem? (i := 173) (by decide +kernel)), by decide +kernel⟩
theorem tb_242 : Cond.fieldLink R_C 111 "CycleRows$Keys" "count" "I" ∈ og_tb := List.mem_filter.mpr ⟨List.mem_append_right _ (List.mem_of_getElem? (i := 28) (by decide +kernel)), by decide +kernel⟩
theorem tb_243 : Cond.methodLink R_C 114 y_A_begin ∈ og_tb := List.mem_filter.mpr ⟨List.mem_append_right _ (List.mem_of_getElem? (i := 399) (by decide +kernel)), by decide +kernel⟩
theorem tb_244 : Cond.instanceMethod y_A_begin ∈ og_tb := List.mem_filter.mpr ⟨List.mem_append_right _ (List.mem_of_getElem? (i := 400) (by decide +kernel)), by decide +kernel⟩
theorem tb_245 : Cond.selects R_A y_A_begin y_A_begin ∈ og_tb := List.mem_filter.mpr ⟨List.mem_append_right _ (List.mem_of_getElem? (i := 401) (by decide +kernel)), by decide +kernel⟩
theorem tb_246 : Cond.code y_A_begin b_A_begin 4 none ∈ og_tb := List.mem_filter.mpr ⟨List.mem_append_right _ (List.mem_of_getElem? (i := 402) (by decide +kernel)), by decide +kernel⟩
theorem tb_247 : Cond.methodLink R_C 118 y_A_goOn ∈ og_tb := List.mem_filter.mpr ⟨List.mem_append_right _ (List.mem_of_getElem? (i := 407) (by decide +kernel)), by decide +kernel⟩
theorem tb_248 : Cond.instanceMethod y_A_goOn ∈ og_tb := List.mem_filter.mpr ⟨List.mem_append_right _ (List.mem_of_getElem? (i := 408) (by decide +kernel)), by decide +kernel⟩
theorem tb_249 : Cond.selects R_A y_A_goOn y_A_goOn ∈ og_tb := List.mem_filter.mpr ⟨List.mem_append_right _ (List.mem_of_getElem? (i := 409) (by decide +kernel)), by decide +kernel⟩
theorem tb_250 : Cond.code y_A_goOn b_A_goOn 5 none ∈ og_tb := List.mem_filter.mpr ⟨List.mem_append_right _ (List.mem_of_getElem? (i := 410) (by decide +kernel)), by decide +kernel⟩
theorem tb_251 : Cond.fieldLink R_C 122 "CycleRows$Asking" "metCount" "I" ∈ og_tb := List.mem_filter.mpr ⟨List.mem_append_right _ (List.mem_of_getElem? (i := 149) (by decide +kernel)), by decide +kernel⟩
theorem tb_252 : Cond.fieldLink R_C 125 "CycleRows$Asking" "metKeys" "[I" ∈ og_tb := List.mem_filter.mpr ⟨List.mem_append_right _ (List.mem_of_getElem? (i := 151) (by decide +kernel)), by decide +kernel⟩
theorem tb_253 : Cond.fieldLink R_M 78 "CycleRowsModel" "keys" "I" ∈ og_tb := List.mem_filter.mpr ⟨List.mem_append_right _ (List.mem_of_getElem? (i := 438) (by decide +kernel)), by decide +kernel⟩
theorem tb_254 : Cond.fieldLink R_M 75 "CycleRowsModel" "code" "I" ∈ og_tb := List.mem_filter.mpr ⟨List.mem_append_right _ (List.mem_of_getElem? (i := 437) (by decide +kernel)), by decide +kernel⟩
theorem tb_255 : Cond.fieldLink R_M 7 "CycleRowsModel" "name" "[I" ∈ og_tb := List.mem_filter.mpr ⟨List.mem_append_right _ (List.mem_of_getElem? (i := 440) (by decide +kernel)), by decide +kernel⟩
theorem tb_256 : Cond.methodLink R_M 81 y_M_isKey ∈ og_tb := List.mem_filter.mpr ⟨List.mem_append_right _ (List.mem_of_getElem? (i := 533) (by decide +kernel)), by decide +kernel⟩
theorem tb_257 : Cond.instanceMethod y_M_isKey ∈ og_tb := List.mem_filter.mpr ⟨List.mem_append_right _ (List.mem_of_getElem? (i := 535) (by decide +kernel)), by decide +kernel⟩
theorem tb_258 : Cond.selects R_M y_M_isKey y_M_isKey ∈ og_tb := List.mem_filter.mpr ⟨List.mem_append_left _ (List.mem_of_getElem? (i := 18) (by decide +kernel)), by decide +kernel⟩
theorem tb_259 : Cond.initialized R_M ∈ og_tb := List.mem_filter.mpr ⟨List.mem_append_right _ (List.mem_of_getElem? (i := 7) (by decide +kernel)), by decide +kernel⟩
theorem tb_260 : Cond.code y_M_isKey b_M_isKey 2 (some .boolean) ∈ og_tb := List.mem_filter.mpr ⟨List.mem_append_right _ (List.mem_of_getElem? (i := 536) (by decide +kernel)), by decide +kernel⟩
theorem tb_261 : Cond.fieldLink R_M 85 "CycleRowsModel" "edges" "I" ∈ og_tb := List.mem_filter.mpr ⟨List.mem_append_right _ (List.mem_of_getElem? (i := 439) (by decide +kernel)), by decide +kernel⟩
theorem tb_262 : Cond.fieldLink R_M 13 "CycleRowsModel" "from" "[I" ∈ og_tb := List.mem_filter.mpr ⟨List.mem_append_right _ (List.mem_of_getElem? (i := 441) (by decide +kernel)), by decide +kernel⟩
theorem tb_263 : Cond.fieldLink R_M 16 "CycleRowsModel" "to" "[I" ∈ og_tb := List.mem_filter.mpr ⟨List.mem_append_right _ (List.mem_of_getElem? (i := 442) (by decide +kernel)), by decide +kernel⟩
theorem tb_264 : Cond.fieldLink R_M 19 "CycleRowsModel" "place" "[I" ∈ og_tb := List.mem_filter.mpr ⟨List.mem_append_right _ (List.mem_of_getElem? (i := 443) (by decide +kernel)), by decide +kernel⟩
theorem tb_265 : Cond.fieldLink R_M 22 "CycleRowsModel" "bits" "[I" ∈ og_tb := List.mem_filter.mpr ⟨List.mem_append_right _ (List.mem_of_getElem? (i := 444) (by decide +kernel)), by decide +kernel⟩
theorem tb_266 : Cond.fieldLink R_M 25 "CycleRowsModel" "gone" "[Z" ∈ og_tb := List.mem_filter.mpr ⟨List.mem_append_right _ (List.mem_of_getElem? (i := 445) (by decide +kernel)), by decide +kernel⟩
theorem tb_267 : Cond.fieldLink R_M 33 "CycleRowsModel" "thenGone" "[Z" ∈ og_tb := List.mem_filter.mpr ⟨List.mem_append_right _ (List.mem_of_getElem? (i := 449) (by decide +kernel)), by decide +kernel⟩
theorem tb_268 : Cond.fieldLink R_M 36 "CycleRowsModel" "order" "[I" ∈ og_tb := List.mem_filter.mpr ⟨List.mem_append_right _ (List.mem_of_getElem? (i := 450) (by decide +kernel)), by decide +kernel⟩
theorem tb_269 : Cond.fieldLink R_M 39 "CycleRowsModel" "rank" "[I" ∈ og_tb := List.mem_filter.mpr ⟨List.mem_append_right _ (List.mem_of_getElem? (i := 451) (by decide +kernel)), by decide +kernel⟩
theorem tb_270 : Cond.fieldLink R_M 51 "CycleRowsModel" "reaches" "[Z" ∈ og_tb := List.mem_filter.mpr ⟨List.mem_append_right _ (List.mem_of_getElem? (i := 455) (by decide +kernel)), by decide +kernel⟩
theorem tb_271 : Cond.fieldLink R_M 54 "CycleRowsModel" "steps" "[I" ∈ og_tb := List.mem_filter.mpr ⟨List.mem_append_right _ (List.mem_of_getElem? (i := 456) (by decide +kernel)), by decide +kernel⟩
theorem tb_272 : Cond.fieldLink R_M 99 "CycleRowsModel" "thenKeys" "I" ∈ og_tb := List.mem_filter.mpr ⟨List.mem_append_right _ (List.mem_of_getElem? (i := 446) (by decide +kernel)), by decide +kernel⟩
theorem tb_273 : Cond.methodLink R_M 95 y_M_cell ∈ og_tb := List.mem_filter.mpr ⟨List.mem_append_right _ (List.mem_of_getElem? (i := 561) (by decide +kernel)), by decide +kernel⟩
theorem tb_274 : Cond.static y_M_cell ∈ og_tb := List.mem_filter.mpr ⟨List.mem_append_right _ (List.mem_of_getElem? (i := 562) (by decide +kernel)), by decide +kernel⟩
theorem tb_275 : Cond.code y_M_cell b_M_cell 2 (some .int) ∈ og_tb := List.mem_filter.mpr ⟨List.mem_append_right _ (List.mem_of_getElem? (i := 563) (by decide +kernel)), by decide +kernel⟩
theorem tb_276 : Cond.fieldLink R_M 88 "CycleRowsModel" "thenEdges" "I" ∈ og_tb := List.mem_filter.mpr ⟨List.mem_append_right _ (List.mem_of_getElem? (i := 447) (by decide +kernel)), by decide +kernel⟩
theorem tb_277 : Cond.fieldLink R_M 29 "CycleRowsModel" "configuration" "I" ∈ og_tb := List.mem_filter.mpr ⟨List.mem_append_right _ (List.mem_of_getElem? (i := 448) (by decide +kernel)), by decide +kernel⟩
theorem tb_278 : Cond.methodLink R_M 91 y_M_isThen ∈ og_tb := List.mem_filter.mpr ⟨List.mem_append_right _ (List.mem_of_getElem? (i := 557) (by decide +kernel)), by decide +kernel⟩
theorem tb_279 : Cond.instanceMethod y_M_isThen ∈ og_tb := List.mem_filter.mpr ⟨List.mem_append_right _ (List.mem_of_getElem? (i := 559) (by decide +kernel)), by decide +kernel⟩
theorem tb_280 : Cond.selects R_M y_M_isThen y_M_isThen ∈ og_tb := List.mem_filter.mpr ⟨List.mem_append_left _ (List.mem_of_getElem? (i := 21) (by decide +kernel)), by decide +kernel⟩
theorem tb_281 : Cond.code y_M_isThen b_M_isThen 3 (some .boolean) ∈ og_tb := List.mem_filter.mpr ⟨List.mem_append_right _ (List.mem_of_getElem? (i := 560) (by decide +kernel)), by decide +kernel⟩
theorem tb_282 : Cond.fieldLink R_M 48 "CycleRowsModel" "asks" "[Z" ∈ og_tb := List.mem_filter.mpr ⟨List.mem_append_right _ (List.mem_of_getElem? (i := 454) (by decide +kernel)), by decide +kernel⟩
theorem tb_283 : Cond.fieldLink R_M 102 "CycleRowsModel" "parts" "I" ∈ og_tb := List.mem_filter.mpr ⟨List.mem_append_right _ (List.mem_of_getElem? (i := 457) (by decide +kernel)), by decide +kernel⟩
theorem tb_284 : Cond.fieldLink R_M 42 "CycleRowsModel" "part" "[I" ∈ og_tb := List.mem_filter.mpr ⟨List.mem_append_right _ (List.mem_of_getElem? (i := 452) (by decide +kernel)), by decide +kernel⟩
theorem tb_285 : Cond.fieldLink R_M 45 "CycleRowsModel" "shortest" "[I" ∈ og_tb := List.mem_filter.mpr ⟨List.mem_append_right _ (List.mem_of_getElem? (i := 453) (by decide +kernel)), by decide +kernel⟩
theorem tb_286 : Cond.methodLink R_M 105 y_M_isTogether ∈ og_tb := List.mem_filter.mpr ⟨List.mem_append_right _ (List.mem_of_getElem? (i := 568) (by decide +kernel)), by decide +kernel⟩
theorem tb_287 : Cond.instanceMethod y_M_isTogether ∈ og_tb := List.mem_filter.mpr ⟨List.mem_append_right _ (List.mem_of_getElem? (i := 570) (by decide +kernel)), by decide +kernel⟩
theorem tb_288 : Cond.selects R_M y_M_isTogether y_M_isTogether ∈ og_tb := List.mem_filter.mpr ⟨List.mem_append_left _ (List.mem_of_getElem? (i := 23) (by decide +kernel)), by decide +kernel⟩
theorem tb_289 : Cond.code y_M_isTogether b_M_isTogether 3 (some .boolean) ∈ og_tb := List.mem_filter.mpr ⟨List.mem_append_right _ (List.mem_of_getElem? (i := 571) (by decide +kernel)), by decide +kernel⟩
theorem tb_290 : Cond.fieldLink R_M 63 "CycleRowsModel" "backs" "[Z" ∈ og_tb := List.mem_filter.mpr ⟨List.mem_append_right _ (List.mem_of_getElem? (i := 461) (by decide +kernel)), by decide +kernel⟩
theorem tb_291 : Cond.methodLink R_M 108 y_M_lead ∈ og_tb := List.mem_filter.mpr ⟨List.mem_append_right _ (List.mem_of_getElem? (i := 576) (by decide +kernel)), by decide +kernel⟩
theorem tb_292 : Cond.instanceMethod y_M_lead ∈ og_tb := List.mem_filter.mpr ⟨List.mem_append_right _ (List.mem_of_getElem? (i := 578) (by decide +kernel)), by decide +kernel⟩
theorem tb_293 : Cond.selects R_M y_M_lead y_M_lead ∈ og_tb := List.mem_filter.mpr ⟨List.mem_append_left _ (List.mem_of_getElem? (i := 25) (by decide +kernel)), by decide +kernel⟩
theorem tb_294 : Cond.code y_M_lead b_M_lead 7 none ∈ og_tb := List.mem_filter.mpr ⟨List.mem_append_right _ (List.mem_of_getElem? (i := 579) (by decide +kernel)), by decide +kernel⟩
theorem tb_295 : Cond.fieldLink R_M 57 "CycleRowsModel" "ringSize" "[I" ∈ og_tb := List.mem_filter.mpr ⟨List.mem_append_right _ (List.mem_of_getElem? (i := 459) (by decide +kernel)), by decide +kernel⟩
theorem tb_296 : Cond.fieldLink R_M 112 "CycleRowsModel" "rings" "I" ∈ og_tb := List.mem_filter.mpr ⟨List.mem_append_right _ (List.mem_of_getElem? (i := 458) (by decide +kernel)), by decide +kernel⟩
theorem tb_297 : Cond.fieldLink R_M 60 "CycleRowsModel" "ring" "[I" ∈ og_tb := List.mem_filter.mpr ⟨List.mem_append_right _ (List.mem_of_getElem? (i := 460) (by decide +kernel)), by decide +kernel⟩
theorem tb_298 : Cond.methodLink R_M 115 y_M_sort ∈ og_tb := List.mem_filter.mpr ⟨List.mem_append_right _ (List.mem_of_getElem? (i := 549) (by decide +kernel)), by decide +kernel⟩
theorem tb_299 : Cond.instanceMethod y_M_sort ∈ og_tb := List.mem_filter.mpr ⟨List.mem_append_right _ (List.mem_of_getElem? (i := 551) (by decide +kernel)), by decide +kernel⟩
theorem tb_300 : Cond.selects R_M y_M_sort y_M_sort ∈ og_tb := List.mem_filter.mpr ⟨List.mem_append_left _ (List.mem_of_getElem? (i := 19) (by decide +kernel)), by decide +kernel⟩
theorem tb_301 : Cond.code y_M_sort b_M_sort 4 none ∈ og_tb := List.mem_filter.mpr ⟨List.mem_append_right _ (List.mem_of_getElem? (i := 552) (by decide +kernel)), by decide +kernel⟩
theorem tb_302 : Cond.methodLink R_M 118 y_M_close ∈ og_tb := List.mem_filter.mpr ⟨List.mem_append_right _ (List.mem_of_getElem? (i := 553) (by decide +kernel)), by decide +kernel⟩
theorem tb_303 : Cond.instanceMethod y_M_close ∈ og_tb := List.mem_filter.mpr ⟨List.mem_append_right _ (List.mem_of_getElem? (i := 555) (by decide +kernel)), by decide +kernel⟩
theorem tb_304 : Cond.selects R_M y_M_close y_M_close ∈ og_tb := List.mem_filter.mpr ⟨List.mem_append_left _ (List.mem_of_getElem? (i := 20) (by decide +kernel)), by decide +kernel⟩
theorem tb_305 : Cond.code y_M_close b_M_close 5 none ∈ og_tb := List.mem_filter.mpr ⟨List.mem_append_right _ (List.mem_of_getElem? (i := 556) (by decide +kernel)), by decide +kernel⟩
theorem tb_306 : Cond.methodLink R_M 121 y_M_cutIntoParts ∈ og_tb := List.mem_filter.mpr ⟨List.mem_append_right _ (List.mem_of_getElem? (i := 564) (by decide +kernel)), by decide +kernel⟩
theorem tb_307 : Cond.instanceMethod y_M_cutIntoParts ∈ og_tb := List.mem_filter.mpr ⟨List.mem_append_right _ (List.mem_of_getElem? (i := 566) (by decide +kernel)), by decide +kernel⟩
theorem tb_308 : Cond.selects R_M y_M_cutIntoParts y_M_cutIntoParts ∈ og_tb := List.mem_filter.mpr ⟨List.mem_append_left _ (List.mem_of_getElem? (i := 22) (by decide +kernel)), by decide +kernel⟩
theorem tb_309 : Cond.code y_M_cutIntoParts b_M_cutIntoParts 4 none ∈ og_tb := List.mem_filter.mpr ⟨List.mem_append_right _ (List.mem_of_getElem? (i := 567) (by decide +kernel)), by decide +kernel⟩
theorem tb_310 : Cond.methodLink R_M 124 y_M_tellRing ∈ og_tb := List.mem_filter.mpr ⟨List.mem_append_right _ (List.mem_of_getElem? (i := 572) (by decide +kernel)), by decide +kernel⟩
theorem tb_311 : Cond.instanceMethod y_M_tellRing ∈ og_tb := List.mem_filter.mpr ⟨List.mem_append_right _ (List.mem_of_getElem? (i := 574) (by decide +kernel)), by decide +kernel⟩
theorem tb_312 : Cond.selects R_M y_M_tellRing y_M_tellRing ∈ og_tb := List.mem_filter.mpr ⟨List.mem_append_left _ (List.mem_of_getElem? (i := 24) (by decide +kernel)), by decide +kernel⟩
theorem tb_313 : Cond.code y_M_tellRing b_M_tellRing 7 none ∈ og_tb := List.mem_filter.mpr ⟨List.mem_append_right _ (List.mem_of_getElem? (i := 575) (by decide +kernel)), by decide +kernel⟩
theorem tb_314 : Cond.methodLink R_M 128 y_M_keyOf ∈ og_tb := List.mem_filter.mpr ⟨List.mem_append_right _ (List.mem_of_getElem? (i := 588) (by decide +kernel)), by decide +kernel⟩
theorem tb_315 : Cond.instanceMethod y_M_keyOf ∈ og_tb := List.mem_filter.mpr ⟨List.mem_append_right _ (List.mem_of_getElem? (i := 590) (by decide +kernel)), by decide +kernel⟩
theorem tb_316 : Cond.selects R_M y_M_keyOf y_M_keyOf ∈ og_tb := List.mem_filter.mpr ⟨List.mem_append_left _ (List.mem_of_getElem? (i := 26) (by decide +kernel)), by decide +kernel⟩
theorem tb_317 : Cond.code y_M_keyOf b_M_keyOf 3 (some .int) ∈ og_tb := List.mem_filter.mpr ⟨List.mem_append_right _ (List.mem_of_getElem? (i := 591) (by decide +kernel)), by decide +kernel⟩
theorem tb_318 : Cond.methodLink R_M 131 y_M_edgeOf ∈ og_tb := List.mem_filter.mpr ⟨List.mem_append_right _ (List.mem_of_getElem? (i := 592) (by decide +kernel)), by decide +kernel⟩
theorem tb_319 : Cond.instanceMethod y_M_edgeOf ∈ og_tb := List.mem_filter.mpr ⟨List.mem_append_right _ (List.mem_of_getElem? (i := 594) (by decide +kernel)), by decide +kernel⟩
theorem tb_320 : Cond.selects R_M y_M_edgeOf y_M_edgeOf ∈ og_tb := List.mem_filter.mpr ⟨List.mem_append_left _ (List.mem_of_getElem? (i := 27) (by decide +kernel)), by decide +kernel⟩
theorem tb_321 : Cond.code y_M_edgeOf b_M_edgeOf 5 (some .int) ∈ og_tb := List.mem_filter.mpr ⟨List.mem_append_right _ (List.mem_of_getElem? (i := 595) (by decide +kernel)), by decide +kernel⟩
theorem tb_322 : Cond.methodLink R_M 134 y_M_isRing ∈ og_tb := List.mem_filter.mpr ⟨List.mem_append_right _ (List.mem_of_getElem? (i := 600) (by decide +kernel)), by decide +kernel⟩
theorem tb_323 : Cond.instanceMethod y_M_isRing ∈ og_tb := List.mem_filter.mpr ⟨List.mem_append_right _ (List.mem_of_getElem? (i := 602) (by decide +kernel)), by decide +kernel⟩
theorem tb_324 : Cond.selects R_M y_M_isRing y_M_isRing ∈ og_tb := List.mem_filter.mpr ⟨List.mem_append_left _ (List.mem_of_getElem? (i := 28) (by decide +kernel)), by decide +kernel⟩
theorem tb_325 : Cond.code y_M_isRing b_M_isRing 7 (some .boolean) ∈ og_tb := List.mem_filter.mpr ⟨List.mem_append_right _ (List.mem_of_getElem? (i := 603) (by decide +kernel)), by decide +kernel⟩
theorem tb_326 : Cond.methodLink R_M 137 y_M_isThere ∈ og_tb := List.mem_filter.mpr ⟨List.mem_append_right _ (List.mem_of_getElem? (i := 612) (by decide +kernel)), by decide +kernel⟩
theorem tb_327 : Cond.instanceMethod y_M_isThere ∈ og_tb := List.mem_filter.mpr ⟨List.mem_append_right _ (List.mem_of_getElem? (i := 614) (by decide +kernel)), by decide +kernel⟩
theorem tb_328 : Cond.selects R_M y_M_isThere y_M_isThere ∈ og_tb := List.mem_filter.mpr ⟨List.mem_append_left _ (List.mem_of_getElem? (i := 29) (by decide +kernel)), by decide +kernel⟩
theorem tb_329 : Cond.code y_M_isThere b_M_isThere 2 (some .boolean) ∈ og_tb := List.mem_filter.mpr ⟨List.mem_append_right _ (List.mem_of_getElem? (i := 615) (by decide +kernel)), by decide +kernel⟩
theorem tb_330 : Cond.methodLink R_M 140 y_M_isRinged ∈ og_tb := List.mem_filter.mpr ⟨List.mem_append_right _ (List.mem_of_getElem? (i := 620) (by decide +kernel)), by decide +kernel⟩
theorem tb_331 : Cond.instanceMethod y_M_isRinged ∈ og_tb := List.mem_filter.mpr ⟨List.mem_append_right _ (List.mem_of_getElem? (i := 622) (by decide +kernel)), by decide +kernel⟩
theorem tb_332 : Cond.selects R_M y_M_isRinged y_M_isRinged ∈ og_tb := List.mem_filter.mpr ⟨List.mem_append_left _ (List.mem_of_getElem? (i := 30) (by decide +kernel)), by decide +kernel⟩
theorem tb_333 : Cond.code y_M_isRinged b_M_isRinged 2 (some .boolean) ∈ og_tb := List.mem_filter.mpr ⟨List.mem_append_right _ (List.mem_of_getElem? (i := 623) (by decide +kernel)), by decide +kernel⟩
theorem tb_334 : Cond.fieldLink R_M 143 "CycleRowsModel" "metSize" "I" ∈ og_tb := List.mem_filter.mpr ⟨List.mem_append_right _ (List.mem_of_getElem? (i := 462) (by decide +kernel)), by decide +kernel⟩
theorem tb_335 : Cond.fieldLink R_M 66 "CycleRowsModel" "way" "[I" ∈ og_tb := List.mem_filter.mpr ⟨List.mem_append_right _ (List.mem_of_getElem? (i := 463) (by decide +kernel)), by decide +kernel⟩
theorem tb_336 : Cond.fieldLink R_M 69 "CycleRowsModel" "asked" "[I" ∈ og_tb := List.mem_filter.mpr ⟨List.mem_append_right _ (List.mem_of_getElem? (i := 464) (by decide +kernel)), by decide +kernel⟩
theorem tb_337 : Cond.fieldLink R_M 72 "CycleRowsModel" "at" "[I" ∈ og_tb := List.mem_filter.mpr ⟨List.mem_append_right _ (List.mem_of_getElem? (i := 465) (by decide +kernel)), by decide +kernel⟩
theorem tb_338 : Cond.methodLink R_M 146 y_M_ringOf ∈ og_tb := List.mem_filter.mpr ⟨List.mem_append_right _ (List.mem_of_getElem? (i := 632) (by decide +kernel)), by decide +kernel⟩
theorem tb_339 : Cond.instanceMethod y_M_ringOf ∈ og_tb := List.mem_filter.mpr ⟨List.mem_append_right _ (List.mem_of_getElem? (i := 634) (by decide +kernel)), by decide +kernel⟩
theorem tb_340 : Cond.selects R_M y_M_ringOf y_M_ringOf ∈ og_tb := List.mem_filter.mpr ⟨List.mem_append_left _ (List.mem_of_getElem? (i := 31) (by decide +kernel)), by decide +kernel⟩
theorem tb_341 : Cond.code y_M_ringOf b_M_ringOf 5 (some .int) ∈ og_tb := List.mem_filter.mpr ⟨List.mem_append_right _ (List.mem_of_getElem? (i := 635) (by decide +kernel)), by decide +kernel⟩
theorem tb_342 : Cond.methodLink R_K 3 Lib.objectInit ∈ og_tb := List.mem_filter.mpr ⟨List.mem_append_right _ (List.mem_of_getElem? (i := 24) (by decide +kernel)), by decide +kernel⟩
theorem tb_343 : Cond.instanceMethod Lib.objectInit ∈ og_tb := List.mem_filter.mpr ⟨List.mem_append_right _ (List.mem_of_getElem? (i := 17) (by decide +kernel)), by decide +kernel⟩
theorem tb_344 : Cond.code Lib.objectInit ⟨#[0xb1]⟩ 1 none ∈ og_tb := List.mem_filter.mpr ⟨List.mem_append_right _ (List.mem_of_getElem? (i := 18) (by decide +kernel)), by decide +kernel⟩
theorem tb_345 : Cond.arrayClass .int ∈ og_tb := List.mem_filter.mpr ⟨List.mem_append_right _ (List.mem_of_getElem? (i := 43) (by decide +kernel)), by decide +kernel⟩
theorem tb_346 : Cond.methodLink R_E 3 Lib.objectInit ∈ og_tb := List.mem_filter.mpr ⟨List.mem_append_right _ (List.mem_of_getElem? (i := 49) (by decide +kernel)), by decide +kernel⟩
theorem tb_347 : Cond.arrayClass .boolean ∈ og_tb := List.mem_filter.mpr ⟨List.mem_append_right _ (List.mem_of_getElem? (i := 75) (by decide +kernel)), by decide +kernel⟩
theorem tb_348 : Cond.methodLink R_R 3 Lib.objectInit ∈ og_tb := List.mem_filter.mpr ⟨List.mem_append_right _ (List.mem_of_getElem? (i := 81) (by decide +kernel)), by decide +kernel⟩
theorem tb_349 : Cond.arrayClass .long ∈ og_tb := List.mem_filter.mpr ⟨List.mem_append_right _ (List.mem_of_getElem? (i := 98) (by decide +kernel)), by decide +kernel⟩
theorem tb_350 : Cond.methodLink R_T 3 Lib.objectInit ∈ og_tb := List.mem_filter.mpr ⟨List.mem_append_right _ (List.mem_of_getElem? (i := 104) (by decide +kernel)), by decide +kernel⟩
theorem tb_351 : Cond.methodLink R_A 3 Lib.objectInit ∈ og_tb := List.mem_filter.mpr ⟨List.mem_append_right _ (List.mem_of_getElem? (i := 147) (by decide +kernel)), by decide +kernel⟩
theorem tb_352 : Cond.methodLink R_M 1 Lib.objectInit ∈ og_tb := List.mem_filter.mpr ⟨List.mem_append_right _ (List.mem_of_getElem? (i := 436) (by decide +kernel)), by decide +kernel⟩
theorem tb_353 : Cond.methodLink R_C 1 Lib.objectInit ∈ og_tb := List.mem_filter.mpr ⟨List.mem_append_right _ (List.mem_of_getElem? (i := 16) (by decide +kernel)), by decide +kernel⟩
theorem tb_354 : Cond.classLink R_C 7 R_K ∈ og_tb := List.mem_filter.mpr ⟨List.mem_append_right _ (List.mem_of_getElem? (i := 19) (by decide +kernel)), by decide +kernel⟩
theorem tb_355 : Cond.instantiable R_K 4 ∈ og_tb := List.mem_filter.mpr ⟨List.mem_append_right _ (List.mem_of_getElem? (i := 20) (by decide +kernel)), by decide +kernel⟩
theorem tb_356 : Cond.code y_K_init b_K_init 1 none ∈ og_tb := List.mem_filter.mpr ⟨List.mem_append_right _ (List.mem_of_getElem? (i := 23) (by decide +kernel)), by decide +kernel⟩
theorem tb_357 : Cond.instanceMethod y_K_init ∈ og_tb := List.mem_filter.mpr ⟨List.mem_append_right _ (List.mem_of_getElem? (i := 22) (by decide +kernel)), by decide +kernel⟩
theorem tb_358 : Cond.classLink R_C 16 R_E ∈ og_tb := List.mem_filter.mpr ⟨List.mem_append_right _ (List.mem_of_getElem? (i := 44) (by decide +kernel)), by decide +kernel⟩
theorem tb_359 : Cond.instantiable R_E 6 ∈ og_tb := List.mem_filter.mpr ⟨List.mem_append_right _ (List.mem_of_getElem? (i := 45) (by decide +kernel)), by decide +kernel⟩
theorem tb_360 : Cond.code y_E_init b_E_init 1 none ∈ og_tb := List.mem_filter.mpr ⟨List.mem_append_right _ (List.mem_of_getElem? (i := 48) (by decide +kernel)), by decide +kernel⟩
theorem tb_361 : Cond.instanceMethod y_E_init ∈ og_tb := List.mem_filter.mpr ⟨List.mem_append_right _ (List.mem_of_getElem? (i := 47) (by decide +kernel)), by decide +kernel⟩
theorem tb_362 : Cond.classLink R_C 23 R_R ∈ og_tb := List.mem_filter.mpr ⟨List.mem_append_right _ (List.mem_of_getElem? (i := 76) (by decide +kernel)), by decide +kernel⟩
theorem tb_363 : Cond.instantiable R_R 5 ∈ og_tb := List.mem_filter.mpr ⟨List.mem_append_right _ (List.mem_of_getElem? (i := 77) (by decide +kernel)), by decide +kernel⟩
theorem tb_364 : Cond.code y_R_init b_R_init 1 none ∈ og_tb := List.mem_filter.mpr ⟨List.mem_append_right _ (List.mem_of_getElem? (i := 80) (by decide +kernel)), by decide +kernel⟩
theorem tb_365 : Cond.instanceMethod y_R_init ∈ og_tb := List.mem_filter.mpr ⟨List.mem_append_right _ (List.mem_of_getElem? (i := 79) (by decide +kernel)), by decide +kernel⟩
theorem tb_366 : Cond.classLink R_C 30 R_T ∈ og_tb := List.mem_filter.mpr ⟨List.mem_append_right _ (List.mem_of_getElem? (i := 99) (by decide +kernel)), by decide +kernel⟩
theorem tb_367 : Cond.instantiable R_T 10 ∈ og_tb := List.mem_filter.mpr ⟨List.mem_append_right _ (List.mem_of_getElem? (i := 100) (by decide +kernel)), by decide +kernel⟩
theorem tb_368 : Cond.code y_T_init b_T_init 1 none ∈ og_tb := List.mem_filter.mpr ⟨List.mem_append_right _ (List.mem_of_getElem? (i := 103) (by decide +kernel)), by decide +kernel⟩
theorem tb_369 : Cond.instanceMethod y_T_init ∈ og_tb := List.mem_filter.mpr ⟨List.mem_append_right _ (List.mem_of_getElem? (i := 102) (by decide +kernel)), by decide +kernel⟩
theorem tb_370 : Cond.classLink R_C 37 R_A ∈ og_tb := List.mem_filter.mpr ⟨List.mem_append_right _ (List.mem_of_getElem? (i := 142) (by decide +kernel)), by decide +kernel⟩
theorem tb_371 : Cond.instantiable R_A 6 ∈ og_tb := List.mem_filter.mpr ⟨List.mem_append_right _ (List.mem_of_getElem? (i := 143) (by decide +kernel)), by decide +kernel⟩
theorem tb_372 : Cond.code y_A_init b_A_init 1 none ∈ og_tb := List.mem_filter.mpr ⟨List.mem_append_right _ (List.mem_of_getElem? (i := 146) (by decide +kernel)), by decide +kernel⟩
theorem tb_373 : Cond.instanceMethod y_A_init ∈ og_tb := List.mem_filter.mpr ⟨List.mem_append_right _ (List.mem_of_getElem? (i := 145) (by decide +kernel)), by decide +kernel⟩
