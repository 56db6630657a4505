/-! the law's words -/
def wsL_law_r1 : List Cond := [.classLink RL 7 RX0, .instantiable RX0 3, .initialized RX0, .classLink RL 10 RX1, .instantiable RX1 5, .initialized RX1, .constantLong RL 13 (4294967295), .methodLink RL 9 yX0_init, .instanceMethod yX0_init, .code yX0_init cX0_init 1 none, .methodLink RX0 1 objectInit, .instanceMethod objectInit, .code objectInit ⟨#[0xb1]⟩ 1 none, .arrayClass .long, .fieldLink RX0 9 "BinaryFunctions" "registers" "[J", .fieldLink RX0 13 "BinaryFunctions" "raised" "I", .fieldLink RX0 17 "BinaryFunctions" "lastQuotient" "I", .methodLink RL 15 yX0_load, .instanceMethod yX0_load, .selects RX0 yX0_load yX0_load, .code yX0_load cX0_load 4 (some .boolean), .methodLink RX0 20 yX0_isRegister, .static yX0_isRegister, .code yX0_isRegister cX0_isRegister 1 (some .boolean)]
def wsL_law_r2 : List Cond := [.methodLink RL 20 yX0_bits, .instanceMethod yX0_bits, .selects RX0 yX0_bits yX0_bits, .code yX0_bits cX0_bits 2 (some .long), .methodLink RL 25 yX0_sqrt, .instanceMethod yX0_sqrt, .selects RX0 yX0_sqrt yX0_sqrt, .code yX0_sqrt cX0_sqrt 3 (some .boolean), .methodLink RX0 24 yX0_squareRoot, .instanceMethod yX0_squareRoot, .selects RX0 yX0_squareRoot yX0_squareRoot, .code yX0_squareRoot cX0_squareRoot 3 (some .long), .constantLong RX0 101 (9221120237041090560), .constantLong RX0 67 (9218868437227405312), .methodLink RX0 51 yX0_isNan, .static yX0_isNan, .code yX0_isNan cX0_isNan 2 (some .boolean), .constantLong RX0 65 (9223372036854775807), .methodLink RX0 43 yX0_isZero, .static yX0_isZero, .code yX0_isZero cX0_isZero 2 (some .boolean), .methodLink RX0 103 yX0_raise, .instanceMethod yX0_raise, .selects RX0 yX0_raise yX0_raise]
def wsL_law_r3 : List Cond := [.code yX0_raise cX0_raise 2 none, .methodLink RX0 107 yX0_rootOfPositive, .instanceMethod yX0_rootOfPositive, .selects RX0 yX0_rootOfPositive yX0_rootOfPositive, .code yX0_rootOfPositive cX0_rootOfPositive 14 (some .long), .methodLink RX0 55 yX0_fullPower, .static yX0_fullPower, .code yX0_fullPower cX0_fullPower 2 (some .int), .methodLink RX0 95 yX0_power, .static yX0_power, .code yX0_power cX0_power 2 (some .int), .methodLink RX0 78 Lib.Math.max.name, .static Lib.Math.max.name, .initialized "java/lang/Math", .code Lib.Math.max.name Lib.Math.max.code 2 (some .int), .methodLink RX0 75 yX0_fieldE, .static yX0_fieldE, .code yX0_fieldE cX0_fieldE 2 (some .int), .methodLink RX0 92 yX0_spareRoom, .static yX0_spareRoom, .code yX0_spareRoom cX0_spareRoom 2 (some .int), .methodLink RX0 84 yX0_significand, .static yX0_significand, .code yX0_significand cX0_significand 4 (some .long)]
def wsL_law_r4 : List Cond := [.constantLong RX0 73 (4503599627370495), .constantLong RX0 71 (4503599627370496), .methodLink RX0 87 yJ13_numberOfLeadingZeros_95d88, .static yJ13_numberOfLeadingZeros_95d88, .initialized RJ13, .code yJ13_numberOfLeadingZeros_95d88 cJ13_numberOfLeadingZeros_95d88 3 (some .int), .methodLink RJ13 308 yJ6_numberOfLeadingZeros_0f7a4, .static yJ6_numberOfLeadingZeros_0f7a4, .initialized RJ6, .code yJ6_numberOfLeadingZeros_0f7a4 cJ6_numberOfLeadingZeros_0f7a4 2 (some .int), .constant RJ6 264 (65536), .methodLink RX0 110 yX0_fullSignificand, .static yX0_fullSignificand, .code yX0_fullSignificand cX0_fullSignificand 2 (some .long), .methodLink RX0 113 yX0_pattern, .static yX0_pattern, .code yX0_pattern cX0_pattern 5 (some .long), .methodLink RX0 98 Lib.Math.min.name, .static Lib.Math.min.name, .code Lib.Math.min.name Lib.Math.min.code 2 (some .int), .methodLink RL 30 yX0_whole, .instanceMethod yX0_whole, .selects RX0 yX0_whole yX0_whole, .code yX0_whole cX0_whole 4 (some .boolean)]
def wsL_law_r5 : List Cond := [.methodLink RX0 28 yX0_madeWhole, .instanceMethod yX0_madeWhole, .selects RX0 yX0_madeWhole yX0_madeWhole, .code yX0_madeWhole cX0_madeWhole 7 (some .long), .methodLink RX0 48 yX0_isInfinity, .static yX0_isInfinity, .code yX0_isInfinity cX0_isInfinity 2 (some .boolean), .methodLink RX0 116 yX0_signOf, .static yX0_signOf, .code yX0_signOf cX0_signOf 2 (some .long), .constantLong RX0 69 (-9223372036854775808), .methodLink RX0 119 yX0_wholeAmount, .static yX0_wholeAmount, .code yX0_wholeAmount cX0_wholeAmount 8 (some .long), .methodLink RX0 123 yX0_nearestShifted, .static yX0_nearestShifted, .code yX0_nearestShifted cX0_nearestShifted 10 (some .long), .methodLink RL 35 yX0_left, .instanceMethod yX0_left, .selects RX0 yX0_left yX0_left, .code yX0_left cX0_left 5 (some .boolean), .methodLink RX0 32 yX0_remainder, .instanceMethod yX0_remainder, .selects RX0 yX0_remainder yX0_remainder]
def wsL_law_r6 : List Cond := [.code yX0_remainder cX0_remainder 7 (some .long), .methodLink RX0 126 yX0_remainderOfFinite, .instanceMethod yX0_remainderOfFinite, .selects RX0 yX0_remainderOfFinite yX0_remainderOfFinite, .code yX0_remainderOfFinite cX0_remainderOfFinite 18 (some .long), .constantLong RX0 130 (7), .methodLink RL 40 yX0_quotient, .instanceMethod yX0_quotient, .selects RX0 yX0_quotient yX0_quotient, .code yX0_quotient cX0_quotient 1 (some .int), .methodLink RL 45 yX0_neighbour, .instanceMethod yX0_neighbour, .selects RX0 yX0_neighbour yX0_neighbour, .code yX0_neighbour cX0_neighbour 4 (some .boolean), .methodLink RX0 36 yX0_nextTowards, .static yX0_nextTowards, .code yX0_nextTowards cX0_nextTowards 6 (some .long), .methodLink RX0 59 yX0_place, .static yX0_place, .code yX0_place cX0_place 2 (some .long), .methodLink RL 49 yX0_scale, .instanceMethod yX0_scale, .selects RX0 yX0_scale yX0_scale, .code yX0_scale cX0_scale 4 (some .boolean)]
def wsL_law_r7 : List Cond := [.methodLink RX0 40 yX0_timesPowerOfTwo, .instanceMethod yX0_timesPowerOfTwo, .selects RX0 yX0_timesPowerOfTwo yX0_timesPowerOfTwo, .code yX0_timesPowerOfTwo cX0_timesPowerOfTwo 7 (some .long), .constantLong RX0 132 (971), .constantLong RX0 134 (-1074), .constantLong RX0 136 (60), .methodLink RX0 138 Lib.MathLoose.min_long.x, .static Lib.MathLoose.min_long.x, .code Lib.MathLoose.min_long.x Lib.MathLoose.min_long.code 4 (some .long), .methodLink RX0 140 yX0_roundedToLeastPower, .instanceMethod yX0_roundedToLeastPower, .selects RX0 yX0_roundedToLeastPower yX0_roundedToLeastPower, .code yX0_roundedToLeastPower cX0_roundedToLeastPower 6 (some .long), .methodLink RL 53 yX0_exponent, .instanceMethod yX0_exponent, .selects RX0 yX0_exponent yX0_exponent, .code yX0_exponent cX0_exponent 4 (some .int), .constant RX0 47 (-2147483648), .constant RX0 54 (2147483647), .methodLink RL 58 yX0_compare, .instanceMethod yX0_compare, .selects RX0 yX0_compare yX0_compare, .code yX0_compare cX0_compare 7 (some .int)]
def wsL_law_r8 : List Cond := [.methodLink RL 63 yX0_sort, .instanceMethod yX0_sort, .selects RX0 yX0_sort yX0_sort, .code yX0_sort cX0_sort 4 (some .int), .methodLink RX0 62 yX0_sortOfAmount, .static yX0_sortOfAmount, .code yX0_sortOfAmount cX0_sortOfAmount 2 (some .int), .methodLink RL 67 yX0_flags, .instanceMethod yX0_flags, .selects RX0 yX0_flags yX0_flags, .code yX0_flags cX0_flags 1 (some .int), .methodLink RL 71 yX0_clear, .instanceMethod yX0_clear, .selects RX0 yX0_clear yX0_clear, .code yX0_clear cX0_clear 1 none, .methodLink RL 12 yX1_init, .instanceMethod yX1_init, .code yX1_init cX1_init 1 none, .methodLink RX1 1 objectInit, .fieldLink RX1 7 "BinaryFunctionsModel" "register" "[J", .methodLink RL 19 yX1_load, .instanceMethod yX1_load, .selects RX1 yX1_load yX1_load, .code yX1_load cX1_load 4 (some .boolean)]
def wsL_law_r9 : List Cond := [.methodLink RX1 29 yX1_isRegister, .static yX1_isRegister, .code yX1_isRegister cX1_isRegister 1 (some .boolean), .methodLink RL 24 yX1_bits, .instanceMethod yX1_bits, .selects RX1 yX1_bits yX1_bits, .code yX1_bits cX1_bits 2 (some .long), .methodLink RL 29 yX1_sqrt, .instanceMethod yX1_sqrt, .selects RX1 yX1_sqrt yX1_sqrt, .code yX1_sqrt cX1_sqrt 5 (some .boolean), .methodLink RX1 71 yX1_isNan, .static yX1_isNan, .code yX1_isNan cX1_isNan 2 (some .boolean), .methodLink RX1 17 yX1_plain, .static yX1_plain, .code yX1_plain cX1_plain 2 (some .long), .constantLong RX1 13 (9223372036854775807), .constantLong RX1 21 (9218868437227405312), .constantLong RX1 75 (9221120237041090560), .methodLink RX1 77 yX1_isZero, .static yX1_isZero, .code yX1_isZero cX1_isZero 2 (some .boolean), .methodLink RX1 80 yX1_negative]
def wsL_law_r10 : List Cond := [.static yX1_negative, .code yX1_negative cX1_negative 2 (some .boolean), .fieldLink RX1 61 "BinaryFunctionsModel" "flag" "I", .methodLink RX1 83 yX1_root, .instanceMethod yX1_root, .selects RX1 yX1_root yX1_root, .code yX1_root cX1_root 20 (some .long), .methodLink RX1 48 yX1_number, .static yX1_number, .code yX1_number cX1_number 4 (some .long), .constantLong RX1 23 (4503599627370495), .constantLong RX1 25 (4503599627370496), .methodLink RX1 51 yX1_power, .static yX1_power, .code yX1_power cX1_power 3 (some .int), .constantLong RX1 55 (3), .constantLong RX1 27 (9007199254740992), .methodLink RX1 57 yX1_squareFits, .instanceMethod yX1_squareFits, .selects RX1 yX1_squareFits yX1_squareFits, .code yX1_squareFits cX1_squareFits 7 (some .boolean), .methodLink RX1 44 yX1_multiply, .instanceMethod yX1_multiply, .selects RX1 yX1_multiply yX1_multiply]
def wsL_law_r11 : List Cond := [.code yX1_multiply cX1_multiply 17 none, .constantLong RX1 33 (134217727), .constantLong RX1 35 (18014398509481983), .fieldLink RX1 37 "BinaryFunctionsModel" "low" "J", .fieldLink RX1 41 "BinaryFunctionsModel" "high" "J", .constantLong RX1 65 (2), .methodLink RX1 67 yX1_exact, .static yX1_exact, .code yX1_exact cX1_exact 7 (some .long), .methodLink RL 34 yX1_whole, .instanceMethod yX1_whole, .selects RX1 yX1_whole yX1_whole, .code yX1_whole cX1_whole 10 (some .boolean), .methodLink RX1 86 yX1_isInfinite, .static yX1_isInfinite, .code yX1_isInfinite cX1_isInfinite 2 (some .boolean), .methodLink RX1 89 yX1_cut, .static yX1_cut, .code yX1_cut cX1_cut 12 (some .long), .methodLink RX1 93 yX1_signed, .static yX1_signed, .code yX1_signed cX1_signed 3 (some .long), .constantLong RX1 15 (-9223372036854775808), .methodLink RL 39 yX1_left]
def wsL_law_r12 : List Cond := [.instanceMethod yX1_left, .selects RX1 yX1_left yX1_left, .code yX1_left cX1_left 9 (some .boolean), .fieldLink RX1 97 "BinaryFunctionsModel" "quotient" "I", .methodLink RX1 102 yX1_rest, .instanceMethod yX1_rest, .selects RX1 yX1_rest yX1_rest, .code yX1_rest cX1_rest 21 (some .long), .constantLong RX1 100 (8), .methodLink RL 44 yX1_quotient, .instanceMethod yX1_quotient, .selects RX1 yX1_quotient yX1_quotient, .code yX1_quotient cX1_quotient 1 (some .int), .methodLink RL 48 yX1_neighbour, .instanceMethod yX1_neighbour, .selects RX1 yX1_neighbour yX1_neighbour, .code yX1_neighbour cX1_neighbour 14 (some .boolean), .methodLink RX1 106 yX1_place, .static yX1_place, .code yX1_place cX1_place 2 (some .long), .methodLink RL 52 yX1_scale, .instanceMethod yX1_scale, .selects RX1 yX1_scale yX1_scale, .code yX1_scale cX1_scale 6 (some .boolean)]
def wsL_law_r13 : List Cond := [.methodLink RX1 115 yX1_rounded, .instanceMethod yX1_rounded, .selects RX1 yX1_rounded yX1_rounded, .code yX1_rounded cX1_rounded 14 (some .long), .constantLong RX1 109 (971), .constantLong RX1 111 (-1074), .constantLong RX1 113 (54), .methodLink RL 57 yX1_exponent, .instanceMethod yX1_exponent, .selects RX1 yX1_exponent yX1_exponent, .code yX1_exponent cX1_exponent 7 (some .int), .constant RX1 119 (-2147483648), .constant RX1 120 (2147483647), .methodLink RL 62 yX1_compare, .instanceMethod yX1_compare, .selects RX1 yX1_compare yX1_compare, .code yX1_compare cX1_compare 7 (some .int), .methodLink RL 66 yX1_sort, .instanceMethod yX1_sort, .selects RX1 yX1_sort yX1_sort, .code yX1_sort cX1_sort 5 (some .int), .methodLink RL 70 yX1_flags, .instanceMethod yX1_flags, .selects RX1 yX1_flags yX1_flags]
def wsL_law_r14 : List Cond := [.code yX1_flags cX1_flags 1 (some .int), .methodLink RL 74 yX1_clear, .instanceMethod yX1_clear, .selects RX1 yX1_clear yX1_clear, .code yX1_clear cX1_clear 1 none]
def wsL_law : List Cond := (wsL_law_r1 ++ (wsL_law_r2 ++ (wsL_law_r3 ++ (wsL_law_r4 ++ (wsL_law_r5 ++ (wsL_law_r6 ++ (wsL_law_r7 ++ (wsL_law_r8 ++ (wsL_law_r9 ++ (wsL_law_r10 ++ (wsL_law_r11 ++ (wsL_law_r12 ++ (wsL_law_r13 ++ wsL_law_r14))))))))))))) ++ wsX00 ++ wsX10
set_option maxRecDepth 40000 in
theorem wsL_law_in1 : ∀ w ∈ wsL_law_r1, w ∈ lw_tbl := fun w h => (goodIn_r wsL_law_r1 [19, 20, 14, 201, 202, 15, 348, 21, 22, 23, 24, 25, 26, 37, 27, 28, 29, 38, 39, 40, 41, 42, 43, 44] (by decide +kernel) (by decide +kernel) w h).1
set_option maxRecDepth 40000 in
theorem wsL_law_in2 : ∀ w ∈ wsL_law_r2, w ∈ lw_tbl := fun w h => (goodIn_r wsL_law_r2 [45, 46, 47, 48, 49, 50, 51, 52, 53, 55, 0, 56, 62, 61, 57, 58, 59, 60, 63, 64, 65, 66, 68, 1] (by decide +kernel) (by decide +kernel) w h).1
set_option maxRecDepth 40000 in
theorem wsL_law_in3 : ∀ w ∈ wsL_law_r3, w ∈ lw_tbl := fun w h => (goodIn_r wsL_law_r3 [69, 70, 72, 2, 73, 74, 75, 76, 77, 78, 79, 83, 84, 16, 85, 80, 81, 82, 86, 87, 88, 89, 90, 91] (by decide +kernel) (by decide +kernel) w h).1
set_option maxRecDepth 40000 in
theorem wsL_law_in4 : ∀ w ∈ wsL_law_r4, w ∈ lw_tbl := fun w h => (goodIn_r wsL_law_r4 [92, 93, 94, 95, 17, 96, 97, 98, 18, 99, 100, 101, 102, 103, 104, 105, 106, 107, 108, 109, 110, 111, 112, 113] (by decide +kernel) (by decide +kernel) w h).1
set_option maxRecDepth 40000 in
theorem wsL_law_in5 : ∀ w ∈ wsL_law_r5, w ∈ lw_tbl := fun w h => (goodIn_r wsL_law_r5 [114, 116, 3, 117, 118, 119, 120, 121, 122, 123, 124, 125, 126, 127, 128, 129, 130, 131, 132, 133, 134, 135, 137, 4] (by decide +kernel) (by decide +kernel) w h).1
set_option maxRecDepth 40000 in
theorem wsL_law_in6 : ∀ w ∈ wsL_law_r6, w ∈ lw_tbl := fun w h => (goodIn_r wsL_law_r6 [138, 139, 141, 5, 142, 143, 144, 145, 146, 147, 148, 149, 150, 151, 152, 153, 154, 155, 156, 157, 158, 159, 160, 161] (by decide +kernel) (by decide +kernel) w h).1
set_option maxRecDepth 40000 in
theorem wsL_law_in7 : ∀ w ∈ wsL_law_r7, w ∈ lw_tbl := fun w h => (goodIn_r wsL_law_r7 [162, 164, 6, 165, 166, 167, 168, 169, 170, 171, 172, 174, 7, 175, 176, 177, 178, 179, 180, 181, 182, 183, 184, 185] (by decide +kernel) (by decide +kernel) w h).1
set_option maxRecDepth 40000 in
theorem wsL_law_in8 : ∀ w ∈ wsL_law_r8, w ∈ lw_tbl := fun w h => (goodIn_r wsL_law_r8 [186, 187, 188, 189, 190, 191, 192, 193, 194, 195, 196, 197, 198, 199, 200, 203, 204, 205, 206, 207, 223, 224, 225, 226] (by decide +kernel) (by decide +kernel) w h).1
set_option maxRecDepth 40000 in
theorem wsL_law_in9 : ∀ w ∈ wsL_law_r9, w ∈ lw_tbl := fun w h => (goodIn_r wsL_law_r9 [227, 228, 229, 230, 231, 232, 233, 234, 235, 236, 237, 238, 239, 240, 241, 242, 243, 244, 245, 246, 247, 248, 249, 250] (by decide +kernel) (by decide +kernel) w h).1
set_option maxRecDepth 40000 in
theorem wsL_law_in10 : ∀ w ∈ wsL_law_r10, w ∈ lw_tbl := fun w h => (goodIn_r wsL_law_r10 [251, 252, 208, 253, 255, 8, 256, 257, 258, 259, 260, 261, 262, 263, 264, 265, 266, 267, 269, 9, 270, 271, 273, 10] (by decide +kernel) (by decide +kernel) w h).1
set_option maxRecDepth 40000 in
theorem wsL_law_in11 : ∀ w ∈ wsL_law_r11, w ∈ lw_tbl := fun w h => (goodIn_r wsL_law_r11 [274, 275, 276, 211, 210, 277, 278, 279, 280, 281, 282, 283, 284, 285, 286, 287, 288, 289, 290, 291, 292, 293, 294, 295] (by decide +kernel) (by decide +kernel) w h).1
set_option maxRecDepth 40000 in
theorem wsL_law_in12 : ∀ w ∈ wsL_law_r12, w ∈ lw_tbl := fun w h => (goodIn_r wsL_law_r12 [296, 297, 298, 209, 299, 301, 11, 302, 303, 304, 305, 306, 307, 308, 309, 310, 311, 312, 313, 314, 315, 316, 317, 318] (by decide +kernel) (by decide +kernel) w h).1
set_option maxRecDepth 40000 in
theorem wsL_law_in13 : ∀ w ∈ wsL_law_r13, w ∈ lw_tbl := fun w h => (goodIn_r wsL_law_r13 [319, 321, 12, 322, 323, 324, 325, 326, 327, 328, 329, 330, 331, 332, 333, 334, 335, 336, 337, 338, 339, 340, 341, 342] (by decide +kernel) (by decide +kernel) w h).1
set_option maxRecDepth 40000 in
theorem wsL_law_in14 : ∀ w ∈ wsL_law_r14, w ∈ lw_tbl := fun w h => (goodIn_r wsL_law_r14 [343, 344, 345, 346, 347] (by decide +kernel) (by decide +kernel) w h).1
set_option maxRecDepth 40000 in
theorem wsL_law_inX0 : ∀ w ∈ wsX00, w ∈ lw_tbl := fun w h => (goodIn_r wsX00 [30, 32, 34] (by decide +kernel) (by decide +kernel) w h).1
set_option maxRecDepth 40000 in
theorem wsL_law_inX1 : ∀ w ∈ wsX10, w ∈ lw_tbl := fun w h => (goodIn_r wsX10 [212, 214, 216, 218, 220] (by decide +kernel) (by decide +kernel) w h).1
theorem wsL_law_in : ∀ w ∈ wsL_law, w ∈ lw_tbl := List.forall_mem_append.mpr ⟨List.forall_mem_append.mpr ⟨List.forall_mem_append.mpr ⟨wsL_law_in1, List.forall_mem_append.mpr ⟨wsL_law_in2, List.forall_mem_append.mpr ⟨wsL_law_in3, List.forall_mem_append.mpr ⟨wsL_law_in4, List.forall_mem_append.mpr ⟨wsL_law_in5, List.forall_mem_append.mpr ⟨wsL_law_in6, List.forall_mem_append.mpr ⟨wsL_law_in7, List.forall_mem_append.mpr ⟨wsL_law_in8, List.forall_mem_append.mpr ⟨wsL_law_in9, List.forall_mem_append.mpr ⟨wsL_law_in10, List.forall_mem_append.mpr ⟨wsL_law_in11, List.forall_mem_append.mpr ⟨wsL_law_in12, List.forall_mem_append.mpr ⟨wsL_law_in13, wsL_law_in14⟩⟩⟩⟩⟩⟩⟩⟩⟩⟩⟩⟩⟩, wsL_law_inX0⟩, wsL_law_inX1⟩
theorem inlX0 : ∀ w ∈ wsX00, w ∈ wsL_law := fun _ h => List.mem_append_left _ (List.mem_append_right _ h)
theorem inlX1 : ∀ w ∈ wsX10, w ∈ wsL_law := fun _ h => List.mem_append_right _ h
set_option maxRecDepth 40000 in
theorem ggL_law_X0_init : GoodIn wsL_law wsX0_init := goodIn_r _ [9, 10, 11, 12, 13, 14, 15, 16, 317, 318, 319] (by decide +kernel) (by decide +kernel)
set_option maxRecDepth 40000 in
theorem ggL_law_X0_load : GoodIn wsL_law wsX0_load := goodIn_r _ [20, 14, 21, 22, 2, 23, 317, 318, 319] (by decide +kernel) (by decide +kernel)
set_option maxRecDepth 40000 in
theorem gL_law_X0_load : GoodIn wsL_law (wsV RL 15 RX0 yX0_load wsX0_load) := goodIn_app (goodIn_of _ (by decide +kernel)) ggL_law_X0_load
set_option maxRecDepth 40000 in
theorem ggL_law_X0_bits : GoodIn wsL_law wsX0_bits := goodIn_r _ [27, 14, 21, 22, 2, 23, 317, 318, 319] (by decide +kernel) (by decide +kernel)
set_option maxRecDepth 40000 in
theorem gL_law_X0_bits : GoodIn wsL_law (wsV RL 20 RX0 yX0_bits wsX0_bits) := goodIn_app (goodIn_of _ (by decide +kernel)) ggL_law_X0_bits
set_option maxRecDepth 40000 in
theorem ggL_law_X0_sqrt : GoodIn wsL_law wsX0_sqrt := goodIn_r _ [31, 14, 21, 22, 2, 23, 32, 33, 34, 35, 36, 37, 38, 39, 40, 41, 42, 43, 44, 45, 46, 47, 48, 15, 49, 50, 51, 52, 53, 54, 55, 56, 57, 58, 59, 60, 61, 62, 63, 64, 65, 66, 67, 68, 69, 70, 71, 72, 73, 74, 75, 76, 77, 78, 79, 80, 81, 82, 83, 84, 85, 86, 87, 88, 89, 90, 91, 317, 318, 319] (by decide +kernel) (by decide +kernel)
set_option maxRecDepth 40000 in
theorem gL_law_X0_sqrt : GoodIn wsL_law (wsV RL 25 RX0 yX0_sqrt wsX0_sqrt) := goodIn_app (goodIn_of _ (by decide +kernel)) ggL_law_X0_sqrt
set_option maxRecDepth 40000 in
theorem ggL_law_X0_whole : GoodIn wsL_law wsX0_whole := goodIn_r _ [95, 14, 21, 22, 2, 23, 96, 97, 98, 99, 36, 89, 90, 61, 91, 38, 39, 40, 41, 37, 42, 43, 44, 100, 101, 102, 56, 57, 58, 59, 60, 62, 63, 64, 65, 103, 104, 105, 106, 69, 70, 71, 72, 73, 107, 108, 109, 110, 111, 112, 86, 87, 88, 74, 75, 76, 77, 78, 79, 80, 81, 82, 45, 46, 47, 48, 15, 317, 318, 319] (by decide +kernel) (by decide +kernel)
set_option maxRecDepth 40000 in
theorem gL_law_X0_whole : GoodIn wsL_law (wsV RL 30 RX0 yX0_whole wsX0_whole) := goodIn_app (goodIn_of _ (by decide +kernel)) ggL_law_X0_whole
set_option maxRecDepth 40000 in
theorem ggL_law_X0_left : GoodIn wsL_law wsX0_left := goodIn_r _ [116, 14, 21, 22, 2, 23, 117, 118, 119, 120, 16, 36, 38, 39, 40, 41, 37, 100, 101, 102, 42, 43, 44, 45, 46, 47, 48, 15, 56, 57, 58, 59, 60, 61, 62, 63, 64, 65, 121, 122, 123, 124, 89, 90, 91, 106, 125, 69, 70, 71, 72, 73, 103, 104, 105, 86, 87, 88, 74, 75, 76, 77, 78, 79, 80, 81, 82, 317, 318, 319] (by decide +kernel) (by decide +kernel)
set_option maxRecDepth 40000 in
theorem gL_law_X0_left : GoodIn wsL_law (wsV RL 35 RX0 yX0_left wsX0_left) := goodIn_app (goodIn_of _ (by decide +kernel)) ggL_law_X0_left
set_option maxRecDepth 40000 in
theorem ggL_law_X0_quotient : GoodIn wsL_law wsX0_quotient := goodIn_r _ [129, 16, 317, 318, 319] (by decide +kernel) (by decide +kernel)
set_option maxRecDepth 40000 in
theorem gL_law_X0_quotient : GoodIn wsL_law (wsV RL 40 RX0 yX0_quotient wsX0_quotient) := goodIn_app (goodIn_of _ (by decide +kernel)) ggL_law_X0_quotient
set_option maxRecDepth 40000 in
theorem ggL_law_X0_neighbour : GoodIn wsL_law wsX0_neighbour := goodIn_r _ [133, 14, 21, 22, 2, 23, 134, 135, 136, 36, 106, 38, 39, 40, 41, 37, 137, 138, 139, 103, 104, 105, 317, 318, 319] (by decide +kernel) (by decide +kernel)
set_option maxRecDepth 40000 in
theorem gL_law_X0_neighbour : GoodIn wsL_law (wsV RL 45 RX0 yX0_neighbour wsX0_neighbour) := goodIn_app (goodIn_of _ (by decide +kernel)) ggL_law_X0_neighbour
set_option maxRecDepth 40000 in
theorem ggL_law_X0_scale : GoodIn wsL_law wsX0_scale := goodIn_r _ [143, 14, 21, 22, 2, 23, 144, 145, 146, 147, 36, 148, 37, 149, 150, 151, 152, 61, 153, 38, 39, 40, 41, 42, 43, 44, 100, 101, 102, 53, 54, 55, 56, 57, 58, 59, 60, 62, 63, 64, 65, 66, 67, 68, 69, 70, 71, 72, 73, 74, 75, 76, 77, 78, 79, 80, 81, 82, 45, 46, 47, 48, 15, 103, 104, 105, 106, 83, 84, 85, 86, 87, 88, 89, 90, 91, 154, 155, 156, 157, 110, 111, 112, 317, 318, 319] (by decide +kernel) (by decide +kernel)
set_option maxRecDepth 40000 in
theorem gL_law_X0_scale : GoodIn wsL_law (wsV RL 49 RX0 yX0_scale wsX0_scale) := goodIn_app (goodIn_of _ (by decide +kernel)) ggL_law_X0_scale
set_option maxRecDepth 40000 in
theorem ggL_law_X0_exponent : GoodIn wsL_law wsX0_exponent := goodIn_r _ [161, 14, 162, 163, 21, 22, 2, 23, 42, 43, 44, 41, 100, 101, 102, 37, 38, 39, 40, 53, 54, 55, 56, 57, 58, 59, 60, 61, 62, 63, 64, 65, 66, 67, 68, 69, 70, 71, 72, 73, 74, 75, 76, 77, 78, 79, 80, 81, 82, 317, 318, 319] (by decide +kernel) (by decide +kernel)
set_option maxRecDepth 40000 in
theorem gL_law_X0_exponent : GoodIn wsL_law (wsV RL 53 RX0 yX0_exponent wsX0_exponent) := goodIn_app (goodIn_of _ (by decide +kernel)) ggL_law_X0_exponent
set_option maxRecDepth 40000 in
theorem ggL_law_X0_compare : GoodIn wsL_law wsX0_compare := goodIn_r _ [167, 14, 21, 22, 2, 23, 38, 39, 40, 41, 37, 137, 138, 139, 317, 318, 319] (by decide +kernel) (by decide +kernel)
set_option maxRecDepth 40000 in
theorem gL_law_X0_compare : GoodIn wsL_law (wsV RL 58 RX0 yX0_compare wsX0_compare) := goodIn_app (goodIn_of _ (by decide +kernel)) ggL_law_X0_compare
set_option maxRecDepth 40000 in
theorem ggL_law_X0_sort : GoodIn wsL_law wsX0_sort := goodIn_r _ [171, 14, 21, 22, 2, 23, 172, 173, 174, 41, 73, 42, 43, 44, 100, 101, 102, 37, 38, 39, 40, 317, 318, 319] (by decide +kernel) (by decide +kernel)
set_option maxRecDepth 40000 in
theorem gL_law_X0_sort : GoodIn wsL_law (wsV RL 63 RX0 yX0_sort wsX0_sort) := goodIn_app (goodIn_of _ (by decide +kernel)) ggL_law_X0_sort
set_option maxRecDepth 40000 in
theorem ggL_law_X0_flags : GoodIn wsL_law wsX0_flags := goodIn_r _ [178, 15, 317, 318, 319] (by decide +kernel) (by decide +kernel)
set_option maxRecDepth 40000 in
theorem gL_law_X0_flags : GoodIn wsL_law (wsV RL 67 RX0 yX0_flags wsX0_flags) := goodIn_app (goodIn_of _ (by decide +kernel)) ggL_law_X0_flags
set_option maxRecDepth 40000 in
theorem ggL_law_X0_clear : GoodIn wsL_law wsX0_clear := goodIn_r _ [182, 15, 317, 318, 319] (by decide +kernel) (by decide +kernel)
set_option maxRecDepth 40000 in
theorem gL_law_X0_clear : GoodIn wsL_law (wsV RL 71 RX0 yX0_clear wsX0_clear) := goodIn_app (goodIn_of _ (by decide +kernel)) ggL_law_X0_clear
set_option maxRecDepth 40000 in
theorem ggL_law_X1_init : GoodIn wsL_law wsX1_init := goodIn_r _ [185, 186, 11, 12, 13, 187, 320, 321, 322, 323, 324] (by decide +kernel) (by decide +kernel)
set_option maxRecDepth 40000 in
theorem ggL_law_X1_load : GoodIn wsL_law wsX1_load := goodIn_r _ [191, 192, 193, 5, 194, 187, 320, 321, 322, 323, 324] (by decide +kernel) (by decide +kernel)
set_option maxRecDepth 40000 in
theorem gL_law_X1_load : GoodIn wsL_law (wsV RL 19 RX1 yX1_load wsX1_load) := goodIn_app (goodIn_of _ (by decide +kernel)) ggL_law_X1_load
set_option maxRecDepth 40000 in
theorem ggL_law_X1_bits : GoodIn wsL_law wsX1_bits := goodIn_r _ [198, 192, 193, 5, 194, 187, 320, 321, 322, 323, 324] (by decide +kernel) (by decide +kernel)
set_option maxRecDepth 40000 in
theorem gL_law_X1_bits : GoodIn wsL_law (wsV RL 24 RX1 yX1_bits wsX1_bits) := goodIn_app (goodIn_of _ (by decide +kernel)) ggL_law_X1_bits
set_option maxRecDepth 40000 in
theorem ggL_law_X1_sqrt : GoodIn wsL_law wsX1_sqrt := goodIn_r _ [202, 192, 193, 5, 194, 187, 203, 204, 205, 206, 207, 208, 209, 210, 211, 212, 213, 214, 215, 216, 217, 218, 219, 220, 221, 222, 223, 224, 225, 226, 227, 228, 229, 230, 231, 232, 233, 234, 235, 236, 237, 238, 239, 240, 241, 242, 243, 244, 245, 246, 247, 248, 320, 321, 322, 323, 324] (by decide +kernel) (by decide +kernel)
set_option maxRecDepth 40000 in
theorem gL_law_X1_sqrt : GoodIn wsL_law (wsV RL 29 RX1 yX1_sqrt wsX1_sqrt) := goodIn_app (goodIn_of _ (by decide +kernel)) ggL_law_X1_sqrt
set_option maxRecDepth 40000 in
theorem ggL_law_X1_whole : GoodIn wsL_law wsX1_whole := goodIn_r _ [252, 192, 193, 5, 194, 187, 203, 204, 205, 206, 207, 208, 209, 210, 211, 253, 254, 255, 228, 229, 230, 223, 224, 225, 226, 227, 215, 216, 217, 256, 257, 258, 245, 246, 247, 248, 232, 218, 259, 260, 261, 262, 320, 321, 322, 323, 324] (by decide +kernel) (by decide +kernel)
set_option maxRecDepth 40000 in
theorem gL_law_X1_whole : GoodIn wsL_law (wsV RL 34 RX1 yX1_whole wsX1_whole) := goodIn_app (goodIn_of _ (by decide +kernel)) ggL_law_X1_whole
set_option maxRecDepth 40000 in
theorem ggL_law_X1_left : GoodIn wsL_law wsX1_left := goodIn_r _ [266, 192, 193, 5, 194, 187, 267, 203, 204, 205, 206, 207, 208, 209, 210, 211, 253, 254, 255, 212, 213, 214, 218, 268, 269, 270, 271, 223, 224, 225, 226, 227, 228, 229, 230, 272, 245, 246, 247, 248, 232, 215, 216, 217, 259, 260, 261, 262, 320, 321, 322, 323, 324] (by decide +kernel) (by decide +kernel)
set_option maxRecDepth 40000 in
theorem gL_law_X1_left : GoodIn wsL_law (wsV RL 39 RX1 yX1_left wsX1_left) := goodIn_app (goodIn_of _ (by decide +kernel)) ggL_law_X1_left
set_option maxRecDepth 40000 in
theorem ggL_law_X1_quotient : GoodIn wsL_law wsX1_quotient := goodIn_r _ [276, 267, 320, 321, 322, 323, 324] (by decide +kernel) (by decide +kernel)
set_option maxRecDepth 40000 in
theorem gL_law_X1_quotient : GoodIn wsL_law (wsV RL 44 RX1 yX1_quotient wsX1_quotient) := goodIn_app (goodIn_of _ (by decide +kernel)) ggL_law_X1_quotient
set_option maxRecDepth 40000 in
theorem ggL_law_X1_neighbour : GoodIn wsL_law wsX1_neighbour := goodIn_r _ [280, 192, 193, 5, 194, 187, 203, 204, 205, 206, 207, 208, 209, 210, 211, 281, 282, 283, 215, 216, 217, 259, 260, 261, 262, 320, 321, 322, 323, 324] (by decide +kernel) (by decide +kernel)
set_option maxRecDepth 40000 in
theorem gL_law_X1_neighbour : GoodIn wsL_law (wsV RL 48 RX1 yX1_neighbour wsX1_neighbour) := goodIn_app (goodIn_of _ (by decide +kernel)) ggL_law_X1_neighbour
set_option maxRecDepth 40000 in
theorem ggL_law_X1_scale : GoodIn wsL_law wsX1_scale := goodIn_r _ [287, 192, 193, 5, 194, 187, 203, 204, 205, 206, 207, 208, 209, 210, 211, 253, 254, 255, 212, 213, 214, 223, 224, 225, 226, 227, 228, 229, 230, 288, 289, 290, 291, 292, 218, 293, 246, 247, 248, 232, 294, 256, 257, 258, 245, 215, 216, 217, 259, 260, 261, 262, 320, 321, 322, 323, 324] (by decide +kernel) (by decide +kernel)
set_option maxRecDepth 40000 in
theorem gL_law_X1_scale : GoodIn wsL_law (wsV RL 52 RX1 yX1_scale wsX1_scale) := goodIn_app (goodIn_of _ (by decide +kernel)) ggL_law_X1_scale
set_option maxRecDepth 40000 in
theorem ggL_law_X1_exponent : GoodIn wsL_law wsX1_exponent := goodIn_r _ [298, 192, 193, 5, 194, 187, 212, 213, 214, 206, 207, 208, 209, 299, 210, 300, 228, 229, 230, 223, 224, 225, 226, 227, 320, 321, 322, 323, 324] (by decide +kernel) (by decide +kernel)
set_option maxRecDepth 40000 in
theorem gL_law_X1_exponent : GoodIn wsL_law (wsV RL 57 RX1 yX1_exponent wsX1_exponent) := goodIn_app (goodIn_of _ (by decide +kernel)) ggL_law_X1_exponent
set_option maxRecDepth 40000 in
theorem ggL_law_X1_compare : GoodIn wsL_law wsX1_compare := goodIn_r _ [304, 192, 193, 5, 194, 187, 203, 204, 205, 206, 207, 208, 209, 210, 281, 282, 283, 215, 216, 217, 320, 321, 322, 323, 324] (by decide +kernel) (by decide +kernel)
set_option maxRecDepth 40000 in
theorem gL_law_X1_compare : GoodIn wsL_law (wsV RL 62 RX1 yX1_compare wsX1_compare) := goodIn_app (goodIn_of _ (by decide +kernel)) ggL_law_X1_compare
set_option maxRecDepth 40000 in
theorem ggL_law_X1_sort : GoodIn wsL_law wsX1_sort := goodIn_r _ [308, 192, 193, 5, 194, 187, 212, 213, 214, 206, 207, 208, 209, 203, 204, 205, 210, 253, 254, 255, 227, 215, 216, 217, 320, 321, 322, 323, 324] (by decide +kernel) (by decide +kernel)
set_option maxRecDepth 40000 in
theorem gL_law_X1_sort : GoodIn wsL_law (wsV RL 66 RX1 yX1_sort wsX1_sort) := goodIn_app (goodIn_of _ (by decide +kernel)) ggL_law_X1_sort
set_option maxRecDepth 40000 in
theorem ggL_law_X1_flags : GoodIn wsL_law wsX1_flags := goodIn_r _ [312, 218, 320, 321, 322, 323, 324] (by decide +kernel) (by decide +kernel)
set_option maxRecDepth 40000 in
theorem gL_law_X1_flags : GoodIn wsL_law (wsV RL 70 RX1 yX1_flags wsX1_flags) := goodIn_app (goodIn_of _ (by decide +kernel)) ggL_law_X1_flags
set_option maxRecDepth 40000 in
theorem ggL_law_X1_clear : GoodIn wsL_law wsX1_clear := goodIn_r _ [316, 218, 320, 321, 322, 323, 324] (by decide +kernel) (by decide +kernel)
set_option maxRecDepth 40000 in
theorem gL_law_X1_clear : GoodIn wsL_law (wsV RL 74 RX1 yX1_clear wsX1_clear) := goodIn_app (goodIn_of _ (by decide +kernel)) ggL_law_X1_clear
