/-! my own names of the reference: codes, words, decode rows -/
abbrev cX1_init : ByteArray := prog_3_method_1_code
def yX1_init : MethodName := ⟨RX1, "<init>", "()V"⟩
abbrev cX1_isRegister : ByteArray := prog_3_method_2_code
def yX1_isRegister : MethodName := ⟨RX1, "isRegister", "(I)Z"⟩
abbrev cX1_negative : ByteArray := prog_3_method_3_code
def yX1_negative : MethodName := ⟨RX1, "negative", "(J)Z"⟩
abbrev cX1_plain : ByteArray := prog_3_method_4_code
def yX1_plain : MethodName := ⟨RX1, "plain", "(J)J"⟩
abbrev cX1_signed : ByteArray := prog_3_method_5_code
def yX1_signed : MethodName := ⟨RX1, "signed", "(JZ)J"⟩
abbrev cX1_isNan : ByteArray := prog_3_method_6_code
def yX1_isNan : MethodName := ⟨RX1, "isNan", "(J)Z"⟩
abbrev cX1_isInfinite : ByteArray := prog_3_method_7_code
def yX1_isInfinite : MethodName := ⟨RX1, "isInfinite", "(J)Z"⟩
abbrev cX1_isZero : ByteArray := prog_3_method_8_code
def yX1_isZero : MethodName := ⟨RX1, "isZero", "(J)Z"⟩
abbrev cX1_number : ByteArray := prog_3_method_9_code
def yX1_number : MethodName := ⟨RX1, "number", "(J)J"⟩
abbrev cX1_power : ByteArray := prog_3_method_10_code
def yX1_power : MethodName := ⟨RX1, "power", "(J)I"⟩
abbrev cX1_exact : ByteArray := prog_3_method_11_code
def yX1_exact : MethodName := ⟨RX1, "exact", "(JI)J"⟩
abbrev cX1_load : ByteArray := prog_3_method_12_code
def yX1_load : MethodName := ⟨RX1, "load", "(IJ)Z"⟩
abbrev cX1_bits : ByteArray := prog_3_method_13_code
def yX1_bits : MethodName := ⟨RX1, "bits", "(I)J"⟩
abbrev cX1_multiply : ByteArray := prog_3_method_14_code
def yX1_multiply : MethodName := ⟨RX1, "multiply", "(JJ)V"⟩
abbrev cX1_squareFits : ByteArray := prog_3_method_15_code
def yX1_squareFits : MethodName := ⟨RX1, "squareFits", "(JJJ)Z"⟩
abbrev cX1_root : ByteArray := prog_3_method_16_code
def yX1_root : MethodName := ⟨RX1, "root", "(J)J"⟩
abbrev cX1_sqrt : ByteArray := prog_3_method_17_code
def yX1_sqrt : MethodName := ⟨RX1, "sqrt", "(II)Z"⟩
abbrev cX1_cut : ByteArray := prog_3_method_18_code
def yX1_cut : MethodName := ⟨RX1, "cut", "(JIZZ)J"⟩
abbrev cX1_whole : ByteArray := prog_3_method_19_code
def yX1_whole : MethodName := ⟨RX1, "whole", "(III)Z"⟩
abbrev cX1_rest : ByteArray := prog_3_method_20_code
def yX1_rest : MethodName := ⟨RX1, "rest", "(JJZ)J"⟩
abbrev cX1_left : ByteArray := prog_3_method_21_code
def yX1_left : MethodName := ⟨RX1, "left", "(IIIZ)Z"⟩
abbrev cX1_quotient : ByteArray := prog_3_method_22_code
def yX1_quotient : MethodName := ⟨RX1, "quotient", "()I"⟩
abbrev cX1_place : ByteArray := prog_3_method_23_code
def yX1_place : MethodName := ⟨RX1, "place", "(J)J"⟩
abbrev cX1_neighbour : ByteArray := prog_3_method_24_code
def yX1_neighbour : MethodName := ⟨RX1, "neighbour", "(III)Z"⟩
abbrev cX1_rounded : ByteArray := prog_3_method_25_code
def yX1_rounded : MethodName := ⟨RX1, "rounded", "(JJ)J"⟩
abbrev cX1_scale : ByteArray := prog_3_method_26_code
def yX1_scale : MethodName := ⟨RX1, "scale", "(III)Z"⟩
abbrev cX1_exponent : ByteArray := prog_3_method_27_code
def yX1_exponent : MethodName := ⟨RX1, "exponent", "(I)I"⟩
abbrev cX1_compare : ByteArray := prog_3_method_28_code
def yX1_compare : MethodName := ⟨RX1, "compare", "(II)I"⟩
abbrev cX1_sort : ByteArray := prog_3_method_29_code
def yX1_sort : MethodName := ⟨RX1, "sort", "(I)I"⟩
abbrev cX1_flags : ByteArray := prog_3_method_30_code
def yX1_flags : MethodName := ⟨RX1, "flags", "()I"⟩
abbrev cX1_clear : ByteArray := prog_3_method_31_code
def yX1_clear : MethodName := ⟨RX1, "clear", "()V"⟩
def wsX1_init : List Cond := .code yX1_init cX1_init 1 none :: ([.methodLink RX1 1 objectInit, .instanceMethod objectInit, .code objectInit ⟨#[0xb1]⟩ 1 none, .arrayClass .long, .fieldLink RX1 7 "BinaryFunctionsModel" "register" "[J"] ++ wsX10)
def wsX1_isRegister : List Cond := .code yX1_isRegister cX1_isRegister 1 (some .boolean) :: ([])
def wsX1_negative : List Cond := .code yX1_negative cX1_negative 2 (some .boolean) :: ([])
def wsX1_plain : List Cond := .code yX1_plain cX1_plain 2 (some .long) :: ([.constantLong RX1 13 (9223372036854775807)])
def wsX1_signed : List Cond := .code yX1_signed cX1_signed 3 (some .long) :: ([.constantLong RX1 15 (-9223372036854775808)])
def wsX1_isNan : List Cond := .code yX1_isNan cX1_isNan 2 (some .boolean) :: ([.methodLink RX1 17 yX1_plain, .static yX1_plain, .initialized RX1, .code yX1_plain cX1_plain 2 (some .long), .constantLong RX1 13 (9223372036854775807), .constantLong RX1 21 (9218868437227405312)])
def wsX1_isInfinite : List Cond := .code yX1_isInfinite cX1_isInfinite 2 (some .boolean) :: ([.methodLink RX1 17 yX1_plain, .static yX1_plain, .initialized RX1, .code yX1_plain cX1_plain 2 (some .long), .constantLong RX1 13 (9223372036854775807), .constantLong RX1 21 (9218868437227405312)])
def wsX1_isZero : List Cond := .code yX1_isZero cX1_isZero 2 (some .boolean) :: ([.methodLink RX1 17 yX1_plain, .static yX1_plain, .initialized RX1, .code yX1_plain cX1_plain 2 (some .long), .constantLong RX1 13 (9223372036854775807)])
def wsX1_number : List Cond := .code yX1_number cX1_number 4 (some .long) :: ([.constantLong RX1 23 (4503599627370495), .methodLink RX1 17 yX1_plain, .static yX1_plain, .initialized RX1, .code yX1_plain cX1_plain 2 (some .long), .constantLong RX1 13 (9223372036854775807), .constantLong RX1 25 (4503599627370496)])
def wsX1_power : List Cond := .code yX1_power cX1_power 3 (some .int) :: ([.methodLink RX1 17 yX1_plain, .static yX1_plain, .initialized RX1, .code yX1_plain cX1_plain 2 (some .long), .constantLong RX1 13 (9223372036854775807)])
def wsX1_exact : List Cond := .code yX1_exact cX1_exact 7 (some .long) :: ([.constantLong RX1 27 (9007199254740992), .constantLong RX1 25 (4503599627370496)])
def wsX1_load : List Cond := .code yX1_load cX1_load 4 (some .boolean) :: ([.methodLink RX1 29 yX1_isRegister, .static yX1_isRegister, .initialized RX1, .code yX1_isRegister cX1_isRegister 1 (some .boolean), .fieldLink RX1 7 "BinaryFunctionsModel" "register" "[J"] ++ wsX10)
def wsX1_bits : List Cond := .code yX1_bits cX1_bits 2 (some .long) :: ([.methodLink RX1 29 yX1_isRegister, .static yX1_isRegister, .initialized RX1, .code yX1_isRegister cX1_isRegister 1 (some .boolean), .fieldLink RX1 7 "BinaryFunctionsModel" "register" "[J"] ++ wsX10)
def wsX1_multiply : List Cond := .code yX1_multiply cX1_multiply 17 none :: ([.constantLong RX1 33 (134217727), .constantLong RX1 35 (18014398509481983), .fieldLink RX1 37 "BinaryFunctionsModel" "low" "J", .fieldLink RX1 41 "BinaryFunctionsModel" "high" "J"] ++ wsX10)
def wsX1_squareFits : List Cond := .code yX1_squareFits cX1_squareFits 7 (some .boolean) :: ([.methodLink RX1 44 yX1_multiply, .instanceMethod yX1_multiply, .selects RX1 yX1_multiply yX1_multiply, .initialized RX1, .code yX1_multiply cX1_multiply 17 none, .constantLong RX1 33 (134217727), .constantLong RX1 35 (18014398509481983), .fieldLink RX1 37 "BinaryFunctionsModel" "low" "J", .fieldLink RX1 41 "BinaryFunctionsModel" "high" "J"] ++ wsX10)
def wsX1_root_r1 : List Cond := [.methodLink RX1 48 yX1_number, .static yX1_number, .initialized RX1, .code yX1_number cX1_number 4 (some .long), .constantLong RX1 23 (4503599627370495), .methodLink RX1 17 yX1_plain, .static yX1_plain, .code yX1_plain cX1_plain 2 (some .long), .constantLong RX1 13 (9223372036854775807), .constantLong RX1 25 (4503599627370496), .methodLink RX1 51 yX1_power, .static yX1_power, .code yX1_power cX1_power 3 (some .int), .constantLong RX1 55 (3), .constantLong RX1 27 (9007199254740992), .methodLink RX1 57 yX1_squareFits, .instanceMethod yX1_squareFits, .selects RX1 yX1_squareFits yX1_squareFits, .code yX1_squareFits cX1_squareFits 7 (some .boolean), .methodLink RX1 44 yX1_multiply, .instanceMethod yX1_multiply, .selects RX1 yX1_multiply yX1_multiply, .code yX1_multiply cX1_multiply 17 none, .constantLong RX1 33 (134217727)]
def wsX1_root_r2 : List Cond := [.constantLong RX1 35 (18014398509481983), .fieldLink RX1 37 "BinaryFunctionsModel" "low" "J", .fieldLink RX1 41 "BinaryFunctionsModel" "high" "J", .fieldLink RX1 61 "BinaryFunctionsModel" "flag" "I", .constantLong RX1 65 (2), .methodLink RX1 67 yX1_exact, .static yX1_exact, .code yX1_exact cX1_exact 7 (some .long)]
def wsX1_root : List Cond := .code yX1_root cX1_root 20 (some .long) :: ((wsX1_root_r1 ++ wsX1_root_r2) ++ wsX10)
def wsX1_sqrt_r1 : List Cond := [.methodLink RX1 29 yX1_isRegister, .static yX1_isRegister, .initialized RX1, .code yX1_isRegister cX1_isRegister 1 (some .boolean), .fieldLink RX1 7 "BinaryFunctionsModel" "register" "[J", .methodLink RX1 71 yX1_isNan, .static yX1_isNan, .code yX1_isNan cX1_isNan 2 (some .boolean), .methodLink RX1 17 yX1_plain, .static yX1_plain, .code yX1_plain cX1_plain 2 (some .long), .constantLong RX1 13 (9223372036854775807), .constantLong RX1 21 (9218868437227405312), .constantLong RX1 75 (9221120237041090560), .methodLink RX1 77 yX1_isZero, .static yX1_isZero, .code yX1_isZero cX1_isZero 2 (some .boolean), .methodLink RX1 80 yX1_negative, .static yX1_negative, .code yX1_negative cX1_negative 2 (some .boolean), .fieldLink RX1 61 "BinaryFunctionsModel" "flag" "I", .methodLink RX1 83 yX1_root, .instanceMethod yX1_root, .selects RX1 yX1_root yX1_root]
def wsX1_sqrt_r2 : List Cond := [.code yX1_root cX1_root 20 (some .long), .methodLink RX1 48 yX1_number, .static yX1_number, .code yX1_number cX1_number 4 (some .long), .constantLong RX1 23 (4503599627370495), .constantLong RX1 25 (4503599627370496), .methodLink RX1 51 yX1_power, .static yX1_power, .code yX1_power cX1_power 3 (some .int), .constantLong RX1 55 (3), .constantLong RX1 27 (9007199254740992), .methodLink RX1 57 yX1_squareFits, .instanceMethod yX1_squareFits, .selects RX1 yX1_squareFits yX1_squareFits, .code yX1_squareFits cX1_squareFits 7 (some .boolean), .methodLink RX1 44 yX1_multiply, .instanceMethod yX1_multiply, .selects RX1 yX1_multiply yX1_multiply, .code yX1_multiply cX1_multiply 17 none, .constantLong RX1 33 (134217727), .constantLong RX1 35 (18014398509481983), .fieldLink RX1 37 "BinaryFunctionsModel" "low" "J", .fieldLink RX1 41 "BinaryFunctionsModel" "high" "J", .constantLong RX1 65 (2)]
def wsX1_sqrt_r3 : List Cond := [.methodLink RX1 67 yX1_exact, .static yX1_exact, .code yX1_exact cX1_exact 7 (some .long)]
def wsX1_sqrt : List Cond := .code yX1_sqrt cX1_sqrt 5 (some .boolean) :: ((wsX1_sqrt_r1 ++ (wsX1_sqrt_r2 ++ wsX1_sqrt_r3)) ++ wsX10)
def wsX1_cut : List Cond := .code yX1_cut cX1_cut 12 (some .long) :: ([.constantLong RX1 65 (2)])
def wsX1_whole_r1 : List Cond := [.methodLink RX1 29 yX1_isRegister, .static yX1_isRegister, .initialized RX1, .code yX1_isRegister cX1_isRegister 1 (some .boolean), .fieldLink RX1 7 "BinaryFunctionsModel" "register" "[J", .methodLink RX1 71 yX1_isNan, .static yX1_isNan, .code yX1_isNan cX1_isNan 2 (some .boolean), .methodLink RX1 17 yX1_plain, .static yX1_plain, .code yX1_plain cX1_plain 2 (some .long), .constantLong RX1 13 (9223372036854775807), .constantLong RX1 21 (9218868437227405312), .constantLong RX1 75 (9221120237041090560), .methodLink RX1 86 yX1_isInfinite, .static yX1_isInfinite, .code yX1_isInfinite cX1_isInfinite 2 (some .boolean), .methodLink RX1 51 yX1_power, .static yX1_power, .code yX1_power cX1_power 3 (some .int), .methodLink RX1 48 yX1_number, .static yX1_number, .code yX1_number cX1_number 4 (some .long), .constantLong RX1 23 (4503599627370495)]
def wsX1_whole_r2 : List Cond := [.constantLong RX1 25 (4503599627370496), .methodLink RX1 80 yX1_negative, .static yX1_negative, .code yX1_negative cX1_negative 2 (some .boolean), .methodLink RX1 89 yX1_cut, .static yX1_cut, .code yX1_cut cX1_cut 12 (some .long), .constantLong RX1 65 (2), .methodLink RX1 67 yX1_exact, .static yX1_exact, .code yX1_exact cX1_exact 7 (some .long), .constantLong RX1 27 (9007199254740992), .fieldLink RX1 61 "BinaryFunctionsModel" "flag" "I", .methodLink RX1 93 yX1_signed, .static yX1_signed, .code yX1_signed cX1_signed 3 (some .long), .constantLong RX1 15 (-9223372036854775808)]
def wsX1_whole : List Cond := .code yX1_whole cX1_whole 10 (some .boolean) :: ((wsX1_whole_r1 ++ wsX1_whole_r2) ++ wsX10)
def wsX1_rest_r1 : List Cond := [.methodLink RX1 48 yX1_number, .static yX1_number, .initialized RX1, .code yX1_number cX1_number 4 (some .long), .constantLong RX1 23 (4503599627370495), .methodLink RX1 17 yX1_plain, .static yX1_plain, .code yX1_plain cX1_plain 2 (some .long), .constantLong RX1 13 (9223372036854775807), .constantLong RX1 25 (4503599627370496), .methodLink RX1 51 yX1_power, .static yX1_power, .code yX1_power cX1_power 3 (some .int), .fieldLink RX1 97 "BinaryFunctionsModel" "quotient" "I", .constantLong RX1 100 (8), .constantLong RX1 65 (2), .methodLink RX1 67 yX1_exact, .static yX1_exact, .code yX1_exact cX1_exact 7 (some .long), .constantLong RX1 27 (9007199254740992), .methodLink RX1 80 yX1_negative, .static yX1_negative, .code yX1_negative cX1_negative 2 (some .boolean), .methodLink RX1 93 yX1_signed]
def wsX1_rest_r2 : List Cond := [.static yX1_signed, .code yX1_signed cX1_signed 3 (some .long), .constantLong RX1 15 (-9223372036854775808)]
def wsX1_rest : List Cond := .code yX1_rest cX1_rest 21 (some .long) :: ((wsX1_rest_r1 ++ wsX1_rest_r2) ++ wsX10)
def wsX1_left_r1 : List Cond := [.methodLink RX1 29 yX1_isRegister, .static yX1_isRegister, .initialized RX1, .code yX1_isRegister cX1_isRegister 1 (some .boolean), .fieldLink RX1 7 "BinaryFunctionsModel" "register" "[J", .fieldLink RX1 97 "BinaryFunctionsModel" "quotient" "I", .methodLink RX1 71 yX1_isNan, .static yX1_isNan, .code yX1_isNan cX1_isNan 2 (some .boolean), .methodLink RX1 17 yX1_plain, .static yX1_plain, .code yX1_plain cX1_plain 2 (some .long), .constantLong RX1 13 (9223372036854775807), .constantLong RX1 21 (9218868437227405312), .constantLong RX1 75 (9221120237041090560), .methodLink RX1 86 yX1_isInfinite, .static yX1_isInfinite, .code yX1_isInfinite cX1_isInfinite 2 (some .boolean), .methodLink RX1 77 yX1_isZero, .static yX1_isZero, .code yX1_isZero cX1_isZero 2 (some .boolean), .fieldLink RX1 61 "BinaryFunctionsModel" "flag" "I", .methodLink RX1 102 yX1_rest, .instanceMethod yX1_rest]
def wsX1_left_r2 : List Cond := [.selects RX1 yX1_rest yX1_rest, .code yX1_rest cX1_rest 21 (some .long), .methodLink RX1 48 yX1_number, .static yX1_number, .code yX1_number cX1_number 4 (some .long), .constantLong RX1 23 (4503599627370495), .constantLong RX1 25 (4503599627370496), .methodLink RX1 51 yX1_power, .static yX1_power, .code yX1_power cX1_power 3 (some .int), .constantLong RX1 100 (8), .constantLong RX1 65 (2), .methodLink RX1 67 yX1_exact, .static yX1_exact, .code yX1_exact cX1_exact 7 (some .long), .constantLong RX1 27 (9007199254740992), .methodLink RX1 80 yX1_negative, .static yX1_negative, .code yX1_negative cX1_negative 2 (some .boolean), .methodLink RX1 93 yX1_signed, .static yX1_signed, .code yX1_signed cX1_signed 3 (some .long), .constantLong RX1 15 (-9223372036854775808)]
def wsX1_left : List Cond := .code yX1_left cX1_left 9 (some .boolean) :: ((wsX1_left_r1 ++ wsX1_left_r2) ++ wsX10)
def wsX1_quotient : List Cond := .code yX1_quotient cX1_quotient 1 (some .int) :: ([.fieldLink RX1 97 "BinaryFunctionsModel" "quotient" "I"] ++ wsX10)
def wsX1_place : List Cond := .code yX1_place cX1_place 2 (some .long) :: ([.methodLink RX1 80 yX1_negative, .static yX1_negative, .initialized RX1, .code yX1_negative cX1_negative 2 (some .boolean), .methodLink RX1 17 yX1_plain, .static yX1_plain, .code yX1_plain cX1_plain 2 (some .long), .constantLong RX1 13 (9223372036854775807)])
def wsX1_neighbour : List Cond := .code yX1_neighbour cX1_neighbour 14 (some .boolean) :: ([.methodLink RX1 29 yX1_isRegister, .static yX1_isRegister, .initialized RX1, .code yX1_isRegister cX1_isRegister 1 (some .boolean), .fieldLink RX1 7 "BinaryFunctionsModel" "register" "[J", .methodLink RX1 71 yX1_isNan, .static yX1_isNan, .code yX1_isNan cX1_isNan 2 (some .boolean), .methodLink RX1 17 yX1_plain, .static yX1_plain, .code yX1_plain cX1_plain 2 (some .long), .constantLong RX1 13 (9223372036854775807), .constantLong RX1 21 (9218868437227405312), .constantLong RX1 75 (9221120237041090560), .methodLink RX1 106 yX1_place, .static yX1_place, .code yX1_place cX1_place 2 (some .long), .methodLink RX1 80 yX1_negative, .static yX1_negative, .code yX1_negative cX1_negative 2 (some .boolean), .methodLink RX1 93 yX1_signed, .static yX1_signed, .code yX1_signed cX1_signed 3 (some .long), .constantLong RX1 15 (-9223372036854775808)] ++ wsX10)
def wsX1_rounded : List Cond := .code yX1_rounded cX1_rounded 14 (some .long) :: ([.constantLong RX1 25 (4503599627370496), .constantLong RX1 109 (971), .fieldLink RX1 61 "BinaryFunctionsModel" "flag" "I", .constantLong RX1 21 (9218868437227405312), .constantLong RX1 111 (-1074), .methodLink RX1 67 yX1_exact, .static yX1_exact, .initialized RX1, .code yX1_exact cX1_exact 7 (some .long), .constantLong RX1 27 (9007199254740992), .constantLong RX1 113 (54), .methodLink RX1 89 yX1_cut, .static yX1_cut, .code yX1_cut cX1_cut 12 (some .long), .constantLong RX1 65 (2)] ++ wsX10)
def wsX1_scale_r1 : List Cond := [.methodLink RX1 29 yX1_isRegister, .static yX1_isRegister, .initialized RX1, .code yX1_isRegister cX1_isRegister 1 (some .boolean), .fieldLink RX1 7 "BinaryFunctionsModel" "register" "[J", .methodLink RX1 71 yX1_isNan, .static yX1_isNan, .code yX1_isNan cX1_isNan 2 (some .boolean), .methodLink RX1 17 yX1_plain, .static yX1_plain, .code yX1_plain cX1_plain 2 (some .long), .constantLong RX1 13 (9223372036854775807), .constantLong RX1 21 (9218868437227405312), .constantLong RX1 75 (9221120237041090560), .methodLink RX1 86 yX1_isInfinite, .static yX1_isInfinite, .code yX1_isInfinite cX1_isInfinite 2 (some .boolean), .methodLink RX1 77 yX1_isZero, .static yX1_isZero, .code yX1_isZero cX1_isZero 2 (some .boolean), .methodLink RX1 48 yX1_number, .static yX1_number, .code yX1_number cX1_number 4 (some .long), .constantLong RX1 23 (4503599627370495)]
def wsX1_scale_r2 : List Cond := [.constantLong RX1 25 (4503599627370496), .methodLink RX1 51 yX1_power, .static yX1_power, .code yX1_power cX1_power 3 (some .int), .methodLink RX1 115 yX1_rounded, .instanceMethod yX1_rounded, .selects RX1 yX1_rounded yX1_rounded, .code yX1_rounded cX1_rounded 14 (some .long), .constantLong RX1 109 (971), .fieldLink RX1 61 "BinaryFunctionsModel" "flag" "I", .constantLong RX1 111 (-1074), .methodLink RX1 67 yX1_exact, .static yX1_exact, .code yX1_exact cX1_exact 7 (some .long), .constantLong RX1 27 (9007199254740992), .constantLong RX1 113 (54), .methodLink RX1 89 yX1_cut, .static yX1_cut, .code yX1_cut cX1_cut 12 (some .long), .constantLong RX1 65 (2), .methodLink RX1 80 yX1_negative, .static yX1_negative, .code yX1_negative cX1_negative 2 (some .boolean), .methodLink RX1 93 yX1_signed]
def wsX1_scale_r3 : List Cond := [.static yX1_signed, .code yX1_signed cX1_signed 3 (some .long), .constantLong RX1 15 (-9223372036854775808)]
def wsX1_scale : List Cond := .code yX1_scale cX1_scale 6 (some .boolean) :: ((wsX1_scale_r1 ++ (wsX1_scale_r2 ++ wsX1_scale_r3)) ++ wsX10)
def wsX1_exponent : List Cond := .code yX1_exponent cX1_exponent 7 (some .int) :: ([.methodLink RX1 29 yX1_isRegister, .static yX1_isRegister, .initialized RX1, .code yX1_isRegister cX1_isRegister 1 (some .boolean), .fieldLink RX1 7 "BinaryFunctionsModel" "register" "[J", .methodLink RX1 77 yX1_isZero, .static yX1_isZero, .code yX1_isZero cX1_isZero 2 (some .boolean), .methodLink RX1 17 yX1_plain, .static yX1_plain, .code yX1_plain cX1_plain 2 (some .long), .constantLong RX1 13 (9223372036854775807), .constant RX1 119 (-2147483648), .constantLong RX1 21 (9218868437227405312), .constant RX1 120 (2147483647), .methodLink RX1 51 yX1_power, .static yX1_power, .code yX1_power cX1_power 3 (some .int), .methodLink RX1 48 yX1_number, .static yX1_number, .code yX1_number cX1_number 4 (some .long), .constantLong RX1 23 (4503599627370495), .constantLong RX1 25 (4503599627370496)] ++ wsX10)
def wsX1_compare : List Cond := .code yX1_compare cX1_compare 7 (some .int) :: ([.methodLink RX1 29 yX1_isRegister, .static yX1_isRegister, .initialized RX1, .code yX1_isRegister cX1_isRegister 1 (some .boolean), .fieldLink RX1 7 "BinaryFunctionsModel" "register" "[J", .methodLink RX1 71 yX1_isNan, .static yX1_isNan, .code yX1_isNan cX1_isNan 2 (some .boolean), .methodLink RX1 17 yX1_plain, .static yX1_plain, .code yX1_plain cX1_plain 2 (some .long), .constantLong RX1 13 (9223372036854775807), .constantLong RX1 21 (9218868437227405312), .methodLink RX1 106 yX1_place, .static yX1_place, .code yX1_place cX1_place 2 (some .long), .methodLink RX1 80 yX1_negative, .static yX1_negative, .code yX1_negative cX1_negative 2 (some .boolean)] ++ wsX10)
def wsX1_sort : List Cond := .code yX1_sort cX1_sort 5 (some .int) :: ([.methodLink RX1 29 yX1_isRegister, .static yX1_isRegister, .initialized RX1, .code yX1_isRegister cX1_isRegister 1 (some .boolean), .fieldLink RX1 7 "BinaryFunctionsModel" "register" "[J", .methodLink RX1 77 yX1_isZero, .static yX1_isZero, .code yX1_isZero cX1_isZero 2 (some .boolean), .methodLink RX1 17 yX1_plain, .static yX1_plain, .code yX1_plain cX1_plain 2 (some .long), .constantLong RX1 13 (9223372036854775807), .methodLink RX1 71 yX1_isNan, .static yX1_isNan, .code yX1_isNan cX1_isNan 2 (some .boolean), .constantLong RX1 21 (9218868437227405312), .methodLink RX1 86 yX1_isInfinite, .static yX1_isInfinite, .code yX1_isInfinite cX1_isInfinite 2 (some .boolean), .constantLong RX1 25 (4503599627370496), .methodLink RX1 80 yX1_negative, .static yX1_negative, .code yX1_negative cX1_negative 2 (some .boolean)] ++ wsX10)
def wsX1_flags : List Cond := .code yX1_flags cX1_flags 1 (some .int) :: ([.fieldLink RX1 61 "BinaryFunctionsModel" "flag" "I"] ++ wsX10)
def wsX1_clear : List Cond := .code yX1_clear cX1_clear 1 none :: ([.fieldLink RX1 61 "BinaryFunctionsModel" "flag" "I"] ++ wsX10)
theorem dX1_init_0 : decode cX1_init 0 = .ok (.aload_n 0, 1) := by decide +kernel
theorem dX1_init_1 : decode cX1_init 1 = .ok (.invokespecial 1, 3) := by decide +kernel
theorem dX1_init_4 : decode cX1_init 4 = .ok (.aload_n 0, 1) := by decide +kernel
theorem dX1_init_5 : decode cX1_init 5 = .ok (.bipush 8, 2) := by decide +kernel
theorem dX1_init_7 : decode cX1_init 7 = .ok (.newarray .long, 2) := by decide +kernel
theorem dX1_init_9 : decode cX1_init 9 = .ok (.putfield 7, 3) := by decide +kernel
theorem dX1_init_12 : decode cX1_init 12 = .ok (.return_, 1) := by decide +kernel
theorem dX1_isRegister_0 : decode cX1_isRegister 0 = .ok (.iload_n 0, 1) := by decide +kernel
theorem dX1_isRegister_1 : decode cX1_isRegister 1 = .ok (.ifCond .lt 13, 3) := by decide +kernel
theorem dX1_isRegister_4 : decode cX1_isRegister 4 = .ok (.iload_n 0, 1) := by decide +kernel
theorem dX1_isRegister_5 : decode cX1_isRegister 5 = .ok (.bipush 7, 2) := by decide +kernel
theorem dX1_isRegister_7 : decode cX1_isRegister 7 = .ok (.if_icmp .gt 7, 3) := by decide +kernel
theorem dX1_isRegister_10 : decode cX1_isRegister 10 = .ok (.iconst 1, 1) := by decide +kernel
theorem dX1_isRegister_11 : decode cX1_isRegister 11 = .ok (.goto 4, 3) := by decide +kernel
theorem dX1_isRegister_14 : decode cX1_isRegister 14 = .ok (.iconst 0, 1) := by decide +kernel
theorem dX1_isRegister_15 : decode cX1_isRegister 15 = .ok (.ireturn, 1) := by decide +kernel
theorem dX1_negative_0 : decode cX1_negative 0 = .ok (.lload_n 0, 1) := by decide +kernel
theorem dX1_negative_1 : decode cX1_negative 1 = .ok (.lconst 0, 1) := by decide +kernel
theorem dX1_negative_2 : decode cX1_negative 2 = .ok (.lcmp, 1) := by decide +kernel
theorem dX1_negative_3 : decode cX1_negative 3 = .ok (.ifCond .ge 7, 3) := by decide +kernel
theorem dX1_negative_6 : decode cX1_negative 6 = .ok (.iconst 1, 1) := by decide +kernel
theorem dX1_negative_7 : decode cX1_negative 7 = .ok (.goto 4, 3) := by decide +kernel
theorem dX1_negative_10 : decode cX1_negative 10 = .ok (.iconst 0, 1) := by decide +kernel
theorem dX1_negative_11 : decode cX1_negative 11 = .ok (.ireturn, 1) := by decide +kernel
theorem dX1_plain_0 : decode cX1_plain 0 = .ok (.lload_n 0, 1) := by decide +kernel
theorem dX1_plain_1 : decode cX1_plain 1 = .ok (.ldc2_w 13, 3) := by decide +kernel
theorem dX1_plain_4 : decode cX1_plain 4 = .ok (.land, 1) := by decide +kernel
theorem dX1_plain_5 : decode cX1_plain 5 = .ok (.lreturn, 1) := by decide +kernel
theorem dX1_signed_0 : decode cX1_signed 0 = .ok (.iload_n 2, 1) := by decide +kernel
theorem dX1_signed_1 : decode cX1_signed 1 = .ok (.ifCond .eq 11, 3) := by decide +kernel
theorem dX1_signed_4 : decode cX1_signed 4 = .ok (.lload_n 0, 1) := by decide +kernel
theorem dX1_signed_5 : decode cX1_signed 5 = .ok (.ldc2_w 15, 3) := by decide +kernel
theorem dX1_signed_8 : decode cX1_signed 8 = .ok (.lor, 1) := by decide +kernel
theorem dX1_signed_9 : decode cX1_signed 9 = .ok (.goto 4, 3) := by decide +kernel
theorem dX1_signed_12 : decode cX1_signed 12 = .ok (.lload_n 0, 1) := by decide +kernel
theorem dX1_signed_13 : decode cX1_signed 13 = .ok (.lreturn, 1) := by decide +kernel
theorem dX1_isNan_0 : decode cX1_isNan 0 = .ok (.lload_n 0, 1) := by decide +kernel
theorem dX1_isNan_1 : decode cX1_isNan 1 = .ok (.invokestatic 17, 3) := by decide +kernel
theorem dX1_isNan_4 : decode cX1_isNan 4 = .ok (.ldc2_w 21, 3) := by decide +kernel
theorem dX1_isNan_7 : decode cX1_isNan 7 = .ok (.lcmp, 1) := by decide +kernel
theorem dX1_isNan_8 : decode cX1_isNan 8 = .ok (.ifCond .le 7, 3) := by decide +kernel
theorem dX1_isNan_11 : decode cX1_isNan 11 = .ok (.iconst 1, 1) := by decide +kernel
theorem dX1_isNan_12 : decode cX1_isNan 12 = .ok (.goto 4, 3) := by decide +kernel
theorem dX1_isNan_15 : decode cX1_isNan 15 = .ok (.iconst 0, 1) := by decide +kernel
theorem dX1_isNan_16 : decode cX1_isNan 16 = .ok (.ireturn, 1) := by decide +kernel
set_option maxRecDepth 20000 in
theorem ggX1_isNan_X1_plain : GoodIn wsX1_isNan wsX1_plain := goodIn_r _ [4, 5] (by decide +kernel) (by decide +kernel)
set_option maxRecDepth 20000 in
theorem gX1_isNan_X1_plain : GoodIn wsX1_isNan (va_wsS RX1 17 yX1_plain wsX1_plain) := goodIn_app (goodIn_of _ (by decide +kernel)) ggX1_isNan_X1_plain
theorem dX1_isInfinite_0 : decode cX1_isInfinite 0 = .ok (.lload_n 0, 1) := by decide +kernel
theorem dX1_isInfinite_1 : decode cX1_isInfinite 1 = .ok (.invokestatic 17, 3) := by decide +kernel
theorem dX1_isInfinite_4 : decode cX1_isInfinite 4 = .ok (.ldc2_w 21, 3) := by decide +kernel
theorem dX1_isInfinite_7 : decode cX1_isInfinite 7 = .ok (.lcmp, 1) := by decide +kernel
theorem dX1_isInfinite_8 : decode cX1_isInfinite 8 = .ok (.ifCond .ne 7, 3) := by decide +kernel
theorem dX1_isInfinite_11 : decode cX1_isInfinite 11 = .ok (.iconst 1, 1) := by decide +kernel
theorem dX1_isInfinite_12 : decode cX1_isInfinite 12 = .ok (.goto 4, 3) := by decide +kernel
theorem dX1_isInfinite_15 : decode cX1_isInfinite 15 = .ok (.iconst 0, 1) := by decide +kernel
theorem dX1_isInfinite_16 : decode cX1_isInfinite 16 = .ok (.ireturn, 1) := by decide +kernel
set_option maxRecDepth 20000 in
theorem ggX1_isInfinite_X1_plain : GoodIn wsX1_isInfinite wsX1_plain := goodIn_r _ [4, 5] (by decide +kernel) (by decide +kernel)
set_option maxRecDepth 20000 in
theorem gX1_isInfinite_X1_plain : GoodIn wsX1_isInfinite (va_wsS RX1 17 yX1_plain wsX1_plain) := goodIn_app (goodIn_of _ (by decide +kernel)) ggX1_isInfinite_X1_plain
theorem dX1_isZero_0 : decode cX1_isZero 0 = .ok (.lload_n 0, 1) := by decide +kernel
theorem dX1_isZero_1 : decode cX1_isZero 1 = .ok (.invokestatic 17, 3) := by decide +kernel
theorem dX1_isZero_4 : decode cX1_isZero 4 = .ok (.lconst 0, 1) := by decide +kernel
theorem dX1_isZero_5 : decode cX1_isZero 5 = .ok (.lcmp, 1) := by decide +kernel
theorem dX1_isZero_6 : decode cX1_isZero 6 = .ok (.ifCond .ne 7, 3) := by decide +kernel
theorem dX1_isZero_9 : decode cX1_isZero 9 = .ok (.iconst 1, 1) := by decide +kernel
theorem dX1_isZero_10 : decode cX1_isZero 10 = .ok (.goto 4, 3) := by decide +kernel
theorem dX1_isZero_13 : decode cX1_isZero 13 = .ok (.iconst 0, 1) := by decide +kernel
theorem dX1_isZero_14 : decode cX1_isZero 14 = .ok (.ireturn, 1) := by decide +kernel
set_option maxRecDepth 20000 in
theorem ggX1_isZero_X1_plain : GoodIn wsX1_isZero wsX1_plain := goodIn_r _ [4, 5] (by decide +kernel) (by decide +kernel)
set_option maxRecDepth 20000 in
theorem gX1_isZero_X1_plain : GoodIn wsX1_isZero (va_wsS RX1 17 yX1_plain wsX1_plain) := goodIn_app (goodIn_of _ (by decide +kernel)) ggX1_isZero_X1_plain
theorem dX1_number_0 : decode cX1_number 0 = .ok (.lload_n 0, 1) := by decide +kernel
theorem dX1_number_1 : decode cX1_number 1 = .ok (.ldc2_w 23, 3) := by decide +kernel
theorem dX1_number_4 : decode cX1_number 4 = .ok (.land, 1) := by decide +kernel
theorem dX1_number_5 : decode cX1_number 5 = .ok (.lstore_n 2, 1) := by decide +kernel
theorem dX1_number_6 : decode cX1_number 6 = .ok (.lload_n 0, 1) := by decide +kernel
theorem dX1_number_7 : decode cX1_number 7 = .ok (.invokestatic 17, 3) := by decide +kernel
theorem dX1_number_10 : decode cX1_number 10 = .ok (.ldc2_w 25, 3) := by decide +kernel
theorem dX1_number_13 : decode cX1_number 13 = .ok (.lcmp, 1) := by decide +kernel
theorem dX1_number_14 : decode cX1_number 14 = .ok (.ifCond .ge 7, 3) := by decide +kernel
theorem dX1_number_17 : decode cX1_number 17 = .ok (.lload_n 2, 1) := by decide +kernel
theorem dX1_number_18 : decode cX1_number 18 = .ok (.goto 8, 3) := by decide +kernel
theorem dX1_number_21 : decode cX1_number 21 = .ok (.lload_n 2, 1) := by decide +kernel
theorem dX1_number_22 : decode cX1_number 22 = .ok (.ldc2_w 25, 3) := by decide +kernel
theorem dX1_number_25 : decode cX1_number 25 = .ok (.ladd, 1) := by decide +kernel
theorem dX1_number_26 : decode cX1_number 26 = .ok (.lreturn, 1) := by decide +kernel
set_option maxRecDepth 20000 in
theorem ggX1_number_X1_plain : GoodIn wsX1_number wsX1_plain := goodIn_r _ [5, 6] (by decide +kernel) (by decide +kernel)
set_option maxRecDepth 20000 in
theorem gX1_number_X1_plain : GoodIn wsX1_number (va_wsS RX1 17 yX1_plain wsX1_plain) := goodIn_app (goodIn_of _ (by decide +kernel)) ggX1_number_X1_plain
theorem dX1_power_0 : decode cX1_power 0 = .ok (.lload_n 0, 1) := by decide +kernel
theorem dX1_power_1 : decode cX1_power 1 = .ok (.invokestatic 17, 3) := by decide +kernel
theorem dX1_power_4 : decode cX1_power 4 = .ok (.bipush 52, 2) := by decide +kernel
theorem dX1_power_6 : decode cX1_power 6 = .ok (.lshr, 1) := by decide +kernel
theorem dX1_power_7 : decode cX1_power 7 = .ok (.l2i, 1) := by decide +kernel
theorem dX1_power_8 : decode cX1_power 8 = .ok (.istore_n 2, 1) := by decide +kernel
theorem dX1_power_9 : decode cX1_power 9 = .ok (.iload_n 2, 1) := by decide +kernel
theorem dX1_power_10 : decode cX1_power 10 = .ok (.ifCond .ne 9, 3) := by decide +kernel
theorem dX1_power_13 : decode cX1_power 13 = .ok (.sipush (-1074), 3) := by decide +kernel
theorem dX1_power_16 : decode cX1_power 16 = .ok (.goto 8, 3) := by decide +kernel
theorem dX1_power_19 : decode cX1_power 19 = .ok (.iload_n 2, 1) := by decide +kernel
theorem dX1_power_20 : decode cX1_power 20 = .ok (.sipush 1075, 3) := by decide +kernel
theorem dX1_power_23 : decode cX1_power 23 = .ok (.isub, 1) := by decide +kernel
theorem dX1_power_24 : decode cX1_power 24 = .ok (.ireturn, 1) := by decide +kernel
set_option maxRecDepth 20000 in
theorem ggX1_power_X1_plain : GoodIn wsX1_power wsX1_plain := goodIn_r _ [4, 5] (by decide +kernel) (by decide +kernel)
set_option maxRecDepth 20000 in
theorem gX1_power_X1_plain : GoodIn wsX1_power (va_wsS RX1 17 yX1_plain wsX1_plain) := goodIn_app (goodIn_of _ (by decide +kernel)) ggX1_power_X1_plain
theorem dX1_exact_0 : decode cX1_exact 0 = .ok (.lload_n 0, 1) := by decide +kernel
theorem dX1_exact_1 : decode cX1_exact 1 = .ok (.lstore_n 3, 1) := by decide +kernel
theorem dX1_exact_2 : decode cX1_exact 2 = .ok (.iload_n 2, 1) := by decide +kernel
theorem dX1_exact_3 : decode cX1_exact 3 = .ok (.istore 5, 2) := by decide +kernel
theorem dX1_exact_5 : decode cX1_exact 5 = .ok (.lload_n 3, 1) := by decide +kernel
theorem dX1_exact_6 : decode cX1_exact 6 = .ok (.lconst 0, 1) := by decide +kernel
theorem dX1_exact_7 : decode cX1_exact 7 = .ok (.lcmp, 1) := by decide +kernel
theorem dX1_exact_8 : decode cX1_exact 8 = .ok (.ifCond .ne 5, 3) := by decide +kernel
theorem dX1_exact_11 : decode cX1_exact 11 = .ok (.lconst 0, 1) := by decide +kernel
theorem dX1_exact_12 : decode cX1_exact 12 = .ok (.lreturn, 1) := by decide +kernel
theorem dX1_exact_13 : decode cX1_exact 13 = .ok (.iconst 0, 1) := by decide +kernel
theorem dX1_exact_14 : decode cX1_exact 14 = .ok (.istore 6, 2) := by decide +kernel
theorem dX1_exact_16 : decode cX1_exact 16 = .ok (.iload 6, 2) := by decide +kernel
theorem dX1_exact_18 : decode cX1_exact 18 = .ok (.sipush 2200, 3) := by decide +kernel
theorem dX1_exact_21 : decode cX1_exact 21 = .ok (.if_icmp .ge 32, 3) := by decide +kernel
theorem dX1_exact_24 : decode cX1_exact 24 = .ok (.lload_n 3, 1) := by decide +kernel
theorem dX1_exact_25 : decode cX1_exact 25 = .ok (.ldc2_w 27, 3) := by decide +kernel
theorem dX1_exact_28 : decode cX1_exact 28 = .ok (.lcmp, 1) := by decide +kernel
theorem dX1_exact_29 : decode cX1_exact 29 = .ok (.ifCond .ge 11, 3) := by decide +kernel
theorem dX1_exact_32 : decode cX1_exact 32 = .ok (.iload 5, 2) := by decide +kernel
theorem dX1_exact_34 : decode cX1_exact 34 = .ok (.sipush (-1074), 3) := by decide +kernel
theorem dX1_exact_37 : decode cX1_exact 37 = .ok (.if_icmp .ge 16, 3) := by decide +kernel
theorem dX1_exact_40 : decode cX1_exact 40 = .ok (.lload_n 3, 1) := by decide +kernel
theorem dX1_exact_41 : decode cX1_exact 41 = .ok (.iconst 1, 1) := by decide +kernel
theorem dX1_exact_42 : decode cX1_exact 42 = .ok (.lshr, 1) := by decide +kernel
theorem dX1_exact_43 : decode cX1_exact 43 = .ok (.lstore_n 3, 1) := by decide +kernel
theorem dX1_exact_44 : decode cX1_exact 44 = .ok (.iinc 5 1, 3) := by decide +kernel
theorem dX1_exact_47 : decode cX1_exact 47 = .ok (.iinc 6 1, 3) := by decide +kernel
theorem dX1_exact_50 : decode cX1_exact 50 = .ok (.goto (-34), 3) := by decide +kernel
theorem dX1_exact_53 : decode cX1_exact 53 = .ok (.iconst 0, 1) := by decide +kernel
theorem dX1_exact_54 : decode cX1_exact 54 = .ok (.istore 6, 2) := by decide +kernel
theorem dX1_exact_56 : decode cX1_exact 56 = .ok (.iload 6, 2) := by decide +kernel
theorem dX1_exact_58 : decode cX1_exact 58 = .ok (.sipush 2200, 3) := by decide +kernel
theorem dX1_exact_61 : decode cX1_exact 61 = .ok (.if_icmp .ge 32, 3) := by decide +kernel
theorem dX1_exact_64 : decode cX1_exact 64 = .ok (.lload_n 3, 1) := by decide +kernel
theorem dX1_exact_65 : decode cX1_exact 65 = .ok (.ldc2_w 25, 3) := by decide +kernel
theorem dX1_exact_68 : decode cX1_exact 68 = .ok (.lcmp, 1) := by decide +kernel
theorem dX1_exact_69 : decode cX1_exact 69 = .ok (.ifCond .ge 24, 3) := by decide +kernel
theorem dX1_exact_72 : decode cX1_exact 72 = .ok (.iload 5, 2) := by decide +kernel
theorem dX1_exact_74 : decode cX1_exact 74 = .ok (.sipush (-1074), 3) := by decide +kernel
theorem dX1_exact_77 : decode cX1_exact 77 = .ok (.if_icmp .le 16, 3) := by decide +kernel
theorem dX1_exact_80 : decode cX1_exact 80 = .ok (.lload_n 3, 1) := by decide +kernel
theorem dX1_exact_81 : decode cX1_exact 81 = .ok (.iconst 1, 1) := by decide +kernel
theorem dX1_exact_82 : decode cX1_exact 82 = .ok (.lshl, 1) := by decide +kernel
theorem dX1_exact_83 : decode cX1_exact 83 = .ok (.lstore_n 3, 1) := by decide +kernel
theorem dX1_exact_84 : decode cX1_exact 84 = .ok (.iinc 5 (-1), 3) := by decide +kernel
theorem dX1_exact_87 : decode cX1_exact 87 = .ok (.iinc 6 1, 3) := by decide +kernel
theorem dX1_exact_90 : decode cX1_exact 90 = .ok (.goto (-34), 3) := by decide +kernel
theorem dX1_exact_93 : decode cX1_exact 93 = .ok (.lload_n 3, 1) := by decide +kernel
theorem dX1_exact_94 : decode cX1_exact 94 = .ok (.ldc2_w 25, 3) := by decide +kernel
theorem dX1_exact_97 : decode cX1_exact 97 = .ok (.lcmp, 1) := by decide +kernel
theorem dX1_exact_98 : decode cX1_exact 98 = .ok (.ifCond .ge 7, 3) := by decide +kernel
theorem dX1_exact_101 : decode cX1_exact 101 = .ok (.lload_n 3, 1) := by decide +kernel
theorem dX1_exact_102 : decode cX1_exact 102 = .ok (.goto 19, 3) := by decide +kernel
theorem dX1_exact_105 : decode cX1_exact 105 = .ok (.lload_n 3, 1) := by decide +kernel
theorem dX1_exact_106 : decode cX1_exact 106 = .ok (.ldc2_w 25, 3) := by decide +kernel
theorem dX1_exact_109 : decode cX1_exact 109 = .ok (.lsub, 1) := by decide +kernel
theorem dX1_exact_110 : decode cX1_exact 110 = .ok (.iload 5, 2) := by decide +kernel
theorem dX1_exact_112 : decode cX1_exact 112 = .ok (.sipush 1075, 3) := by decide +kernel
theorem dX1_exact_115 : decode cX1_exact 115 = .ok (.iadd, 1) := by decide +kernel
theorem dX1_exact_116 : decode cX1_exact 116 = .ok (.i2l, 1) := by decide +kernel
theorem dX1_exact_117 : decode cX1_exact 117 = .ok (.bipush 52, 2) := by decide +kernel
theorem dX1_exact_119 : decode cX1_exact 119 = .ok (.lshl, 1) := by decide +kernel
theorem dX1_exact_120 : decode cX1_exact 120 = .ok (.ladd, 1) := by decide +kernel
theorem dX1_exact_121 : decode cX1_exact 121 = .ok (.lreturn, 1) := by decide +kernel
theorem dX1_load_0 : decode cX1_load 0 = .ok (.iload_n 1, 1) := by decide +kernel
theorem dX1_load_1 : decode cX1_load 1 = .ok (.invokestatic 29, 3) := by decide +kernel
theorem dX1_load_4 : decode cX1_load 4 = .ok (.ifCond .ne 5, 3) := by decide +kernel
theorem dX1_load_7 : decode cX1_load 7 = .ok (.iconst 0, 1) := by decide +kernel
theorem dX1_load_8 : decode cX1_load 8 = .ok (.ireturn, 1) := by decide +kernel
theorem dX1_load_9 : decode cX1_load 9 = .ok (.aload_n 0, 1) := by decide +kernel
theorem dX1_load_10 : decode cX1_load 10 = .ok (.getfield 7, 3) := by decide +kernel
theorem dX1_load_13 : decode cX1_load 13 = .ok (.iload_n 1, 1) := by decide +kernel
theorem dX1_load_14 : decode cX1_load 14 = .ok (.lload_n 2, 1) := by decide +kernel
theorem dX1_load_15 : decode cX1_load 15 = .ok (.lastore, 1) := by decide +kernel
theorem dX1_load_16 : decode cX1_load 16 = .ok (.iconst 1, 1) := by decide +kernel
theorem dX1_load_17 : decode cX1_load 17 = .ok (.ireturn, 1) := by decide +kernel
set_option maxRecDepth 20000 in
theorem ggX1_load_X1_isRegister : GoodIn wsX1_load wsX1_isRegister := goodIn_r _ [4] (by decide +kernel) (by decide +kernel)
set_option maxRecDepth 20000 in
theorem gX1_load_X1_isRegister : GoodIn wsX1_load (va_wsS RX1 29 yX1_isRegister wsX1_isRegister) := goodIn_app (goodIn_of _ (by decide +kernel)) ggX1_load_X1_isRegister
theorem dX1_bits_0 : decode cX1_bits 0 = .ok (.iload_n 1, 1) := by decide +kernel
theorem dX1_bits_1 : decode cX1_bits 1 = .ok (.invokestatic 29, 3) := by decide +kernel
theorem dX1_bits_4 : decode cX1_bits 4 = .ok (.ifCond .eq 12, 3) := by decide +kernel
theorem dX1_bits_7 : decode cX1_bits 7 = .ok (.aload_n 0, 1) := by decide +kernel
theorem dX1_bits_8 : decode cX1_bits 8 = .ok (.getfield 7, 3) := by decide +kernel
theorem dX1_bits_11 : decode cX1_bits 11 = .ok (.iload_n 1, 1) := by decide +kernel
theorem dX1_bits_12 : decode cX1_bits 12 = .ok (.laload, 1) := by decide +kernel
theorem dX1_bits_13 : decode cX1_bits 13 = .ok (.goto 4, 3) := by decide +kernel
theorem dX1_bits_16 : decode cX1_bits 16 = .ok (.lconst 0, 1) := by decide +kernel
theorem dX1_bits_17 : decode cX1_bits 17 = .ok (.lreturn, 1) := by decide +kernel
set_option maxRecDepth 20000 in
theorem ggX1_bits_X1_isRegister : GoodIn wsX1_bits wsX1_isRegister := goodIn_r _ [4] (by decide +kernel) (by decide +kernel)
set_option maxRecDepth 20000 in
theorem gX1_bits_X1_isRegister : GoodIn wsX1_bits (va_wsS RX1 29 yX1_isRegister wsX1_isRegister) := goodIn_app (goodIn_of _ (by decide +kernel)) ggX1_bits_X1_isRegister
theorem dX1_multiply_0 : decode cX1_multiply 0 = .ok (.lload_n 1, 1) := by decide +kernel
theorem dX1_multiply_1 : decode cX1_multiply 1 = .ok (.bipush 27, 2) := by decide +kernel
theorem dX1_multiply_3 : decode cX1_multiply 3 = .ok (.lshr, 1) := by decide +kernel
theorem dX1_multiply_4 : decode cX1_multiply 4 = .ok (.lstore 5, 2) := by decide +kernel
theorem dX1_multiply_6 : decode cX1_multiply 6 = .ok (.lload_n 1, 1) := by decide +kernel
theorem dX1_multiply_7 : decode cX1_multiply 7 = .ok (.ldc2_w 33, 3) := by decide +kernel
theorem dX1_multiply_10 : decode cX1_multiply 10 = .ok (.land, 1) := by decide +kernel
theorem dX1_multiply_11 : decode cX1_multiply 11 = .ok (.lstore 7, 2) := by decide +kernel
theorem dX1_multiply_13 : decode cX1_multiply 13 = .ok (.lload_n 3, 1) := by decide +kernel
theorem dX1_multiply_14 : decode cX1_multiply 14 = .ok (.bipush 27, 2) := by decide +kernel
theorem dX1_multiply_16 : decode cX1_multiply 16 = .ok (.lshr, 1) := by decide +kernel
theorem dX1_multiply_17 : decode cX1_multiply 17 = .ok (.lstore 9, 2) := by decide +kernel
theorem dX1_multiply_19 : decode cX1_multiply 19 = .ok (.lload_n 3, 1) := by decide +kernel
theorem dX1_multiply_20 : decode cX1_multiply 20 = .ok (.ldc2_w 33, 3) := by decide +kernel
theorem dX1_multiply_23 : decode cX1_multiply 23 = .ok (.land, 1) := by decide +kernel
theorem dX1_multiply_24 : decode cX1_multiply 24 = .ok (.lstore 11, 2) := by decide +kernel
theorem dX1_multiply_26 : decode cX1_multiply 26 = .ok (.lload 5, 2) := by decide +kernel
theorem dX1_multiply_28 : decode cX1_multiply 28 = .ok (.lload 11, 2) := by decide +kernel
theorem dX1_multiply_30 : decode cX1_multiply 30 = .ok (.lmul, 1) := by decide +kernel
theorem dX1_multiply_31 : decode cX1_multiply 31 = .ok (.lload 7, 2) := by decide +kernel
theorem dX1_multiply_33 : decode cX1_multiply 33 = .ok (.lload 9, 2) := by decide +kernel
theorem dX1_multiply_35 : decode cX1_multiply 35 = .ok (.lmul, 1) := by decide +kernel
theorem dX1_multiply_36 : decode cX1_multiply 36 = .ok (.ladd, 1) := by decide +kernel
theorem dX1_multiply_37 : decode cX1_multiply 37 = .ok (.lstore 13, 2) := by decide +kernel
theorem dX1_multiply_39 : decode cX1_multiply 39 = .ok (.lload 7, 2) := by decide +kernel
theorem dX1_multiply_41 : decode cX1_multiply 41 = .ok (.lload 11, 2) := by decide +kernel
theorem dX1_multiply_43 : decode cX1_multiply 43 = .ok (.lmul, 1) := by decide +kernel
theorem dX1_multiply_44 : decode cX1_multiply 44 = .ok (.lload 13, 2) := by decide +kernel
theorem dX1_multiply_46 : decode cX1_multiply 46 = .ok (.ldc2_w 33, 3) := by decide +kernel
theorem dX1_multiply_49 : decode cX1_multiply 49 = .ok (.land, 1) := by decide +kernel
theorem dX1_multiply_50 : decode cX1_multiply 50 = .ok (.bipush 27, 2) := by decide +kernel
theorem dX1_multiply_52 : decode cX1_multiply 52 = .ok (.lshl, 1) := by decide +kernel
theorem dX1_multiply_53 : decode cX1_multiply 53 = .ok (.ladd, 1) := by decide +kernel
theorem dX1_multiply_54 : decode cX1_multiply 54 = .ok (.lstore 15, 2) := by decide +kernel
theorem dX1_multiply_56 : decode cX1_multiply 56 = .ok (.aload_n 0, 1) := by decide +kernel
theorem dX1_multiply_57 : decode cX1_multiply 57 = .ok (.lload 15, 2) := by decide +kernel
theorem dX1_multiply_59 : decode cX1_multiply 59 = .ok (.ldc2_w 35, 3) := by decide +kernel
theorem dX1_multiply_62 : decode cX1_multiply 62 = .ok (.land, 1) := by decide +kernel
theorem dX1_multiply_63 : decode cX1_multiply 63 = .ok (.putfield 37, 3) := by decide +kernel
theorem dX1_multiply_66 : decode cX1_multiply 66 = .ok (.aload_n 0, 1) := by decide +kernel
theorem dX1_multiply_67 : decode cX1_multiply 67 = .ok (.lload 5, 2) := by decide +kernel
theorem dX1_multiply_69 : decode cX1_multiply 69 = .ok (.lload 9, 2) := by decide +kernel
theorem dX1_multiply_71 : decode cX1_multiply 71 = .ok (.lmul, 1) := by decide +kernel
theorem dX1_multiply_72 : decode cX1_multiply 72 = .ok (.lload 13, 2) := by decide +kernel
theorem dX1_multiply_74 : decode cX1_multiply 74 = .ok (.bipush 27, 2) := by decide +kernel
theorem dX1_multiply_76 : decode cX1_multiply 76 = .ok (.lshr, 1) := by decide +kernel
theorem dX1_multiply_77 : decode cX1_multiply 77 = .ok (.ladd, 1) := by decide +kernel
theorem dX1_multiply_78 : decode cX1_multiply 78 = .ok (.lload 15, 2) := by decide +kernel
theorem dX1_multiply_80 : decode cX1_multiply 80 = .ok (.bipush 54, 2) := by decide +kernel
theorem dX1_multiply_82 : decode cX1_multiply 82 = .ok (.lshr, 1) := by decide +kernel
theorem dX1_multiply_83 : decode cX1_multiply 83 = .ok (.ladd, 1) := by decide +kernel
theorem dX1_multiply_84 : decode cX1_multiply 84 = .ok (.putfield 41, 3) := by decide +kernel
theorem dX1_multiply_87 : decode cX1_multiply 87 = .ok (.return_, 1) := by decide +kernel
theorem dX1_squareFits_0 : decode cX1_squareFits 0 = .ok (.aload_n 0, 1) := by decide +kernel
theorem dX1_squareFits_1 : decode cX1_squareFits 1 = .ok (.lload_n 1, 1) := by decide +kernel
theorem dX1_squareFits_2 : decode cX1_squareFits 2 = .ok (.lload_n 1, 1) := by decide +kernel
theorem dX1_squareFits_3 : decode cX1_squareFits 3 = .ok (.invokevirtual 44, 3) := by decide +kernel
theorem dX1_squareFits_6 : decode cX1_squareFits 6 = .ok (.aload_n 0, 1) := by decide +kernel
theorem dX1_squareFits_7 : decode cX1_squareFits 7 = .ok (.getfield 41, 3) := by decide +kernel
theorem dX1_squareFits_10 : decode cX1_squareFits 10 = .ok (.lload_n 3, 1) := by decide +kernel
theorem dX1_squareFits_11 : decode cX1_squareFits 11 = .ok (.lcmp, 1) := by decide +kernel
theorem dX1_squareFits_12 : decode cX1_squareFits 12 = .ok (.ifCond .lt 22, 3) := by decide +kernel
theorem dX1_squareFits_15 : decode cX1_squareFits 15 = .ok (.aload_n 0, 1) := by decide +kernel
theorem dX1_squareFits_16 : decode cX1_squareFits 16 = .ok (.getfield 41, 3) := by decide +kernel
theorem dX1_squareFits_19 : decode cX1_squareFits 19 = .ok (.lload_n 3, 1) := by decide +kernel
theorem dX1_squareFits_20 : decode cX1_squareFits 20 = .ok (.lcmp, 1) := by decide +kernel
theorem dX1_squareFits_21 : decode cX1_squareFits 21 = .ok (.ifCond .ne 17, 3) := by decide +kernel
theorem dX1_squareFits_24 : decode cX1_squareFits 24 = .ok (.aload_n 0, 1) := by decide +kernel
theorem dX1_squareFits_25 : decode cX1_squareFits 25 = .ok (.getfield 37, 3) := by decide +kernel
theorem dX1_squareFits_28 : decode cX1_squareFits 28 = .ok (.lload 5, 2) := by decide +kernel
theorem dX1_squareFits_30 : decode cX1_squareFits 30 = .ok (.lcmp, 1) := by decide +kernel
theorem dX1_squareFits_31 : decode cX1_squareFits 31 = .ok (.ifCond .gt 7, 3) := by decide +kernel
theorem dX1_squareFits_34 : decode cX1_squareFits 34 = .ok (.iconst 1, 1) := by decide +kernel
theorem dX1_squareFits_35 : decode cX1_squareFits 35 = .ok (.goto 4, 3) := by decide +kernel
theorem dX1_squareFits_38 : decode cX1_squareFits 38 = .ok (.iconst 0, 1) := by decide +kernel
theorem dX1_squareFits_39 : decode cX1_squareFits 39 = .ok (.ireturn, 1) := by decide +kernel
set_option maxRecDepth 20000 in
theorem ggX1_squareFits_X1_multiply : GoodIn wsX1_squareFits wsX1_multiply := goodIn_r _ [5, 6, 7, 8, 9, 10, 11, 12, 13, 14] (by decide +kernel) (by decide +kernel)
set_option maxRecDepth 20000 in
theorem gX1_squareFits_X1_multiply : GoodIn wsX1_squareFits (wsV RX1 44 RX1 yX1_multiply wsX1_multiply) := goodIn_app (goodIn_of _ (by decide +kernel)) ggX1_squareFits_X1_multiply
theorem dX1_root_0 : decode cX1_root 0 = .ok (.lload_n 1, 1) := by decide +kernel
theorem dX1_root_1 : decode cX1_root 1 = .ok (.invokestatic 48, 3) := by decide +kernel
theorem dX1_root_4 : decode cX1_root 4 = .ok (.lstore_n 3, 1) := by decide +kernel
theorem dX1_root_5 : decode cX1_root 5 = .ok (.lload_n 1, 1) := by decide +kernel
theorem dX1_root_6 : decode cX1_root 6 = .ok (.invokestatic 51, 3) := by decide +kernel
theorem dX1_root_9 : decode cX1_root 9 = .ok (.istore 5, 2) := by decide +kernel
theorem dX1_root_11 : decode cX1_root 11 = .ok (.iconst 0, 1) := by decide +kernel
theorem dX1_root_12 : decode cX1_root 12 = .ok (.istore 6, 2) := by decide +kernel
theorem dX1_root_14 : decode cX1_root 14 = .ok (.iload 6, 2) := by decide +kernel
theorem dX1_root_16 : decode cX1_root 16 = .ok (.bipush 60, 2) := by decide +kernel
theorem dX1_root_18 : decode cX1_root 18 = .ok (.if_icmp .ge 31, 3) := by decide +kernel
theorem dX1_root_21 : decode cX1_root 21 = .ok (.lload_n 3, 1) := by decide +kernel
theorem dX1_root_22 : decode cX1_root 22 = .ok (.ldc2_w 25, 3) := by decide +kernel
theorem dX1_root_25 : decode cX1_root 25 = .ok (.lcmp, 1) := by decide +kernel
theorem dX1_root_26 : decode cX1_root 26 = .ok (.ifCond .lt 10, 3) := by decide +kernel
theorem dX1_root_29 : decode cX1_root 29 = .ok (.iload 5, 2) := by decide +kernel
theorem dX1_root_31 : decode cX1_root 31 = .ok (.iconst 2, 1) := by decide +kernel
theorem dX1_root_32 : decode cX1_root 32 = .ok (.irem, 1) := by decide +kernel
theorem dX1_root_33 : decode cX1_root 33 = .ok (.ifCond .eq 16, 3) := by decide +kernel
theorem dX1_root_36 : decode cX1_root 36 = .ok (.lload_n 3, 1) := by decide +kernel
theorem dX1_root_37 : decode cX1_root 37 = .ok (.iconst 1, 1) := by decide +kernel
theorem dX1_root_38 : decode cX1_root 38 = .ok (.lshl, 1) := by decide +kernel
theorem dX1_root_39 : decode cX1_root 39 = .ok (.lstore_n 3, 1) := by decide +kernel
theorem dX1_root_40 : decode cX1_root 40 = .ok (.iinc 5 (-1), 3) := by decide +kernel
theorem dX1_root_43 : decode cX1_root 43 = .ok (.iinc 6 1, 3) := by decide +kernel
theorem dX1_root_46 : decode cX1_root 46 = .ok (.goto (-32), 3) := by decide +kernel
theorem dX1_root_49 : decode cX1_root 49 = .ok (.lload_n 3, 1) := by decide +kernel
theorem dX1_root_50 : decode cX1_root 50 = .ok (.iconst 2, 1) := by decide +kernel
theorem dX1_root_51 : decode cX1_root 51 = .ok (.lshr, 1) := by decide +kernel
theorem dX1_root_52 : decode cX1_root 52 = .ok (.lstore 6, 2) := by decide +kernel
theorem dX1_root_54 : decode cX1_root 54 = .ok (.lload_n 3, 1) := by decide +kernel
theorem dX1_root_55 : decode cX1_root 55 = .ok (.ldc2_w 55, 3) := by decide +kernel
theorem dX1_root_58 : decode cX1_root 58 = .ok (.land, 1) := by decide +kernel
theorem dX1_root_59 : decode cX1_root 59 = .ok (.bipush 52, 2) := by decide +kernel
theorem dX1_root_61 : decode cX1_root 61 = .ok (.lshl, 1) := by decide +kernel
theorem dX1_root_62 : decode cX1_root 62 = .ok (.lstore 8, 2) := by decide +kernel
theorem dX1_root_64 : decode cX1_root 64 = .ok (.ldc2_w 25, 3) := by decide +kernel
theorem dX1_root_67 : decode cX1_root 67 = .ok (.lstore 10, 2) := by decide +kernel
theorem dX1_root_69 : decode cX1_root 69 = .ok (.ldc2_w 27, 3) := by decide +kernel
theorem dX1_root_72 : decode cX1_root 72 = .ok (.lstore 12, 2) := by decide +kernel
theorem dX1_root_74 : decode cX1_root 74 = .ok (.iconst 0, 1) := by decide +kernel
theorem dX1_root_75 : decode cX1_root 75 = .ok (.istore 14, 2) := by decide +kernel
theorem dX1_root_77 : decode cX1_root 77 = .ok (.iload 14, 2) := by decide +kernel
theorem dX1_root_79 : decode cX1_root 79 = .ok (.bipush 60, 2) := by decide +kernel
theorem dX1_root_81 : decode cX1_root 81 = .ok (.if_icmp .ge 52, 3) := by decide +kernel
theorem dX1_root_84 : decode cX1_root 84 = .ok (.lload 12, 2) := by decide +kernel
theorem dX1_root_86 : decode cX1_root 86 = .ok (.lload 10, 2) := by decide +kernel
theorem dX1_root_88 : decode cX1_root 88 = .ok (.lsub, 1) := by decide +kernel
theorem dX1_root_89 : decode cX1_root 89 = .ok (.lconst 1, 1) := by decide +kernel
theorem dX1_root_90 : decode cX1_root 90 = .ok (.lcmp, 1) := by decide +kernel
theorem dX1_root_91 : decode cX1_root 91 = .ok (.ifCond .le 42, 3) := by decide +kernel
theorem dX1_root_94 : decode cX1_root 94 = .ok (.lload 10, 2) := by decide +kernel
theorem dX1_root_96 : decode cX1_root 96 = .ok (.lload 12, 2) := by decide +kernel
theorem dX1_root_98 : decode cX1_root 98 = .ok (.ladd, 1) := by decide +kernel
theorem dX1_root_99 : decode cX1_root 99 = .ok (.iconst 1, 1) := by decide +kernel
theorem dX1_root_100 : decode cX1_root 100 = .ok (.lshr, 1) := by decide +kernel
theorem dX1_root_101 : decode cX1_root 101 = .ok (.lstore 15, 2) := by decide +kernel
theorem dX1_root_103 : decode cX1_root 103 = .ok (.aload_n 0, 1) := by decide +kernel
theorem dX1_root_104 : decode cX1_root 104 = .ok (.lload 15, 2) := by decide +kernel
theorem dX1_root_106 : decode cX1_root 106 = .ok (.lload 6, 2) := by decide +kernel
theorem dX1_root_108 : decode cX1_root 108 = .ok (.lload 8, 2) := by decide +kernel
theorem dX1_root_110 : decode cX1_root 110 = .ok (.invokevirtual 57, 3) := by decide +kernel
theorem dX1_root_113 : decode cX1_root 113 = .ok (.ifCond .eq 10, 3) := by decide +kernel
theorem dX1_root_116 : decode cX1_root 116 = .ok (.lload 15, 2) := by decide +kernel
theorem dX1_root_118 : decode cX1_root 118 = .ok (.lstore 10, 2) := by decide +kernel
theorem dX1_root_120 : decode cX1_root 120 = .ok (.goto 7, 3) := by decide +kernel
theorem dX1_root_123 : decode cX1_root 123 = .ok (.lload 15, 2) := by decide +kernel
theorem dX1_root_125 : decode cX1_root 125 = .ok (.lstore 12, 2) := by decide +kernel
theorem dX1_root_127 : decode cX1_root 127 = .ok (.iinc 14 1, 3) := by decide +kernel
theorem dX1_root_130 : decode cX1_root 130 = .ok (.goto (-53), 3) := by decide +kernel
theorem dX1_root_133 : decode cX1_root 133 = .ok (.aload_n 0, 1) := by decide +kernel
theorem dX1_root_134 : decode cX1_root 134 = .ok (.lload 10, 2) := by decide +kernel
theorem dX1_root_136 : decode cX1_root 136 = .ok (.lload 10, 2) := by decide +kernel
theorem dX1_root_138 : decode cX1_root 138 = .ok (.invokevirtual 44, 3) := by decide +kernel
theorem dX1_root_141 : decode cX1_root 141 = .ok (.aload_n 0, 1) := by decide +kernel
theorem dX1_root_142 : decode cX1_root 142 = .ok (.getfield 41, 3) := by decide +kernel
theorem dX1_root_145 : decode cX1_root 145 = .ok (.lload 6, 2) := by decide +kernel
theorem dX1_root_147 : decode cX1_root 147 = .ok (.lcmp, 1) := by decide +kernel
theorem dX1_root_148 : decode cX1_root 148 = .ok (.ifCond .ne 17, 3) := by decide +kernel
theorem dX1_root_151 : decode cX1_root 151 = .ok (.aload_n 0, 1) := by decide +kernel
theorem dX1_root_152 : decode cX1_root 152 = .ok (.getfield 37, 3) := by decide +kernel
theorem dX1_root_155 : decode cX1_root 155 = .ok (.lload 8, 2) := by decide +kernel
theorem dX1_root_157 : decode cX1_root 157 = .ok (.lcmp, 1) := by decide +kernel
theorem dX1_root_158 : decode cX1_root 158 = .ok (.ifCond .ne 7, 3) := by decide +kernel
theorem dX1_root_161 : decode cX1_root 161 = .ok (.iconst 1, 1) := by decide +kernel
theorem dX1_root_162 : decode cX1_root 162 = .ok (.goto 4, 3) := by decide +kernel
theorem dX1_root_165 : decode cX1_root 165 = .ok (.iconst 0, 1) := by decide +kernel
theorem dX1_root_166 : decode cX1_root 166 = .ok (.istore 14, 2) := by decide +kernel
theorem dX1_root_168 : decode cX1_root 168 = .ok (.aload_n 0, 1) := by decide +kernel
theorem dX1_root_169 : decode cX1_root 169 = .ok (.iload 14, 2) := by decide +kernel
theorem dX1_root_171 : decode cX1_root 171 = .ok (.ifCond .eq 10, 3) := by decide +kernel
theorem dX1_root_174 : decode cX1_root 174 = .ok (.aload_n 0, 1) := by decide +kernel
theorem dX1_root_175 : decode cX1_root 175 = .ok (.getfield 61, 3) := by decide +kernel
theorem dX1_root_178 : decode cX1_root 178 = .ok (.goto 9, 3) := by decide +kernel
theorem dX1_root_181 : decode cX1_root 181 = .ok (.aload_n 0, 1) := by decide +kernel
theorem dX1_root_182 : decode cX1_root 182 = .ok (.getfield 61, 3) := by decide +kernel
theorem dX1_root_185 : decode cX1_root 185 = .ok (.iconst 2, 1) := by decide +kernel
theorem dX1_root_186 : decode cX1_root 186 = .ok (.ior, 1) := by decide +kernel
theorem dX1_root_187 : decode cX1_root 187 = .ok (.putfield 61, 3) := by decide +kernel
theorem dX1_root_190 : decode cX1_root 190 = .ok (.lload_n 3, 1) := by decide +kernel
theorem dX1_root_191 : decode cX1_root 191 = .ok (.lstore 15, 2) := by decide +kernel
theorem dX1_root_193 : decode cX1_root 193 = .ok (.lconst 0, 1) := by decide +kernel
theorem dX1_root_194 : decode cX1_root 194 = .ok (.lstore 17, 2) := by decide +kernel
theorem dX1_root_196 : decode cX1_root 196 = .ok (.aload_n 0, 1) := by decide +kernel
theorem dX1_root_197 : decode cX1_root 197 = .ok (.ldc2_w 65, 3) := by decide +kernel
theorem dX1_root_200 : decode cX1_root 200 = .ok (.lload 10, 2) := by decide +kernel
theorem dX1_root_202 : decode cX1_root 202 = .ok (.lmul, 1) := by decide +kernel
theorem dX1_root_203 : decode cX1_root 203 = .ok (.lconst 1, 1) := by decide +kernel
theorem dX1_root_204 : decode cX1_root 204 = .ok (.ladd, 1) := by decide +kernel
theorem dX1_root_205 : decode cX1_root 205 = .ok (.lload 15, 2) := by decide +kernel
theorem dX1_root_207 : decode cX1_root 207 = .ok (.lload 17, 2) := by decide +kernel
theorem dX1_root_209 : decode cX1_root 209 = .ok (.invokevirtual 57, 3) := by decide +kernel
theorem dX1_root_212 : decode cX1_root 212 = .ok (.istore 19, 2) := by decide +kernel
theorem dX1_root_214 : decode cX1_root 214 = .ok (.iload 19, 2) := by decide +kernel
theorem dX1_root_216 : decode cX1_root 216 = .ok (.ifCond .eq 10, 3) := by decide +kernel
theorem dX1_root_219 : decode cX1_root 219 = .ok (.lload 10, 2) := by decide +kernel
theorem dX1_root_221 : decode cX1_root 221 = .ok (.lconst 1, 1) := by decide +kernel
theorem dX1_root_222 : decode cX1_root 222 = .ok (.ladd, 1) := by decide +kernel
theorem dX1_root_223 : decode cX1_root 223 = .ok (.goto 5, 3) := by decide +kernel
theorem dX1_root_226 : decode cX1_root 226 = .ok (.lload 10, 2) := by decide +kernel
theorem dX1_root_228 : decode cX1_root 228 = .ok (.iload 5, 2) := by decide +kernel
theorem dX1_root_230 : decode cX1_root 230 = .ok (.iconst 2, 1) := by decide +kernel
theorem dX1_root_231 : decode cX1_root 231 = .ok (.idiv, 1) := by decide +kernel
theorem dX1_root_232 : decode cX1_root 232 = .ok (.bipush 26, 2) := by decide +kernel
theorem dX1_root_234 : decode cX1_root 234 = .ok (.isub, 1) := by decide +kernel
theorem dX1_root_235 : decode cX1_root 235 = .ok (.invokestatic 67, 3) := by decide +kernel
theorem dX1_root_238 : decode cX1_root 238 = .ok (.lreturn, 1) := by decide +kernel
set_option maxRecDepth 20000 in
theorem ggX1_root_X1_number : GoodIn wsX1_root wsX1_number := goodIn_r _ [4, 5, 6, 7, 3, 8, 9, 10] (by decide +kernel) (by decide +kernel)
set_option maxRecDepth 20000 in
theorem gX1_root_X1_number : GoodIn wsX1_root (va_wsS RX1 48 yX1_number wsX1_number) := goodIn_app (goodIn_of _ (by decide +kernel)) ggX1_root_X1_number
set_option maxRecDepth 20000 in
theorem ggX1_root_X1_power : GoodIn wsX1_root wsX1_power := goodIn_r _ [13, 6, 7, 3, 8, 9] (by decide +kernel) (by decide +kernel)
set_option maxRecDepth 20000 in
theorem gX1_root_X1_power : GoodIn wsX1_root (va_wsS RX1 51 yX1_power wsX1_power) := goodIn_app (goodIn_of _ (by decide +kernel)) ggX1_root_X1_power
set_option maxRecDepth 20000 in
theorem ggX1_root_X1_squareFits : GoodIn wsX1_root wsX1_squareFits := goodIn_r _ [19, 20, 21, 22, 3, 23, 24, 25, 26, 27, 33, 34, 35, 36, 37] (by decide +kernel) (by decide +kernel)
set_option maxRecDepth 20000 in
theorem gX1_root_X1_squareFits : GoodIn wsX1_root (wsV RX1 57 RX1 yX1_squareFits wsX1_squareFits) := goodIn_app (goodIn_of _ (by decide +kernel)) ggX1_root_X1_squareFits
set_option maxRecDepth 20000 in
theorem ggX1_root_X1_multiply : GoodIn wsX1_root wsX1_multiply := goodIn_r _ [23, 24, 25, 26, 27, 33, 34, 35, 36, 37] (by decide +kernel) (by decide +kernel)
set_option maxRecDepth 20000 in
theorem gX1_root_X1_multiply : GoodIn wsX1_root (wsV RX1 44 RX1 yX1_multiply wsX1_multiply) := goodIn_app (goodIn_of _ (by decide +kernel)) ggX1_root_X1_multiply
set_option maxRecDepth 20000 in
theorem ggX1_root_X1_exact : GoodIn wsX1_root wsX1_exact := goodIn_r _ [32, 15, 10] (by decide +kernel) (by decide +kernel)
set_option maxRecDepth 20000 in
theorem gX1_root_X1_exact : GoodIn wsX1_root (va_wsS RX1 67 yX1_exact wsX1_exact) := goodIn_app (goodIn_of _ (by decide +kernel)) ggX1_root_X1_exact
theorem dX1_sqrt_0 : decode cX1_sqrt 0 = .ok (.iload_n 1, 1) := by decide +kernel
theorem dX1_sqrt_1 : decode cX1_sqrt 1 = .ok (.invokestatic 29, 3) := by decide +kernel
theorem dX1_sqrt_4 : decode cX1_sqrt 4 = .ok (.ifCond .eq 10, 3) := by decide +kernel
theorem dX1_sqrt_7 : decode cX1_sqrt 7 = .ok (.iload_n 2, 1) := by decide +kernel
theorem dX1_sqrt_8 : decode cX1_sqrt 8 = .ok (.invokestatic 29, 3) := by decide +kernel
theorem dX1_sqrt_11 : decode cX1_sqrt 11 = .ok (.ifCond .ne 5, 3) := by decide +kernel
theorem dX1_sqrt_14 : decode cX1_sqrt 14 = .ok (.iconst 0, 1) := by decide +kernel
theorem dX1_sqrt_15 : decode cX1_sqrt 15 = .ok (.ireturn, 1) := by decide +kernel
theorem dX1_sqrt_16 : decode cX1_sqrt 16 = .ok (.aload_n 0, 1) := by decide +kernel
theorem dX1_sqrt_17 : decode cX1_sqrt 17 = .ok (.getfield 7, 3) := by decide +kernel
theorem dX1_sqrt_20 : decode cX1_sqrt 20 = .ok (.iload_n 2, 1) := by decide +kernel
theorem dX1_sqrt_21 : decode cX1_sqrt 21 = .ok (.laload, 1) := by decide +kernel
theorem dX1_sqrt_22 : decode cX1_sqrt 22 = .ok (.lstore_n 3, 1) := by decide +kernel
theorem dX1_sqrt_23 : decode cX1_sqrt 23 = .ok (.lload_n 3, 1) := by decide +kernel
theorem dX1_sqrt_24 : decode cX1_sqrt 24 = .ok (.invokestatic 71, 3) := by decide +kernel
theorem dX1_sqrt_27 : decode cX1_sqrt 27 = .ok (.ifCond .eq 15, 3) := by decide +kernel
theorem dX1_sqrt_30 : decode cX1_sqrt 30 = .ok (.aload_n 0, 1) := by decide +kernel
theorem dX1_sqrt_31 : decode cX1_sqrt 31 = .ok (.getfield 7, 3) := by decide +kernel
theorem dX1_sqrt_34 : decode cX1_sqrt 34 = .ok (.iload_n 1, 1) := by decide +kernel
theorem dX1_sqrt_35 : decode cX1_sqrt 35 = .ok (.ldc2_w 75, 3) := by decide +kernel
theorem dX1_sqrt_38 : decode cX1_sqrt 38 = .ok (.lastore, 1) := by decide +kernel
theorem dX1_sqrt_39 : decode cX1_sqrt 39 = .ok (.goto 68, 3) := by decide +kernel
theorem dX1_sqrt_42 : decode cX1_sqrt 42 = .ok (.lload_n 3, 1) := by decide +kernel
theorem dX1_sqrt_43 : decode cX1_sqrt 43 = .ok (.invokestatic 77, 3) := by decide +kernel
theorem dX1_sqrt_46 : decode cX1_sqrt 46 = .ok (.ifCond .ne 11, 3) := by decide +kernel
theorem dX1_sqrt_49 : decode cX1_sqrt 49 = .ok (.lload_n 3, 1) := by decide +kernel
theorem dX1_sqrt_50 : decode cX1_sqrt 50 = .ok (.ldc2_w 21, 3) := by decide +kernel
theorem dX1_sqrt_53 : decode cX1_sqrt 53 = .ok (.lcmp, 1) := by decide +kernel
theorem dX1_sqrt_54 : decode cX1_sqrt 54 = .ok (.ifCond .ne 13, 3) := by decide +kernel
theorem dX1_sqrt_57 : decode cX1_sqrt 57 = .ok (.aload_n 0, 1) := by decide +kernel
theorem dX1_sqrt_58 : decode cX1_sqrt 58 = .ok (.getfield 7, 3) := by decide +kernel
theorem dX1_sqrt_61 : decode cX1_sqrt 61 = .ok (.iload_n 1, 1) := by decide +kernel
theorem dX1_sqrt_62 : decode cX1_sqrt 62 = .ok (.lload_n 3, 1) := by decide +kernel
theorem dX1_sqrt_63 : decode cX1_sqrt 63 = .ok (.lastore, 1) := by decide +kernel
theorem dX1_sqrt_64 : decode cX1_sqrt 64 = .ok (.goto 43, 3) := by decide +kernel
theorem dX1_sqrt_67 : decode cX1_sqrt 67 = .ok (.lload_n 3, 1) := by decide +kernel
theorem dX1_sqrt_68 : decode cX1_sqrt 68 = .ok (.invokestatic 80, 3) := by decide +kernel
theorem dX1_sqrt_71 : decode cX1_sqrt 71 = .ok (.ifCond .eq 25, 3) := by decide +kernel
theorem dX1_sqrt_74 : decode cX1_sqrt 74 = .ok (.aload_n 0, 1) := by decide +kernel
theorem dX1_sqrt_75 : decode cX1_sqrt 75 = .ok (.getfield 7, 3) := by decide +kernel
theorem dX1_sqrt_78 : decode cX1_sqrt 78 = .ok (.iload_n 1, 1) := by decide +kernel
theorem dX1_sqrt_79 : decode cX1_sqrt 79 = .ok (.ldc2_w 75, 3) := by decide +kernel
theorem dX1_sqrt_82 : decode cX1_sqrt 82 = .ok (.lastore, 1) := by decide +kernel
theorem dX1_sqrt_83 : decode cX1_sqrt 83 = .ok (.aload_n 0, 1) := by decide +kernel
theorem dX1_sqrt_84 : decode cX1_sqrt 84 = .ok (.aload_n 0, 1) := by decide +kernel
theorem dX1_sqrt_85 : decode cX1_sqrt 85 = .ok (.getfield 61, 3) := by decide +kernel
theorem dX1_sqrt_88 : decode cX1_sqrt 88 = .ok (.iconst 1, 1) := by decide +kernel
theorem dX1_sqrt_89 : decode cX1_sqrt 89 = .ok (.ior, 1) := by decide +kernel
theorem dX1_sqrt_90 : decode cX1_sqrt 90 = .ok (.putfield 61, 3) := by decide +kernel
theorem dX1_sqrt_93 : decode cX1_sqrt 93 = .ok (.goto 14, 3) := by decide +kernel
theorem dX1_sqrt_96 : decode cX1_sqrt 96 = .ok (.aload_n 0, 1) := by decide +kernel
theorem dX1_sqrt_97 : decode cX1_sqrt 97 = .ok (.getfield 7, 3) := by decide +kernel
theorem dX1_sqrt_100 : decode cX1_sqrt 100 = .ok (.iload_n 1, 1) := by decide +kernel
theorem dX1_sqrt_101 : decode cX1_sqrt 101 = .ok (.aload_n 0, 1) := by decide +kernel
theorem dX1_sqrt_102 : decode cX1_sqrt 102 = .ok (.lload_n 3, 1) := by decide +kernel
theorem dX1_sqrt_103 : decode cX1_sqrt 103 = .ok (.invokevirtual 83, 3) := by decide +kernel
theorem dX1_sqrt_106 : decode cX1_sqrt 106 = .ok (.lastore, 1) := by decide +kernel
theorem dX1_sqrt_107 : decode cX1_sqrt 107 = .ok (.iconst 1, 1) := by decide +kernel
theorem dX1_sqrt_108 : decode cX1_sqrt 108 = .ok (.ireturn, 1) := by decide +kernel
set_option maxRecDepth 20000 in
theorem ggX1_sqrt_X1_isRegister : GoodIn wsX1_sqrt wsX1_isRegister := goodIn_r _ [4] (by decide +kernel) (by decide +kernel)
set_option maxRecDepth 20000 in
theorem gX1_sqrt_X1_isRegister : GoodIn wsX1_sqrt (va_wsS RX1 29 yX1_isRegister wsX1_isRegister) := goodIn_app (goodIn_of _ (by decide +kernel)) ggX1_sqrt_X1_isRegister
set_option maxRecDepth 20000 in
theorem ggX1_sqrt_X1_isNan : GoodIn wsX1_sqrt wsX1_isNan := goodIn_r _ [8, 9, 10, 3, 11, 12, 13] (by decide +kernel) (by decide +kernel)
set_option maxRecDepth 20000 in
theorem gX1_sqrt_X1_isNan : GoodIn wsX1_sqrt (va_wsS RX1 71 yX1_isNan wsX1_isNan) := goodIn_app (goodIn_of _ (by decide +kernel)) ggX1_sqrt_X1_isNan
set_option maxRecDepth 20000 in
theorem ggX1_sqrt_X1_isZero : GoodIn wsX1_sqrt wsX1_isZero := goodIn_r _ [17, 9, 10, 3, 11, 12] (by decide +kernel) (by decide +kernel)
set_option maxRecDepth 20000 in
theorem gX1_sqrt_X1_isZero : GoodIn wsX1_sqrt (va_wsS RX1 77 yX1_isZero wsX1_isZero) := goodIn_app (goodIn_of _ (by decide +kernel)) ggX1_sqrt_X1_isZero
set_option maxRecDepth 20000 in
theorem ggX1_sqrt_X1_negative : GoodIn wsX1_sqrt wsX1_negative := goodIn_r _ [20] (by decide +kernel) (by decide +kernel)
set_option maxRecDepth 20000 in
theorem gX1_sqrt_X1_negative : GoodIn wsX1_sqrt (va_wsS RX1 80 yX1_negative wsX1_negative) := goodIn_app (goodIn_of _ (by decide +kernel)) ggX1_sqrt_X1_negative
set_option maxRecDepth 20000 in
theorem ggX1_sqrt_X1_root : GoodIn wsX1_sqrt wsX1_root := goodIn_r _ [25, 26, 27, 3, 28, 29, 9, 10, 11, 12, 30, 31, 32, 33, 34, 35, 36, 37, 38, 39, 40, 41, 42, 43, 44, 45, 46, 47, 21, 48, 49, 50, 51, 52, 53, 54, 55, 56] (by decide +kernel) (by decide +kernel)
set_option maxRecDepth 20000 in
theorem gX1_sqrt_X1_root : GoodIn wsX1_sqrt (wsV RX1 83 RX1 yX1_root wsX1_root) := goodIn_app (goodIn_of _ (by decide +kernel)) ggX1_sqrt_X1_root
theorem dX1_cut_0 : decode cX1_cut 0 = .ok (.iload_n 2, 1) := by decide +kernel
theorem dX1_cut_1 : decode cX1_cut 1 = .ok (.bipush 54, 2) := by decide +kernel
theorem dX1_cut_3 : decode cX1_cut 3 = .ok (.if_icmp .le 7, 3) := by decide +kernel
theorem dX1_cut_6 : decode cX1_cut 6 = .ok (.lconst 0, 1) := by decide +kernel
theorem dX1_cut_7 : decode cX1_cut 7 = .ok (.goto 6, 3) := by decide +kernel
theorem dX1_cut_10 : decode cX1_cut 10 = .ok (.lload_n 0, 1) := by decide +kernel
theorem dX1_cut_11 : decode cX1_cut 11 = .ok (.iload_n 2, 1) := by decide +kernel
theorem dX1_cut_12 : decode cX1_cut 12 = .ok (.lshr, 1) := by decide +kernel
theorem dX1_cut_13 : decode cX1_cut 13 = .ok (.lstore 5, 2) := by decide +kernel
theorem dX1_cut_15 : decode cX1_cut 15 = .ok (.iload_n 2, 1) := by decide +kernel
theorem dX1_cut_16 : decode cX1_cut 16 = .ok (.bipush 54, 2) := by decide +kernel
theorem dX1_cut_18 : decode cX1_cut 18 = .ok (.if_icmp .le 17, 3) := by decide +kernel
theorem dX1_cut_21 : decode cX1_cut 21 = .ok (.lload_n 0, 1) := by decide +kernel
theorem dX1_cut_22 : decode cX1_cut 22 = .ok (.lconst 0, 1) := by decide +kernel
theorem dX1_cut_23 : decode cX1_cut 23 = .ok (.lcmp, 1) := by decide +kernel
theorem dX1_cut_24 : decode cX1_cut 24 = .ok (.ifCond .le 7, 3) := by decide +kernel
theorem dX1_cut_27 : decode cX1_cut 27 = .ok (.iconst 1, 1) := by decide +kernel
theorem dX1_cut_28 : decode cX1_cut 28 = .ok (.goto 21, 3) := by decide +kernel
theorem dX1_cut_31 : decode cX1_cut 31 = .ok (.iconst 0, 1) := by decide +kernel
theorem dX1_cut_32 : decode cX1_cut 32 = .ok (.goto 17, 3) := by decide +kernel
theorem dX1_cut_35 : decode cX1_cut 35 = .ok (.lload 5, 2) := by decide +kernel
theorem dX1_cut_37 : decode cX1_cut 37 = .ok (.iload_n 2, 1) := by decide +kernel
theorem dX1_cut_38 : decode cX1_cut 38 = .ok (.lshl, 1) := by decide +kernel
theorem dX1_cut_39 : decode cX1_cut 39 = .ok (.lload_n 0, 1) := by decide +kernel
theorem dX1_cut_40 : decode cX1_cut 40 = .ok (.lcmp, 1) := by decide +kernel
theorem dX1_cut_41 : decode cX1_cut 41 = .ok (.ifCond .eq 7, 3) := by decide +kernel
theorem dX1_cut_44 : decode cX1_cut 44 = .ok (.iconst 1, 1) := by decide +kernel
theorem dX1_cut_45 : decode cX1_cut 45 = .ok (.goto 4, 3) := by decide +kernel
theorem dX1_cut_48 : decode cX1_cut 48 = .ok (.iconst 0, 1) := by decide +kernel
theorem dX1_cut_49 : decode cX1_cut 49 = .ok (.istore 7, 2) := by decide +kernel
theorem dX1_cut_51 : decode cX1_cut 51 = .ok (.iload_n 3, 1) := by decide +kernel
theorem dX1_cut_52 : decode cX1_cut 52 = .ok (.ifCond .ne 23, 3) := by decide +kernel
theorem dX1_cut_55 : decode cX1_cut 55 = .ok (.iload 7, 2) := by decide +kernel
theorem dX1_cut_57 : decode cX1_cut 57 = .ok (.ifCond .eq 15, 3) := by decide +kernel
theorem dX1_cut_60 : decode cX1_cut 60 = .ok (.iload 4, 2) := by decide +kernel
theorem dX1_cut_62 : decode cX1_cut 62 = .ok (.ifCond .eq 10, 3) := by decide +kernel
theorem dX1_cut_65 : decode cX1_cut 65 = .ok (.lload 5, 2) := by decide +kernel
theorem dX1_cut_67 : decode cX1_cut 67 = .ok (.lconst 1, 1) := by decide +kernel
theorem dX1_cut_68 : decode cX1_cut 68 = .ok (.ladd, 1) := by decide +kernel
theorem dX1_cut_69 : decode cX1_cut 69 = .ok (.goto 5, 3) := by decide +kernel
theorem dX1_cut_72 : decode cX1_cut 72 = .ok (.lload 5, 2) := by decide +kernel
theorem dX1_cut_74 : decode cX1_cut 74 = .ok (.lreturn, 1) := by decide +kernel
theorem dX1_cut_75 : decode cX1_cut 75 = .ok (.iload_n 2, 1) := by decide +kernel
theorem dX1_cut_76 : decode cX1_cut 76 = .ok (.bipush 54, 2) := by decide +kernel
theorem dX1_cut_78 : decode cX1_cut 78 = .ok (.if_icmp .le 5, 3) := by decide +kernel
theorem dX1_cut_81 : decode cX1_cut 81 = .ok (.lconst 0, 1) := by decide +kernel
theorem dX1_cut_82 : decode cX1_cut 82 = .ok (.lreturn, 1) := by decide +kernel
theorem dX1_cut_83 : decode cX1_cut 83 = .ok (.lload_n 0, 1) := by decide +kernel
theorem dX1_cut_84 : decode cX1_cut 84 = .ok (.lload 5, 2) := by decide +kernel
theorem dX1_cut_86 : decode cX1_cut 86 = .ok (.iload_n 2, 1) := by decide +kernel
theorem dX1_cut_87 : decode cX1_cut 87 = .ok (.lshl, 1) := by decide +kernel
theorem dX1_cut_88 : decode cX1_cut 88 = .ok (.lsub, 1) := by decide +kernel
theorem dX1_cut_89 : decode cX1_cut 89 = .ok (.lstore 8, 2) := by decide +kernel
theorem dX1_cut_91 : decode cX1_cut 91 = .ok (.lconst 1, 1) := by decide +kernel
theorem dX1_cut_92 : decode cX1_cut 92 = .ok (.iload_n 2, 1) := by decide +kernel
theorem dX1_cut_93 : decode cX1_cut 93 = .ok (.iconst 1, 1) := by decide +kernel
theorem dX1_cut_94 : decode cX1_cut 94 = .ok (.isub, 1) := by decide +kernel
theorem dX1_cut_95 : decode cX1_cut 95 = .ok (.lshl, 1) := by decide +kernel
theorem dX1_cut_96 : decode cX1_cut 96 = .ok (.lstore 10, 2) := by decide +kernel
theorem dX1_cut_98 : decode cX1_cut 98 = .ok (.lload 8, 2) := by decide +kernel
theorem dX1_cut_100 : decode cX1_cut 100 = .ok (.lload 10, 2) := by decide +kernel
theorem dX1_cut_102 : decode cX1_cut 102 = .ok (.lcmp, 1) := by decide +kernel
theorem dX1_cut_103 : decode cX1_cut 103 = .ok (.ifCond .gt 22, 3) := by decide +kernel
theorem dX1_cut_106 : decode cX1_cut 106 = .ok (.lload 8, 2) := by decide +kernel
theorem dX1_cut_108 : decode cX1_cut 108 = .ok (.lload 10, 2) := by decide +kernel
theorem dX1_cut_110 : decode cX1_cut 110 = .ok (.lcmp, 1) := by decide +kernel
theorem dX1_cut_111 : decode cX1_cut 111 = .ok (.ifCond .ne 21, 3) := by decide +kernel
theorem dX1_cut_114 : decode cX1_cut 114 = .ok (.lload 5, 2) := by decide +kernel
theorem dX1_cut_116 : decode cX1_cut 116 = .ok (.ldc2_w 65, 3) := by decide +kernel
theorem dX1_cut_119 : decode cX1_cut 119 = .ok (.lrem, 1) := by decide +kernel
theorem dX1_cut_120 : decode cX1_cut 120 = .ok (.lconst 1, 1) := by decide +kernel
theorem dX1_cut_121 : decode cX1_cut 121 = .ok (.lcmp, 1) := by decide +kernel
theorem dX1_cut_122 : decode cX1_cut 122 = .ok (.ifCond .ne 10, 3) := by decide +kernel
theorem dX1_cut_125 : decode cX1_cut 125 = .ok (.lload 5, 2) := by decide +kernel
theorem dX1_cut_127 : decode cX1_cut 127 = .ok (.lconst 1, 1) := by decide +kernel
theorem dX1_cut_128 : decode cX1_cut 128 = .ok (.ladd, 1) := by decide +kernel
theorem dX1_cut_129 : decode cX1_cut 129 = .ok (.goto 5, 3) := by decide +kernel
theorem dX1_cut_132 : decode cX1_cut 132 = .ok (.lload 5, 2) := by decide +kernel
theorem dX1_cut_134 : decode cX1_cut 134 = .ok (.lreturn, 1) := by decide +kernel
theorem dX1_whole_0 : decode cX1_whole 0 = .ok (.iload_n 1, 1) := by decide +kernel
theorem dX1_whole_1 : decode cX1_whole 1 = .ok (.invokestatic 29, 3) := by decide +kernel
theorem dX1_whole_4 : decode cX1_whole 4 = .ok (.ifCond .eq 19, 3) := by decide +kernel
theorem dX1_whole_7 : decode cX1_whole 7 = .ok (.iload_n 2, 1) := by decide +kernel
theorem dX1_whole_8 : decode cX1_whole 8 = .ok (.invokestatic 29, 3) := by decide +kernel
theorem dX1_whole_11 : decode cX1_whole 11 = .ok (.ifCond .eq 12, 3) := by decide +kernel
theorem dX1_whole_14 : decode cX1_whole 14 = .ok (.iload_n 3, 1) := by decide +kernel
theorem dX1_whole_15 : decode cX1_whole 15 = .ok (.ifCond .lt 8, 3) := by decide +kernel
theorem dX1_whole_18 : decode cX1_whole 18 = .ok (.iload_n 3, 1) := by decide +kernel
theorem dX1_whole_19 : decode cX1_whole 19 = .ok (.iconst 3, 1) := by decide +kernel
theorem dX1_whole_20 : decode cX1_whole 20 = .ok (.if_icmp .le 5, 3) := by decide +kernel
theorem dX1_whole_23 : decode cX1_whole 23 = .ok (.iconst 0, 1) := by decide +kernel
theorem dX1_whole_24 : decode cX1_whole 24 = .ok (.ireturn, 1) := by decide +kernel
theorem dX1_whole_25 : decode cX1_whole 25 = .ok (.aload_n 0, 1) := by decide +kernel
theorem dX1_whole_26 : decode cX1_whole 26 = .ok (.getfield 7, 3) := by decide +kernel
theorem dX1_whole_29 : decode cX1_whole 29 = .ok (.iload_n 2, 1) := by decide +kernel
theorem dX1_whole_30 : decode cX1_whole 30 = .ok (.laload, 1) := by decide +kernel
theorem dX1_whole_31 : decode cX1_whole 31 = .ok (.lstore 4, 2) := by decide +kernel
theorem dX1_whole_33 : decode cX1_whole 33 = .ok (.lload 4, 2) := by decide +kernel
theorem dX1_whole_35 : decode cX1_whole 35 = .ok (.invokestatic 71, 3) := by decide +kernel
theorem dX1_whole_38 : decode cX1_whole 38 = .ok (.ifCond .eq 14, 3) := by decide +kernel
theorem dX1_whole_41 : decode cX1_whole 41 = .ok (.aload_n 0, 1) := by decide +kernel
theorem dX1_whole_42 : decode cX1_whole 42 = .ok (.getfield 7, 3) := by decide +kernel
theorem dX1_whole_45 : decode cX1_whole 45 = .ok (.iload_n 1, 1) := by decide +kernel
theorem dX1_whole_46 : decode cX1_whole 46 = .ok (.ldc2_w 75, 3) := by decide +kernel
theorem dX1_whole_49 : decode cX1_whole 49 = .ok (.lastore, 1) := by decide +kernel
theorem dX1_whole_50 : decode cX1_whole 50 = .ok (.iconst 1, 1) := by decide +kernel
theorem dX1_whole_51 : decode cX1_whole 51 = .ok (.ireturn, 1) := by decide +kernel
theorem dX1_whole_52 : decode cX1_whole 52 = .ok (.lload 4, 2) := by decide +kernel
theorem dX1_whole_54 : decode cX1_whole 54 = .ok (.invokestatic 86, 3) := by decide +kernel
theorem dX1_whole_57 : decode cX1_whole 57 = .ok (.ifCond .ne 11, 3) := by decide +kernel
theorem dX1_whole_60 : decode cX1_whole 60 = .ok (.lload 4, 2) := by decide +kernel
theorem dX1_whole_62 : decode cX1_whole 62 = .ok (.invokestatic 51, 3) := by decide +kernel
theorem dX1_whole_65 : decode cX1_whole 65 = .ok (.ifCond .lt 13, 3) := by decide +kernel
theorem dX1_whole_68 : decode cX1_whole 68 = .ok (.aload_n 0, 1) := by decide +kernel
theorem dX1_whole_69 : decode cX1_whole 69 = .ok (.getfield 7, 3) := by decide +kernel
theorem dX1_whole_72 : decode cX1_whole 72 = .ok (.iload_n 1, 1) := by decide +kernel
theorem dX1_whole_73 : decode cX1_whole 73 = .ok (.lload 4, 2) := by decide +kernel
theorem dX1_whole_75 : decode cX1_whole 75 = .ok (.lastore, 1) := by decide +kernel
theorem dX1_whole_76 : decode cX1_whole 76 = .ok (.iconst 1, 1) := by decide +kernel
theorem dX1_whole_77 : decode cX1_whole 77 = .ok (.ireturn, 1) := by decide +kernel
theorem dX1_whole_78 : decode cX1_whole 78 = .ok (.lload 4, 2) := by decide +kernel
theorem dX1_whole_80 : decode cX1_whole 80 = .ok (.invokestatic 48, 3) := by decide +kernel
theorem dX1_whole_83 : decode cX1_whole 83 = .ok (.lload 4, 2) := by decide +kernel
theorem dX1_whole_85 : decode cX1_whole 85 = .ok (.invokestatic 51, 3) := by decide +kernel
theorem dX1_whole_88 : decode cX1_whole 88 = .ok (.ineg, 1) := by decide +kernel
theorem dX1_whole_89 : decode cX1_whole 89 = .ok (.iload_n 3, 1) := by decide +kernel
theorem dX1_whole_90 : decode cX1_whole 90 = .ok (.ifCond .ne 7, 3) := by decide +kernel
theorem dX1_whole_93 : decode cX1_whole 93 = .ok (.iconst 1, 1) := by decide +kernel
theorem dX1_whole_94 : decode cX1_whole 94 = .ok (.goto 4, 3) := by decide +kernel
theorem dX1_whole_97 : decode cX1_whole 97 = .ok (.iconst 0, 1) := by decide +kernel
theorem dX1_whole_98 : decode cX1_whole 98 = .ok (.iload_n 3, 1) := by decide +kernel
theorem dX1_whole_99 : decode cX1_whole 99 = .ok (.iconst 1, 1) := by decide +kernel
theorem dX1_whole_100 : decode cX1_whole 100 = .ok (.if_icmp .ne 11, 3) := by decide +kernel
theorem dX1_whole_103 : decode cX1_whole 103 = .ok (.lload 4, 2) := by decide +kernel
theorem dX1_whole_105 : decode cX1_whole 105 = .ok (.invokestatic 80, 3) := by decide +kernel
theorem dX1_whole_108 : decode cX1_whole 108 = .ok (.ifCond .ne 16, 3) := by decide +kernel
theorem dX1_whole_111 : decode cX1_whole 111 = .ok (.iload_n 3, 1) := by decide +kernel
theorem dX1_whole_112 : decode cX1_whole 112 = .ok (.iconst 2, 1) := by decide +kernel
theorem dX1_whole_113 : decode cX1_whole 113 = .ok (.if_icmp .ne 15, 3) := by decide +kernel
theorem dX1_whole_116 : decode cX1_whole 116 = .ok (.lload 4, 2) := by decide +kernel
theorem dX1_whole_118 : decode cX1_whole 118 = .ok (.invokestatic 80, 3) := by decide +kernel
theorem dX1_whole_121 : decode cX1_whole 121 = .ok (.ifCond .ne 7, 3) := by decide +kernel
theorem dX1_whole_124 : decode cX1_whole 124 = .ok (.iconst 1, 1) := by decide +kernel
theorem dX1_whole_125 : decode cX1_whole 125 = .ok (.goto 4, 3) := by decide +kernel
theorem dX1_whole_128 : decode cX1_whole 128 = .ok (.iconst 0, 1) := by decide +kernel
theorem dX1_whole_129 : decode cX1_whole 129 = .ok (.invokestatic 89, 3) := by decide +kernel
theorem dX1_whole_132 : decode cX1_whole 132 = .ok (.lstore 6, 2) := by decide +kernel
theorem dX1_whole_134 : decode cX1_whole 134 = .ok (.lload 6, 2) := by decide +kernel
theorem dX1_whole_136 : decode cX1_whole 136 = .ok (.iconst 0, 1) := by decide +kernel
theorem dX1_whole_137 : decode cX1_whole 137 = .ok (.invokestatic 67, 3) := by decide +kernel
theorem dX1_whole_140 : decode cX1_whole 140 = .ok (.lstore 8, 2) := by decide +kernel
theorem dX1_whole_142 : decode cX1_whole 142 = .ok (.aload_n 0, 1) := by decide +kernel
theorem dX1_whole_143 : decode cX1_whole 143 = .ok (.iload_n 3, 1) := by decide +kernel
theorem dX1_whole_144 : decode cX1_whole 144 = .ok (.ifCond .ne 23, 3) := by decide +kernel
theorem dX1_whole_147 : decode cX1_whole 147 = .ok (.lload 8, 2) := by decide +kernel
theorem dX1_whole_149 : decode cX1_whole 149 = .ok (.lload 4, 2) := by decide +kernel
theorem dX1_whole_151 : decode cX1_whole 151 = .ok (.invokestatic 17, 3) := by decide +kernel
theorem dX1_whole_154 : decode cX1_whole 154 = .ok (.lcmp, 1) := by decide +kernel
theorem dX1_whole_155 : decode cX1_whole 155 = .ok (.ifCond .eq 12, 3) := by decide +kernel
theorem dX1_whole_158 : decode cX1_whole 158 = .ok (.aload_n 0, 1) := by decide +kernel
theorem dX1_whole_159 : decode cX1_whole 159 = .ok (.getfield 61, 3) := by decide +kernel
theorem dX1_whole_162 : decode cX1_whole 162 = .ok (.iconst 2, 1) := by decide +kernel
theorem dX1_whole_163 : decode cX1_whole 163 = .ok (.ior, 1) := by decide +kernel
theorem dX1_whole_164 : decode cX1_whole 164 = .ok (.goto 7, 3) := by decide +kernel
theorem dX1_whole_167 : decode cX1_whole 167 = .ok (.aload_n 0, 1) := by decide +kernel
theorem dX1_whole_168 : decode cX1_whole 168 = .ok (.getfield 61, 3) := by decide +kernel
theorem dX1_whole_171 : decode cX1_whole 171 = .ok (.putfield 61, 3) := by decide +kernel
theorem dX1_whole_174 : decode cX1_whole 174 = .ok (.aload_n 0, 1) := by decide +kernel
theorem dX1_whole_175 : decode cX1_whole 175 = .ok (.getfield 7, 3) := by decide +kernel
theorem dX1_whole_178 : decode cX1_whole 178 = .ok (.iload_n 1, 1) := by decide +kernel
theorem dX1_whole_179 : decode cX1_whole 179 = .ok (.lload 8, 2) := by decide +kernel
theorem dX1_whole_181 : decode cX1_whole 181 = .ok (.lload 4, 2) := by decide +kernel
theorem dX1_whole_183 : decode cX1_whole 183 = .ok (.invokestatic 80, 3) := by decide +kernel
theorem dX1_whole_186 : decode cX1_whole 186 = .ok (.invokestatic 93, 3) := by decide +kernel
theorem dX1_whole_189 : decode cX1_whole 189 = .ok (.lastore, 1) := by decide +kernel
theorem dX1_whole_190 : decode cX1_whole 190 = .ok (.iconst 1, 1) := by decide +kernel
theorem dX1_whole_191 : decode cX1_whole 191 = .ok (.ireturn, 1) := by decide +kernel
set_option maxRecDepth 20000 in
theorem ggX1_whole_X1_isRegister : GoodIn wsX1_whole wsX1_isRegister := goodIn_r _ [4] (by decide +kernel) (by decide +kernel)
set_option maxRecDepth 20000 in
theorem gX1_whole_X1_isRegister : GoodIn wsX1_whole (va_wsS RX1 29 yX1_isRegister wsX1_isRegister) := goodIn_app (goodIn_of _ (by decide +kernel)) ggX1_whole_X1_isRegister
set_option maxRecDepth 20000 in
theorem ggX1_whole_X1_isNan : GoodIn wsX1_whole wsX1_isNan := goodIn_r _ [8, 9, 10, 3, 11, 12, 13] (by decide +kernel) (by decide +kernel)
set_option maxRecDepth 20000 in
theorem gX1_whole_X1_isNan : GoodIn wsX1_whole (va_wsS RX1 71 yX1_isNan wsX1_isNan) := goodIn_app (goodIn_of _ (by decide +kernel)) ggX1_whole_X1_isNan
set_option maxRecDepth 20000 in
theorem ggX1_whole_X1_isInfinite : GoodIn wsX1_whole wsX1_isInfinite := goodIn_r _ [17, 9, 10, 3, 11, 12, 13] (by decide +kernel) (by decide +kernel)
set_option maxRecDepth 20000 in
theorem gX1_whole_X1_isInfinite : GoodIn wsX1_whole (va_wsS RX1 86 yX1_isInfinite wsX1_isInfinite) := goodIn_app (goodIn_of _ (by decide +kernel)) ggX1_whole_X1_isInfinite
set_option maxRecDepth 20000 in
theorem ggX1_whole_X1_power : GoodIn wsX1_whole wsX1_power := goodIn_r _ [20, 9, 10, 3, 11, 12] (by decide +kernel) (by decide +kernel)
set_option maxRecDepth 20000 in
theorem gX1_whole_X1_power : GoodIn wsX1_whole (va_wsS RX1 51 yX1_power wsX1_power) := goodIn_app (goodIn_of _ (by decide +kernel)) ggX1_whole_X1_power
set_option maxRecDepth 20000 in
theorem ggX1_whole_X1_number : GoodIn wsX1_whole wsX1_number := goodIn_r _ [23, 24, 9, 10, 3, 11, 12, 25] (by decide +kernel) (by decide +kernel)
set_option maxRecDepth 20000 in
theorem gX1_whole_X1_number : GoodIn wsX1_whole (va_wsS RX1 48 yX1_number wsX1_number) := goodIn_app (goodIn_of _ (by decide +kernel)) ggX1_whole_X1_number
set_option maxRecDepth 20000 in
theorem ggX1_whole_X1_negative : GoodIn wsX1_whole wsX1_negative := goodIn_r _ [28] (by decide +kernel) (by decide +kernel)
set_option maxRecDepth 20000 in
theorem gX1_whole_X1_negative : GoodIn wsX1_whole (va_wsS RX1 80 yX1_negative wsX1_negative) := goodIn_app (goodIn_of _ (by decide +kernel)) ggX1_whole_X1_negative
set_option maxRecDepth 20000 in
theorem ggX1_whole_X1_cut : GoodIn wsX1_whole wsX1_cut := goodIn_r _ [31, 32] (by decide +kernel) (by decide +kernel)
set_option maxRecDepth 20000 in
theorem gX1_whole_X1_cut : GoodIn wsX1_whole (va_wsS RX1 89 yX1_cut wsX1_cut) := goodIn_app (goodIn_of _ (by decide +kernel)) ggX1_whole_X1_cut
set_option maxRecDepth 20000 in
theorem ggX1_whole_X1_exact : GoodIn wsX1_whole wsX1_exact := goodIn_r _ [35, 36, 25] (by decide +kernel) (by decide +kernel)
set_option maxRecDepth 20000 in
theorem gX1_whole_X1_exact : GoodIn wsX1_whole (va_wsS RX1 67 yX1_exact wsX1_exact) := goodIn_app (goodIn_of _ (by decide +kernel)) ggX1_whole_X1_exact
set_option maxRecDepth 20000 in
theorem ggX1_whole_X1_plain : GoodIn wsX1_whole wsX1_plain := goodIn_r _ [11, 12] (by decide +kernel) (by decide +kernel)
set_option maxRecDepth 20000 in
theorem gX1_whole_X1_plain : GoodIn wsX1_whole (va_wsS RX1 17 yX1_plain wsX1_plain) := goodIn_app (goodIn_of _ (by decide +kernel)) ggX1_whole_X1_plain
set_option maxRecDepth 20000 in
theorem ggX1_whole_X1_signed : GoodIn wsX1_whole wsX1_signed := goodIn_r _ [40, 41] (by decide +kernel) (by decide +kernel)
set_option maxRecDepth 20000 in
theorem gX1_whole_X1_signed : GoodIn wsX1_whole (va_wsS RX1 93 yX1_signed wsX1_signed) := goodIn_app (goodIn_of _ (by decide +kernel)) ggX1_whole_X1_signed
theorem dX1_rest_0 : decode cX1_rest 0 = .ok (.lload_n 1, 1) := by decide +kernel
theorem dX1_rest_1 : decode cX1_rest 1 = .ok (.invokestatic 48, 3) := by decide +kernel
theorem dX1_rest_4 : decode cX1_rest 4 = .ok (.lstore 6, 2) := by decide +kernel
theorem dX1_rest_6 : decode cX1_rest 6 = .ok (.lload_n 3, 1) := by decide +kernel
theorem dX1_rest_7 : decode cX1_rest 7 = .ok (.invokestatic 48, 3) := by decide +kernel
theorem dX1_rest_10 : decode cX1_rest 10 = .ok (.lstore 8, 2) := by decide +kernel
theorem dX1_rest_12 : decode cX1_rest 12 = .ok (.lload_n 1, 1) := by decide +kernel
theorem dX1_rest_13 : decode cX1_rest 13 = .ok (.invokestatic 51, 3) := by decide +kernel
theorem dX1_rest_16 : decode cX1_rest 16 = .ok (.lload_n 3, 1) := by decide +kernel
theorem dX1_rest_17 : decode cX1_rest 17 = .ok (.invokestatic 51, 3) := by decide +kernel
theorem dX1_rest_20 : decode cX1_rest 20 = .ok (.isub, 1) := by decide +kernel
theorem dX1_rest_21 : decode cX1_rest 21 = .ok (.istore 10, 2) := by decide +kernel
theorem dX1_rest_23 : decode cX1_rest 23 = .ok (.iload 10, 2) := by decide +kernel
theorem dX1_rest_25 : decode cX1_rest 25 = .ok (.ifCond .ge 10, 3) := by decide +kernel
theorem dX1_rest_28 : decode cX1_rest 28 = .ok (.lload_n 1, 1) := by decide +kernel
theorem dX1_rest_29 : decode cX1_rest 29 = .ok (.invokestatic 51, 3) := by decide +kernel
theorem dX1_rest_32 : decode cX1_rest 32 = .ok (.goto 7, 3) := by decide +kernel
theorem dX1_rest_35 : decode cX1_rest 35 = .ok (.lload_n 3, 1) := by decide +kernel
theorem dX1_rest_36 : decode cX1_rest 36 = .ok (.invokestatic 51, 3) := by decide +kernel
theorem dX1_rest_39 : decode cX1_rest 39 = .ok (.istore 11, 2) := by decide +kernel
theorem dX1_rest_41 : decode cX1_rest 41 = .ok (.iload 10, 2) := by decide +kernel
theorem dX1_rest_43 : decode cX1_rest 43 = .ok (.bipush (-62), 2) := by decide +kernel
theorem dX1_rest_45 : decode cX1_rest 45 = .ok (.if_icmp .lt 21, 3) := by decide +kernel
theorem dX1_rest_48 : decode cX1_rest 48 = .ok (.iload 10, 2) := by decide +kernel
theorem dX1_rest_50 : decode cX1_rest 50 = .ok (.ifCond .ge 23, 3) := by decide +kernel
theorem dX1_rest_53 : decode cX1_rest 53 = .ok (.lload 8, 2) := by decide +kernel
theorem dX1_rest_55 : decode cX1_rest 55 = .ok (.lconst 1, 1) := by decide +kernel
theorem dX1_rest_56 : decode cX1_rest 56 = .ok (.bipush 62, 2) := by decide +kernel
theorem dX1_rest_58 : decode cX1_rest 58 = .ok (.iload 10, 2) := by decide +kernel
theorem dX1_rest_60 : decode cX1_rest 60 = .ok (.iadd, 1) := by decide +kernel
theorem dX1_rest_61 : decode cX1_rest 61 = .ok (.lshl, 1) := by decide +kernel
theorem dX1_rest_62 : decode cX1_rest 62 = .ok (.lcmp, 1) := by decide +kernel
theorem dX1_rest_63 : decode cX1_rest 63 = .ok (.ifCond .le 10, 3) := by decide +kernel
theorem dX1_rest_66 : decode cX1_rest 66 = .ok (.aload_n 0, 1) := by decide +kernel
theorem dX1_rest_67 : decode cX1_rest 67 = .ok (.iconst 0, 1) := by decide +kernel
theorem dX1_rest_68 : decode cX1_rest 68 = .ok (.putfield 97, 3) := by decide +kernel
theorem dX1_rest_71 : decode cX1_rest 71 = .ok (.lload_n 1, 1) := by decide +kernel
theorem dX1_rest_72 : decode cX1_rest 72 = .ok (.lreturn, 1) := by decide +kernel
theorem dX1_rest_73 : decode cX1_rest 73 = .ok (.iload 10, 2) := by decide +kernel
theorem dX1_rest_75 : decode cX1_rest 75 = .ok (.ifCond .ge 12, 3) := by decide +kernel
theorem dX1_rest_78 : decode cX1_rest 78 = .ok (.lload 8, 2) := by decide +kernel
theorem dX1_rest_80 : decode cX1_rest 80 = .ok (.iload 10, 2) := by decide +kernel
theorem dX1_rest_82 : decode cX1_rest 82 = .ok (.ineg, 1) := by decide +kernel
theorem dX1_rest_83 : decode cX1_rest 83 = .ok (.lshl, 1) := by decide +kernel
theorem dX1_rest_84 : decode cX1_rest 84 = .ok (.goto 5, 3) := by decide +kernel
theorem dX1_rest_87 : decode cX1_rest 87 = .ok (.lload 8, 2) := by decide +kernel
theorem dX1_rest_89 : decode cX1_rest 89 = .ok (.lstore 12, 2) := by decide +kernel
theorem dX1_rest_91 : decode cX1_rest 91 = .ok (.lload 6, 2) := by decide +kernel
theorem dX1_rest_93 : decode cX1_rest 93 = .ok (.lload 12, 2) := by decide +kernel
theorem dX1_rest_95 : decode cX1_rest 95 = .ok (.ldiv, 1) := by decide +kernel
theorem dX1_rest_96 : decode cX1_rest 96 = .ok (.ldc2_w 100, 3) := by decide +kernel
theorem dX1_rest_99 : decode cX1_rest 99 = .ok (.lrem, 1) := by decide +kernel
theorem dX1_rest_100 : decode cX1_rest 100 = .ok (.lstore 14, 2) := by decide +kernel
theorem dX1_rest_102 : decode cX1_rest 102 = .ok (.lload 6, 2) := by decide +kernel
theorem dX1_rest_104 : decode cX1_rest 104 = .ok (.lload 12, 2) := by decide +kernel
theorem dX1_rest_106 : decode cX1_rest 106 = .ok (.lrem, 1) := by decide +kernel
theorem dX1_rest_107 : decode cX1_rest 107 = .ok (.lstore 16, 2) := by decide +kernel
theorem dX1_rest_109 : decode cX1_rest 109 = .ok (.iconst 0, 1) := by decide +kernel
theorem dX1_rest_110 : decode cX1_rest 110 = .ok (.istore 18, 2) := by decide +kernel
theorem dX1_rest_112 : decode cX1_rest 112 = .ok (.iload 18, 2) := by decide +kernel
theorem dX1_rest_114 : decode cX1_rest 114 = .ok (.iload 10, 2) := by decide +kernel
theorem dX1_rest_116 : decode cX1_rest 116 = .ok (.if_icmp .ge 52, 3) := by decide +kernel
theorem dX1_rest_119 : decode cX1_rest 119 = .ok (.lload 16, 2) := by decide +kernel
theorem dX1_rest_121 : decode cX1_rest 121 = .ok (.iconst 1, 1) := by decide +kernel
theorem dX1_rest_122 : decode cX1_rest 122 = .ok (.lshl, 1) := by decide +kernel
theorem dX1_rest_123 : decode cX1_rest 123 = .ok (.lstore 16, 2) := by decide +kernel
theorem dX1_rest_125 : decode cX1_rest 125 = .ok (.lload 14, 2) := by decide +kernel
theorem dX1_rest_127 : decode cX1_rest 127 = .ok (.ldc2_w 65, 3) := by decide +kernel
theorem dX1_rest_130 : decode cX1_rest 130 = .ok (.lmul, 1) := by decide +kernel
theorem dX1_rest_131 : decode cX1_rest 131 = .ok (.ldc2_w 100, 3) := by decide +kernel
theorem dX1_rest_134 : decode cX1_rest 134 = .ok (.lrem, 1) := by decide +kernel
theorem dX1_rest_135 : decode cX1_rest 135 = .ok (.lstore 14, 2) := by decide +kernel
theorem dX1_rest_137 : decode cX1_rest 137 = .ok (.lload 16, 2) := by decide +kernel
theorem dX1_rest_139 : decode cX1_rest 139 = .ok (.lload 12, 2) := by decide +kernel
theorem dX1_rest_141 : decode cX1_rest 141 = .ok (.lcmp, 1) := by decide +kernel
theorem dX1_rest_142 : decode cX1_rest 142 = .ok (.ifCond .lt 20, 3) := by decide +kernel
theorem dX1_rest_145 : decode cX1_rest 145 = .ok (.lload 16, 2) := by decide +kernel
theorem dX1_rest_147 : decode cX1_rest 147 = .ok (.lload 12, 2) := by decide +kernel
theorem dX1_rest_149 : decode cX1_rest 149 = .ok (.lsub, 1) := by decide +kernel
theorem dX1_rest_150 : decode cX1_rest 150 = .ok (.lstore 16, 2) := by decide +kernel
theorem dX1_rest_152 : decode cX1_rest 152 = .ok (.lload 14, 2) := by decide +kernel
theorem dX1_rest_154 : decode cX1_rest 154 = .ok (.lconst 1, 1) := by decide +kernel
theorem dX1_rest_155 : decode cX1_rest 155 = .ok (.ladd, 1) := by decide +kernel
theorem dX1_rest_156 : decode cX1_rest 156 = .ok (.ldc2_w 100, 3) := by decide +kernel
theorem dX1_rest_159 : decode cX1_rest 159 = .ok (.lrem, 1) := by decide +kernel
theorem dX1_rest_160 : decode cX1_rest 160 = .ok (.lstore 14, 2) := by decide +kernel
theorem dX1_rest_162 : decode cX1_rest 162 = .ok (.iinc 18 1, 3) := by decide +kernel
theorem dX1_rest_165 : decode cX1_rest 165 = .ok (.goto (-53), 3) := by decide +kernel
theorem dX1_rest_168 : decode cX1_rest 168 = .ok (.iload 5, 2) := by decide +kernel
theorem dX1_rest_170 : decode cX1_rest 170 = .ok (.ifCond .eq 40, 3) := by decide +kernel
theorem dX1_rest_173 : decode cX1_rest 173 = .ok (.lload 16, 2) := by decide +kernel
theorem dX1_rest_175 : decode cX1_rest 175 = .ok (.lload 12, 2) := by decide +kernel
theorem dX1_rest_177 : decode cX1_rest 177 = .ok (.lload 16, 2) := by decide +kernel
theorem dX1_rest_179 : decode cX1_rest 179 = .ok (.lsub, 1) := by decide +kernel
theorem dX1_rest_180 : decode cX1_rest 180 = .ok (.lcmp, 1) := by decide +kernel
theorem dX1_rest_181 : decode cX1_rest 181 = .ok (.ifCond .gt 25, 3) := by decide +kernel
theorem dX1_rest_184 : decode cX1_rest 184 = .ok (.lload 16, 2) := by decide +kernel
theorem dX1_rest_186 : decode cX1_rest 186 = .ok (.lload 12, 2) := by decide +kernel
theorem dX1_rest_188 : decode cX1_rest 188 = .ok (.lload 16, 2) := by decide +kernel
theorem dX1_rest_190 : decode cX1_rest 190 = .ok (.lsub, 1) := by decide +kernel
theorem dX1_rest_191 : decode cX1_rest 191 = .ok (.lcmp, 1) := by decide +kernel
theorem dX1_rest_192 : decode cX1_rest 192 = .ok (.ifCond .ne 18, 3) := by decide +kernel
theorem dX1_rest_195 : decode cX1_rest 195 = .ok (.lload 14, 2) := by decide +kernel
theorem dX1_rest_197 : decode cX1_rest 197 = .ok (.ldc2_w 65, 3) := by decide +kernel
theorem dX1_rest_200 : decode cX1_rest 200 = .ok (.lrem, 1) := by decide +kernel
theorem dX1_rest_201 : decode cX1_rest 201 = .ok (.lconst 1, 1) := by decide +kernel
theorem dX1_rest_202 : decode cX1_rest 202 = .ok (.lcmp, 1) := by decide +kernel
theorem dX1_rest_203 : decode cX1_rest 203 = .ok (.ifCond .ne 7, 3) := by decide +kernel
theorem dX1_rest_206 : decode cX1_rest 206 = .ok (.iconst 1, 1) := by decide +kernel
theorem dX1_rest_207 : decode cX1_rest 207 = .ok (.goto 4, 3) := by decide +kernel
theorem dX1_rest_210 : decode cX1_rest 210 = .ok (.iconst 0, 1) := by decide +kernel
theorem dX1_rest_211 : decode cX1_rest 211 = .ok (.istore 18, 2) := by decide +kernel
theorem dX1_rest_213 : decode cX1_rest 213 = .ok (.aload_n 0, 1) := by decide +kernel
theorem dX1_rest_214 : decode cX1_rest 214 = .ok (.iload 18, 2) := by decide +kernel
theorem dX1_rest_216 : decode cX1_rest 216 = .ok (.ifCond .eq 14, 3) := by decide +kernel
theorem dX1_rest_219 : decode cX1_rest 219 = .ok (.lload 14, 2) := by decide +kernel
theorem dX1_rest_221 : decode cX1_rest 221 = .ok (.lconst 1, 1) := by decide +kernel
theorem dX1_rest_222 : decode cX1_rest 222 = .ok (.ladd, 1) := by decide +kernel
theorem dX1_rest_223 : decode cX1_rest 223 = .ok (.ldc2_w 100, 3) := by decide +kernel
theorem dX1_rest_226 : decode cX1_rest 226 = .ok (.lrem, 1) := by decide +kernel
theorem dX1_rest_227 : decode cX1_rest 227 = .ok (.goto 5, 3) := by decide +kernel
theorem dX1_rest_230 : decode cX1_rest 230 = .ok (.lload 14, 2) := by decide +kernel
theorem dX1_rest_232 : decode cX1_rest 232 = .ok (.l2i, 1) := by decide +kernel
theorem dX1_rest_233 : decode cX1_rest 233 = .ok (.putfield 97, 3) := by decide +kernel
theorem dX1_rest_236 : decode cX1_rest 236 = .ok (.iload 18, 2) := by decide +kernel
theorem dX1_rest_238 : decode cX1_rest 238 = .ok (.ifCond .eq 11, 3) := by decide +kernel
theorem dX1_rest_241 : decode cX1_rest 241 = .ok (.lload 12, 2) := by decide +kernel
theorem dX1_rest_243 : decode cX1_rest 243 = .ok (.lload 16, 2) := by decide +kernel
theorem dX1_rest_245 : decode cX1_rest 245 = .ok (.lsub, 1) := by decide +kernel
theorem dX1_rest_246 : decode cX1_rest 246 = .ok (.goto 5, 3) := by decide +kernel
theorem dX1_rest_249 : decode cX1_rest 249 = .ok (.lload 16, 2) := by decide +kernel
theorem dX1_rest_251 : decode cX1_rest 251 = .ok (.lstore 19, 2) := by decide +kernel
theorem dX1_rest_253 : decode cX1_rest 253 = .ok (.lload 19, 2) := by decide +kernel
theorem dX1_rest_255 : decode cX1_rest 255 = .ok (.iload 11, 2) := by decide +kernel
theorem dX1_rest_257 : decode cX1_rest 257 = .ok (.invokestatic 67, 3) := by decide +kernel
theorem dX1_rest_260 : decode cX1_rest 260 = .ok (.lload 19, 2) := by decide +kernel
theorem dX1_rest_262 : decode cX1_rest 262 = .ok (.lconst 0, 1) := by decide +kernel
theorem dX1_rest_263 : decode cX1_rest 263 = .ok (.lcmp, 1) := by decide +kernel
theorem dX1_rest_264 : decode cX1_rest 264 = .ok (.ifCond .ne 10, 3) := by decide +kernel
theorem dX1_rest_267 : decode cX1_rest 267 = .ok (.lload_n 1, 1) := by decide +kernel
theorem dX1_rest_268 : decode cX1_rest 268 = .ok (.invokestatic 80, 3) := by decide +kernel
theorem dX1_rest_271 : decode cX1_rest 271 = .ok (.goto 17, 3) := by decide +kernel
theorem dX1_rest_274 : decode cX1_rest 274 = .ok (.lload_n 1, 1) := by decide +kernel
theorem dX1_rest_275 : decode cX1_rest 275 = .ok (.invokestatic 80, 3) := by decide +kernel
theorem dX1_rest_278 : decode cX1_rest 278 = .ok (.iload 18, 2) := by decide +kernel
theorem dX1_rest_280 : decode cX1_rest 280 = .ok (.if_icmp .eq 7, 3) := by decide +kernel
theorem dX1_rest_283 : decode cX1_rest 283 = .ok (.iconst 1, 1) := by decide +kernel
theorem dX1_rest_284 : decode cX1_rest 284 = .ok (.goto 4, 3) := by decide +kernel
theorem dX1_rest_287 : decode cX1_rest 287 = .ok (.iconst 0, 1) := by decide +kernel
theorem dX1_rest_288 : decode cX1_rest 288 = .ok (.invokestatic 93, 3) := by decide +kernel
theorem dX1_rest_291 : decode cX1_rest 291 = .ok (.lreturn, 1) := by decide +kernel
set_option maxRecDepth 20000 in
theorem ggX1_rest_X1_number : GoodIn wsX1_rest wsX1_number := goodIn_r _ [4, 5, 6, 7, 3, 8, 9, 10] (by decide +kernel) (by decide +kernel)
set_option maxRecDepth 20000 in
theorem gX1_rest_X1_number : GoodIn wsX1_rest (va_wsS RX1 48 yX1_number wsX1_number) := goodIn_app (goodIn_of _ (by decide +kernel)) ggX1_rest_X1_number
set_option maxRecDepth 20000 in
theorem ggX1_rest_X1_power : GoodIn wsX1_rest wsX1_power := goodIn_r _ [13, 6, 7, 3, 8, 9] (by decide +kernel) (by decide +kernel)
set_option maxRecDepth 20000 in
theorem gX1_rest_X1_power : GoodIn wsX1_rest (va_wsS RX1 51 yX1_power wsX1_power) := goodIn_app (goodIn_of _ (by decide +kernel)) ggX1_rest_X1_power
set_option maxRecDepth 20000 in
theorem ggX1_rest_X1_exact : GoodIn wsX1_rest wsX1_exact := goodIn_r _ [19, 20, 10] (by decide +kernel) (by decide +kernel)
set_option maxRecDepth 20000 in
theorem gX1_rest_X1_exact : GoodIn wsX1_rest (va_wsS RX1 67 yX1_exact wsX1_exact) := goodIn_app (goodIn_of _ (by decide +kernel)) ggX1_rest_X1_exact
set_option maxRecDepth 20000 in
theorem ggX1_rest_X1_negative : GoodIn wsX1_rest wsX1_negative := goodIn_r _ [23] (by decide +kernel) (by decide +kernel)
set_option maxRecDepth 20000 in
theorem gX1_rest_X1_negative : GoodIn wsX1_rest (va_wsS RX1 80 yX1_negative wsX1_negative) := goodIn_app (goodIn_of _ (by decide +kernel)) ggX1_rest_X1_negative
set_option maxRecDepth 20000 in
theorem ggX1_rest_X1_signed : GoodIn wsX1_rest wsX1_signed := goodIn_r _ [26, 27] (by decide +kernel) (by decide +kernel)
set_option maxRecDepth 20000 in
theorem gX1_rest_X1_signed : GoodIn wsX1_rest (va_wsS RX1 93 yX1_signed wsX1_signed) := goodIn_app (goodIn_of _ (by decide +kernel)) ggX1_rest_X1_signed
theorem dX1_left_0 : decode cX1_left 0 = .ok (.iload_n 1, 1) := by decide +kernel
theorem dX1_left_1 : decode cX1_left 1 = .ok (.invokestatic 29, 3) := by decide +kernel
theorem dX1_left_4 : decode cX1_left 4 = .ok (.ifCond .eq 17, 3) := by decide +kernel
theorem dX1_left_7 : decode cX1_left 7 = .ok (.iload_n 2, 1) := by decide +kernel
theorem dX1_left_8 : decode cX1_left 8 = .ok (.invokestatic 29, 3) := by decide +kernel
theorem dX1_left_11 : decode cX1_left 11 = .ok (.ifCond .eq 10, 3) := by decide +kernel
theorem dX1_left_14 : decode cX1_left 14 = .ok (.iload_n 3, 1) := by decide +kernel
theorem dX1_left_15 : decode cX1_left 15 = .ok (.invokestatic 29, 3) := by decide +kernel
theorem dX1_left_18 : decode cX1_left 18 = .ok (.ifCond .ne 5, 3) := by decide +kernel
theorem dX1_left_21 : decode cX1_left 21 = .ok (.iconst 0, 1) := by decide +kernel
theorem dX1_left_22 : decode cX1_left 22 = .ok (.ireturn, 1) := by decide +kernel
theorem dX1_left_23 : decode cX1_left 23 = .ok (.aload_n 0, 1) := by decide +kernel
theorem dX1_left_24 : decode cX1_left 24 = .ok (.getfield 7, 3) := by decide +kernel
theorem dX1_left_27 : decode cX1_left 27 = .ok (.iload_n 2, 1) := by decide +kernel
theorem dX1_left_28 : decode cX1_left 28 = .ok (.laload, 1) := by decide +kernel
theorem dX1_left_29 : decode cX1_left 29 = .ok (.lstore 5, 2) := by decide +kernel
theorem dX1_left_31 : decode cX1_left 31 = .ok (.aload_n 0, 1) := by decide +kernel
theorem dX1_left_32 : decode cX1_left 32 = .ok (.getfield 7, 3) := by decide +kernel
theorem dX1_left_35 : decode cX1_left 35 = .ok (.iload_n 3, 1) := by decide +kernel
theorem dX1_left_36 : decode cX1_left 36 = .ok (.laload, 1) := by decide +kernel
theorem dX1_left_37 : decode cX1_left 37 = .ok (.lstore 7, 2) := by decide +kernel
theorem dX1_left_39 : decode cX1_left 39 = .ok (.aload_n 0, 1) := by decide +kernel
theorem dX1_left_40 : decode cX1_left 40 = .ok (.iconst 0, 1) := by decide +kernel
theorem dX1_left_41 : decode cX1_left 41 = .ok (.putfield 97, 3) := by decide +kernel
theorem dX1_left_44 : decode cX1_left 44 = .ok (.lload 5, 2) := by decide +kernel
theorem dX1_left_46 : decode cX1_left 46 = .ok (.invokestatic 71, 3) := by decide +kernel
theorem dX1_left_49 : decode cX1_left 49 = .ok (.ifCond .ne 11, 3) := by decide +kernel
theorem dX1_left_52 : decode cX1_left 52 = .ok (.lload 7, 2) := by decide +kernel
theorem dX1_left_54 : decode cX1_left 54 = .ok (.invokestatic 71, 3) := by decide +kernel
theorem dX1_left_57 : decode cX1_left 57 = .ok (.ifCond .eq 15, 3) := by decide +kernel
theorem dX1_left_60 : decode cX1_left 60 = .ok (.aload_n 0, 1) := by decide +kernel
theorem dX1_left_61 : decode cX1_left 61 = .ok (.getfield 7, 3) := by decide +kernel
theorem dX1_left_64 : decode cX1_left 64 = .ok (.iload_n 1, 1) := by decide +kernel
theorem dX1_left_65 : decode cX1_left 65 = .ok (.ldc2_w 75, 3) := by decide +kernel
theorem dX1_left_68 : decode cX1_left 68 = .ok (.lastore, 1) := by decide +kernel
theorem dX1_left_69 : decode cX1_left 69 = .ok (.goto 84, 3) := by decide +kernel
theorem dX1_left_72 : decode cX1_left 72 = .ok (.lload 5, 2) := by decide +kernel
theorem dX1_left_74 : decode cX1_left 74 = .ok (.invokestatic 86, 3) := by decide +kernel
theorem dX1_left_77 : decode cX1_left 77 = .ok (.ifCond .ne 11, 3) := by decide +kernel
theorem dX1_left_80 : decode cX1_left 80 = .ok (.lload 7, 2) := by decide +kernel
theorem dX1_left_82 : decode cX1_left 82 = .ok (.invokestatic 77, 3) := by decide +kernel
theorem dX1_left_85 : decode cX1_left 85 = .ok (.ifCond .eq 25, 3) := by decide +kernel
theorem dX1_left_88 : decode cX1_left 88 = .ok (.aload_n 0, 1) := by decide +kernel
theorem dX1_left_89 : decode cX1_left 89 = .ok (.getfield 7, 3) := by decide +kernel
theorem dX1_left_92 : decode cX1_left 92 = .ok (.iload_n 1, 1) := by decide +kernel
theorem dX1_left_93 : decode cX1_left 93 = .ok (.ldc2_w 75, 3) := by decide +kernel
theorem dX1_left_96 : decode cX1_left 96 = .ok (.lastore, 1) := by decide +kernel
theorem dX1_left_97 : decode cX1_left 97 = .ok (.aload_n 0, 1) := by decide +kernel
theorem dX1_left_98 : decode cX1_left 98 = .ok (.aload_n 0, 1) := by decide +kernel
theorem dX1_left_99 : decode cX1_left 99 = .ok (.getfield 61, 3) := by decide +kernel
theorem dX1_left_102 : decode cX1_left 102 = .ok (.iconst 1, 1) := by decide +kernel
theorem dX1_left_103 : decode cX1_left 103 = .ok (.ior, 1) := by decide +kernel
theorem dX1_left_104 : decode cX1_left 104 = .ok (.putfield 61, 3) := by decide +kernel
theorem dX1_left_107 : decode cX1_left 107 = .ok (.goto 46, 3) := by decide +kernel
theorem dX1_left_110 : decode cX1_left 110 = .ok (.lload 7, 2) := by decide +kernel
theorem dX1_left_112 : decode cX1_left 112 = .ok (.invokestatic 86, 3) := by decide +kernel
theorem dX1_left_115 : decode cX1_left 115 = .ok (.ifCond .ne 11, 3) := by decide +kernel
theorem dX1_left_118 : decode cX1_left 118 = .ok (.lload 5, 2) := by decide +kernel
theorem dX1_left_120 : decode cX1_left 120 = .ok (.invokestatic 77, 3) := by decide +kernel
theorem dX1_left_123 : decode cX1_left 123 = .ok (.ifCond .eq 14, 3) := by decide +kernel
theorem dX1_left_126 : decode cX1_left 126 = .ok (.aload_n 0, 1) := by decide +kernel
theorem dX1_left_127 : decode cX1_left 127 = .ok (.getfield 7, 3) := by decide +kernel
theorem dX1_left_130 : decode cX1_left 130 = .ok (.iload_n 1, 1) := by decide +kernel
theorem dX1_left_131 : decode cX1_left 131 = .ok (.lload 5, 2) := by decide +kernel
theorem dX1_left_133 : decode cX1_left 133 = .ok (.lastore, 1) := by decide +kernel
theorem dX1_left_134 : decode cX1_left 134 = .ok (.goto 19, 3) := by decide +kernel
theorem dX1_left_137 : decode cX1_left 137 = .ok (.aload_n 0, 1) := by decide +kernel
theorem dX1_left_138 : decode cX1_left 138 = .ok (.getfield 7, 3) := by decide +kernel
theorem dX1_left_141 : decode cX1_left 141 = .ok (.iload_n 1, 1) := by decide +kernel
theorem dX1_left_142 : decode cX1_left 142 = .ok (.aload_n 0, 1) := by decide +kernel
theorem dX1_left_143 : decode cX1_left 143 = .ok (.lload 5, 2) := by decide +kernel
theorem dX1_left_145 : decode cX1_left 145 = .ok (.lload 7, 2) := by decide +kernel
theorem dX1_left_147 : decode cX1_left 147 = .ok (.iload 4, 2) := by decide +kernel
theorem dX1_left_149 : decode cX1_left 149 = .ok (.invokevirtual 102, 3) := by decide +kernel
theorem dX1_left_152 : decode cX1_left 152 = .ok (.lastore, 1) := by decide +kernel
theorem dX1_left_153 : decode cX1_left 153 = .ok (.iconst 1, 1) := by decide +kernel
theorem dX1_left_154 : decode cX1_left 154 = .ok (.ireturn, 1) := by decide +kernel
set_option maxRecDepth 20000 in
theorem ggX1_left_X1_isRegister : GoodIn wsX1_left wsX1_isRegister := goodIn_r _ [4] (by decide +kernel) (by decide +kernel)
set_option maxRecDepth 20000 in
theorem gX1_left_X1_isRegister : GoodIn wsX1_left (va_wsS RX1 29 yX1_isRegister wsX1_isRegister) := goodIn_app (goodIn_of _ (by decide +kernel)) ggX1_left_X1_isRegister
set_option maxRecDepth 20000 in
theorem ggX1_left_X1_isNan : GoodIn wsX1_left wsX1_isNan := goodIn_r _ [9, 10, 11, 3, 12, 13, 14] (by decide +kernel) (by decide +kernel)
set_option maxRecDepth 20000 in
theorem gX1_left_X1_isNan : GoodIn wsX1_left (va_wsS RX1 71 yX1_isNan wsX1_isNan) := goodIn_app (goodIn_of _ (by decide +kernel)) ggX1_left_X1_isNan
set_option maxRecDepth 20000 in
theorem ggX1_left_X1_isInfinite : GoodIn wsX1_left wsX1_isInfinite := goodIn_r _ [18, 10, 11, 3, 12, 13, 14] (by decide +kernel) (by decide +kernel)
set_option maxRecDepth 20000 in
theorem gX1_left_X1_isInfinite : GoodIn wsX1_left (va_wsS RX1 86 yX1_isInfinite wsX1_isInfinite) := goodIn_app (goodIn_of _ (by decide +kernel)) ggX1_left_X1_isInfinite
set_option maxRecDepth 20000 in
theorem ggX1_left_X1_isZero : GoodIn wsX1_left wsX1_isZero := goodIn_r _ [21, 10, 11, 3, 12, 13] (by decide +kernel) (by decide +kernel)
set_option maxRecDepth 20000 in
theorem gX1_left_X1_isZero : GoodIn wsX1_left (va_wsS RX1 77 yX1_isZero wsX1_isZero) := goodIn_app (goodIn_of _ (by decide +kernel)) ggX1_left_X1_isZero
set_option maxRecDepth 20000 in
theorem ggX1_left_X1_rest : GoodIn wsX1_left wsX1_rest := goodIn_r _ [26, 27, 28, 3, 29, 30, 10, 11, 12, 13, 31, 32, 33, 34, 6, 35, 36, 37, 38, 39, 40, 41, 42, 43, 44, 45, 46, 47, 48, 49, 50, 51, 52] (by decide +kernel) (by decide +kernel)
set_option maxRecDepth 20000 in
theorem gX1_left_X1_rest : GoodIn wsX1_left (wsV RX1 102 RX1 yX1_rest wsX1_rest) := goodIn_app (goodIn_of _ (by decide +kernel)) ggX1_left_X1_rest
theorem dX1_quotient_0 : decode cX1_quotient 0 = .ok (.aload_n 0, 1) := by decide +kernel
theorem dX1_quotient_1 : decode cX1_quotient 1 = .ok (.getfield 97, 3) := by decide +kernel
theorem dX1_quotient_4 : decode cX1_quotient 4 = .ok (.ireturn, 1) := by decide +kernel
theorem dX1_place_0 : decode cX1_place 0 = .ok (.lload_n 0, 1) := by decide +kernel
theorem dX1_place_1 : decode cX1_place 1 = .ok (.invokestatic 80, 3) := by decide +kernel
theorem dX1_place_4 : decode cX1_place 4 = .ok (.ifCond .eq 11, 3) := by decide +kernel
theorem dX1_place_7 : decode cX1_place 7 = .ok (.lload_n 0, 1) := by decide +kernel
theorem dX1_place_8 : decode cX1_place 8 = .ok (.invokestatic 17, 3) := by decide +kernel
theorem dX1_place_11 : decode cX1_place 11 = .ok (.lneg, 1) := by decide +kernel
theorem dX1_place_12 : decode cX1_place 12 = .ok (.goto 4, 3) := by decide +kernel
theorem dX1_place_15 : decode cX1_place 15 = .ok (.lload_n 0, 1) := by decide +kernel
theorem dX1_place_16 : decode cX1_place 16 = .ok (.lreturn, 1) := by decide +kernel
set_option maxRecDepth 20000 in
theorem ggX1_place_X1_negative : GoodIn wsX1_place wsX1_negative := goodIn_r _ [4] (by decide +kernel) (by decide +kernel)
set_option maxRecDepth 20000 in
theorem gX1_place_X1_negative : GoodIn wsX1_place (va_wsS RX1 80 yX1_negative wsX1_negative) := goodIn_app (goodIn_of _ (by decide +kernel)) ggX1_place_X1_negative
set_option maxRecDepth 20000 in
theorem ggX1_place_X1_plain : GoodIn wsX1_place wsX1_plain := goodIn_r _ [7, 8] (by decide +kernel) (by decide +kernel)
set_option maxRecDepth 20000 in
theorem gX1_place_X1_plain : GoodIn wsX1_place (va_wsS RX1 17 yX1_plain wsX1_plain) := goodIn_app (goodIn_of _ (by decide +kernel)) ggX1_place_X1_plain
theorem dX1_neighbour_0 : decode cX1_neighbour 0 = .ok (.iload_n 1, 1) := by decide +kernel
theorem dX1_neighbour_1 : decode cX1_neighbour 1 = .ok (.invokestatic 29, 3) := by decide +kernel
theorem dX1_neighbour_4 : decode cX1_neighbour 4 = .ok (.ifCond .eq 17, 3) := by decide +kernel
theorem dX1_neighbour_7 : decode cX1_neighbour 7 = .ok (.iload_n 2, 1) := by decide +kernel
theorem dX1_neighbour_8 : decode cX1_neighbour 8 = .ok (.invokestatic 29, 3) := by decide +kernel
theorem dX1_neighbour_11 : decode cX1_neighbour 11 = .ok (.ifCond .eq 10, 3) := by decide +kernel
theorem dX1_neighbour_14 : decode cX1_neighbour 14 = .ok (.iload_n 3, 1) := by decide +kernel
theorem dX1_neighbour_15 : decode cX1_neighbour 15 = .ok (.invokestatic 29, 3) := by decide +kernel
theorem dX1_neighbour_18 : decode cX1_neighbour 18 = .ok (.ifCond .ne 5, 3) := by decide +kernel
theorem dX1_neighbour_21 : decode cX1_neighbour 21 = .ok (.iconst 0, 1) := by decide +kernel
theorem dX1_neighbour_22 : decode cX1_neighbour 22 = .ok (.ireturn, 1) := by decide +kernel
theorem dX1_neighbour_23 : decode cX1_neighbour 23 = .ok (.aload_n 0, 1) := by decide +kernel
theorem dX1_neighbour_24 : decode cX1_neighbour 24 = .ok (.getfield 7, 3) := by decide +kernel
theorem dX1_neighbour_27 : decode cX1_neighbour 27 = .ok (.iload_n 2, 1) := by decide +kernel
theorem dX1_neighbour_28 : decode cX1_neighbour 28 = .ok (.laload, 1) := by decide +kernel
theorem dX1_neighbour_29 : decode cX1_neighbour 29 = .ok (.lstore 4, 2) := by decide +kernel
theorem dX1_neighbour_31 : decode cX1_neighbour 31 = .ok (.aload_n 0, 1) := by decide +kernel
theorem dX1_neighbour_32 : decode cX1_neighbour 32 = .ok (.getfield 7, 3) := by decide +kernel
theorem dX1_neighbour_35 : decode cX1_neighbour 35 = .ok (.iload_n 3, 1) := by decide +kernel
theorem dX1_neighbour_36 : decode cX1_neighbour 36 = .ok (.laload, 1) := by decide +kernel
theorem dX1_neighbour_37 : decode cX1_neighbour 37 = .ok (.lstore 6, 2) := by decide +kernel
theorem dX1_neighbour_39 : decode cX1_neighbour 39 = .ok (.lload 4, 2) := by decide +kernel
theorem dX1_neighbour_41 : decode cX1_neighbour 41 = .ok (.invokestatic 71, 3) := by decide +kernel
theorem dX1_neighbour_44 : decode cX1_neighbour 44 = .ok (.ifCond .ne 11, 3) := by decide +kernel
theorem dX1_neighbour_47 : decode cX1_neighbour 47 = .ok (.lload 6, 2) := by decide +kernel
theorem dX1_neighbour_49 : decode cX1_neighbour 49 = .ok (.invokestatic 71, 3) := by decide +kernel
theorem dX1_neighbour_52 : decode cX1_neighbour 52 = .ok (.ifCond .eq 14, 3) := by decide +kernel
theorem dX1_neighbour_55 : decode cX1_neighbour 55 = .ok (.aload_n 0, 1) := by decide +kernel
theorem dX1_neighbour_56 : decode cX1_neighbour 56 = .ok (.getfield 7, 3) := by decide +kernel
theorem dX1_neighbour_59 : decode cX1_neighbour 59 = .ok (.iload_n 1, 1) := by decide +kernel
theorem dX1_neighbour_60 : decode cX1_neighbour 60 = .ok (.ldc2_w 75, 3) := by decide +kernel
theorem dX1_neighbour_63 : decode cX1_neighbour 63 = .ok (.lastore, 1) := by decide +kernel
theorem dX1_neighbour_64 : decode cX1_neighbour 64 = .ok (.iconst 1, 1) := by decide +kernel
theorem dX1_neighbour_65 : decode cX1_neighbour 65 = .ok (.ireturn, 1) := by decide +kernel
theorem dX1_neighbour_66 : decode cX1_neighbour 66 = .ok (.lload 4, 2) := by decide +kernel
theorem dX1_neighbour_68 : decode cX1_neighbour 68 = .ok (.invokestatic 106, 3) := by decide +kernel
theorem dX1_neighbour_71 : decode cX1_neighbour 71 = .ok (.lstore 8, 2) := by decide +kernel
theorem dX1_neighbour_73 : decode cX1_neighbour 73 = .ok (.lload 6, 2) := by decide +kernel
theorem dX1_neighbour_75 : decode cX1_neighbour 75 = .ok (.invokestatic 106, 3) := by decide +kernel
theorem dX1_neighbour_78 : decode cX1_neighbour 78 = .ok (.lstore 10, 2) := by decide +kernel
theorem dX1_neighbour_80 : decode cX1_neighbour 80 = .ok (.lload 8, 2) := by decide +kernel
theorem dX1_neighbour_82 : decode cX1_neighbour 82 = .ok (.lload 10, 2) := by decide +kernel
theorem dX1_neighbour_84 : decode cX1_neighbour 84 = .ok (.lcmp, 1) := by decide +kernel
theorem dX1_neighbour_85 : decode cX1_neighbour 85 = .ok (.ifCond .ne 13, 3) := by decide +kernel
theorem dX1_neighbour_88 : decode cX1_neighbour 88 = .ok (.aload_n 0, 1) := by decide +kernel
theorem dX1_neighbour_89 : decode cX1_neighbour 89 = .ok (.getfield 7, 3) := by decide +kernel
theorem dX1_neighbour_92 : decode cX1_neighbour 92 = .ok (.iload_n 1, 1) := by decide +kernel
theorem dX1_neighbour_93 : decode cX1_neighbour 93 = .ok (.lload 4, 2) := by decide +kernel
theorem dX1_neighbour_95 : decode cX1_neighbour 95 = .ok (.lastore, 1) := by decide +kernel
theorem dX1_neighbour_96 : decode cX1_neighbour 96 = .ok (.iconst 1, 1) := by decide +kernel
theorem dX1_neighbour_97 : decode cX1_neighbour 97 = .ok (.ireturn, 1) := by decide +kernel
theorem dX1_neighbour_98 : decode cX1_neighbour 98 = .ok (.lload 8, 2) := by decide +kernel
theorem dX1_neighbour_100 : decode cX1_neighbour 100 = .ok (.lload 10, 2) := by decide +kernel
theorem dX1_neighbour_102 : decode cX1_neighbour 102 = .ok (.lcmp, 1) := by decide +kernel
theorem dX1_neighbour_103 : decode cX1_neighbour 103 = .ok (.ifCond .ge 10, 3) := by decide +kernel
theorem dX1_neighbour_106 : decode cX1_neighbour 106 = .ok (.lload 8, 2) := by decide +kernel
theorem dX1_neighbour_108 : decode cX1_neighbour 108 = .ok (.lconst 1, 1) := by decide +kernel
theorem dX1_neighbour_109 : decode cX1_neighbour 109 = .ok (.ladd, 1) := by decide +kernel
theorem dX1_neighbour_110 : decode cX1_neighbour 110 = .ok (.goto 7, 3) := by decide +kernel
theorem dX1_neighbour_113 : decode cX1_neighbour 113 = .ok (.lload 8, 2) := by decide +kernel
theorem dX1_neighbour_115 : decode cX1_neighbour 115 = .ok (.lconst 1, 1) := by decide +kernel
theorem dX1_neighbour_116 : decode cX1_neighbour 116 = .ok (.lsub, 1) := by decide +kernel
theorem dX1_neighbour_117 : decode cX1_neighbour 117 = .ok (.lstore 12, 2) := by decide +kernel
theorem dX1_neighbour_119 : decode cX1_neighbour 119 = .ok (.aload_n 0, 1) := by decide +kernel
theorem dX1_neighbour_120 : decode cX1_neighbour 120 = .ok (.getfield 7, 3) := by decide +kernel
theorem dX1_neighbour_123 : decode cX1_neighbour 123 = .ok (.iload_n 1, 1) := by decide +kernel
theorem dX1_neighbour_124 : decode cX1_neighbour 124 = .ok (.lload 12, 2) := by decide +kernel
theorem dX1_neighbour_126 : decode cX1_neighbour 126 = .ok (.lconst 0, 1) := by decide +kernel
theorem dX1_neighbour_127 : decode cX1_neighbour 127 = .ok (.lcmp, 1) := by decide +kernel
theorem dX1_neighbour_128 : decode cX1_neighbour 128 = .ok (.ifCond .ne 15, 3) := by decide +kernel
theorem dX1_neighbour_131 : decode cX1_neighbour 131 = .ok (.lconst 0, 1) := by decide +kernel
theorem dX1_neighbour_132 : decode cX1_neighbour 132 = .ok (.lload 4, 2) := by decide +kernel
theorem dX1_neighbour_134 : decode cX1_neighbour 134 = .ok (.invokestatic 80, 3) := by decide +kernel
theorem dX1_neighbour_137 : decode cX1_neighbour 137 = .ok (.invokestatic 93, 3) := by decide +kernel
theorem dX1_neighbour_140 : decode cX1_neighbour 140 = .ok (.goto 22, 3) := by decide +kernel
theorem dX1_neighbour_143 : decode cX1_neighbour 143 = .ok (.lload 12, 2) := by decide +kernel
theorem dX1_neighbour_145 : decode cX1_neighbour 145 = .ok (.lconst 0, 1) := by decide +kernel
theorem dX1_neighbour_146 : decode cX1_neighbour 146 = .ok (.lcmp, 1) := by decide +kernel
theorem dX1_neighbour_147 : decode cX1_neighbour 147 = .ok (.ifCond .ge 13, 3) := by decide +kernel
theorem dX1_neighbour_150 : decode cX1_neighbour 150 = .ok (.lload 12, 2) := by decide +kernel
theorem dX1_neighbour_152 : decode cX1_neighbour 152 = .ok (.lneg, 1) := by decide +kernel
theorem dX1_neighbour_153 : decode cX1_neighbour 153 = .ok (.iconst 1, 1) := by decide +kernel
theorem dX1_neighbour_154 : decode cX1_neighbour 154 = .ok (.invokestatic 93, 3) := by decide +kernel
theorem dX1_neighbour_157 : decode cX1_neighbour 157 = .ok (.goto 5, 3) := by decide +kernel
theorem dX1_neighbour_160 : decode cX1_neighbour 160 = .ok (.lload 12, 2) := by decide +kernel
theorem dX1_neighbour_162 : decode cX1_neighbour 162 = .ok (.lastore, 1) := by decide +kernel
theorem dX1_neighbour_163 : decode cX1_neighbour 163 = .ok (.iconst 1, 1) := by decide +kernel
theorem dX1_neighbour_164 : decode cX1_neighbour 164 = .ok (.ireturn, 1) := by decide +kernel
set_option maxRecDepth 20000 in
theorem ggX1_neighbour_X1_isRegister : GoodIn wsX1_neighbour wsX1_isRegister := goodIn_r _ [4] (by decide +kernel) (by decide +kernel)
set_option maxRecDepth 20000 in
theorem gX1_neighbour_X1_isRegister : GoodIn wsX1_neighbour (va_wsS RX1 29 yX1_isRegister wsX1_isRegister) := goodIn_app (goodIn_of _ (by decide +kernel)) ggX1_neighbour_X1_isRegister
set_option maxRecDepth 20000 in
theorem ggX1_neighbour_X1_isNan : GoodIn wsX1_neighbour wsX1_isNan := goodIn_r _ [8, 9, 10, 3, 11, 12, 13] (by decide +kernel) (by decide +kernel)
set_option maxRecDepth 20000 in
theorem gX1_neighbour_X1_isNan : GoodIn wsX1_neighbour (va_wsS RX1 71 yX1_isNan wsX1_isNan) := goodIn_app (goodIn_of _ (by decide +kernel)) ggX1_neighbour_X1_isNan
set_option maxRecDepth 20000 in
theorem ggX1_neighbour_X1_place : GoodIn wsX1_neighbour wsX1_place := goodIn_r _ [17, 18, 19, 3, 20, 9, 10, 11, 12] (by decide +kernel) (by decide +kernel)
set_option maxRecDepth 20000 in
theorem gX1_neighbour_X1_place : GoodIn wsX1_neighbour (va_wsS RX1 106 yX1_place wsX1_place) := goodIn_app (goodIn_of _ (by decide +kernel)) ggX1_neighbour_X1_place
set_option maxRecDepth 20000 in
theorem ggX1_neighbour_X1_negative : GoodIn wsX1_neighbour wsX1_negative := goodIn_r _ [20] (by decide +kernel) (by decide +kernel)
set_option maxRecDepth 20000 in
theorem gX1_neighbour_X1_negative : GoodIn wsX1_neighbour (va_wsS RX1 80 yX1_negative wsX1_negative) := goodIn_app (goodIn_of _ (by decide +kernel)) ggX1_neighbour_X1_negative
set_option maxRecDepth 20000 in
theorem ggX1_neighbour_X1_signed : GoodIn wsX1_neighbour wsX1_signed := goodIn_r _ [23, 24] (by decide +kernel) (by decide +kernel)
set_option maxRecDepth 20000 in
theorem gX1_neighbour_X1_signed : GoodIn wsX1_neighbour (va_wsS RX1 93 yX1_signed wsX1_signed) := goodIn_app (goodIn_of _ (by decide +kernel)) ggX1_neighbour_X1_signed
theorem dX1_rounded_0 : decode cX1_rounded 0 = .ok (.lload_n 1, 1) := by decide +kernel
theorem dX1_rounded_1 : decode cX1_rounded 1 = .ok (.lstore 5, 2) := by decide +kernel
theorem dX1_rounded_3 : decode cX1_rounded 3 = .ok (.lload_n 3, 1) := by decide +kernel
theorem dX1_rounded_4 : decode cX1_rounded 4 = .ok (.lstore 7, 2) := by decide +kernel
theorem dX1_rounded_6 : decode cX1_rounded 6 = .ok (.iconst 0, 1) := by decide +kernel
theorem dX1_rounded_7 : decode cX1_rounded 7 = .ok (.istore 9, 2) := by decide +kernel
theorem dX1_rounded_9 : decode cX1_rounded 9 = .ok (.iload 9, 2) := by decide +kernel
theorem dX1_rounded_11 : decode cX1_rounded 11 = .ok (.bipush 60, 2) := by decide +kernel
theorem dX1_rounded_13 : decode cX1_rounded 13 = .ok (.if_icmp .ge 30, 3) := by decide +kernel
theorem dX1_rounded_16 : decode cX1_rounded 16 = .ok (.lload 5, 2) := by decide +kernel
theorem dX1_rounded_18 : decode cX1_rounded 18 = .ok (.ldc2_w 25, 3) := by decide +kernel
theorem dX1_rounded_21 : decode cX1_rounded 21 = .ok (.lcmp, 1) := by decide +kernel
theorem dX1_rounded_22 : decode cX1_rounded 22 = .ok (.ifCond .ge 21, 3) := by decide +kernel
theorem dX1_rounded_25 : decode cX1_rounded 25 = .ok (.lload 5, 2) := by decide +kernel
theorem dX1_rounded_27 : decode cX1_rounded 27 = .ok (.iconst 1, 1) := by decide +kernel
theorem dX1_rounded_28 : decode cX1_rounded 28 = .ok (.lshl, 1) := by decide +kernel
theorem dX1_rounded_29 : decode cX1_rounded 29 = .ok (.lstore 5, 2) := by decide +kernel
theorem dX1_rounded_31 : decode cX1_rounded 31 = .ok (.lload 7, 2) := by decide +kernel
theorem dX1_rounded_33 : decode cX1_rounded 33 = .ok (.lconst 1, 1) := by decide +kernel
theorem dX1_rounded_34 : decode cX1_rounded 34 = .ok (.lsub, 1) := by decide +kernel
theorem dX1_rounded_35 : decode cX1_rounded 35 = .ok (.lstore 7, 2) := by decide +kernel
theorem dX1_rounded_37 : decode cX1_rounded 37 = .ok (.iinc 9 1, 3) := by decide +kernel
theorem dX1_rounded_40 : decode cX1_rounded 40 = .ok (.goto (-31), 3) := by decide +kernel
theorem dX1_rounded_43 : decode cX1_rounded 43 = .ok (.lload 7, 2) := by decide +kernel
theorem dX1_rounded_45 : decode cX1_rounded 45 = .ok (.ldc2_w 109, 3) := by decide +kernel
theorem dX1_rounded_48 : decode cX1_rounded 48 = .ok (.lcmp, 1) := by decide +kernel
theorem dX1_rounded_49 : decode cX1_rounded 49 = .ok (.ifCond .le 18, 3) := by decide +kernel
theorem dX1_rounded_52 : decode cX1_rounded 52 = .ok (.aload_n 0, 1) := by decide +kernel
theorem dX1_rounded_53 : decode cX1_rounded 53 = .ok (.aload_n 0, 1) := by decide +kernel
theorem dX1_rounded_54 : decode cX1_rounded 54 = .ok (.getfield 61, 3) := by decide +kernel
theorem dX1_rounded_57 : decode cX1_rounded 57 = .ok (.bipush 6, 2) := by decide +kernel
theorem dX1_rounded_59 : decode cX1_rounded 59 = .ok (.ior, 1) := by decide +kernel
theorem dX1_rounded_60 : decode cX1_rounded 60 = .ok (.putfield 61, 3) := by decide +kernel
theorem dX1_rounded_63 : decode cX1_rounded 63 = .ok (.ldc2_w 21, 3) := by decide +kernel
theorem dX1_rounded_66 : decode cX1_rounded 66 = .ok (.lreturn, 1) := by decide +kernel
theorem dX1_rounded_67 : decode cX1_rounded 67 = .ok (.lload 7, 2) := by decide +kernel
theorem dX1_rounded_69 : decode cX1_rounded 69 = .ok (.ldc2_w 111, 3) := by decide +kernel
theorem dX1_rounded_72 : decode cX1_rounded 72 = .ok (.lcmp, 1) := by decide +kernel
theorem dX1_rounded_73 : decode cX1_rounded 73 = .ok (.ifCond .lt 12, 3) := by decide +kernel
theorem dX1_rounded_76 : decode cX1_rounded 76 = .ok (.lload 5, 2) := by decide +kernel
theorem dX1_rounded_78 : decode cX1_rounded 78 = .ok (.lload 7, 2) := by decide +kernel
theorem dX1_rounded_80 : decode cX1_rounded 80 = .ok (.l2i, 1) := by decide +kernel
theorem dX1_rounded_81 : decode cX1_rounded 81 = .ok (.invokestatic 67, 3) := by decide +kernel
theorem dX1_rounded_84 : decode cX1_rounded 84 = .ok (.lreturn, 1) := by decide +kernel
theorem dX1_rounded_85 : decode cX1_rounded 85 = .ok (.ldc2_w 111, 3) := by decide +kernel
theorem dX1_rounded_88 : decode cX1_rounded 88 = .ok (.lload 7, 2) := by decide +kernel
theorem dX1_rounded_90 : decode cX1_rounded 90 = .ok (.lsub, 1) := by decide +kernel
theorem dX1_rounded_91 : decode cX1_rounded 91 = .ok (.lstore 9, 2) := by decide +kernel
theorem dX1_rounded_93 : decode cX1_rounded 93 = .ok (.lload 9, 2) := by decide +kernel
theorem dX1_rounded_95 : decode cX1_rounded 95 = .ok (.ldc2_w 113, 3) := by decide +kernel
theorem dX1_rounded_98 : decode cX1_rounded 98 = .ok (.lcmp, 1) := by decide +kernel
theorem dX1_rounded_99 : decode cX1_rounded 99 = .ok (.ifCond .le 7, 3) := by decide +kernel
theorem dX1_rounded_102 : decode cX1_rounded 102 = .ok (.lconst 0, 1) := by decide +kernel
theorem dX1_rounded_103 : decode cX1_rounded 103 = .ok (.goto 13, 3) := by decide +kernel
theorem dX1_rounded_106 : decode cX1_rounded 106 = .ok (.lload 5, 2) := by decide +kernel
theorem dX1_rounded_108 : decode cX1_rounded 108 = .ok (.lload 9, 2) := by decide +kernel
theorem dX1_rounded_110 : decode cX1_rounded 110 = .ok (.l2i, 1) := by decide +kernel
theorem dX1_rounded_111 : decode cX1_rounded 111 = .ok (.iconst 1, 1) := by decide +kernel
theorem dX1_rounded_112 : decode cX1_rounded 112 = .ok (.iconst 0, 1) := by decide +kernel
theorem dX1_rounded_113 : decode cX1_rounded 113 = .ok (.invokestatic 89, 3) := by decide +kernel
theorem dX1_rounded_116 : decode cX1_rounded 116 = .ok (.lstore 11, 2) := by decide +kernel
theorem dX1_rounded_118 : decode cX1_rounded 118 = .ok (.lload 9, 2) := by decide +kernel
theorem dX1_rounded_120 : decode cX1_rounded 120 = .ok (.ldc2_w 113, 3) := by decide +kernel
theorem dX1_rounded_123 : decode cX1_rounded 123 = .ok (.lcmp, 1) := by decide +kernel
theorem dX1_rounded_124 : decode cX1_rounded 124 = .ok (.ifCond .gt 19, 3) := by decide +kernel
theorem dX1_rounded_127 : decode cX1_rounded 127 = .ok (.lload 11, 2) := by decide +kernel
theorem dX1_rounded_129 : decode cX1_rounded 129 = .ok (.lload 9, 2) := by decide +kernel
theorem dX1_rounded_131 : decode cX1_rounded 131 = .ok (.l2i, 1) := by decide +kernel
theorem dX1_rounded_132 : decode cX1_rounded 132 = .ok (.lshl, 1) := by decide +kernel
theorem dX1_rounded_133 : decode cX1_rounded 133 = .ok (.lload 5, 2) := by decide +kernel
theorem dX1_rounded_135 : decode cX1_rounded 135 = .ok (.lcmp, 1) := by decide +kernel
theorem dX1_rounded_136 : decode cX1_rounded 136 = .ok (.ifCond .ne 7, 3) := by decide +kernel
theorem dX1_rounded_139 : decode cX1_rounded 139 = .ok (.iconst 1, 1) := by decide +kernel
theorem dX1_rounded_140 : decode cX1_rounded 140 = .ok (.goto 4, 3) := by decide +kernel
theorem dX1_rounded_143 : decode cX1_rounded 143 = .ok (.iconst 0, 1) := by decide +kernel
theorem dX1_rounded_144 : decode cX1_rounded 144 = .ok (.istore 13, 2) := by decide +kernel
theorem dX1_rounded_146 : decode cX1_rounded 146 = .ok (.iload 13, 2) := by decide +kernel
theorem dX1_rounded_148 : decode cX1_rounded 148 = .ok (.ifCond .ne 40, 3) := by decide +kernel
theorem dX1_rounded_151 : decode cX1_rounded 151 = .ok (.aload_n 0, 1) := by decide +kernel
theorem dX1_rounded_152 : decode cX1_rounded 152 = .ok (.aload_n 0, 1) := by decide +kernel
theorem dX1_rounded_153 : decode cX1_rounded 153 = .ok (.getfield 61, 3) := by decide +kernel
theorem dX1_rounded_156 : decode cX1_rounded 156 = .ok (.iconst 2, 1) := by decide +kernel
theorem dX1_rounded_157 : decode cX1_rounded 157 = .ok (.ior, 1) := by decide +kernel
theorem dX1_rounded_158 : decode cX1_rounded 158 = .ok (.putfield 61, 3) := by decide +kernel
theorem dX1_rounded_161 : decode cX1_rounded 161 = .ok (.aload_n 0, 1) := by decide +kernel
theorem dX1_rounded_162 : decode cX1_rounded 162 = .ok (.lload 11, 2) := by decide +kernel
theorem dX1_rounded_164 : decode cX1_rounded 164 = .ok (.ldc2_w 25, 3) := by decide +kernel
theorem dX1_rounded_167 : decode cX1_rounded 167 = .ok (.lcmp, 1) := by decide +kernel
theorem dX1_rounded_168 : decode cX1_rounded 168 = .ok (.ifCond .ge 13, 3) := by decide +kernel
theorem dX1_rounded_171 : decode cX1_rounded 171 = .ok (.aload_n 0, 1) := by decide +kernel
theorem dX1_rounded_172 : decode cX1_rounded 172 = .ok (.getfield 61, 3) := by decide +kernel
theorem dX1_rounded_175 : decode cX1_rounded 175 = .ok (.bipush 8, 2) := by decide +kernel
theorem dX1_rounded_177 : decode cX1_rounded 177 = .ok (.ior, 1) := by decide +kernel
theorem dX1_rounded_178 : decode cX1_rounded 178 = .ok (.goto 7, 3) := by decide +kernel
theorem dX1_rounded_181 : decode cX1_rounded 181 = .ok (.aload_n 0, 1) := by decide +kernel
theorem dX1_rounded_182 : decode cX1_rounded 182 = .ok (.getfield 61, 3) := by decide +kernel
theorem dX1_rounded_185 : decode cX1_rounded 185 = .ok (.putfield 61, 3) := by decide +kernel
theorem dX1_rounded_188 : decode cX1_rounded 188 = .ok (.lload 11, 2) := by decide +kernel
theorem dX1_rounded_190 : decode cX1_rounded 190 = .ok (.lreturn, 1) := by decide +kernel
set_option maxRecDepth 20000 in
theorem ggX1_rounded_X1_exact : GoodIn wsX1_rounded wsX1_exact := goodIn_r _ [9, 10, 1] (by decide +kernel) (by decide +kernel)
set_option maxRecDepth 20000 in
theorem gX1_rounded_X1_exact : GoodIn wsX1_rounded (va_wsS RX1 67 yX1_exact wsX1_exact) := goodIn_app (goodIn_of _ (by decide +kernel)) ggX1_rounded_X1_exact
set_option maxRecDepth 20000 in
theorem ggX1_rounded_X1_cut : GoodIn wsX1_rounded wsX1_cut := goodIn_r _ [14, 15] (by decide +kernel) (by decide +kernel)
set_option maxRecDepth 20000 in
theorem gX1_rounded_X1_cut : GoodIn wsX1_rounded (va_wsS RX1 89 yX1_cut wsX1_cut) := goodIn_app (goodIn_of _ (by decide +kernel)) ggX1_rounded_X1_cut
theorem dX1_scale_0 : decode cX1_scale 0 = .ok (.iload_n 1, 1) := by decide +kernel
theorem dX1_scale_1 : decode cX1_scale 1 = .ok (.invokestatic 29, 3) := by decide +kernel
theorem dX1_scale_4 : decode cX1_scale 4 = .ok (.ifCond .eq 10, 3) := by decide +kernel
theorem dX1_scale_7 : decode cX1_scale 7 = .ok (.iload_n 2, 1) := by decide +kernel
theorem dX1_scale_8 : decode cX1_scale 8 = .ok (.invokestatic 29, 3) := by decide +kernel
theorem dX1_scale_11 : decode cX1_scale 11 = .ok (.ifCond .ne 5, 3) := by decide +kernel
theorem dX1_scale_14 : decode cX1_scale 14 = .ok (.iconst 0, 1) := by decide +kernel
theorem dX1_scale_15 : decode cX1_scale 15 = .ok (.ireturn, 1) := by decide +kernel
theorem dX1_scale_16 : decode cX1_scale 16 = .ok (.aload_n 0, 1) := by decide +kernel
theorem dX1_scale_17 : decode cX1_scale 17 = .ok (.getfield 7, 3) := by decide +kernel
theorem dX1_scale_20 : decode cX1_scale 20 = .ok (.iload_n 2, 1) := by decide +kernel
theorem dX1_scale_21 : decode cX1_scale 21 = .ok (.laload, 1) := by decide +kernel
theorem dX1_scale_22 : decode cX1_scale 22 = .ok (.lstore 4, 2) := by decide +kernel
theorem dX1_scale_24 : decode cX1_scale 24 = .ok (.lload 4, 2) := by decide +kernel
theorem dX1_scale_26 : decode cX1_scale 26 = .ok (.invokestatic 71, 3) := by decide +kernel
theorem dX1_scale_29 : decode cX1_scale 29 = .ok (.ifCond .eq 15, 3) := by decide +kernel
theorem dX1_scale_32 : decode cX1_scale 32 = .ok (.aload_n 0, 1) := by decide +kernel
theorem dX1_scale_33 : decode cX1_scale 33 = .ok (.getfield 7, 3) := by decide +kernel
theorem dX1_scale_36 : decode cX1_scale 36 = .ok (.iload_n 1, 1) := by decide +kernel
theorem dX1_scale_37 : decode cX1_scale 37 = .ok (.ldc2_w 75, 3) := by decide +kernel
theorem dX1_scale_40 : decode cX1_scale 40 = .ok (.lastore, 1) := by decide +kernel
theorem dX1_scale_41 : decode cX1_scale 41 = .ok (.goto 62, 3) := by decide +kernel
theorem dX1_scale_44 : decode cX1_scale 44 = .ok (.lload 4, 2) := by decide +kernel
theorem dX1_scale_46 : decode cX1_scale 46 = .ok (.invokestatic 86, 3) := by decide +kernel
theorem dX1_scale_49 : decode cX1_scale 49 = .ok (.ifCond .ne 11, 3) := by decide +kernel
theorem dX1_scale_52 : decode cX1_scale 52 = .ok (.lload 4, 2) := by decide +kernel
theorem dX1_scale_54 : decode cX1_scale 54 = .ok (.invokestatic 77, 3) := by decide +kernel
theorem dX1_scale_57 : decode cX1_scale 57 = .ok (.ifCond .eq 14, 3) := by decide +kernel
theorem dX1_scale_60 : decode cX1_scale 60 = .ok (.aload_n 0, 1) := by decide +kernel
theorem dX1_scale_61 : decode cX1_scale 61 = .ok (.getfield 7, 3) := by decide +kernel
theorem dX1_scale_64 : decode cX1_scale 64 = .ok (.iload_n 1, 1) := by decide +kernel
theorem dX1_scale_65 : decode cX1_scale 65 = .ok (.lload 4, 2) := by decide +kernel
theorem dX1_scale_67 : decode cX1_scale 67 = .ok (.lastore, 1) := by decide +kernel
theorem dX1_scale_68 : decode cX1_scale 68 = .ok (.goto 35, 3) := by decide +kernel
theorem dX1_scale_71 : decode cX1_scale 71 = .ok (.aload_n 0, 1) := by decide +kernel
theorem dX1_scale_72 : decode cX1_scale 72 = .ok (.getfield 7, 3) := by decide +kernel
theorem dX1_scale_75 : decode cX1_scale 75 = .ok (.iload_n 1, 1) := by decide +kernel
theorem dX1_scale_76 : decode cX1_scale 76 = .ok (.aload_n 0, 1) := by decide +kernel
theorem dX1_scale_77 : decode cX1_scale 77 = .ok (.lload 4, 2) := by decide +kernel
theorem dX1_scale_79 : decode cX1_scale 79 = .ok (.invokestatic 48, 3) := by decide +kernel
theorem dX1_scale_82 : decode cX1_scale 82 = .ok (.lload 4, 2) := by decide +kernel
theorem dX1_scale_84 : decode cX1_scale 84 = .ok (.invokestatic 51, 3) := by decide +kernel
theorem dX1_scale_87 : decode cX1_scale 87 = .ok (.i2l, 1) := by decide +kernel
theorem dX1_scale_88 : decode cX1_scale 88 = .ok (.iload_n 3, 1) := by decide +kernel
theorem dX1_scale_89 : decode cX1_scale 89 = .ok (.i2l, 1) := by decide +kernel
theorem dX1_scale_90 : decode cX1_scale 90 = .ok (.ladd, 1) := by decide +kernel
theorem dX1_scale_91 : decode cX1_scale 91 = .ok (.invokevirtual 115, 3) := by decide +kernel
theorem dX1_scale_94 : decode cX1_scale 94 = .ok (.lload 4, 2) := by decide +kernel
theorem dX1_scale_96 : decode cX1_scale 96 = .ok (.invokestatic 80, 3) := by decide +kernel
theorem dX1_scale_99 : decode cX1_scale 99 = .ok (.invokestatic 93, 3) := by decide +kernel
theorem dX1_scale_102 : decode cX1_scale 102 = .ok (.lastore, 1) := by decide +kernel
theorem dX1_scale_103 : decode cX1_scale 103 = .ok (.iconst 1, 1) := by decide +kernel
theorem dX1_scale_104 : decode cX1_scale 104 = .ok (.ireturn, 1) := by decide +kernel
set_option maxRecDepth 20000 in
theorem ggX1_scale_X1_isRegister : GoodIn wsX1_scale wsX1_isRegister := goodIn_r _ [4] (by decide +kernel) (by decide +kernel)
set_option maxRecDepth 20000 in
theorem gX1_scale_X1_isRegister : GoodIn wsX1_scale (va_wsS RX1 29 yX1_isRegister wsX1_isRegister) := goodIn_app (goodIn_of _ (by decide +kernel)) ggX1_scale_X1_isRegister
set_option maxRecDepth 20000 in
theorem ggX1_scale_X1_isNan : GoodIn wsX1_scale wsX1_isNan := goodIn_r _ [8, 9, 10, 3, 11, 12, 13] (by decide +kernel) (by decide +kernel)
set_option maxRecDepth 20000 in
theorem gX1_scale_X1_isNan : GoodIn wsX1_scale (va_wsS RX1 71 yX1_isNan wsX1_isNan) := goodIn_app (goodIn_of _ (by decide +kernel)) ggX1_scale_X1_isNan
set_option maxRecDepth 20000 in
theorem ggX1_scale_X1_isInfinite : GoodIn wsX1_scale wsX1_isInfinite := goodIn_r _ [17, 9, 10, 3, 11, 12, 13] (by decide +kernel) (by decide +kernel)
set_option maxRecDepth 20000 in
theorem gX1_scale_X1_isInfinite : GoodIn wsX1_scale (va_wsS RX1 86 yX1_isInfinite wsX1_isInfinite) := goodIn_app (goodIn_of _ (by decide +kernel)) ggX1_scale_X1_isInfinite
set_option maxRecDepth 20000 in
theorem ggX1_scale_X1_isZero : GoodIn wsX1_scale wsX1_isZero := goodIn_r _ [20, 9, 10, 3, 11, 12] (by decide +kernel) (by decide +kernel)
set_option maxRecDepth 20000 in
theorem gX1_scale_X1_isZero : GoodIn wsX1_scale (va_wsS RX1 77 yX1_isZero wsX1_isZero) := goodIn_app (goodIn_of _ (by decide +kernel)) ggX1_scale_X1_isZero
set_option maxRecDepth 20000 in
theorem ggX1_scale_X1_number : GoodIn wsX1_scale wsX1_number := goodIn_r _ [23, 24, 9, 10, 3, 11, 12, 25] (by decide +kernel) (by decide +kernel)
set_option maxRecDepth 20000 in
theorem gX1_scale_X1_number : GoodIn wsX1_scale (va_wsS RX1 48 yX1_number wsX1_number) := goodIn_app (goodIn_of _ (by decide +kernel)) ggX1_scale_X1_number
set_option maxRecDepth 20000 in
theorem ggX1_scale_X1_power : GoodIn wsX1_scale wsX1_power := goodIn_r _ [28, 9, 10, 3, 11, 12] (by decide +kernel) (by decide +kernel)
set_option maxRecDepth 20000 in
theorem gX1_scale_X1_power : GoodIn wsX1_scale (va_wsS RX1 51 yX1_power wsX1_power) := goodIn_app (goodIn_of _ (by decide +kernel)) ggX1_scale_X1_power
set_option maxRecDepth 20000 in
theorem ggX1_scale_X1_rounded : GoodIn wsX1_scale wsX1_rounded := goodIn_r _ [32, 25, 33, 34, 13, 35, 36, 37, 3, 38, 39, 40, 41, 42, 43, 44, 52, 53, 54, 55, 56] (by decide +kernel) (by decide +kernel)
set_option maxRecDepth 20000 in
theorem gX1_scale_X1_rounded : GoodIn wsX1_scale (wsV RX1 115 RX1 yX1_rounded wsX1_rounded) := goodIn_app (goodIn_of _ (by decide +kernel)) ggX1_scale_X1_rounded
set_option maxRecDepth 20000 in
theorem ggX1_scale_X1_negative : GoodIn wsX1_scale wsX1_negative := goodIn_r _ [47] (by decide +kernel) (by decide +kernel)
set_option maxRecDepth 20000 in
theorem gX1_scale_X1_negative : GoodIn wsX1_scale (va_wsS RX1 80 yX1_negative wsX1_negative) := goodIn_app (goodIn_of _ (by decide +kernel)) ggX1_scale_X1_negative
set_option maxRecDepth 20000 in
theorem ggX1_scale_X1_signed : GoodIn wsX1_scale wsX1_signed := goodIn_r _ [50, 51] (by decide +kernel) (by decide +kernel)
set_option maxRecDepth 20000 in
theorem gX1_scale_X1_signed : GoodIn wsX1_scale (va_wsS RX1 93 yX1_signed wsX1_signed) := goodIn_app (goodIn_of _ (by decide +kernel)) ggX1_scale_X1_signed
theorem dX1_exponent_0 : decode cX1_exponent 0 = .ok (.iload_n 1, 1) := by decide +kernel
theorem dX1_exponent_1 : decode cX1_exponent 1 = .ok (.invokestatic 29, 3) := by decide +kernel
theorem dX1_exponent_4 : decode cX1_exponent 4 = .ok (.ifCond .ne 5, 3) := by decide +kernel
theorem dX1_exponent_7 : decode cX1_exponent 7 = .ok (.iconst 0, 1) := by decide +kernel
theorem dX1_exponent_8 : decode cX1_exponent 8 = .ok (.ireturn, 1) := by decide +kernel
theorem dX1_exponent_9 : decode cX1_exponent 9 = .ok (.aload_n 0, 1) := by decide +kernel
theorem dX1_exponent_10 : decode cX1_exponent 10 = .ok (.getfield 7, 3) := by decide +kernel
theorem dX1_exponent_13 : decode cX1_exponent 13 = .ok (.iload_n 1, 1) := by decide +kernel
theorem dX1_exponent_14 : decode cX1_exponent 14 = .ok (.laload, 1) := by decide +kernel
theorem dX1_exponent_15 : decode cX1_exponent 15 = .ok (.lstore_n 2, 1) := by decide +kernel
theorem dX1_exponent_16 : decode cX1_exponent 16 = .ok (.lload_n 2, 1) := by decide +kernel
theorem dX1_exponent_17 : decode cX1_exponent 17 = .ok (.invokestatic 77, 3) := by decide +kernel
theorem dX1_exponent_20 : decode cX1_exponent 20 = .ok (.ifCond .eq 6, 3) := by decide +kernel
theorem dX1_exponent_23 : decode cX1_exponent 23 = .ok (.ldc 119, 2) := by decide +kernel
theorem dX1_exponent_25 : decode cX1_exponent 25 = .ok (.ireturn, 1) := by decide +kernel
theorem dX1_exponent_26 : decode cX1_exponent 26 = .ok (.lload_n 2, 1) := by decide +kernel
theorem dX1_exponent_27 : decode cX1_exponent 27 = .ok (.invokestatic 17, 3) := by decide +kernel
theorem dX1_exponent_30 : decode cX1_exponent 30 = .ok (.ldc2_w 21, 3) := by decide +kernel
theorem dX1_exponent_33 : decode cX1_exponent 33 = .ok (.lcmp, 1) := by decide +kernel
theorem dX1_exponent_34 : decode cX1_exponent 34 = .ok (.ifCond .lt 6, 3) := by decide +kernel
theorem dX1_exponent_37 : decode cX1_exponent 37 = .ok (.ldc 120, 2) := by decide +kernel
theorem dX1_exponent_39 : decode cX1_exponent 39 = .ok (.ireturn, 1) := by decide +kernel
theorem dX1_exponent_40 : decode cX1_exponent 40 = .ok (.lload_n 2, 1) := by decide +kernel
theorem dX1_exponent_41 : decode cX1_exponent 41 = .ok (.invokestatic 51, 3) := by decide +kernel
theorem dX1_exponent_44 : decode cX1_exponent 44 = .ok (.istore 4, 2) := by decide +kernel
theorem dX1_exponent_46 : decode cX1_exponent 46 = .ok (.lload_n 2, 1) := by decide +kernel
theorem dX1_exponent_47 : decode cX1_exponent 47 = .ok (.invokestatic 48, 3) := by decide +kernel
theorem dX1_exponent_50 : decode cX1_exponent 50 = .ok (.lstore 5, 2) := by decide +kernel
theorem dX1_exponent_52 : decode cX1_exponent 52 = .ok (.lload 5, 2) := by decide +kernel
theorem dX1_exponent_54 : decode cX1_exponent 54 = .ok (.lconst 1, 1) := by decide +kernel
theorem dX1_exponent_55 : decode cX1_exponent 55 = .ok (.lcmp, 1) := by decide +kernel
theorem dX1_exponent_56 : decode cX1_exponent 56 = .ok (.ifCond .le 15, 3) := by decide +kernel
theorem dX1_exponent_59 : decode cX1_exponent 59 = .ok (.iinc 4 1, 3) := by decide +kernel
theorem dX1_exponent_62 : decode cX1_exponent 62 = .ok (.lload 5, 2) := by decide +kernel
theorem dX1_exponent_64 : decode cX1_exponent 64 = .ok (.iconst 1, 1) := by decide +kernel
theorem dX1_exponent_65 : decode cX1_exponent 65 = .ok (.lshr, 1) := by decide +kernel
theorem dX1_exponent_66 : decode cX1_exponent 66 = .ok (.lstore 5, 2) := by decide +kernel
theorem dX1_exponent_68 : decode cX1_exponent 68 = .ok (.goto (-16), 3) := by decide +kernel
theorem dX1_exponent_71 : decode cX1_exponent 71 = .ok (.iload 4, 2) := by decide +kernel
theorem dX1_exponent_73 : decode cX1_exponent 73 = .ok (.ireturn, 1) := by decide +kernel
set_option maxRecDepth 20000 in
theorem ggX1_exponent_X1_isRegister : GoodIn wsX1_exponent wsX1_isRegister := goodIn_r _ [4] (by decide +kernel) (by decide +kernel)
set_option maxRecDepth 20000 in
theorem gX1_exponent_X1_isRegister : GoodIn wsX1_exponent (va_wsS RX1 29 yX1_isRegister wsX1_isRegister) := goodIn_app (goodIn_of _ (by decide +kernel)) ggX1_exponent_X1_isRegister
set_option maxRecDepth 20000 in
theorem ggX1_exponent_X1_isZero : GoodIn wsX1_exponent wsX1_isZero := goodIn_r _ [8, 9, 10, 3, 11, 12] (by decide +kernel) (by decide +kernel)
set_option maxRecDepth 20000 in
theorem gX1_exponent_X1_isZero : GoodIn wsX1_exponent (va_wsS RX1 77 yX1_isZero wsX1_isZero) := goodIn_app (goodIn_of _ (by decide +kernel)) ggX1_exponent_X1_isZero
set_option maxRecDepth 20000 in
theorem ggX1_exponent_X1_plain : GoodIn wsX1_exponent wsX1_plain := goodIn_r _ [11, 12] (by decide +kernel) (by decide +kernel)
set_option maxRecDepth 20000 in
theorem gX1_exponent_X1_plain : GoodIn wsX1_exponent (va_wsS RX1 17 yX1_plain wsX1_plain) := goodIn_app (goodIn_of _ (by decide +kernel)) ggX1_exponent_X1_plain
set_option maxRecDepth 20000 in
theorem ggX1_exponent_X1_power : GoodIn wsX1_exponent wsX1_power := goodIn_r _ [18, 9, 10, 3, 11, 12] (by decide +kernel) (by decide +kernel)
set_option maxRecDepth 20000 in
theorem gX1_exponent_X1_power : GoodIn wsX1_exponent (va_wsS RX1 51 yX1_power wsX1_power) := goodIn_app (goodIn_of _ (by decide +kernel)) ggX1_exponent_X1_power
set_option maxRecDepth 20000 in
theorem ggX1_exponent_X1_number : GoodIn wsX1_exponent wsX1_number := goodIn_r _ [21, 22, 9, 10, 3, 11, 12, 23] (by decide +kernel) (by decide +kernel)
set_option maxRecDepth 20000 in
theorem gX1_exponent_X1_number : GoodIn wsX1_exponent (va_wsS RX1 48 yX1_number wsX1_number) := goodIn_app (goodIn_of _ (by decide +kernel)) ggX1_exponent_X1_number
theorem dX1_compare_0 : decode cX1_compare 0 = .ok (.iload_n 1, 1) := by decide +kernel
theorem dX1_compare_1 : decode cX1_compare 1 = .ok (.invokestatic 29, 3) := by decide +kernel
theorem dX1_compare_4 : decode cX1_compare 4 = .ok (.ifCond .eq 34, 3) := by decide +kernel
theorem dX1_compare_7 : decode cX1_compare 7 = .ok (.iload_n 2, 1) := by decide +kernel
theorem dX1_compare_8 : decode cX1_compare 8 = .ok (.invokestatic 29, 3) := by decide +kernel
theorem dX1_compare_11 : decode cX1_compare 11 = .ok (.ifCond .eq 27, 3) := by decide +kernel
theorem dX1_compare_14 : decode cX1_compare 14 = .ok (.aload_n 0, 1) := by decide +kernel
theorem dX1_compare_15 : decode cX1_compare 15 = .ok (.getfield 7, 3) := by decide +kernel
theorem dX1_compare_18 : decode cX1_compare 18 = .ok (.iload_n 1, 1) := by decide +kernel
theorem dX1_compare_19 : decode cX1_compare 19 = .ok (.laload, 1) := by decide +kernel
theorem dX1_compare_20 : decode cX1_compare 20 = .ok (.invokestatic 71, 3) := by decide +kernel
theorem dX1_compare_23 : decode cX1_compare 23 = .ok (.ifCond .ne 15, 3) := by decide +kernel
theorem dX1_compare_26 : decode cX1_compare 26 = .ok (.aload_n 0, 1) := by decide +kernel
theorem dX1_compare_27 : decode cX1_compare 27 = .ok (.getfield 7, 3) := by decide +kernel
theorem dX1_compare_30 : decode cX1_compare 30 = .ok (.iload_n 2, 1) := by decide +kernel
theorem dX1_compare_31 : decode cX1_compare 31 = .ok (.laload, 1) := by decide +kernel
theorem dX1_compare_32 : decode cX1_compare 32 = .ok (.invokestatic 71, 3) := by decide +kernel
theorem dX1_compare_35 : decode cX1_compare 35 = .ok (.ifCond .eq 5, 3) := by decide +kernel
theorem dX1_compare_38 : decode cX1_compare 38 = .ok (.iconst 2, 1) := by decide +kernel
theorem dX1_compare_39 : decode cX1_compare 39 = .ok (.ireturn, 1) := by decide +kernel
theorem dX1_compare_40 : decode cX1_compare 40 = .ok (.aload_n 0, 1) := by decide +kernel
theorem dX1_compare_41 : decode cX1_compare 41 = .ok (.getfield 7, 3) := by decide +kernel
theorem dX1_compare_44 : decode cX1_compare 44 = .ok (.iload_n 1, 1) := by decide +kernel
theorem dX1_compare_45 : decode cX1_compare 45 = .ok (.laload, 1) := by decide +kernel
theorem dX1_compare_46 : decode cX1_compare 46 = .ok (.invokestatic 106, 3) := by decide +kernel
theorem dX1_compare_49 : decode cX1_compare 49 = .ok (.lstore_n 3, 1) := by decide +kernel
theorem dX1_compare_50 : decode cX1_compare 50 = .ok (.aload_n 0, 1) := by decide +kernel
theorem dX1_compare_51 : decode cX1_compare 51 = .ok (.getfield 7, 3) := by decide +kernel
theorem dX1_compare_54 : decode cX1_compare 54 = .ok (.iload_n 2, 1) := by decide +kernel
theorem dX1_compare_55 : decode cX1_compare 55 = .ok (.laload, 1) := by decide +kernel
theorem dX1_compare_56 : decode cX1_compare 56 = .ok (.invokestatic 106, 3) := by decide +kernel
theorem dX1_compare_59 : decode cX1_compare 59 = .ok (.lstore 5, 2) := by decide +kernel
theorem dX1_compare_61 : decode cX1_compare 61 = .ok (.lload_n 3, 1) := by decide +kernel
theorem dX1_compare_62 : decode cX1_compare 62 = .ok (.lload 5, 2) := by decide +kernel
theorem dX1_compare_64 : decode cX1_compare 64 = .ok (.lcmp, 1) := by decide +kernel
theorem dX1_compare_65 : decode cX1_compare 65 = .ok (.ifCond .ge 7, 3) := by decide +kernel
theorem dX1_compare_68 : decode cX1_compare 68 = .ok (.iconst (-1), 1) := by decide +kernel
theorem dX1_compare_69 : decode cX1_compare 69 = .ok (.goto 15, 3) := by decide +kernel
theorem dX1_compare_72 : decode cX1_compare 72 = .ok (.lload_n 3, 1) := by decide +kernel
theorem dX1_compare_73 : decode cX1_compare 73 = .ok (.lload 5, 2) := by decide +kernel
theorem dX1_compare_75 : decode cX1_compare 75 = .ok (.lcmp, 1) := by decide +kernel
theorem dX1_compare_76 : decode cX1_compare 76 = .ok (.ifCond .le 7, 3) := by decide +kernel
theorem dX1_compare_79 : decode cX1_compare 79 = .ok (.iconst 1, 1) := by decide +kernel
theorem dX1_compare_80 : decode cX1_compare 80 = .ok (.goto 4, 3) := by decide +kernel
theorem dX1_compare_83 : decode cX1_compare 83 = .ok (.iconst 0, 1) := by decide +kernel
theorem dX1_compare_84 : decode cX1_compare 84 = .ok (.ireturn, 1) := by decide +kernel
set_option maxRecDepth 20000 in
theorem ggX1_compare_X1_isRegister : GoodIn wsX1_compare wsX1_isRegister := goodIn_r _ [4] (by decide +kernel) (by decide +kernel)
set_option maxRecDepth 20000 in
theorem gX1_compare_X1_isRegister : GoodIn wsX1_compare (va_wsS RX1 29 yX1_isRegister wsX1_isRegister) := goodIn_app (goodIn_of _ (by decide +kernel)) ggX1_compare_X1_isRegister
set_option maxRecDepth 20000 in
theorem ggX1_compare_X1_isNan : GoodIn wsX1_compare wsX1_isNan := goodIn_r _ [8, 9, 10, 3, 11, 12, 13] (by decide +kernel) (by decide +kernel)
set_option maxRecDepth 20000 in
theorem gX1_compare_X1_isNan : GoodIn wsX1_compare (va_wsS RX1 71 yX1_isNan wsX1_isNan) := goodIn_app (goodIn_of _ (by decide +kernel)) ggX1_compare_X1_isNan
set_option maxRecDepth 20000 in
theorem ggX1_compare_X1_place : GoodIn wsX1_compare wsX1_place := goodIn_r _ [16, 17, 18, 3, 19, 9, 10, 11, 12] (by decide +kernel) (by decide +kernel)
set_option maxRecDepth 20000 in
theorem gX1_compare_X1_place : GoodIn wsX1_compare (va_wsS RX1 106 yX1_place wsX1_place) := goodIn_app (goodIn_of _ (by decide +kernel)) ggX1_compare_X1_place
theorem dX1_sort_0 : decode cX1_sort 0 = .ok (.iload_n 1, 1) := by decide +kernel
theorem dX1_sort_1 : decode cX1_sort 1 = .ok (.invokestatic 29, 3) := by decide +kernel
theorem dX1_sort_4 : decode cX1_sort 4 = .ok (.ifCond .ne 5, 3) := by decide +kernel
theorem dX1_sort_7 : decode cX1_sort 7 = .ok (.iconst (-1), 1) := by decide +kernel
theorem dX1_sort_8 : decode cX1_sort 8 = .ok (.ireturn, 1) := by decide +kernel
theorem dX1_sort_9 : decode cX1_sort 9 = .ok (.aload_n 0, 1) := by decide +kernel
theorem dX1_sort_10 : decode cX1_sort 10 = .ok (.getfield 7, 3) := by decide +kernel
theorem dX1_sort_13 : decode cX1_sort 13 = .ok (.iload_n 1, 1) := by decide +kernel
theorem dX1_sort_14 : decode cX1_sort 14 = .ok (.laload, 1) := by decide +kernel
theorem dX1_sort_15 : decode cX1_sort 15 = .ok (.lstore_n 2, 1) := by decide +kernel
theorem dX1_sort_16 : decode cX1_sort 16 = .ok (.lload_n 2, 1) := by decide +kernel
theorem dX1_sort_17 : decode cX1_sort 17 = .ok (.invokestatic 77, 3) := by decide +kernel
theorem dX1_sort_20 : decode cX1_sort 20 = .ok (.ifCond .eq 7, 3) := by decide +kernel
theorem dX1_sort_23 : decode cX1_sort 23 = .ok (.iconst 0, 1) := by decide +kernel
theorem dX1_sort_24 : decode cX1_sort 24 = .ok (.goto 41, 3) := by decide +kernel
theorem dX1_sort_27 : decode cX1_sort 27 = .ok (.lload_n 2, 1) := by decide +kernel
theorem dX1_sort_28 : decode cX1_sort 28 = .ok (.invokestatic 71, 3) := by decide +kernel
theorem dX1_sort_31 : decode cX1_sort 31 = .ok (.ifCond .eq 7, 3) := by decide +kernel
theorem dX1_sort_34 : decode cX1_sort 34 = .ok (.iconst 4, 1) := by decide +kernel
theorem dX1_sort_35 : decode cX1_sort 35 = .ok (.goto 30, 3) := by decide +kernel
theorem dX1_sort_38 : decode cX1_sort 38 = .ok (.lload_n 2, 1) := by decide +kernel
theorem dX1_sort_39 : decode cX1_sort 39 = .ok (.invokestatic 86, 3) := by decide +kernel
theorem dX1_sort_42 : decode cX1_sort 42 = .ok (.ifCond .eq 7, 3) := by decide +kernel
theorem dX1_sort_45 : decode cX1_sort 45 = .ok (.iconst 3, 1) := by decide +kernel
theorem dX1_sort_46 : decode cX1_sort 46 = .ok (.goto 19, 3) := by decide +kernel
theorem dX1_sort_49 : decode cX1_sort 49 = .ok (.lload_n 2, 1) := by decide +kernel
theorem dX1_sort_50 : decode cX1_sort 50 = .ok (.invokestatic 17, 3) := by decide +kernel
theorem dX1_sort_53 : decode cX1_sort 53 = .ok (.ldc2_w 25, 3) := by decide +kernel
theorem dX1_sort_56 : decode cX1_sort 56 = .ok (.lcmp, 1) := by decide +kernel
theorem dX1_sort_57 : decode cX1_sort 57 = .ok (.ifCond .ge 7, 3) := by decide +kernel
theorem dX1_sort_60 : decode cX1_sort 60 = .ok (.iconst 1, 1) := by decide +kernel
theorem dX1_sort_61 : decode cX1_sort 61 = .ok (.goto 4, 3) := by decide +kernel
theorem dX1_sort_64 : decode cX1_sort 64 = .ok (.iconst 2, 1) := by decide +kernel
theorem dX1_sort_65 : decode cX1_sort 65 = .ok (.istore 4, 2) := by decide +kernel
theorem dX1_sort_67 : decode cX1_sort 67 = .ok (.lload_n 2, 1) := by decide +kernel
theorem dX1_sort_68 : decode cX1_sort 68 = .ok (.invokestatic 80, 3) := by decide +kernel
theorem dX1_sort_71 : decode cX1_sort 71 = .ok (.ifCond .eq 11, 3) := by decide +kernel
theorem dX1_sort_74 : decode cX1_sort 74 = .ok (.iload 4, 2) := by decide +kernel
theorem dX1_sort_76 : decode cX1_sort 76 = .ok (.bipush 8, 2) := by decide +kernel
theorem dX1_sort_78 : decode cX1_sort 78 = .ok (.iadd, 1) := by decide +kernel
theorem dX1_sort_79 : decode cX1_sort 79 = .ok (.goto 5, 3) := by decide +kernel
theorem dX1_sort_82 : decode cX1_sort 82 = .ok (.iload 4, 2) := by decide +kernel
theorem dX1_sort_84 : decode cX1_sort 84 = .ok (.ireturn, 1) := by decide +kernel
set_option maxRecDepth 20000 in
theorem ggX1_sort_X1_isRegister : GoodIn wsX1_sort wsX1_isRegister := goodIn_r _ [4] (by decide +kernel) (by decide +kernel)
set_option maxRecDepth 20000 in
theorem gX1_sort_X1_isRegister : GoodIn wsX1_sort (va_wsS RX1 29 yX1_isRegister wsX1_isRegister) := goodIn_app (goodIn_of _ (by decide +kernel)) ggX1_sort_X1_isRegister
set_option maxRecDepth 20000 in
theorem ggX1_sort_X1_isZero : GoodIn wsX1_sort wsX1_isZero := goodIn_r _ [8, 9, 10, 3, 11, 12] (by decide +kernel) (by decide +kernel)
set_option maxRecDepth 20000 in
theorem gX1_sort_X1_isZero : GoodIn wsX1_sort (va_wsS RX1 77 yX1_isZero wsX1_isZero) := goodIn_app (goodIn_of _ (by decide +kernel)) ggX1_sort_X1_isZero
set_option maxRecDepth 20000 in
theorem ggX1_sort_X1_isNan : GoodIn wsX1_sort wsX1_isNan := goodIn_r _ [15, 9, 10, 3, 11, 12, 16] (by decide +kernel) (by decide +kernel)
set_option maxRecDepth 20000 in
theorem gX1_sort_X1_isNan : GoodIn wsX1_sort (va_wsS RX1 71 yX1_isNan wsX1_isNan) := goodIn_app (goodIn_of _ (by decide +kernel)) ggX1_sort_X1_isNan
set_option maxRecDepth 20000 in
theorem ggX1_sort_X1_isInfinite : GoodIn wsX1_sort wsX1_isInfinite := goodIn_r _ [19, 9, 10, 3, 11, 12, 16] (by decide +kernel) (by decide +kernel)
set_option maxRecDepth 20000 in
theorem gX1_sort_X1_isInfinite : GoodIn wsX1_sort (va_wsS RX1 86 yX1_isInfinite wsX1_isInfinite) := goodIn_app (goodIn_of _ (by decide +kernel)) ggX1_sort_X1_isInfinite
set_option maxRecDepth 20000 in
theorem ggX1_sort_X1_plain : GoodIn wsX1_sort wsX1_plain := goodIn_r _ [11, 12] (by decide +kernel) (by decide +kernel)
set_option maxRecDepth 20000 in
theorem gX1_sort_X1_plain : GoodIn wsX1_sort (va_wsS RX1 17 yX1_plain wsX1_plain) := goodIn_app (goodIn_of _ (by decide +kernel)) ggX1_sort_X1_plain
set_option maxRecDepth 20000 in
theorem ggX1_sort_X1_negative : GoodIn wsX1_sort wsX1_negative := goodIn_r _ [23] (by decide +kernel) (by decide +kernel)
set_option maxRecDepth 20000 in
theorem gX1_sort_X1_negative : GoodIn wsX1_sort (va_wsS RX1 80 yX1_negative wsX1_negative) := goodIn_app (goodIn_of _ (by decide +kernel)) ggX1_sort_X1_negative
theorem dX1_flags_0 : decode cX1_flags 0 = .ok (.aload_n 0, 1) := by decide +kernel
theorem dX1_flags_1 : decode cX1_flags 1 = .ok (.getfield 61, 3) := by decide +kernel
theorem dX1_flags_4 : decode cX1_flags 4 = .ok (.ireturn, 1) := by decide +kernel
theorem dX1_clear_0 : decode cX1_clear 0 = .ok (.aload_n 0, 1) := by decide +kernel
theorem dX1_clear_1 : decode cX1_clear 1 = .ok (.iconst 0, 1) := by decide +kernel
theorem dX1_clear_2 : decode cX1_clear 2 = .ok (.putfield 61, 3) := by decide +kernel
theorem dX1_clear_5 : decode cX1_clear 5 = .ok (.return_, 1) := by decide +kernel
