/-! ===== BEGIN words of one list among another's, by their places ===== -/
theorem goodIn_r {big : List Cond} (ws : List Cond) (ps : List Nat) (hp : ws = ps.filterMap (fun i => big[i]?)) (h : ws.all goodWord = true) : GoodIn big ws := by
  intro w hw
  have h1 := List.all_eq_true.mp h w hw
  rw [hp] at hw
  obtain ⟨i, -, hi⟩ := List.mem_filterMap.mp hw
  have hm : w ∈ big := by first | exact List.mem_of_getElem? hi | exact List.getElem?_mem hi
  exact ⟨hm, good_of_word h1⟩
theorem goodIn_app {big a b : List Cond} (ha : GoodIn big a) (hb : GoodIn big b) : GoodIn big (a ++ b) := fun w h => (List.mem_append.mp h).elim (ha w) (hb w)
theorem goodIn_ca {big a b : List Cond} {c : Cond} (ha : GoodIn big (c :: a)) (hb : GoodIn big b) : GoodIn big (c :: (a ++ b)) := fun w h => (List.mem_cons.mp h).elim (fun e => ha w (List.mem_cons.mpr (Or.inl e))) (fun h => (List.mem_append.mp h).elim (fun h => ha w (List.mem_cons.mpr (Or.inr h))) (hb w))
theorem goodIn_sub {big ws : List Cond} (hm : ∀ w ∈ ws, w ∈ big) (h : ws.all goodWord = true) : GoodIn big ws := fun w hw => ⟨hm w hw, good_of_word (List.all_eq_true.mp h w hw)⟩
/-! ===== END ===== -/

/-! ===== BEGIN printed: names, fields, word lists, decode rows ===== -/
def RX0 : String := "BinaryFunctions"
def TX0 : u_T := fun k => match k with
  | 0 => ("BinaryFunctions", "registers", "[J", true)
  | 1 => ("BinaryFunctions", "raised", "I", false)
  | _ => ("BinaryFunctions", "lastQuotient", "I", false)
def tyX0 : Nat → FieldType := fun k => match k with
  | 0 => .array .long
  | 1 => .int
  | _ => .int
abbrev wsX00 : List Cond := u_ws RX0 TX0 3
theorem nmX0 : ∀ a, a < 3 → ∀ b, b < 3 → a ≠ b → (TX0 a).2.1 ≠ (TX0 b).2.1 := by decide +kernel
theorem tyX0_ok : ∀ k, k < 3 → parseFieldDescriptor (TX0 k).2.2.1 = some (tyX0 k) := by decide +kernel
abbrev cX0_init : ByteArray := prog_1_method_1_code
def yX0_init : MethodName := ⟨RX0, "<init>", "()V"⟩
abbrev cX0_load : ByteArray := prog_1_method_2_code
def yX0_load : MethodName := ⟨RX0, "load", "(IJ)Z"⟩
abbrev cX0_bits : ByteArray := prog_1_method_3_code
def yX0_bits : MethodName := ⟨RX0, "bits", "(I)J"⟩
abbrev cX0_sqrt : ByteArray := prog_1_method_4_code
def yX0_sqrt : MethodName := ⟨RX0, "sqrt", "(II)Z"⟩
abbrev cX0_whole : ByteArray := prog_1_method_5_code
def yX0_whole : MethodName := ⟨RX0, "whole", "(III)Z"⟩
abbrev cX0_left : ByteArray := prog_1_method_6_code
def yX0_left : MethodName := ⟨RX0, "left", "(IIIZ)Z"⟩
abbrev cX0_quotient : ByteArray := prog_1_method_7_code
def yX0_quotient : MethodName := ⟨RX0, "quotient", "()I"⟩
abbrev cX0_neighbour : ByteArray := prog_1_method_8_code
def yX0_neighbour : MethodName := ⟨RX0, "neighbour", "(III)Z"⟩
abbrev cX0_scale : ByteArray := prog_1_method_9_code
def yX0_scale : MethodName := ⟨RX0, "scale", "(III)Z"⟩
abbrev cX0_exponent : ByteArray := prog_1_method_10_code
def yX0_exponent : MethodName := ⟨RX0, "exponent", "(I)I"⟩
abbrev cX0_compare : ByteArray := prog_1_method_11_code
def yX0_compare : MethodName := ⟨RX0, "compare", "(II)I"⟩
abbrev cX0_sort : ByteArray := prog_1_method_12_code
def yX0_sort : MethodName := ⟨RX0, "sort", "(I)I"⟩
abbrev cX0_flags : ByteArray := prog_1_method_13_code
def yX0_flags : MethodName := ⟨RX0, "flags", "()I"⟩
abbrev cX0_clear : ByteArray := prog_1_method_14_code
def yX0_clear : MethodName := ⟨RX0, "clear", "()V"⟩
abbrev cX0_isRegister : ByteArray := prog_1_method_15_code
def yX0_isRegister : MethodName := ⟨RX0, "isRegister", "(I)Z"⟩
abbrev cX0_raise : ByteArray := prog_1_method_16_code
def yX0_raise : MethodName := ⟨RX0, "raise", "(I)V"⟩
abbrev cX0_isZero : ByteArray := prog_1_method_17_code
def yX0_isZero : MethodName := ⟨RX0, "isZero", "(J)Z"⟩
abbrev cX0_isInfinity : ByteArray := prog_1_method_18_code
def yX0_isInfinity : MethodName := ⟨RX0, "isInfinity", "(J)Z"⟩
abbrev cX0_isNan : ByteArray := prog_1_method_19_code
def yX0_isNan : MethodName := ⟨RX0, "isNan", "(J)Z"⟩
abbrev cX0_signOf : ByteArray := prog_1_method_20_code
def yX0_signOf : MethodName := ⟨RX0, "signOf", "(J)J"⟩
abbrev cX0_sortOfAmount : ByteArray := prog_1_method_21_code
def yX0_sortOfAmount : MethodName := ⟨RX0, "sortOfAmount", "(J)I"⟩
abbrev cX0_fieldE : ByteArray := prog_1_method_22_code
def yX0_fieldE : MethodName := ⟨RX0, "fieldE", "(J)I"⟩
abbrev cX0_significand : ByteArray := prog_1_method_23_code
def yX0_significand : MethodName := ⟨RX0, "significand", "(J)J"⟩
abbrev cX0_power : ByteArray := prog_1_method_24_code
def yX0_power : MethodName := ⟨RX0, "power", "(J)I"⟩
abbrev cX0_spareRoom : ByteArray := prog_1_method_25_code
def yX0_spareRoom : MethodName := ⟨RX0, "spareRoom", "(J)I"⟩
abbrev cX0_fullSignificand : ByteArray := prog_1_method_26_code
def yX0_fullSignificand : MethodName := ⟨RX0, "fullSignificand", "(J)J"⟩
abbrev cX0_fullPower : ByteArray := prog_1_method_27_code
def yX0_fullPower : MethodName := ⟨RX0, "fullPower", "(J)I"⟩
abbrev cX0_pattern : ByteArray := prog_1_method_28_code
def yX0_pattern : MethodName := ⟨RX0, "pattern", "(JI)J"⟩
abbrev cX0_nearestShifted : ByteArray := prog_1_method_29_code
def yX0_nearestShifted : MethodName := ⟨RX0, "nearestShifted", "(JI)J"⟩
abbrev cX0_squareRoot : ByteArray := prog_1_method_30_code
def yX0_squareRoot : MethodName := ⟨RX0, "squareRoot", "(J)J"⟩
abbrev cX0_rootOfPositive : ByteArray := prog_1_method_31_code
def yX0_rootOfPositive : MethodName := ⟨RX0, "rootOfPositive", "(J)J"⟩
abbrev cX0_madeWhole : ByteArray := prog_1_method_32_code
def yX0_madeWhole : MethodName := ⟨RX0, "madeWhole", "(JI)J"⟩
abbrev cX0_wholeAmount : ByteArray := prog_1_method_33_code
def yX0_wholeAmount : MethodName := ⟨RX0, "wholeAmount", "(JIZI)J"⟩
abbrev cX0_remainder : ByteArray := prog_1_method_34_code
def yX0_remainder : MethodName := ⟨RX0, "remainder", "(JJZ)J"⟩
abbrev cX0_remainderOfFinite : ByteArray := prog_1_method_35_code
def yX0_remainderOfFinite : MethodName := ⟨RX0, "remainderOfFinite", "(JJIZ)J"⟩
abbrev cX0_place : ByteArray := prog_1_method_36_code
def yX0_place : MethodName := ⟨RX0, "place", "(J)J"⟩
abbrev cX0_nextTowards : ByteArray := prog_1_method_37_code
def yX0_nextTowards : MethodName := ⟨RX0, "nextTowards", "(JJ)J"⟩
abbrev cX0_timesPowerOfTwo : ByteArray := prog_1_method_38_code
def yX0_timesPowerOfTwo : MethodName := ⟨RX0, "timesPowerOfTwo", "(JI)J"⟩
abbrev cX0_roundedToLeastPower : ByteArray := prog_1_method_39_code
def yX0_roundedToLeastPower : MethodName := ⟨RX0, "roundedToLeastPower", "(JI)J"⟩
def RX1 : String := "BinaryFunctionsModel"
def TX1 : u_T := fun k => match k with
  | 0 => ("BinaryFunctionsModel", "register", "[J", false)
  | 1 => ("BinaryFunctionsModel", "flag", "I", false)
  | 2 => ("BinaryFunctionsModel", "quotient", "I", false)
  | 3 => ("BinaryFunctionsModel", "high", "J", false)
  | _ => ("BinaryFunctionsModel", "low", "J", false)
def tyX1 : Nat → FieldType := fun k => match k with
  | 0 => .array .long
  | 1 => .int
  | 2 => .int
  | 3 => .long
  | _ => .long
abbrev wsX10 : List Cond := u_ws RX1 TX1 5
theorem nmX1 : ∀ a, a < 5 → ∀ b, b < 5 → a ≠ b → (TX1 a).2.1 ≠ (TX1 b).2.1 := by decide +kernel
theorem tyX1_ok : ∀ k, k < 5 → parseFieldDescriptor (TX1 k).2.2.1 = some (tyX1 k) := by decide +kernel
def RJ6 : String := "java/lang/Integer"
def TJ6 : u_T := fun k => match k with
  | _ => ("", "", "", false)
def tyJ6 : Nat → FieldType := fun k => match k with
  | _ => .int
abbrev wsJ60 : List Cond := u_ws RJ6 TJ6 0
theorem nmJ6 : ∀ a, a < 0 → ∀ b, b < 0 → a ≠ b → (TJ6 a).2.1 ≠ (TJ6 b).2.1 := by decide +kernel
theorem tyJ6_ok : ∀ k, k < 0 → parseFieldDescriptor (TJ6 k).2.2.1 = some (tyJ6 k) := by decide +kernel
abbrev cJ6_numberOfLeadingZeros_0f7a4 : ByteArray := prog_4_method_47_code
def yJ6_numberOfLeadingZeros_0f7a4 : MethodName := ⟨RJ6, "numberOfLeadingZeros", "(I)I"⟩
def RJ13 : String := "java/lang/Long"
def TJ13 : u_T := fun k => match k with
  | _ => ("", "", "", false)
def tyJ13 : Nat → FieldType := fun k => match k with
  | _ => .int
abbrev wsJ130 : List Cond := u_ws RJ13 TJ13 0
theorem nmJ13 : ∀ a, a < 0 → ∀ b, b < 0 → a ≠ b → (TJ13 a).2.1 ≠ (TJ13 b).2.1 := by decide +kernel
theorem tyJ13_ok : ∀ k, k < 0 → parseFieldDescriptor (TJ13 k).2.2.1 = some (tyJ13 k) := by decide +kernel
abbrev cJ13_numberOfLeadingZeros_95d88 : ByteArray := prog_5_method_48_code
def yJ13_numberOfLeadingZeros_95d88 : MethodName := ⟨RJ13, "numberOfLeadingZeros", "(J)I"⟩
def RJ9 : String := "java/lang/Math"
def TJ9 : u_T := fun k => match k with
  | _ => ("", "", "", false)
def tyJ9 : Nat → FieldType := fun k => match k with
  | _ => .int
abbrev wsJ90 : List Cond := u_ws RJ9 TJ9 0
theorem nmJ9 : ∀ a, a < 0 → ∀ b, b < 0 → a ≠ b → (TJ9 a).2.1 ≠ (TJ9 b).2.1 := by decide +kernel
theorem tyJ9_ok : ∀ k, k < 0 → parseFieldDescriptor (TJ9 k).2.2.1 = some (tyJ9 k) := by decide +kernel
abbrev cJ9_max_7cf53 : ByteArray := prog_6_method_65_code
def yJ9_max_7cf53 : MethodName := ⟨RJ9, "max", "(II)I"⟩
abbrev cJ9_min_7cf53 : ByteArray := prog_6_method_69_code
def yJ9_min_7cf53 : MethodName := ⟨RJ9, "min", "(II)I"⟩
abbrev cJ9_min_f86c9 : ByteArray := prog_6_method_70_code
def yJ9_min_f86c9 : MethodName := ⟨RJ9, "min", "(JJ)J"⟩
def RL : String := "BinaryFunctionsLaw"
abbrev cL_law : ByteArray := code
def yL_law : MethodName := ⟨RL, "law", "([I)Z"⟩
def wsX0_init : List Cond := .code yX0_init cX0_init 1 none :: ([.methodLink RX0 1 objectInit, .instanceMethod objectInit, .code objectInit ⟨#[0xb1]⟩ 1 none, .arrayClass .long, .fieldLink RX0 9 "BinaryFunctions" "registers" "[J", .fieldLink RX0 13 "BinaryFunctions" "raised" "I", .fieldLink RX0 17 "BinaryFunctions" "lastQuotient" "I"] ++ wsX00)
def wsX0_isRegister : List Cond := .code yX0_isRegister cX0_isRegister 1 (some .boolean) :: ([])
def wsX0_load : List Cond := .code yX0_load cX0_load 4 (some .boolean) :: ([.fieldLink RX0 9 "BinaryFunctions" "registers" "[J", .methodLink RX0 20 yX0_isRegister, .static yX0_isRegister, .initialized RX0, .code yX0_isRegister cX0_isRegister 1 (some .boolean)] ++ wsX00)
def wsX0_bits : List Cond := .code yX0_bits cX0_bits 2 (some .long) :: ([.fieldLink RX0 9 "BinaryFunctions" "registers" "[J", .methodLink RX0 20 yX0_isRegister, .static yX0_isRegister, .initialized RX0, .code yX0_isRegister cX0_isRegister 1 (some .boolean)] ++ wsX00)
def wsX0_isNan : List Cond := .code yX0_isNan cX0_isNan 2 (some .boolean) :: ([.constantLong RX0 65 (9223372036854775807), .constantLong RX0 67 (9218868437227405312)])
def wsX0_isZero : List Cond := .code yX0_isZero cX0_isZero 2 (some .boolean) :: ([.constantLong RX0 65 (9223372036854775807)])
def wsX0_raise : List Cond := .code yX0_raise cX0_raise 2 none :: ([.fieldLink RX0 13 "BinaryFunctions" "raised" "I"] ++ wsX00)
def wsX0_fieldE : List Cond := .code yX0_fieldE cX0_fieldE 2 (some .int) :: ([.constantLong RX0 65 (9223372036854775807)])
def wsX0_power : List Cond := .code yX0_power cX0_power 2 (some .int) :: ([.methodLink RX0 78 Lib.Math.max.name, .static Lib.Math.max.name, .initialized "java/lang/Math", .code Lib.Math.max.name Lib.Math.max.code 2 (some .int), .methodLink RX0 75 yX0_fieldE, .static yX0_fieldE, .initialized RX0, .code yX0_fieldE cX0_fieldE 2 (some .int), .constantLong RX0 65 (9223372036854775807)])
def wsX0_significand : List Cond := .code yX0_significand cX0_significand 4 (some .long) :: ([.constantLong RX0 73 (4503599627370495), .constantLong RX0 71 (4503599627370496), .methodLink RX0 75 yX0_fieldE, .static yX0_fieldE, .initialized RX0, .code yX0_fieldE cX0_fieldE 2 (some .int), .constantLong RX0 65 (9223372036854775807)])
def wsJ6_numberOfLeadingZeros_0f7a4 : List Cond := .code yJ6_numberOfLeadingZeros_0f7a4 cJ6_numberOfLeadingZeros_0f7a4 2 (some .int) :: ([.constant RJ6 264 (65536)])
def wsJ13_numberOfLeadingZeros_95d88 : List Cond := .code yJ13_numberOfLeadingZeros_95d88 cJ13_numberOfLeadingZeros_95d88 3 (some .int) :: ([.methodLink RJ13 308 yJ6_numberOfLeadingZeros_0f7a4, .static yJ6_numberOfLeadingZeros_0f7a4, .initialized RJ6, .code yJ6_numberOfLeadingZeros_0f7a4 cJ6_numberOfLeadingZeros_0f7a4 2 (some .int), .constant RJ6 264 (65536)])
def wsX0_spareRoom : List Cond := .code yX0_spareRoom cX0_spareRoom 2 (some .int) :: ([.methodLink RX0 84 yX0_significand, .static yX0_significand, .initialized RX0, .code yX0_significand cX0_significand 4 (some .long), .constantLong RX0 73 (4503599627370495), .constantLong RX0 71 (4503599627370496), .methodLink RX0 75 yX0_fieldE, .static yX0_fieldE, .code yX0_fieldE cX0_fieldE 2 (some .int), .constantLong RX0 65 (9223372036854775807), .methodLink RX0 87 yJ13_numberOfLeadingZeros_95d88, .static yJ13_numberOfLeadingZeros_95d88, .initialized RJ13, .code yJ13_numberOfLeadingZeros_95d88 cJ13_numberOfLeadingZeros_95d88 3 (some .int), .methodLink RJ13 308 yJ6_numberOfLeadingZeros_0f7a4, .static yJ6_numberOfLeadingZeros_0f7a4, .initialized RJ6, .code yJ6_numberOfLeadingZeros_0f7a4 cJ6_numberOfLeadingZeros_0f7a4 2 (some .int), .constant RJ6 264 (65536)])
def wsX0_fullPower_r1 : List Cond := [Cond.methodLink RX0 95 yX0_power, Cond.static yX0_power, Cond.initialized RX0, Cond.code yX0_power cX0_power 2 (some .int), Cond.methodLink RX0 78 Lib.Math.max.name, Cond.static Lib.Math.max.name, Cond.initialized "java/lang/Math", Cond.code Lib.Math.max.name Lib.Math.max.code 2 (some .int), Cond.methodLink RX0 75 yX0_fieldE, Cond.static yX0_fieldE, Cond.code yX0_fieldE cX0_fieldE 2 (some .int), Cond.constantLong RX0 65 (9223372036854775807), Cond.methodLink RX0 92 yX0_spareRoom, Cond.static yX0_spareRoom, Cond.code yX0_spareRoom cX0_spareRoom 2 (some .int), Cond.methodLink RX0 84 yX0_significand, Cond.static yX0_significand, Cond.code yX0_significand cX0_significand 4 (some .long), Cond.constantLong RX0 73 (4503599627370495), Cond.constantLong RX0 71 (4503599627370496), Cond.methodLink RX0 87 yJ13_numberOfLeadingZeros_95d88, Cond.static yJ13_numberOfLeadingZeros_95d88, Cond.initialized RJ13, Cond.code yJ13_numberOfLeadingZeros_95d88 cJ13_numberOfLeadingZeros_95d88 3 (some .int)]
def wsX0_fullPower_r2 : List Cond := [Cond.methodLink RJ13 308 yJ6_numberOfLeadingZeros_0f7a4, Cond.static yJ6_numberOfLeadingZeros_0f7a4, Cond.initialized RJ6, Cond.code yJ6_numberOfLeadingZeros_0f7a4 cJ6_numberOfLeadingZeros_0f7a4 2 (some .int), Cond.constant RJ6 264 (65536)]
def wsX0_fullPower : List Cond := .code yX0_fullPower cX0_fullPower 2 (some .int) :: ((wsX0_fullPower_r1 ++ wsX0_fullPower_r2))
def wsX0_fullSignificand : List Cond := .code yX0_fullSignificand cX0_fullSignificand 2 (some .long) :: ([.methodLink RX0 84 yX0_significand, .static yX0_significand, .initialized RX0, .code yX0_significand cX0_significand 4 (some .long), .constantLong RX0 73 (4503599627370495), .constantLong RX0 71 (4503599627370496), .methodLink RX0 75 yX0_fieldE, .static yX0_fieldE, .code yX0_fieldE cX0_fieldE 2 (some .int), .constantLong RX0 65 (9223372036854775807), .methodLink RX0 92 yX0_spareRoom, .static yX0_spareRoom, .code yX0_spareRoom cX0_spareRoom 2 (some .int), .methodLink RX0 87 yJ13_numberOfLeadingZeros_95d88, .static yJ13_numberOfLeadingZeros_95d88, .initialized RJ13, .code yJ13_numberOfLeadingZeros_95d88 cJ13_numberOfLeadingZeros_95d88 3 (some .int), .methodLink RJ13 308 yJ6_numberOfLeadingZeros_0f7a4, .static yJ6_numberOfLeadingZeros_0f7a4, .initialized RJ6, .code yJ6_numberOfLeadingZeros_0f7a4 cJ6_numberOfLeadingZeros_0f7a4 2 (some .int), .constant RJ6 264 (65536)])
def wsX0_pattern : List Cond := .code yX0_pattern cX0_pattern 5 (some .long) :: ([.methodLink RX0 98 Lib.Math.min.name, .static Lib.Math.min.name, .initialized "java/lang/Math", .code Lib.Math.min.name Lib.Math.min.code 2 (some .int), .methodLink RX0 87 yJ13_numberOfLeadingZeros_95d88, .static yJ13_numberOfLeadingZeros_95d88, .initialized RJ13, .code yJ13_numberOfLeadingZeros_95d88 cJ13_numberOfLeadingZeros_95d88 3 (some .int), .methodLink RJ13 308 yJ6_numberOfLeadingZeros_0f7a4, .static yJ6_numberOfLeadingZeros_0f7a4, .initialized RJ6, .code yJ6_numberOfLeadingZeros_0f7a4 cJ6_numberOfLeadingZeros_0f7a4 2 (some .int), .constant RJ6 264 (65536)])
def wsX0_rootOfPositive_r1 : List Cond := [Cond.methodLink RX0 55 yX0_fullPower, Cond.static yX0_fullPower, Cond.initialized RX0, Cond.code yX0_fullPower cX0_fullPower 2 (some .int), Cond.methodLink RX0 95 yX0_power, Cond.static yX0_power, Cond.code yX0_power cX0_power 2 (some .int), Cond.methodLink RX0 78 Lib.Math.max.name, Cond.static Lib.Math.max.name, Cond.initialized "java/lang/Math", Cond.code Lib.Math.max.name Lib.Math.max.code 2 (some .int), Cond.methodLink RX0 75 yX0_fieldE, Cond.static yX0_fieldE, Cond.code yX0_fieldE cX0_fieldE 2 (some .int), Cond.constantLong RX0 65 (9223372036854775807), Cond.methodLink RX0 92 yX0_spareRoom, Cond.static yX0_spareRoom, Cond.code yX0_spareRoom cX0_spareRoom 2 (some .int), Cond.methodLink RX0 84 yX0_significand, Cond.static yX0_significand, Cond.code yX0_significand cX0_significand 4 (some .long), Cond.constantLong RX0 73 (4503599627370495), Cond.constantLong RX0 71 (4503599627370496), Cond.methodLink RX0 87 yJ13_numberOfLeadingZeros_95d88]
def wsX0_rootOfPositive_r2 : List Cond := [Cond.static yJ13_numberOfLeadingZeros_95d88, Cond.initialized RJ13, Cond.code yJ13_numberOfLeadingZeros_95d88 cJ13_numberOfLeadingZeros_95d88 3 (some .int), Cond.methodLink RJ13 308 yJ6_numberOfLeadingZeros_0f7a4, Cond.static yJ6_numberOfLeadingZeros_0f7a4, Cond.initialized RJ6, Cond.code yJ6_numberOfLeadingZeros_0f7a4 cJ6_numberOfLeadingZeros_0f7a4 2 (some .int), Cond.constant RJ6 264 (65536), Cond.methodLink RX0 110 yX0_fullSignificand, Cond.static yX0_fullSignificand, Cond.code yX0_fullSignificand cX0_fullSignificand 2 (some .long), Cond.methodLink RX0 103 yX0_raise, Cond.instanceMethod yX0_raise, Cond.selects RX0 yX0_raise yX0_raise, Cond.code yX0_raise cX0_raise 2 none, Cond.fieldLink RX0 13 "BinaryFunctions" "raised" "I", Cond.methodLink RX0 113 yX0_pattern, Cond.static yX0_pattern, Cond.code yX0_pattern cX0_pattern 5 (some .long), Cond.methodLink RX0 98 Lib.Math.min.name, Cond.static Lib.Math.min.name, Cond.code Lib.Math.min.name Lib.Math.min.code 2 (some .int)]
def wsX0_rootOfPositive : List Cond := .code yX0_rootOfPositive cX0_rootOfPositive 14 (some .long) :: ((wsX0_rootOfPositive_r1 ++ wsX0_rootOfPositive_r2) ++ wsX00)
def wsX0_squareRoot_r1 : List Cond := [Cond.constantLong RX0 101 (9221120237041090560), Cond.constantLong RX0 67 (9218868437227405312), Cond.methodLink RX0 51 yX0_isNan, Cond.static yX0_isNan, Cond.initialized RX0, Cond.code yX0_isNan cX0_isNan 2 (some .boolean), Cond.constantLong RX0 65 (9223372036854775807), Cond.methodLink RX0 43 yX0_isZero, Cond.static yX0_isZero, Cond.code yX0_isZero cX0_isZero 2 (some .boolean), Cond.methodLink RX0 103 yX0_raise, Cond.instanceMethod yX0_raise, Cond.selects RX0 yX0_raise yX0_raise, Cond.code yX0_raise cX0_raise 2 none, Cond.fieldLink RX0 13 "BinaryFunctions" "raised" "I", Cond.methodLink RX0 107 yX0_rootOfPositive, Cond.instanceMethod yX0_rootOfPositive, Cond.selects RX0 yX0_rootOfPositive yX0_rootOfPositive, Cond.code yX0_rootOfPositive cX0_rootOfPositive 14 (some .long), Cond.methodLink RX0 55 yX0_fullPower, Cond.static yX0_fullPower, Cond.code yX0_fullPower cX0_fullPower 2 (some .int), Cond.methodLink RX0 95 yX0_power, Cond.static yX0_power]
def wsX0_squareRoot_r2 : List Cond := [Cond.code yX0_power cX0_power 2 (some .int), Cond.methodLink RX0 78 Lib.Math.max.name, Cond.static Lib.Math.max.name, Cond.initialized "java/lang/Math", Cond.code Lib.Math.max.name Lib.Math.max.code 2 (some .int), Cond.methodLink RX0 75 yX0_fieldE, Cond.static yX0_fieldE, Cond.code yX0_fieldE cX0_fieldE 2 (some .int), Cond.methodLink RX0 92 yX0_spareRoom, Cond.static yX0_spareRoom, Cond.code yX0_spareRoom cX0_spareRoom 2 (some .int), Cond.methodLink RX0 84 yX0_significand, Cond.static yX0_significand, Cond.code yX0_significand cX0_significand 4 (some .long), Cond.constantLong RX0 73 (4503599627370495), Cond.constantLong RX0 71 (4503599627370496), Cond.methodLink RX0 87 yJ13_numberOfLeadingZeros_95d88, Cond.static yJ13_numberOfLeadingZeros_95d88, Cond.initialized RJ13, Cond.code yJ13_numberOfLeadingZeros_95d88 cJ13_numberOfLeadingZeros_95d88 3 (some .int), Cond.methodLink RJ13 308 yJ6_numberOfLeadingZeros_0f7a4, Cond.static yJ6_numberOfLeadingZeros_0f7a4, Cond.initialized RJ6, Cond.code yJ6_numberOfLeadingZeros_0f7a4 cJ6_numberOfLeadingZeros_0f7a4 2 (some .int)]
def wsX0_squareRoot_r3 : List Cond := [Cond.constant RJ6 264 (65536), Cond.methodLink RX0 110 yX0_fullSignificand, Cond.static yX0_fullSignificand, Cond.code yX0_fullSignificand cX0_fullSignificand 2 (some .long), Cond.methodLink RX0 113 yX0_pattern, Cond.static yX0_pattern, Cond.code yX0_pattern cX0_pattern 5 (some .long), Cond.methodLink RX0 98 Lib.Math.min.name, Cond.static Lib.Math.min.name, Cond.code Lib.Math.min.name Lib.Math.min.code 2 (some .int)]
def wsX0_squareRoot : List Cond := .code yX0_squareRoot cX0_squareRoot 3 (some .long) :: ((wsX0_squareRoot_r1 ++ (wsX0_squareRoot_r2 ++ wsX0_squareRoot_r3)) ++ wsX00)
def wsX0_sqrt_r1 : List Cond := [Cond.fieldLink RX0 9 "BinaryFunctions" "registers" "[J", Cond.methodLink RX0 20 yX0_isRegister, Cond.static yX0_isRegister, Cond.initialized RX0, Cond.code yX0_isRegister cX0_isRegister 1 (some .boolean), Cond.methodLink RX0 24 yX0_squareRoot, Cond.instanceMethod yX0_squareRoot, Cond.selects RX0 yX0_squareRoot yX0_squareRoot, Cond.code yX0_squareRoot cX0_squareRoot 3 (some .long), Cond.constantLong RX0 101 (9221120237041090560), Cond.constantLong RX0 67 (9218868437227405312), Cond.methodLink RX0 51 yX0_isNan, Cond.static yX0_isNan, Cond.code yX0_isNan cX0_isNan 2 (some .boolean), Cond.constantLong RX0 65 (9223372036854775807), Cond.methodLink RX0 43 yX0_isZero, Cond.static yX0_isZero, Cond.code yX0_isZero cX0_isZero 2 (some .boolean), Cond.methodLink RX0 103 yX0_raise, Cond.instanceMethod yX0_raise, Cond.selects RX0 yX0_raise yX0_raise, Cond.code yX0_raise cX0_raise 2 none, Cond.fieldLink RX0 13 "BinaryFunctions" "raised" "I", Cond.methodLink RX0 107 yX0_rootOfPositive]
def wsX0_sqrt_r2 : List Cond := [Cond.instanceMethod yX0_rootOfPositive, Cond.selects RX0 yX0_rootOfPositive yX0_rootOfPositive, Cond.code yX0_rootOfPositive cX0_rootOfPositive 14 (some .long), Cond.methodLink RX0 55 yX0_fullPower, Cond.static yX0_fullPower, Cond.code yX0_fullPower cX0_fullPower 2 (some .int), Cond.methodLink RX0 95 yX0_power, Cond.static yX0_power, Cond.code yX0_power cX0_power 2 (some .int), Cond.methodLink RX0 78 Lib.Math.max.name, Cond.static Lib.Math.max.name, Cond.initialized "java/lang/Math", Cond.code Lib.Math.max.name Lib.Math.max.code 2 (some .int), Cond.methodLink RX0 75 yX0_fieldE, Cond.static yX0_fieldE, Cond.code yX0_fieldE cX0_fieldE 2 (some .int), Cond.methodLink RX0 92 yX0_spareRoom, Cond.static yX0_spareRoom, Cond.code yX0_spareRoom cX0_spareRoom 2 (some .int), Cond.methodLink RX0 84 yX0_significand, Cond.static yX0_significand, Cond.code yX0_significand cX0_significand 4 (some .long), Cond.constantLong RX0 73 (4503599627370495), Cond.constantLong RX0 71 (4503599627370496)]
def wsX0_sqrt_r3 : List Cond := [Cond.methodLink RX0 87 yJ13_numberOfLeadingZeros_95d88, Cond.static yJ13_numberOfLeadingZeros_95d88, Cond.initialized RJ13, Cond.code yJ13_numberOfLeadingZeros_95d88 cJ13_numberOfLeadingZeros_95d88 3 (some .int), Cond.methodLink RJ13 308 yJ6_numberOfLeadingZeros_0f7a4, Cond.static yJ6_numberOfLeadingZeros_0f7a4, Cond.initialized RJ6, Cond.code yJ6_numberOfLeadingZeros_0f7a4 cJ6_numberOfLeadingZeros_0f7a4 2 (some .int), Cond.constant RJ6 264 (65536), Cond.methodLink RX0 110 yX0_fullSignificand, Cond.static yX0_fullSignificand, Cond.code yX0_fullSignificand cX0_fullSignificand 2 (some .long), Cond.methodLink RX0 113 yX0_pattern, Cond.static yX0_pattern, Cond.code yX0_pattern cX0_pattern 5 (some .long), Cond.methodLink RX0 98 Lib.Math.min.name, Cond.static Lib.Math.min.name, Cond.code Lib.Math.min.name Lib.Math.min.code 2 (some .int)]
def wsX0_sqrt : List Cond := .code yX0_sqrt cX0_sqrt 3 (some .boolean) :: ((wsX0_sqrt_r1 ++ (wsX0_sqrt_r2 ++ wsX0_sqrt_r3)) ++ wsX00)
def wsX0_isInfinity : List Cond := .code yX0_isInfinity cX0_isInfinity 2 (some .boolean) :: ([.constantLong RX0 65 (9223372036854775807), .constantLong RX0 67 (9218868437227405312)])
def wsX0_signOf : List Cond := .code yX0_signOf cX0_signOf 2 (some .long) :: ([.constantLong RX0 69 (-9223372036854775808)])
def wsX0_nearestShifted : List Cond := .code yX0_nearestShifted cX0_nearestShifted 10 (some .long) :: ([])
def wsX0_wholeAmount : List Cond := .code yX0_wholeAmount cX0_wholeAmount 8 (some .long) :: ([.methodLink RX0 123 yX0_nearestShifted, .static yX0_nearestShifted, .initialized RX0, .code yX0_nearestShifted cX0_nearestShifted 10 (some .long)])
def wsX0_madeWhole_r1 : List Cond := [Cond.constantLong RX0 101 (9221120237041090560), Cond.methodLink RX0 98 Lib.Math.min.name, Cond.static Lib.Math.min.name, Cond.initialized "java/lang/Math", Cond.code Lib.Math.min.name Lib.Math.min.code 2 (some .int), Cond.methodLink RX0 51 yX0_isNan, Cond.static yX0_isNan, Cond.initialized RX0, Cond.code yX0_isNan cX0_isNan 2 (some .boolean), Cond.constantLong RX0 65 (9223372036854775807), Cond.constantLong RX0 67 (9218868437227405312), Cond.methodLink RX0 43 yX0_isZero, Cond.static yX0_isZero, Cond.code yX0_isZero cX0_isZero 2 (some .boolean), Cond.methodLink RX0 48 yX0_isInfinity, Cond.static yX0_isInfinity, Cond.code yX0_isInfinity cX0_isInfinity 2 (some .boolean), Cond.methodLink RX0 95 yX0_power, Cond.static yX0_power, Cond.code yX0_power cX0_power 2 (some .int), Cond.methodLink RX0 78 Lib.Math.max.name, Cond.static Lib.Math.max.name, Cond.code Lib.Math.max.name Lib.Math.max.code 2 (some .int), Cond.methodLink RX0 75 yX0_fieldE]
def wsX0_madeWhole_r2 : List Cond := [Cond.static yX0_fieldE, Cond.code yX0_fieldE cX0_fieldE 2 (some .int), Cond.methodLink RX0 116 yX0_signOf, Cond.static yX0_signOf, Cond.code yX0_signOf cX0_signOf 2 (some .long), Cond.constantLong RX0 69 (-9223372036854775808), Cond.methodLink RX0 84 yX0_significand, Cond.static yX0_significand, Cond.code yX0_significand cX0_significand 4 (some .long), Cond.constantLong RX0 73 (4503599627370495), Cond.constantLong RX0 71 (4503599627370496), Cond.methodLink RX0 119 yX0_wholeAmount, Cond.static yX0_wholeAmount, Cond.code yX0_wholeAmount cX0_wholeAmount 8 (some .long), Cond.methodLink RX0 123 yX0_nearestShifted, Cond.static yX0_nearestShifted, Cond.code yX0_nearestShifted cX0_nearestShifted 10 (some .long), Cond.methodLink RX0 113 yX0_pattern, Cond.static yX0_pattern, Cond.code yX0_pattern cX0_pattern 5 (some .long), Cond.methodLink RX0 87 yJ13_numberOfLeadingZeros_95d88, Cond.static yJ13_numberOfLeadingZeros_95d88, Cond.initialized RJ13, Cond.code yJ13_numberOfLeadingZeros_95d88 cJ13_numberOfLeadingZeros_95d88 3 (some .int)]
def wsX0_madeWhole_r3 : List Cond := [Cond.methodLink RJ13 308 yJ6_numberOfLeadingZeros_0f7a4, Cond.static yJ6_numberOfLeadingZeros_0f7a4, Cond.initialized RJ6, Cond.code yJ6_numberOfLeadingZeros_0f7a4 cJ6_numberOfLeadingZeros_0f7a4 2 (some .int), Cond.constant RJ6 264 (65536), Cond.methodLink RX0 103 yX0_raise, Cond.instanceMethod yX0_raise, Cond.selects RX0 yX0_raise yX0_raise, Cond.code yX0_raise cX0_raise 2 none, Cond.fieldLink RX0 13 "BinaryFunctions" "raised" "I"]
def wsX0_madeWhole : List Cond := .code yX0_madeWhole cX0_madeWhole 7 (some .long) :: ((wsX0_madeWhole_r1 ++ (wsX0_madeWhole_r2 ++ wsX0_madeWhole_r3)) ++ wsX00)
def wsX0_whole_r1 : List Cond := [Cond.fieldLink RX0 9 "BinaryFunctions" "registers" "[J", Cond.methodLink RX0 20 yX0_isRegister, Cond.static yX0_isRegister, Cond.initialized RX0, Cond.code yX0_isRegister cX0_isRegister 1 (some .boolean), Cond.methodLink RX0 28 yX0_madeWhole, Cond.instanceMethod yX0_madeWhole, Cond.selects RX0 yX0_madeWhole yX0_madeWhole, Cond.code yX0_madeWhole cX0_madeWhole 7 (some .long), Cond.constantLong RX0 101 (9221120237041090560), Cond.methodLink RX0 98 Lib.Math.min.name, Cond.static Lib.Math.min.name, Cond.initialized "java/lang/Math", Cond.code Lib.Math.min.name Lib.Math.min.code 2 (some .int), Cond.methodLink RX0 51 yX0_isNan, Cond.static yX0_isNan, Cond.code yX0_isNan cX0_isNan 2 (some .boolean), Cond.constantLong RX0 65 (9223372036854775807), Cond.constantLong RX0 67 (9218868437227405312), Cond.methodLink RX0 43 yX0_isZero, Cond.static yX0_isZero, Cond.code yX0_isZero cX0_isZero 2 (some .boolean), Cond.methodLink RX0 48 yX0_isInfinity, Cond.static yX0_isInfinity]
def wsX0_whole_r2 : List Cond := [Cond.code yX0_isInfinity cX0_isInfinity 2 (some .boolean), Cond.methodLink RX0 95 yX0_power, Cond.static yX0_power, Cond.code yX0_power cX0_power 2 (some .int), Cond.methodLink RX0 78 Lib.Math.max.name, Cond.static Lib.Math.max.name, Cond.code Lib.Math.max.name Lib.Math.max.code 2 (some .int), Cond.methodLink RX0 75 yX0_fieldE, Cond.static yX0_fieldE, Cond.code yX0_fieldE cX0_fieldE 2 (some .int), Cond.methodLink RX0 116 yX0_signOf, Cond.static yX0_signOf, Cond.code yX0_signOf cX0_signOf 2 (some .long), Cond.constantLong RX0 69 (-9223372036854775808), Cond.methodLink RX0 84 yX0_significand, Cond.static yX0_significand, Cond.code yX0_significand cX0_significand 4 (some .long), Cond.constantLong RX0 73 (4503599627370495), Cond.constantLong RX0 71 (4503599627370496), Cond.methodLink RX0 119 yX0_wholeAmount, Cond.static yX0_wholeAmount, Cond.code yX0_wholeAmount cX0_wholeAmount 8 (some .long), Cond.methodLink RX0 123 yX0_nearestShifted, Cond.static yX0_nearestShifted]
def wsX0_whole_r3 : List Cond := [Cond.code yX0_nearestShifted cX0_nearestShifted 10 (some .long), Cond.methodLink RX0 113 yX0_pattern, Cond.static yX0_pattern, Cond.code yX0_pattern cX0_pattern 5 (some .long), Cond.methodLink RX0 87 yJ13_numberOfLeadingZeros_95d88, Cond.static yJ13_numberOfLeadingZeros_95d88, Cond.initialized RJ13, Cond.code yJ13_numberOfLeadingZeros_95d88 cJ13_numberOfLeadingZeros_95d88 3 (some .int), Cond.methodLink RJ13 308 yJ6_numberOfLeadingZeros_0f7a4, Cond.static yJ6_numberOfLeadingZeros_0f7a4, Cond.initialized RJ6, Cond.code yJ6_numberOfLeadingZeros_0f7a4 cJ6_numberOfLeadingZeros_0f7a4 2 (some .int), Cond.constant RJ6 264 (65536), Cond.methodLink RX0 103 yX0_raise, Cond.instanceMethod yX0_raise, Cond.selects RX0 yX0_raise yX0_raise, Cond.code yX0_raise cX0_raise 2 none, Cond.fieldLink RX0 13 "BinaryFunctions" "raised" "I"]
def wsX0_whole : List Cond := .code yX0_whole cX0_whole 4 (some .boolean) :: ((wsX0_whole_r1 ++ (wsX0_whole_r2 ++ wsX0_whole_r3)) ++ wsX00)
def wsX0_remainderOfFinite_r1 : List Cond := [Cond.methodLink RX0 78 Lib.Math.max.name, Cond.static Lib.Math.max.name, Cond.initialized "java/lang/Math", Cond.code Lib.Math.max.name Lib.Math.max.code 2 (some .int), Cond.methodLink RX0 98 Lib.Math.min.name, Cond.static Lib.Math.min.name, Cond.code Lib.Math.min.name Lib.Math.min.code 2 (some .int), Cond.constantLong RX0 69 (-9223372036854775808), Cond.constantLong RX0 130 (7), Cond.fieldLink RX0 17 "BinaryFunctions" "lastQuotient" "I", Cond.methodLink RX0 84 yX0_significand, Cond.static yX0_significand, Cond.initialized RX0, Cond.code yX0_significand cX0_significand 4 (some .long), Cond.constantLong RX0 73 (4503599627370495), Cond.constantLong RX0 71 (4503599627370496), Cond.methodLink RX0 75 yX0_fieldE, Cond.static yX0_fieldE, Cond.code yX0_fieldE cX0_fieldE 2 (some .int), Cond.constantLong RX0 65 (9223372036854775807), Cond.methodLink RX0 95 yX0_power, Cond.static yX0_power, Cond.code yX0_power cX0_power 2 (some .int), Cond.methodLink RX0 116 yX0_signOf]
def wsX0_remainderOfFinite_r2 : List Cond := [Cond.static yX0_signOf, Cond.code yX0_signOf cX0_signOf 2 (some .long), Cond.methodLink RX0 113 yX0_pattern, Cond.static yX0_pattern, Cond.code yX0_pattern cX0_pattern 5 (some .long), Cond.methodLink RX0 87 yJ13_numberOfLeadingZeros_95d88, Cond.static yJ13_numberOfLeadingZeros_95d88, Cond.initialized RJ13, Cond.code yJ13_numberOfLeadingZeros_95d88 cJ13_numberOfLeadingZeros_95d88 3 (some .int), Cond.methodLink RJ13 308 yJ6_numberOfLeadingZeros_0f7a4, Cond.static yJ6_numberOfLeadingZeros_0f7a4, Cond.initialized RJ6, Cond.code yJ6_numberOfLeadingZeros_0f7a4 cJ6_numberOfLeadingZeros_0f7a4 2 (some .int), Cond.constant RJ6 264 (65536)]
def wsX0_remainderOfFinite : List Cond := .code yX0_remainderOfFinite cX0_remainderOfFinite 18 (some .long) :: ((wsX0_remainderOfFinite_r1 ++ wsX0_remainderOfFinite_r2) ++ wsX00)
def wsX0_remainder_r1 : List Cond := [Cond.fieldLink RX0 17 "BinaryFunctions" "lastQuotient" "I", Cond.constantLong RX0 101 (9221120237041090560), Cond.methodLink RX0 51 yX0_isNan, Cond.static yX0_isNan, Cond.initialized RX0, Cond.code yX0_isNan cX0_isNan 2 (some .boolean), Cond.constantLong RX0 65 (9223372036854775807), Cond.constantLong RX0 67 (9218868437227405312), Cond.methodLink RX0 48 yX0_isInfinity, Cond.static yX0_isInfinity, Cond.code yX0_isInfinity cX0_isInfinity 2 (some .boolean), Cond.methodLink RX0 43 yX0_isZero, Cond.static yX0_isZero, Cond.code yX0_isZero cX0_isZero 2 (some .boolean), Cond.methodLink RX0 103 yX0_raise, Cond.instanceMethod yX0_raise, Cond.selects RX0 yX0_raise yX0_raise, Cond.code yX0_raise cX0_raise 2 none, Cond.fieldLink RX0 13 "BinaryFunctions" "raised" "I", Cond.methodLink RX0 95 yX0_power, Cond.static yX0_power, Cond.code yX0_power cX0_power 2 (some .int), Cond.methodLink RX0 78 Lib.Math.max.name, Cond.static Lib.Math.max.name]
def wsX0_remainder_r2 : List Cond := [Cond.initialized "java/lang/Math", Cond.code Lib.Math.max.name Lib.Math.max.code 2 (some .int), Cond.methodLink RX0 75 yX0_fieldE, Cond.static yX0_fieldE, Cond.code yX0_fieldE cX0_fieldE 2 (some .int), Cond.methodLink RX0 126 yX0_remainderOfFinite, Cond.instanceMethod yX0_remainderOfFinite, Cond.selects RX0 yX0_remainderOfFinite yX0_remainderOfFinite, Cond.code yX0_remainderOfFinite cX0_remainderOfFinite 18 (some .long), Cond.methodLink RX0 98 Lib.Math.min.name, Cond.static Lib.Math.min.name, Cond.code Lib.Math.min.name Lib.Math.min.code 2 (some .int), Cond.constantLong RX0 69 (-9223372036854775808), Cond.constantLong RX0 130 (7), Cond.methodLink RX0 84 yX0_significand, Cond.static yX0_significand, Cond.code yX0_significand cX0_significand 4 (some .long), Cond.constantLong RX0 73 (4503599627370495), Cond.constantLong RX0 71 (4503599627370496), Cond.methodLink RX0 116 yX0_signOf, Cond.static yX0_signOf, Cond.code yX0_signOf cX0_signOf 2 (some .long), Cond.methodLink RX0 113 yX0_pattern, Cond.static yX0_pattern]
def wsX0_remainder_r3 : List Cond := [Cond.code yX0_pattern cX0_pattern 5 (some .long), Cond.methodLink RX0 87 yJ13_numberOfLeadingZeros_95d88, Cond.static yJ13_numberOfLeadingZeros_95d88, Cond.initialized RJ13, Cond.code yJ13_numberOfLeadingZeros_95d88 cJ13_numberOfLeadingZeros_95d88 3 (some .int), Cond.methodLink RJ13 308 yJ6_numberOfLeadingZeros_0f7a4, Cond.static yJ6_numberOfLeadingZeros_0f7a4, Cond.initialized RJ6, Cond.code yJ6_numberOfLeadingZeros_0f7a4 cJ6_numberOfLeadingZeros_0f7a4 2 (some .int), Cond.constant RJ6 264 (65536)]
def wsX0_remainder : List Cond := .code yX0_remainder cX0_remainder 7 (some .long) :: ((wsX0_remainder_r1 ++ (wsX0_remainder_r2 ++ wsX0_remainder_r3)) ++ wsX00)
def wsX0_left_r1 : List Cond := [Cond.fieldLink RX0 9 "BinaryFunctions" "registers" "[J", Cond.methodLink RX0 20 yX0_isRegister, Cond.static yX0_isRegister, Cond.initialized RX0, Cond.code yX0_isRegister cX0_isRegister 1 (some .boolean), Cond.methodLink RX0 32 yX0_remainder, Cond.instanceMethod yX0_remainder, Cond.selects RX0 yX0_remainder yX0_remainder, Cond.code yX0_remainder cX0_remainder 7 (some .long), Cond.fieldLink RX0 17 "BinaryFunctions" "lastQuotient" "I", Cond.constantLong RX0 101 (9221120237041090560), Cond.methodLink RX0 51 yX0_isNan, Cond.static yX0_isNan, Cond.code yX0_isNan cX0_isNan 2 (some .boolean), Cond.constantLong RX0 65 (9223372036854775807), Cond.constantLong RX0 67 (9218868437227405312), Cond.methodLink RX0 48 yX0_isInfinity, Cond.static yX0_isInfinity, Cond.code yX0_isInfinity cX0_isInfinity 2 (some .boolean), Cond.methodLink RX0 43 yX0_isZero, Cond.static yX0_isZero, Cond.code yX0_isZero cX0_isZero 2 (some .boolean), Cond.methodLink RX0 103 yX0_raise, Cond.instanceMethod yX0_raise]
def wsX0_left_r2 : List Cond := [Cond.selects RX0 yX0_raise yX0_raise, Cond.code yX0_raise cX0_raise 2 none, Cond.fieldLink RX0 13 "BinaryFunctions" "raised" "I", Cond.methodLink RX0 95 yX0_power, Cond.static yX0_power, Cond.code yX0_power cX0_power 2 (some .int), Cond.methodLink RX0 78 Lib.Math.max.name, Cond.static Lib.Math.max.name, Cond.initialized "java/lang/Math", Cond.code Lib.Math.max.name Lib.Math.max.code 2 (some .int), Cond.methodLink RX0 75 yX0_fieldE, Cond.static yX0_fieldE, Cond.code yX0_fieldE cX0_fieldE 2 (some .int), Cond.methodLink RX0 126 yX0_remainderOfFinite, Cond.instanceMethod yX0_remainderOfFinite, Cond.selects RX0 yX0_remainderOfFinite yX0_remainderOfFinite, Cond.code yX0_remainderOfFinite cX0_remainderOfFinite 18 (some .long), Cond.methodLink RX0 98 Lib.Math.min.name, Cond.static Lib.Math.min.name, Cond.code Lib.Math.min.name Lib.Math.min.code 2 (some .int), Cond.constantLong RX0 69 (-9223372036854775808), Cond.constantLong RX0 130 (7), Cond.methodLink RX0 84 yX0_significand, Cond.static yX0_significand]
def wsX0_left_r3 : List Cond := [Cond.code yX0_significand cX0_significand 4 (some .long), Cond.constantLong RX0 73 (4503599627370495), Cond.constantLong RX0 71 (4503599627370496), Cond.methodLink RX0 116 yX0_signOf, Cond.static yX0_signOf, Cond.code yX0_signOf cX0_signOf 2 (some .long), Cond.methodLink RX0 113 yX0_pattern, Cond.static yX0_pattern, Cond.code yX0_pattern cX0_pattern 5 (some .long), Cond.methodLink RX0 87 yJ13_numberOfLeadingZeros_95d88, Cond.static yJ13_numberOfLeadingZeros_95d88, Cond.initialized RJ13, Cond.code yJ13_numberOfLeadingZeros_95d88 cJ13_numberOfLeadingZeros_95d88 3 (some .int), Cond.methodLink RJ13 308 yJ6_numberOfLeadingZeros_0f7a4, Cond.static yJ6_numberOfLeadingZeros_0f7a4, Cond.initialized RJ6, Cond.code yJ6_numberOfLeadingZeros_0f7a4 cJ6_numberOfLeadingZeros_0f7a4 2 (some .int), Cond.constant RJ6 264 (65536)]
def wsX0_left : List Cond := .code yX0_left cX0_left 5 (some .boolean) :: ((wsX0_left_r1 ++ (wsX0_left_r2 ++ wsX0_left_r3)) ++ wsX00)
def wsX0_quotient : List Cond := .code yX0_quotient cX0_quotient 1 (some .int) :: ([.fieldLink RX0 17 "BinaryFunctions" "lastQuotient" "I"] ++ wsX00)
def wsX0_place : List Cond := .code yX0_place cX0_place 2 (some .long) :: ([.constantLong RX0 65 (9223372036854775807)])
def wsX0_nextTowards : List Cond := .code yX0_nextTowards cX0_nextTowards 6 (some .long) :: ([.constantLong RX0 101 (9221120237041090560), .constantLong RX0 69 (-9223372036854775808), .methodLink RX0 51 yX0_isNan, .static yX0_isNan, .initialized RX0, .code yX0_isNan cX0_isNan 2 (some .boolean), .constantLong RX0 65 (9223372036854775807), .constantLong RX0 67 (9218868437227405312), .methodLink RX0 59 yX0_place, .static yX0_place, .code yX0_place cX0_place 2 (some .long), .methodLink RX0 116 yX0_signOf, .static yX0_signOf, .code yX0_signOf cX0_signOf 2 (some .long)])
def wsX0_neighbour : List Cond := .code yX0_neighbour cX0_neighbour 4 (some .boolean) :: ([.fieldLink RX0 9 "BinaryFunctions" "registers" "[J", .methodLink RX0 20 yX0_isRegister, .static yX0_isRegister, .initialized RX0, .code yX0_isRegister cX0_isRegister 1 (some .boolean), .methodLink RX0 36 yX0_nextTowards, .static yX0_nextTowards, .code yX0_nextTowards cX0_nextTowards 6 (some .long), .constantLong RX0 101 (9221120237041090560), .constantLong RX0 69 (-9223372036854775808), .methodLink RX0 51 yX0_isNan, .static yX0_isNan, .code yX0_isNan cX0_isNan 2 (some .boolean), .constantLong RX0 65 (9223372036854775807), .constantLong RX0 67 (9218868437227405312), .methodLink RX0 59 yX0_place, .static yX0_place, .code yX0_place cX0_place 2 (some .long), .methodLink RX0 116 yX0_signOf, .static yX0_signOf, .code yX0_signOf cX0_signOf 2 (some .long)] ++ wsX00)
def wsX0_roundedToLeastPower_r1 : List Cond := [Cond.constantLong RX0 71 (4503599627370496), Cond.methodLink RX0 123 yX0_nearestShifted, Cond.static yX0_nearestShifted, Cond.initialized RX0, Cond.code yX0_nearestShifted cX0_nearestShifted 10 (some .long), Cond.methodLink RX0 103 yX0_raise, Cond.instanceMethod yX0_raise, Cond.selects RX0 yX0_raise yX0_raise, Cond.code yX0_raise cX0_raise 2 none, Cond.fieldLink RX0 13 "BinaryFunctions" "raised" "I", Cond.methodLink RX0 113 yX0_pattern, Cond.static yX0_pattern, Cond.code yX0_pattern cX0_pattern 5 (some .long), Cond.methodLink RX0 98 Lib.Math.min.name, Cond.static Lib.Math.min.name, Cond.initialized "java/lang/Math", Cond.code Lib.Math.min.name Lib.Math.min.code 2 (some .int), Cond.methodLink RX0 87 yJ13_numberOfLeadingZeros_95d88, Cond.static yJ13_numberOfLeadingZeros_95d88, Cond.initialized RJ13, Cond.code yJ13_numberOfLeadingZeros_95d88 cJ13_numberOfLeadingZeros_95d88 3 (some .int), Cond.methodLink RJ13 308 yJ6_numberOfLeadingZeros_0f7a4, Cond.static yJ6_numberOfLeadingZeros_0f7a4, Cond.initialized RJ6]
def wsX0_roundedToLeastPower_r2 : List Cond := [Cond.code yJ6_numberOfLeadingZeros_0f7a4 cJ6_numberOfLeadingZeros_0f7a4 2 (some .int), Cond.constant RJ6 264 (65536)]
def wsX0_roundedToLeastPower : List Cond := .code yX0_roundedToLeastPower cX0_roundedToLeastPower 6 (some .long) :: ((wsX0_roundedToLeastPower_r1 ++ wsX0_roundedToLeastPower_r2) ++ wsX00)
def wsX0_timesPowerOfTwo_r1 : List Cond := [Cond.constantLong RX0 101 (9221120237041090560), Cond.constantLong RX0 132 (971), Cond.constantLong RX0 67 (9218868437227405312), Cond.constantLong RX0 134 (-1074), Cond.constantLong RX0 136 (60), Cond.methodLink RX0 138 Lib.MathLoose.min_long.x, Cond.static Lib.MathLoose.min_long.x, Cond.initialized "java/lang/Math", Cond.code Lib.MathLoose.min_long.x Lib.MathLoose.min_long.code 4 (some .long), Cond.methodLink RX0 51 yX0_isNan, Cond.static yX0_isNan, Cond.initialized RX0, Cond.code yX0_isNan cX0_isNan 2 (some .boolean), Cond.constantLong RX0 65 (9223372036854775807), Cond.methodLink RX0 43 yX0_isZero, Cond.static yX0_isZero, Cond.code yX0_isZero cX0_isZero 2 (some .boolean), Cond.methodLink RX0 48 yX0_isInfinity, Cond.static yX0_isInfinity, Cond.code yX0_isInfinity cX0_isInfinity 2 (some .boolean), Cond.methodLink RX0 55 yX0_fullPower, Cond.static yX0_fullPower, Cond.code yX0_fullPower cX0_fullPower 2 (some .int), Cond.methodLink RX0 95 yX0_power]
def wsX0_timesPowerOfTwo_r2 : List Cond := [Cond.static yX0_power, Cond.code yX0_power cX0_power 2 (some .int), Cond.methodLink RX0 78 Lib.Math.max.name, Cond.static Lib.Math.max.name, Cond.code Lib.Math.max.name Lib.Math.max.code 2 (some .int), Cond.methodLink RX0 75 yX0_fieldE, Cond.static yX0_fieldE, Cond.code yX0_fieldE cX0_fieldE 2 (some .int), Cond.methodLink RX0 92 yX0_spareRoom, Cond.static yX0_spareRoom, Cond.code yX0_spareRoom cX0_spareRoom 2 (some .int), Cond.methodLink RX0 84 yX0_significand, Cond.static yX0_significand, Cond.code yX0_significand cX0_significand 4 (some .long), Cond.constantLong RX0 73 (4503599627370495), Cond.constantLong RX0 71 (4503599627370496), Cond.methodLink RX0 87 yJ13_numberOfLeadingZeros_95d88, Cond.static yJ13_numberOfLeadingZeros_95d88, Cond.initialized RJ13, Cond.code yJ13_numberOfLeadingZeros_95d88 cJ13_numberOfLeadingZeros_95d88 3 (some .int), Cond.methodLink RJ13 308 yJ6_numberOfLeadingZeros_0f7a4, Cond.static yJ6_numberOfLeadingZeros_0f7a4, Cond.initialized RJ6, Cond.code yJ6_numberOfLeadingZeros_0f7a4 cJ6_numberOfLeadingZeros_0f7a4 2 (some .int)]
def wsX0_timesPowerOfTwo_r3 : List Cond := [Cond.constant RJ6 264 (65536), Cond.methodLink RX0 103 yX0_raise, Cond.instanceMethod yX0_raise, Cond.selects RX0 yX0_raise yX0_raise, Cond.code yX0_raise cX0_raise 2 none, Cond.fieldLink RX0 13 "BinaryFunctions" "raised" "I", Cond.methodLink RX0 116 yX0_signOf, Cond.static yX0_signOf, Cond.code yX0_signOf cX0_signOf 2 (some .long), Cond.constantLong RX0 69 (-9223372036854775808), Cond.methodLink RX0 110 yX0_fullSignificand, Cond.static yX0_fullSignificand, Cond.code yX0_fullSignificand cX0_fullSignificand 2 (some .long), Cond.methodLink RX0 113 yX0_pattern, Cond.static yX0_pattern, Cond.code yX0_pattern cX0_pattern 5 (some .long), Cond.methodLink RX0 98 Lib.Math.min.name, Cond.static Lib.Math.min.name, Cond.code Lib.Math.min.name Lib.Math.min.code 2 (some .int), Cond.methodLink RX0 140 yX0_roundedToLeastPower, Cond.instanceMethod yX0_roundedToLeastPower, Cond.selects RX0 yX0_roundedToLeastPower yX0_roundedToLeastPower, Cond.code yX0_roundedToLeastPower cX0_roundedToLeastPower 6 (some .long), Cond.methodLink RX0 123 yX0_nearestShifted]
def wsX0_timesPowerOfTwo_r4 : List Cond := [Cond.static yX0_nearestShifted, Cond.code yX0_nearestShifted cX0_nearestShifted 10 (some .long)]
def wsX0_timesPowerOfTwo : List Cond := .code yX0_timesPowerOfTwo cX0_timesPowerOfTwo 7 (some .long) :: ((wsX0_timesPowerOfTwo_r1 ++ (wsX0_timesPowerOfTwo_r2 ++ (wsX0_timesPowerOfTwo_r3 ++ wsX0_timesPowerOfTwo_r4))) ++ wsX00)
def wsX0_scale_r1 : List Cond := [Cond.fieldLink RX0 9 "BinaryFunctions" "registers" "[J", Cond.methodLink RX0 20 yX0_isRegister, Cond.static yX0_isRegister, Cond.initialized RX0, Cond.code yX0_isRegister cX0_isRegister 1 (some .boolean), Cond.methodLink RX0 40 yX0_timesPowerOfTwo, Cond.instanceMethod yX0_timesPowerOfTwo, Cond.selects RX0 yX0_timesPowerOfTwo yX0_timesPowerOfTwo, Cond.code yX0_timesPowerOfTwo cX0_timesPowerOfTwo 7 (some .long), Cond.constantLong RX0 101 (9221120237041090560), Cond.constantLong RX0 132 (971), Cond.constantLong RX0 67 (9218868437227405312), Cond.constantLong RX0 134 (-1074), Cond.constantLong RX0 136 (60), Cond.methodLink RX0 138 Lib.MathLoose.min_long.x, Cond.static Lib.MathLoose.min_long.x, Cond.initialized "java/lang/Math", Cond.code Lib.MathLoose.min_long.x Lib.MathLoose.min_long.code 4 (some .long), Cond.methodLink RX0 51 yX0_isNan, Cond.static yX0_isNan, Cond.code yX0_isNan cX0_isNan 2 (some .boolean), Cond.constantLong RX0 65 (9223372036854775807), Cond.methodLink RX0 43 yX0_isZero, Cond.static yX0_isZero]
def wsX0_scale_r2 : List Cond := [Cond.code yX0_isZero cX0_isZero 2 (some .boolean), Cond.methodLink RX0 48 yX0_isInfinity, Cond.static yX0_isInfinity, Cond.code yX0_isInfinity cX0_isInfinity 2 (some .boolean), Cond.methodLink RX0 55 yX0_fullPower, Cond.static yX0_fullPower, Cond.code yX0_fullPower cX0_fullPower 2 (some .int), Cond.methodLink RX0 95 yX0_power, Cond.static yX0_power, Cond.code yX0_power cX0_power 2 (some .int), Cond.methodLink RX0 78 Lib.Math.max.name, Cond.static Lib.Math.max.name, Cond.code Lib.Math.max.name Lib.Math.max.code 2 (some .int), Cond.methodLink RX0 75 yX0_fieldE, Cond.static yX0_fieldE, Cond.code yX0_fieldE cX0_fieldE 2 (some .int), Cond.methodLink RX0 92 yX0_spareRoom, Cond.static yX0_spareRoom, Cond.code yX0_spareRoom cX0_spareRoom 2 (some .int), Cond.methodLink RX0 84 yX0_significand, Cond.static yX0_significand, Cond.code yX0_significand cX0_significand 4 (some .long), Cond.constantLong RX0 73 (4503599627370495), Cond.constantLong RX0 71 (4503599627370496)]
def wsX0_scale_r3 : List Cond := [Cond.methodLink RX0 87 yJ13_numberOfLeadingZeros_95d88, Cond.static yJ13_numberOfLeadingZeros_95d88, Cond.initialized RJ13, Cond.code yJ13_numberOfLeadingZeros_95d88 cJ13_numberOfLeadingZeros_95d88 3 (some .int), Cond.methodLink RJ13 308 yJ6_numberOfLeadingZeros_0f7a4, Cond.static yJ6_numberOfLeadingZeros_0f7a4, Cond.initialized RJ6, Cond.code yJ6_numberOfLeadingZeros_0f7a4 cJ6_numberOfLeadingZeros_0f7a4 2 (some .int), Cond.constant RJ6 264 (65536), Cond.methodLink RX0 103 yX0_raise, Cond.instanceMethod yX0_raise, Cond.selects RX0 yX0_raise yX0_raise, Cond.code yX0_raise cX0_raise 2 none, Cond.fieldLink RX0 13 "BinaryFunctions" "raised" "I", Cond.methodLink RX0 116 yX0_signOf, Cond.static yX0_signOf, Cond.code yX0_signOf cX0_signOf 2 (some .long), Cond.constantLong RX0 69 (-9223372036854775808), Cond.methodLink RX0 110 yX0_fullSignificand, Cond.static yX0_fullSignificand, Cond.code yX0_fullSignificand cX0_fullSignificand 2 (some .long), Cond.methodLink RX0 113 yX0_pattern, Cond.static yX0_pattern, Cond.code yX0_pattern cX0_pattern 5 (some .long)]
def wsX0_scale_r4 : List Cond := [Cond.methodLink RX0 98 Lib.Math.min.name, Cond.static Lib.Math.min.name, Cond.code Lib.Math.min.name Lib.Math.min.code 2 (some .int), Cond.methodLink RX0 140 yX0_roundedToLeastPower, Cond.instanceMethod yX0_roundedToLeastPower, Cond.selects RX0 yX0_roundedToLeastPower yX0_roundedToLeastPower, Cond.code yX0_roundedToLeastPower cX0_roundedToLeastPower 6 (some .long), Cond.methodLink RX0 123 yX0_nearestShifted, Cond.static yX0_nearestShifted, Cond.code yX0_nearestShifted cX0_nearestShifted 10 (some .long)]
def wsX0_scale : List Cond := .code yX0_scale cX0_scale 4 (some .boolean) :: ((wsX0_scale_r1 ++ (wsX0_scale_r2 ++ (wsX0_scale_r3 ++ wsX0_scale_r4))) ++ wsX00)
def wsX0_exponent_r1 : List Cond := [Cond.fieldLink RX0 9 "BinaryFunctions" "registers" "[J", Cond.constant RX0 47 (-2147483648), Cond.constant RX0 54 (2147483647), Cond.methodLink RX0 20 yX0_isRegister, Cond.static yX0_isRegister, Cond.initialized RX0, Cond.code yX0_isRegister cX0_isRegister 1 (some .boolean), Cond.methodLink RX0 43 yX0_isZero, Cond.static yX0_isZero, Cond.code yX0_isZero cX0_isZero 2 (some .boolean), Cond.constantLong RX0 65 (9223372036854775807), Cond.methodLink RX0 48 yX0_isInfinity, Cond.static yX0_isInfinity, Cond.code yX0_isInfinity cX0_isInfinity 2 (some .boolean), Cond.constantLong RX0 67 (9218868437227405312), Cond.methodLink RX0 51 yX0_isNan, Cond.static yX0_isNan, Cond.code yX0_isNan cX0_isNan 2 (some .boolean), Cond.methodLink RX0 55 yX0_fullPower, Cond.static yX0_fullPower, Cond.code yX0_fullPower cX0_fullPower 2 (some .int), Cond.methodLink RX0 95 yX0_power, Cond.static yX0_power, Cond.code yX0_power cX0_power 2 (some .int)]
def wsX0_exponent_r2 : List Cond := [Cond.methodLink RX0 78 Lib.Math.max.name, Cond.static Lib.Math.max.name, Cond.initialized "java/lang/Math", Cond.code Lib.Math.max.name Lib.Math.max.code 2 (some .int), Cond.methodLink RX0 75 yX0_fieldE, Cond.static yX0_fieldE, Cond.code yX0_fieldE cX0_fieldE 2 (some .int), Cond.methodLink RX0 92 yX0_spareRoom, Cond.static yX0_spareRoom, Cond.code yX0_spareRoom cX0_spareRoom 2 (some .int), Cond.methodLink RX0 84 yX0_significand, Cond.static yX0_significand, Cond.code yX0_significand cX0_significand 4 (some .long), Cond.constantLong RX0 73 (4503599627370495), Cond.constantLong RX0 71 (4503599627370496), Cond.methodLink RX0 87 yJ13_numberOfLeadingZeros_95d88, Cond.static yJ13_numberOfLeadingZeros_95d88, Cond.initialized RJ13, Cond.code yJ13_numberOfLeadingZeros_95d88 cJ13_numberOfLeadingZeros_95d88 3 (some .int), Cond.methodLink RJ13 308 yJ6_numberOfLeadingZeros_0f7a4, Cond.static yJ6_numberOfLeadingZeros_0f7a4, Cond.initialized RJ6, Cond.code yJ6_numberOfLeadingZeros_0f7a4 cJ6_numberOfLeadingZeros_0f7a4 2 (some .int), Cond.constant RJ6 264 (65536)]
def wsX0_exponent : List Cond := .code yX0_exponent cX0_exponent 4 (some .int) :: ((wsX0_exponent_r1 ++ wsX0_exponent_r2) ++ wsX00)
def wsX0_compare : List Cond := .code yX0_compare cX0_compare 7 (some .int) :: ([.fieldLink RX0 9 "BinaryFunctions" "registers" "[J", .methodLink RX0 20 yX0_isRegister, .static yX0_isRegister, .initialized RX0, .code yX0_isRegister cX0_isRegister 1 (some .boolean), .methodLink RX0 51 yX0_isNan, .static yX0_isNan, .code yX0_isNan cX0_isNan 2 (some .boolean), .constantLong RX0 65 (9223372036854775807), .constantLong RX0 67 (9218868437227405312), .methodLink RX0 59 yX0_place, .static yX0_place, .code yX0_place cX0_place 2 (some .long)] ++ wsX00)
def wsX0_sortOfAmount : List Cond := .code yX0_sortOfAmount cX0_sortOfAmount 2 (some .int) :: ([.constantLong RX0 65 (9223372036854775807), .constantLong RX0 71 (4503599627370496), .methodLink RX0 43 yX0_isZero, .static yX0_isZero, .initialized RX0, .code yX0_isZero cX0_isZero 2 (some .boolean), .methodLink RX0 48 yX0_isInfinity, .static yX0_isInfinity, .code yX0_isInfinity cX0_isInfinity 2 (some .boolean), .constantLong RX0 67 (9218868437227405312), .methodLink RX0 51 yX0_isNan, .static yX0_isNan, .code yX0_isNan cX0_isNan 2 (some .boolean)])
def wsX0_sort : List Cond := .code yX0_sort cX0_sort 4 (some .int) :: ([.fieldLink RX0 9 "BinaryFunctions" "registers" "[J", .methodLink RX0 20 yX0_isRegister, .static yX0_isRegister, .initialized RX0, .code yX0_isRegister cX0_isRegister 1 (some .boolean), .methodLink RX0 62 yX0_sortOfAmount, .static yX0_sortOfAmount, .code yX0_sortOfAmount cX0_sortOfAmount 2 (some .int), .constantLong RX0 65 (9223372036854775807), .constantLong RX0 71 (4503599627370496), .methodLink RX0 43 yX0_isZero, .static yX0_isZero, .code yX0_isZero cX0_isZero 2 (some .boolean), .methodLink RX0 48 yX0_isInfinity, .static yX0_isInfinity, .code yX0_isInfinity cX0_isInfinity 2 (some .boolean), .constantLong RX0 67 (9218868437227405312), .methodLink RX0 51 yX0_isNan, .static yX0_isNan, .code yX0_isNan cX0_isNan 2 (some .boolean)] ++ wsX00)
def wsX0_flags : List Cond := .code yX0_flags cX0_flags 1 (some .int) :: ([.fieldLink RX0 13 "BinaryFunctions" "raised" "I"] ++ wsX00)
def wsX0_clear : List Cond := .code yX0_clear cX0_clear 1 none :: ([.fieldLink RX0 13 "BinaryFunctions" "raised" "I"] ++ wsX00)
def wsJ9_max_7cf53 : List Cond := .code yJ9_max_7cf53 cJ9_max_7cf53 2 (some .int) :: ([])
def wsJ9_min_7cf53 : List Cond := .code yJ9_min_7cf53 cJ9_min_7cf53 2 (some .int) :: ([])
def wsJ9_min_f86c9 : List Cond := .code yJ9_min_f86c9 cJ9_min_f86c9 4 (some .long) :: ([])
theorem dX0_init_0 : decode cX0_init 0 = .ok (.aload_n 0, 1) := by decide +kernel
theorem dX0_init_1 : decode cX0_init 1 = .ok (.invokespecial 1, 3) := by decide +kernel
theorem dX0_init_4 : decode cX0_init 4 = .ok (.aload_n 0, 1) := by decide +kernel
theorem dX0_init_5 : decode cX0_init 5 = .ok (.bipush 8, 2) := by decide +kernel
theorem dX0_init_7 : decode cX0_init 7 = .ok (.newarray .long, 2) := by decide +kernel
theorem dX0_init_9 : decode cX0_init 9 = .ok (.putfield 9, 3) := by decide +kernel
theorem dX0_init_12 : decode cX0_init 12 = .ok (.aload_n 0, 1) := by decide +kernel
theorem dX0_init_13 : decode cX0_init 13 = .ok (.iconst 0, 1) := by decide +kernel
theorem dX0_init_14 : decode cX0_init 14 = .ok (.putfield 13, 3) := by decide +kernel
theorem dX0_init_17 : decode cX0_init 17 = .ok (.aload_n 0, 1) := by decide +kernel
theorem dX0_init_18 : decode cX0_init 18 = .ok (.iconst 0, 1) := by decide +kernel
theorem dX0_init_19 : decode cX0_init 19 = .ok (.putfield 17, 3) := by decide +kernel
theorem dX0_init_22 : decode cX0_init 22 = .ok (.return_, 1) := by decide +kernel
set_option maxRecDepth 20000 in
theorem ggX0_load_X0_isRegister : GoodIn wsX0_load wsX0_isRegister := goodIn_r _ [5] (by decide +kernel) (by decide +kernel)
set_option maxRecDepth 20000 in
theorem gX0_load_X0_isRegister : GoodIn wsX0_load (va_wsS RX0 20 yX0_isRegister wsX0_isRegister) := goodIn_app (goodIn_of _ (by decide +kernel)) ggX0_load_X0_isRegister
theorem dX0_load_0 : decode cX0_load 0 = .ok (.iload_n 1, 1) := by decide +kernel
theorem dX0_load_1 : decode cX0_load 1 = .ok (.invokestatic 20, 3) := by decide +kernel
theorem dX0_load_4 : decode cX0_load 4 = .ok (.ifCond .ne 5, 3) := by decide +kernel
theorem dX0_load_7 : decode cX0_load 7 = .ok (.iconst 0, 1) := by decide +kernel
theorem dX0_load_8 : decode cX0_load 8 = .ok (.ireturn, 1) := by decide +kernel
theorem dX0_load_9 : decode cX0_load 9 = .ok (.aload_n 0, 1) := by decide +kernel
theorem dX0_load_10 : decode cX0_load 10 = .ok (.getfield 9, 3) := by decide +kernel
theorem dX0_load_13 : decode cX0_load 13 = .ok (.iload_n 1, 1) := by decide +kernel
theorem dX0_load_14 : decode cX0_load 14 = .ok (.lload_n 2, 1) := by decide +kernel
theorem dX0_load_15 : decode cX0_load 15 = .ok (.lastore, 1) := by decide +kernel
theorem dX0_load_16 : decode cX0_load 16 = .ok (.iconst 1, 1) := by decide +kernel
theorem dX0_load_17 : decode cX0_load 17 = .ok (.ireturn, 1) := by decide +kernel
set_option maxRecDepth 20000 in
theorem ggX0_bits_X0_isRegister : GoodIn wsX0_bits wsX0_isRegister := goodIn_r _ [5] (by decide +kernel) (by decide +kernel)
set_option maxRecDepth 20000 in
theorem gX0_bits_X0_isRegister : GoodIn wsX0_bits (va_wsS RX0 20 yX0_isRegister wsX0_isRegister) := goodIn_app (goodIn_of _ (by decide +kernel)) ggX0_bits_X0_isRegister
theorem dX0_bits_0 : decode cX0_bits 0 = .ok (.iload_n 1, 1) := by decide +kernel
theorem dX0_bits_1 : decode cX0_bits 1 = .ok (.invokestatic 20, 3) := by decide +kernel
theorem dX0_bits_4 : decode cX0_bits 4 = .ok (.ifCond .eq 12, 3) := by decide +kernel
theorem dX0_bits_7 : decode cX0_bits 7 = .ok (.aload_n 0, 1) := by decide +kernel
theorem dX0_bits_8 : decode cX0_bits 8 = .ok (.getfield 9, 3) := by decide +kernel
theorem dX0_bits_11 : decode cX0_bits 11 = .ok (.iload_n 1, 1) := by decide +kernel
theorem dX0_bits_12 : decode cX0_bits 12 = .ok (.laload, 1) := by decide +kernel
theorem dX0_bits_13 : decode cX0_bits 13 = .ok (.goto 4, 3) := by decide +kernel
theorem dX0_bits_16 : decode cX0_bits 16 = .ok (.lconst 0, 1) := by decide +kernel
theorem dX0_bits_17 : decode cX0_bits 17 = .ok (.lreturn, 1) := by decide +kernel
set_option maxRecDepth 20000 in
theorem ggX0_sqrt_X0_isRegister : GoodIn wsX0_sqrt wsX0_isRegister := goodIn_r _ [5] (by decide +kernel) (by decide +kernel)
set_option maxRecDepth 20000 in
theorem gX0_sqrt_X0_isRegister : GoodIn wsX0_sqrt (va_wsS RX0 20 yX0_isRegister wsX0_isRegister) := goodIn_app (goodIn_of _ (by decide +kernel)) ggX0_sqrt_X0_isRegister
set_option maxRecDepth 20000 in
theorem ggX0_sqrt_X0_squareRoot : GoodIn wsX0_sqrt wsX0_squareRoot := goodIn_r _ [9, 10, 11, 12, 13, 4, 14, 15, 16, 17, 18, 19, 20, 21, 22, 23, 24, 25, 26, 27, 28, 29, 30, 31, 32, 33, 34, 35, 36, 37, 38, 39, 40, 41, 42, 43, 44, 45, 46, 47, 48, 49, 50, 51, 52, 53, 54, 55, 56, 57, 58, 59, 60, 61, 62, 63, 64, 65, 66, 67, 68, 69] (by decide +kernel) (by decide +kernel)
set_option maxRecDepth 20000 in
theorem gX0_sqrt_X0_squareRoot : GoodIn wsX0_sqrt (wsV RX0 24 RX0 yX0_squareRoot wsX0_squareRoot) := goodIn_app (goodIn_of _ (by decide +kernel)) ggX0_sqrt_X0_squareRoot
theorem dX0_sqrt_0 : decode cX0_sqrt 0 = .ok (.iload_n 1, 1) := by decide +kernel
theorem dX0_sqrt_1 : decode cX0_sqrt 1 = .ok (.invokestatic 20, 3) := by decide +kernel
theorem dX0_sqrt_4 : decode cX0_sqrt 4 = .ok (.ifCond .eq 10, 3) := by decide +kernel
theorem dX0_sqrt_7 : decode cX0_sqrt 7 = .ok (.iload_n 2, 1) := by decide +kernel
theorem dX0_sqrt_8 : decode cX0_sqrt 8 = .ok (.invokestatic 20, 3) := by decide +kernel
theorem dX0_sqrt_11 : decode cX0_sqrt 11 = .ok (.ifCond .ne 5, 3) := by decide +kernel
theorem dX0_sqrt_14 : decode cX0_sqrt 14 = .ok (.iconst 0, 1) := by decide +kernel
theorem dX0_sqrt_15 : decode cX0_sqrt 15 = .ok (.ireturn, 1) := by decide +kernel
theorem dX0_sqrt_16 : decode cX0_sqrt 16 = .ok (.aload_n 0, 1) := by decide +kernel
theorem dX0_sqrt_17 : decode cX0_sqrt 17 = .ok (.getfield 9, 3) := by decide +kernel
theorem dX0_sqrt_20 : decode cX0_sqrt 20 = .ok (.iload_n 1, 1) := by decide +kernel
theorem dX0_sqrt_21 : decode cX0_sqrt 21 = .ok (.aload_n 0, 1) := by decide +kernel
theorem dX0_sqrt_22 : decode cX0_sqrt 22 = .ok (.aload_n 0, 1) := by decide +kernel
theorem dX0_sqrt_23 : decode cX0_sqrt 23 = .ok (.getfield 9, 3) := by decide +kernel
theorem dX0_sqrt_26 : decode cX0_sqrt 26 = .ok (.iload_n 2, 1) := by decide +kernel
theorem dX0_sqrt_27 : decode cX0_sqrt 27 = .ok (.laload, 1) := by decide +kernel
theorem dX0_sqrt_28 : decode cX0_sqrt 28 = .ok (.invokevirtual 24, 3) := by decide +kernel
theorem dX0_sqrt_31 : decode cX0_sqrt 31 = .ok (.lastore, 1) := by decide +kernel
theorem dX0_sqrt_32 : decode cX0_sqrt 32 = .ok (.iconst 1, 1) := by decide +kernel
theorem dX0_sqrt_33 : decode cX0_sqrt 33 = .ok (.ireturn, 1) := by decide +kernel
set_option maxRecDepth 20000 in
theorem ggX0_whole_X0_isRegister : GoodIn wsX0_whole wsX0_isRegister := goodIn_r _ [5] (by decide +kernel) (by decide +kernel)
set_option maxRecDepth 20000 in
theorem gX0_whole_X0_isRegister : GoodIn wsX0_whole (va_wsS RX0 20 yX0_isRegister wsX0_isRegister) := goodIn_app (goodIn_of _ (by decide +kernel)) ggX0_whole_X0_isRegister
set_option maxRecDepth 20000 in
theorem ggX0_whole_X0_madeWhole : GoodIn wsX0_whole wsX0_madeWhole := goodIn_r _ [9, 10, 11, 12, 13, 14, 15, 16, 4, 17, 18, 19, 20, 21, 22, 23, 24, 25, 26, 27, 28, 29, 30, 31, 32, 33, 34, 35, 36, 37, 38, 39, 40, 41, 42, 43, 44, 45, 46, 47, 48, 49, 50, 51, 52, 53, 54, 55, 56, 57, 58, 59, 60, 61, 62, 63, 64, 65, 66, 67, 68, 69] (by decide +kernel) (by decide +kernel)
set_option maxRecDepth 20000 in
theorem gX0_whole_X0_madeWhole : GoodIn wsX0_whole (wsV RX0 28 RX0 yX0_madeWhole wsX0_madeWhole) := goodIn_app (goodIn_of _ (by decide +kernel)) ggX0_whole_X0_madeWhole
theorem dX0_whole_0 : decode cX0_whole 0 = .ok (.iload_n 1, 1) := by decide +kernel
theorem dX0_whole_1 : decode cX0_whole 1 = .ok (.invokestatic 20, 3) := by decide +kernel
theorem dX0_whole_4 : decode cX0_whole 4 = .ok (.ifCond .eq 19, 3) := by decide +kernel
theorem dX0_whole_7 : decode cX0_whole 7 = .ok (.iload_n 2, 1) := by decide +kernel
theorem dX0_whole_8 : decode cX0_whole 8 = .ok (.invokestatic 20, 3) := by decide +kernel
theorem dX0_whole_11 : decode cX0_whole 11 = .ok (.ifCond .eq 12, 3) := by decide +kernel
theorem dX0_whole_14 : decode cX0_whole 14 = .ok (.iload_n 3, 1) := by decide +kernel
theorem dX0_whole_15 : decode cX0_whole 15 = .ok (.ifCond .lt 8, 3) := by decide +kernel
theorem dX0_whole_18 : decode cX0_whole 18 = .ok (.iload_n 3, 1) := by decide +kernel
theorem dX0_whole_19 : decode cX0_whole 19 = .ok (.iconst 3, 1) := by decide +kernel
theorem dX0_whole_20 : decode cX0_whole 20 = .ok (.if_icmp .le 5, 3) := by decide +kernel
theorem dX0_whole_23 : decode cX0_whole 23 = .ok (.iconst 0, 1) := by decide +kernel
theorem dX0_whole_24 : decode cX0_whole 24 = .ok (.ireturn, 1) := by decide +kernel
theorem dX0_whole_25 : decode cX0_whole 25 = .ok (.aload_n 0, 1) := by decide +kernel
theorem dX0_whole_26 : decode cX0_whole 26 = .ok (.getfield 9, 3) := by decide +kernel
theorem dX0_whole_29 : decode cX0_whole 29 = .ok (.iload_n 1, 1) := by decide +kernel
theorem dX0_whole_30 : decode cX0_whole 30 = .ok (.aload_n 0, 1) := by decide +kernel
theorem dX0_whole_31 : decode cX0_whole 31 = .ok (.aload_n 0, 1) := by decide +kernel
theorem dX0_whole_32 : decode cX0_whole 32 = .ok (.getfield 9, 3) := by decide +kernel
theorem dX0_whole_35 : decode cX0_whole 35 = .ok (.iload_n 2, 1) := by decide +kernel
theorem dX0_whole_36 : decode cX0_whole 36 = .ok (.laload, 1) := by decide +kernel
theorem dX0_whole_37 : decode cX0_whole 37 = .ok (.iload_n 3, 1) := by decide +kernel
theorem dX0_whole_38 : decode cX0_whole 38 = .ok (.invokevirtual 28, 3) := by decide +kernel
theorem dX0_whole_41 : decode cX0_whole 41 = .ok (.lastore, 1) := by decide +kernel
theorem dX0_whole_42 : decode cX0_whole 42 = .ok (.iconst 1, 1) := by decide +kernel
theorem dX0_whole_43 : decode cX0_whole 43 = .ok (.ireturn, 1) := by decide +kernel
set_option maxRecDepth 20000 in
theorem ggX0_left_X0_isRegister : GoodIn wsX0_left wsX0_isRegister := goodIn_r _ [5] (by decide +kernel) (by decide +kernel)
set_option maxRecDepth 20000 in
theorem gX0_left_X0_isRegister : GoodIn wsX0_left (va_wsS RX0 20 yX0_isRegister wsX0_isRegister) := goodIn_app (goodIn_of _ (by decide +kernel)) ggX0_left_X0_isRegister
set_option maxRecDepth 20000 in
theorem ggX0_left_X0_remainder : GoodIn wsX0_left wsX0_remainder := goodIn_r _ [9, 10, 11, 12, 13, 4, 14, 15, 16, 17, 18, 19, 20, 21, 22, 23, 24, 25, 26, 27, 28, 29, 30, 31, 32, 33, 34, 35, 36, 37, 38, 39, 40, 41, 42, 43, 44, 45, 46, 47, 48, 49, 50, 51, 52, 53, 54, 55, 56, 57, 58, 59, 60, 61, 62, 63, 64, 65, 66, 67, 68, 69] (by decide +kernel) (by decide +kernel)
set_option maxRecDepth 20000 in
theorem gX0_left_X0_remainder : GoodIn wsX0_left (wsV RX0 32 RX0 yX0_remainder wsX0_remainder) := goodIn_app (goodIn_of _ (by decide +kernel)) ggX0_left_X0_remainder
theorem dX0_left_0 : decode cX0_left 0 = .ok (.iload_n 1, 1) := by decide +kernel
theorem dX0_left_1 : decode cX0_left 1 = .ok (.invokestatic 20, 3) := by decide +kernel
theorem dX0_left_4 : decode cX0_left 4 = .ok (.ifCond .eq 17, 3) := by decide +kernel
theorem dX0_left_7 : decode cX0_left 7 = .ok (.iload_n 2, 1) := by decide +kernel
theorem dX0_left_8 : decode cX0_left 8 = .ok (.invokestatic 20, 3) := by decide +kernel
theorem dX0_left_11 : decode cX0_left 11 = .ok (.ifCond .eq 10, 3) := by decide +kernel
theorem dX0_left_14 : decode cX0_left 14 = .ok (.iload_n 3, 1) := by decide +kernel
theorem dX0_left_15 : decode cX0_left 15 = .ok (.invokestatic 20, 3) := by decide +kernel
theorem dX0_left_18 : decode cX0_left 18 = .ok (.ifCond .ne 5, 3) := by decide +kernel
theorem dX0_left_21 : decode cX0_left 21 = .ok (.iconst 0, 1) := by decide +kernel
theorem dX0_left_22 : decode cX0_left 22 = .ok (.ireturn, 1) := by decide +kernel
theorem dX0_left_23 : decode cX0_left 23 = .ok (.aload_n 0, 1) := by decide +kernel
theorem dX0_left_24 : decode cX0_left 24 = .ok (.getfield 9, 3) := by decide +kernel
theorem dX0_left_27 : decode cX0_left 27 = .ok (.iload_n 1, 1) := by decide +kernel
theorem dX0_left_28 : decode cX0_left 28 = .ok (.aload_n 0, 1) := by decide +kernel
theorem dX0_left_29 : decode cX0_left 29 = .ok (.aload_n 0, 1) := by decide +kernel
theorem dX0_left_30 : decode cX0_left 30 = .ok (.getfield 9, 3) := by decide +kernel
theorem dX0_left_33 : decode cX0_left 33 = .ok (.iload_n 2, 1) := by decide +kernel
theorem dX0_left_34 : decode cX0_left 34 = .ok (.laload, 1) := by decide +kernel
theorem dX0_left_35 : decode cX0_left 35 = .ok (.aload_n 0, 1) := by decide +kernel
theorem dX0_left_36 : decode cX0_left 36 = .ok (.getfield 9, 3) := by decide +kernel
theorem dX0_left_39 : decode cX0_left 39 = .ok (.iload_n 3, 1) := by decide +kernel
theorem dX0_left_40 : decode cX0_left 40 = .ok (.laload, 1) := by decide +kernel
theorem dX0_left_41 : decode cX0_left 41 = .ok (.iload 4, 2) := by decide +kernel
theorem dX0_left_43 : decode cX0_left 43 = .ok (.invokevirtual 32, 3) := by decide +kernel
theorem dX0_left_46 : decode cX0_left 46 = .ok (.lastore, 1) := by decide +kernel
theorem dX0_left_47 : decode cX0_left 47 = .ok (.iconst 1, 1) := by decide +kernel
theorem dX0_left_48 : decode cX0_left 48 = .ok (.ireturn, 1) := by decide +kernel
theorem dX0_quotient_0 : decode cX0_quotient 0 = .ok (.aload_n 0, 1) := by decide +kernel
theorem dX0_quotient_1 : decode cX0_quotient 1 = .ok (.getfield 17, 3) := by decide +kernel
theorem dX0_quotient_4 : decode cX0_quotient 4 = .ok (.ireturn, 1) := by decide +kernel
set_option maxRecDepth 20000 in
theorem ggX0_neighbour_X0_isRegister : GoodIn wsX0_neighbour wsX0_isRegister := goodIn_r _ [5] (by decide +kernel) (by decide +kernel)
set_option maxRecDepth 20000 in
theorem gX0_neighbour_X0_isRegister : GoodIn wsX0_neighbour (va_wsS RX0 20 yX0_isRegister wsX0_isRegister) := goodIn_app (goodIn_of _ (by decide +kernel)) ggX0_neighbour_X0_isRegister
set_option maxRecDepth 20000 in
theorem ggX0_neighbour_X0_nextTowards : GoodIn wsX0_neighbour wsX0_nextTowards := goodIn_r _ [8, 9, 10, 11, 12, 4, 13, 14, 15, 16, 17, 18, 19, 20, 21] (by decide +kernel) (by decide +kernel)
set_option maxRecDepth 20000 in
theorem gX0_neighbour_X0_nextTowards : GoodIn wsX0_neighbour (va_wsS RX0 36 yX0_nextTowards wsX0_nextTowards) := goodIn_app (goodIn_of _ (by decide +kernel)) ggX0_neighbour_X0_nextTowards
theorem dX0_neighbour_0 : decode cX0_neighbour 0 = .ok (.iload_n 1, 1) := by decide +kernel
theorem dX0_neighbour_1 : decode cX0_neighbour 1 = .ok (.invokestatic 20, 3) := by decide +kernel
theorem dX0_neighbour_4 : decode cX0_neighbour 4 = .ok (.ifCond .eq 17, 3) := by decide +kernel
theorem dX0_neighbour_7 : decode cX0_neighbour 7 = .ok (.iload_n 2, 1) := by decide +kernel
theorem dX0_neighbour_8 : decode cX0_neighbour 8 = .ok (.invokestatic 20, 3) := by decide +kernel
theorem dX0_neighbour_11 : decode cX0_neighbour 11 = .ok (.ifCond .eq 10, 3) := by decide +kernel
theorem dX0_neighbour_14 : decode cX0_neighbour 14 = .ok (.iload_n 3, 1) := by decide +kernel
theorem dX0_neighbour_15 : decode cX0_neighbour 15 = .ok (.invokestatic 20, 3) := by decide +kernel
theorem dX0_neighbour_18 : decode cX0_neighbour 18 = .ok (.ifCond .ne 5, 3) := by decide +kernel
theorem dX0_neighbour_21 : decode cX0_neighbour 21 = .ok (.iconst 0, 1) := by decide +kernel
theorem dX0_neighbour_22 : decode cX0_neighbour 22 = .ok (.ireturn, 1) := by decide +kernel
theorem dX0_neighbour_23 : decode cX0_neighbour 23 = .ok (.aload_n 0, 1) := by decide +kernel
theorem dX0_neighbour_24 : decode cX0_neighbour 24 = .ok (.getfield 9, 3) := by decide +kernel
theorem dX0_neighbour_27 : decode cX0_neighbour 27 = .ok (.iload_n 1, 1) := by decide +kernel
theorem dX0_neighbour_28 : decode cX0_neighbour 28 = .ok (.aload_n 0, 1) := by decide +kernel
theorem dX0_neighbour_29 : decode cX0_neighbour 29 = .ok (.getfield 9, 3) := by decide +kernel
theorem dX0_neighbour_32 : decode cX0_neighbour 32 = .ok (.iload_n 2, 1) := by decide +kernel
theorem dX0_neighbour_33 : decode cX0_neighbour 33 = .ok (.laload, 1) := by decide +kernel
theorem dX0_neighbour_34 : decode cX0_neighbour 34 = .ok (.aload_n 0, 1) := by decide +kernel
theorem dX0_neighbour_35 : decode cX0_neighbour 35 = .ok (.getfield 9, 3) := by decide +kernel
theorem dX0_neighbour_38 : decode cX0_neighbour 38 = .ok (.iload_n 3, 1) := by decide +kernel
theorem dX0_neighbour_39 : decode cX0_neighbour 39 = .ok (.laload, 1) := by decide +kernel
theorem dX0_neighbour_40 : decode cX0_neighbour 40 = .ok (.invokestatic 36, 3) := by decide +kernel
theorem dX0_neighbour_43 : decode cX0_neighbour 43 = .ok (.lastore, 1) := by decide +kernel
theorem dX0_neighbour_44 : decode cX0_neighbour 44 = .ok (.iconst 1, 1) := by decide +kernel
theorem dX0_neighbour_45 : decode cX0_neighbour 45 = .ok (.ireturn, 1) := by decide +kernel
set_option maxRecDepth 20000 in
theorem ggX0_scale_X0_isRegister : GoodIn wsX0_scale wsX0_isRegister := goodIn_r _ [5] (by decide +kernel) (by decide +kernel)
set_option maxRecDepth 20000 in
theorem gX0_scale_X0_isRegister : GoodIn wsX0_scale (va_wsS RX0 20 yX0_isRegister wsX0_isRegister) := goodIn_app (goodIn_of _ (by decide +kernel)) ggX0_scale_X0_isRegister
set_option maxRecDepth 20000 in
theorem ggX0_scale_X0_timesPowerOfTwo : GoodIn wsX0_scale wsX0_timesPowerOfTwo := goodIn_r _ [9, 10, 11, 12, 13, 14, 15, 16, 17, 18, 19, 20, 4, 21, 22, 23, 24, 25, 26, 27, 28, 29, 30, 31, 32, 33, 34, 35, 36, 37, 38, 39, 40, 41, 42, 43, 44, 45, 46, 47, 48, 49, 50, 51, 52, 53, 54, 55, 56, 57, 58, 59, 60, 61, 62, 63, 64, 65, 66, 67, 68, 69, 70, 71, 72, 73, 74, 75, 76, 77, 78, 79, 80, 81, 82, 83, 84, 85] (by decide +kernel) (by decide +kernel)
set_option maxRecDepth 20000 in
theorem gX0_scale_X0_timesPowerOfTwo : GoodIn wsX0_scale (wsV RX0 40 RX0 yX0_timesPowerOfTwo wsX0_timesPowerOfTwo) := goodIn_app (goodIn_of _ (by decide +kernel)) ggX0_scale_X0_timesPowerOfTwo
theorem dX0_scale_0 : decode cX0_scale 0 = .ok (.iload_n 1, 1) := by decide +kernel
theorem dX0_scale_1 : decode cX0_scale 1 = .ok (.invokestatic 20, 3) := by decide +kernel
theorem dX0_scale_4 : decode cX0_scale 4 = .ok (.ifCond .eq 10, 3) := by decide +kernel
theorem dX0_scale_7 : decode cX0_scale 7 = .ok (.iload_n 2, 1) := by decide +kernel
theorem dX0_scale_8 : decode cX0_scale 8 = .ok (.invokestatic 20, 3) := by decide +kernel
theorem dX0_scale_11 : decode cX0_scale 11 = .ok (.ifCond .ne 5, 3) := by decide +kernel
theorem dX0_scale_14 : decode cX0_scale 14 = .ok (.iconst 0, 1) := by decide +kernel
theorem dX0_scale_15 : decode cX0_scale 15 = .ok (.ireturn, 1) := by decide +kernel
theorem dX0_scale_16 : decode cX0_scale 16 = .ok (.aload_n 0, 1) := by decide +kernel
theorem dX0_scale_17 : decode cX0_scale 17 = .ok (.getfield 9, 3) := by decide +kernel
theorem dX0_scale_20 : decode cX0_scale 20 = .ok (.iload_n 1, 1) := by decide +kernel
theorem dX0_scale_21 : decode cX0_scale 21 = .ok (.aload_n 0, 1) := by decide +kernel
theorem dX0_scale_22 : decode cX0_scale 22 = .ok (.aload_n 0, 1) := by decide +kernel
theorem dX0_scale_23 : decode cX0_scale 23 = .ok (.getfield 9, 3) := by decide +kernel
theorem dX0_scale_26 : decode cX0_scale 26 = .ok (.iload_n 2, 1) := by decide +kernel
theorem dX0_scale_27 : decode cX0_scale 27 = .ok (.laload, 1) := by decide +kernel
theorem dX0_scale_28 : decode cX0_scale 28 = .ok (.iload_n 3, 1) := by decide +kernel
theorem dX0_scale_29 : decode cX0_scale 29 = .ok (.invokevirtual 40, 3) := by decide +kernel
theorem dX0_scale_32 : decode cX0_scale 32 = .ok (.lastore, 1) := by decide +kernel
theorem dX0_scale_33 : decode cX0_scale 33 = .ok (.iconst 1, 1) := by decide +kernel
theorem dX0_scale_34 : decode cX0_scale 34 = .ok (.ireturn, 1) := by decide +kernel
set_option maxRecDepth 20000 in
theorem ggX0_exponent_X0_isRegister : GoodIn wsX0_exponent wsX0_isRegister := goodIn_r _ [7] (by decide +kernel) (by decide +kernel)
set_option maxRecDepth 20000 in
theorem gX0_exponent_X0_isRegister : GoodIn wsX0_exponent (va_wsS RX0 20 yX0_isRegister wsX0_isRegister) := goodIn_app (goodIn_of _ (by decide +kernel)) ggX0_exponent_X0_isRegister
set_option maxRecDepth 20000 in
theorem ggX0_exponent_X0_isZero : GoodIn wsX0_exponent wsX0_isZero := goodIn_r _ [10, 11] (by decide +kernel) (by decide +kernel)
set_option maxRecDepth 20000 in
theorem gX0_exponent_X0_isZero : GoodIn wsX0_exponent (va_wsS RX0 43 yX0_isZero wsX0_isZero) := goodIn_app (goodIn_of _ (by decide +kernel)) ggX0_exponent_X0_isZero
set_option maxRecDepth 20000 in
theorem ggX0_exponent_X0_isInfinity : GoodIn wsX0_exponent wsX0_isInfinity := goodIn_r _ [14, 11, 15] (by decide +kernel) (by decide +kernel)
set_option maxRecDepth 20000 in
theorem gX0_exponent_X0_isInfinity : GoodIn wsX0_exponent (va_wsS RX0 48 yX0_isInfinity wsX0_isInfinity) := goodIn_app (goodIn_of _ (by decide +kernel)) ggX0_exponent_X0_isInfinity
set_option maxRecDepth 20000 in
theorem ggX0_exponent_X0_isNan : GoodIn wsX0_exponent wsX0_isNan := goodIn_r _ [18, 11, 15] (by decide +kernel) (by decide +kernel)
set_option maxRecDepth 20000 in
theorem gX0_exponent_X0_isNan : GoodIn wsX0_exponent (va_wsS RX0 51 yX0_isNan wsX0_isNan) := goodIn_app (goodIn_of _ (by decide +kernel)) ggX0_exponent_X0_isNan
set_option maxRecDepth 20000 in
theorem ggX0_exponent_X0_fullPower : GoodIn wsX0_exponent wsX0_fullPower := goodIn_r _ [21, 22, 23, 6, 24, 25, 26, 27, 28, 29, 30, 31, 11, 32, 33, 34, 35, 36, 37, 38, 39, 40, 41, 42, 43, 44, 45, 46, 47, 48] (by decide +kernel) (by decide +kernel)
set_option maxRecDepth 20000 in
theorem gX0_exponent_X0_fullPower : GoodIn wsX0_exponent (va_wsS RX0 55 yX0_fullPower wsX0_fullPower) := goodIn_app (goodIn_of _ (by decide +kernel)) ggX0_exponent_X0_fullPower
theorem dX0_exponent_0 : decode cX0_exponent 0 = .ok (.iload_n 1, 1) := by decide +kernel
theorem dX0_exponent_1 : decode cX0_exponent 1 = .ok (.invokestatic 20, 3) := by decide +kernel
theorem dX0_exponent_4 : decode cX0_exponent 4 = .ok (.ifCond .ne 5, 3) := by decide +kernel
theorem dX0_exponent_7 : decode cX0_exponent 7 = .ok (.iconst 0, 1) := by decide +kernel
theorem dX0_exponent_8 : decode cX0_exponent 8 = .ok (.ireturn, 1) := by decide +kernel
theorem dX0_exponent_9 : decode cX0_exponent 9 = .ok (.aload_n 0, 1) := by decide +kernel
theorem dX0_exponent_10 : decode cX0_exponent 10 = .ok (.getfield 9, 3) := by decide +kernel
theorem dX0_exponent_13 : decode cX0_exponent 13 = .ok (.iload_n 1, 1) := by decide +kernel
theorem dX0_exponent_14 : decode cX0_exponent 14 = .ok (.laload, 1) := by decide +kernel
theorem dX0_exponent_15 : decode cX0_exponent 15 = .ok (.lstore_n 2, 1) := by decide +kernel
theorem dX0_exponent_16 : decode cX0_exponent 16 = .ok (.lload_n 2, 1) := by decide +kernel
theorem dX0_exponent_17 : decode cX0_exponent 17 = .ok (.invokestatic 43, 3) := by decide +kernel
theorem dX0_exponent_20 : decode cX0_exponent 20 = .ok (.ifCond .eq 6, 3) := by decide +kernel
theorem dX0_exponent_23 : decode cX0_exponent 23 = .ok (.ldc 47, 2) := by decide +kernel
theorem dX0_exponent_25 : decode cX0_exponent 25 = .ok (.ireturn, 1) := by decide +kernel
theorem dX0_exponent_26 : decode cX0_exponent 26 = .ok (.lload_n 2, 1) := by decide +kernel
theorem dX0_exponent_27 : decode cX0_exponent 27 = .ok (.invokestatic 48, 3) := by decide +kernel
theorem dX0_exponent_30 : decode cX0_exponent 30 = .ok (.ifCond .ne 10, 3) := by decide +kernel
theorem dX0_exponent_33 : decode cX0_exponent 33 = .ok (.lload_n 2, 1) := by decide +kernel
theorem dX0_exponent_34 : decode cX0_exponent 34 = .ok (.invokestatic 51, 3) := by decide +kernel
theorem dX0_exponent_37 : decode cX0_exponent 37 = .ok (.ifCond .eq 6, 3) := by decide +kernel
theorem dX0_exponent_40 : decode cX0_exponent 40 = .ok (.ldc 54, 2) := by decide +kernel
theorem dX0_exponent_42 : decode cX0_exponent 42 = .ok (.ireturn, 1) := by decide +kernel
theorem dX0_exponent_43 : decode cX0_exponent 43 = .ok (.lload_n 2, 1) := by decide +kernel
theorem dX0_exponent_44 : decode cX0_exponent 44 = .ok (.invokestatic 55, 3) := by decide +kernel
theorem dX0_exponent_47 : decode cX0_exponent 47 = .ok (.bipush 52, 2) := by decide +kernel
theorem dX0_exponent_49 : decode cX0_exponent 49 = .ok (.iadd, 1) := by decide +kernel
theorem dX0_exponent_50 : decode cX0_exponent 50 = .ok (.ireturn, 1) := by decide +kernel
set_option maxRecDepth 20000 in
theorem ggX0_compare_X0_isRegister : GoodIn wsX0_compare wsX0_isRegister := goodIn_r _ [5] (by decide +kernel) (by decide +kernel)
set_option maxRecDepth 20000 in
theorem gX0_compare_X0_isRegister : GoodIn wsX0_compare (va_wsS RX0 20 yX0_isRegister wsX0_isRegister) := goodIn_app (goodIn_of _ (by decide +kernel)) ggX0_compare_X0_isRegister
set_option maxRecDepth 20000 in
theorem ggX0_compare_X0_isNan : GoodIn wsX0_compare wsX0_isNan := goodIn_r _ [8, 9, 10] (by decide +kernel) (by decide +kernel)
set_option maxRecDepth 20000 in
theorem gX0_compare_X0_isNan : GoodIn wsX0_compare (va_wsS RX0 51 yX0_isNan wsX0_isNan) := goodIn_app (goodIn_of _ (by decide +kernel)) ggX0_compare_X0_isNan
set_option maxRecDepth 20000 in
theorem ggX0_compare_X0_place : GoodIn wsX0_compare wsX0_place := goodIn_r _ [13, 9] (by decide +kernel) (by decide +kernel)
set_option maxRecDepth 20000 in
theorem gX0_compare_X0_place : GoodIn wsX0_compare (va_wsS RX0 59 yX0_place wsX0_place) := goodIn_app (goodIn_of _ (by decide +kernel)) ggX0_compare_X0_place
theorem dX0_compare_0 : decode cX0_compare 0 = .ok (.iload_n 1, 1) := by decide +kernel
theorem dX0_compare_1 : decode cX0_compare 1 = .ok (.invokestatic 20, 3) := by decide +kernel
theorem dX0_compare_4 : decode cX0_compare 4 = .ok (.ifCond .eq 34, 3) := by decide +kernel
theorem dX0_compare_7 : decode cX0_compare 7 = .ok (.iload_n 2, 1) := by decide +kernel
theorem dX0_compare_8 : decode cX0_compare 8 = .ok (.invokestatic 20, 3) := by decide +kernel
theorem dX0_compare_11 : decode cX0_compare 11 = .ok (.ifCond .eq 27, 3) := by decide +kernel
theorem dX0_compare_14 : decode cX0_compare 14 = .ok (.aload_n 0, 1) := by decide +kernel
theorem dX0_compare_15 : decode cX0_compare 15 = .ok (.getfield 9, 3) := by decide +kernel
theorem dX0_compare_18 : decode cX0_compare 18 = .ok (.iload_n 1, 1) := by decide +kernel
theorem dX0_compare_19 : decode cX0_compare 19 = .ok (.laload, 1) := by decide +kernel
theorem dX0_compare_20 : decode cX0_compare 20 = .ok (.invokestatic 51, 3) := by decide +kernel
theorem dX0_compare_23 : decode cX0_compare 23 = .ok (.ifCond .ne 15, 3) := by decide +kernel
theorem dX0_compare_26 : decode cX0_compare 26 = .ok (.aload_n 0, 1) := by decide +kernel
theorem dX0_compare_27 : decode cX0_compare 27 = .ok (.getfield 9, 3) := by decide +kernel
theorem dX0_compare_30 : decode cX0_compare 30 = .ok (.iload_n 2, 1) := by decide +kernel
theorem dX0_compare_31 : decode cX0_compare 31 = .ok (.laload, 1) := by decide +kernel
theorem dX0_compare_32 : decode cX0_compare 32 = .ok (.invokestatic 51, 3) := by decide +kernel
theorem dX0_compare_35 : decode cX0_compare 35 = .ok (.ifCond .eq 5, 3) := by decide +kernel
theorem dX0_compare_38 : decode cX0_compare 38 = .ok (.iconst 2, 1) := by decide +kernel
theorem dX0_compare_39 : decode cX0_compare 39 = .ok (.ireturn, 1) := by decide +kernel
theorem dX0_compare_40 : decode cX0_compare 40 = .ok (.aload_n 0, 1) := by decide +kernel
theorem dX0_compare_41 : decode cX0_compare 41 = .ok (.getfield 9, 3) := by decide +kernel
theorem dX0_compare_44 : decode cX0_compare 44 = .ok (.iload_n 1, 1) := by decide +kernel
theorem dX0_compare_45 : decode cX0_compare 45 = .ok (.laload, 1) := by decide +kernel
theorem dX0_compare_46 : decode cX0_compare 46 = .ok (.invokestatic 59, 3) := by decide +kernel
theorem dX0_compare_49 : decode cX0_compare 49 = .ok (.lstore_n 3, 1) := by decide +kernel
theorem dX0_compare_50 : decode cX0_compare 50 = .ok (.aload_n 0, 1) := by decide +kernel
theorem dX0_compare_51 : decode cX0_compare 51 = .ok (.getfield 9, 3) := by decide +kernel
theorem dX0_compare_54 : decode cX0_compare 54 = .ok (.iload_n 2, 1) := by decide +kernel
theorem dX0_compare_55 : decode cX0_compare 55 = .ok (.laload, 1) := by decide +kernel
theorem dX0_compare_56 : decode cX0_compare 56 = .ok (.invokestatic 59, 3) := by decide +kernel
theorem dX0_compare_59 : decode cX0_compare 59 = .ok (.lstore 5, 2) := by decide +kernel
theorem dX0_compare_61 : decode cX0_compare 61 = .ok (.lload_n 3, 1) := by decide +kernel
theorem dX0_compare_62 : decode cX0_compare 62 = .ok (.lload 5, 2) := by decide +kernel
theorem dX0_compare_64 : decode cX0_compare 64 = .ok (.lcmp, 1) := by decide +kernel
theorem dX0_compare_65 : decode cX0_compare 65 = .ok (.ifCond .ne 5, 3) := by decide +kernel
theorem dX0_compare_68 : decode cX0_compare 68 = .ok (.iconst 0, 1) := by decide +kernel
theorem dX0_compare_69 : decode cX0_compare 69 = .ok (.ireturn, 1) := by decide +kernel
theorem dX0_compare_70 : decode cX0_compare 70 = .ok (.lload_n 3, 1) := by decide +kernel
theorem dX0_compare_71 : decode cX0_compare 71 = .ok (.lload 5, 2) := by decide +kernel
theorem dX0_compare_73 : decode cX0_compare 73 = .ok (.lcmp, 1) := by decide +kernel
theorem dX0_compare_74 : decode cX0_compare 74 = .ok (.ifCond .ge 7, 3) := by decide +kernel
theorem dX0_compare_77 : decode cX0_compare 77 = .ok (.iconst (-1), 1) := by decide +kernel
theorem dX0_compare_78 : decode cX0_compare 78 = .ok (.goto 4, 3) := by decide +kernel
theorem dX0_compare_81 : decode cX0_compare 81 = .ok (.iconst 1, 1) := by decide +kernel
theorem dX0_compare_82 : decode cX0_compare 82 = .ok (.ireturn, 1) := by decide +kernel
set_option maxRecDepth 20000 in
theorem ggX0_sort_X0_isRegister : GoodIn wsX0_sort wsX0_isRegister := goodIn_r _ [5] (by decide +kernel) (by decide +kernel)
set_option maxRecDepth 20000 in
theorem gX0_sort_X0_isRegister : GoodIn wsX0_sort (va_wsS RX0 20 yX0_isRegister wsX0_isRegister) := goodIn_app (goodIn_of _ (by decide +kernel)) ggX0_sort_X0_isRegister
set_option maxRecDepth 20000 in
theorem ggX0_sort_X0_sortOfAmount : GoodIn wsX0_sort wsX0_sortOfAmount := goodIn_r _ [8, 9, 10, 11, 12, 4, 13, 14, 15, 16, 17, 18, 19, 20] (by decide +kernel) (by decide +kernel)
set_option maxRecDepth 20000 in
theorem gX0_sort_X0_sortOfAmount : GoodIn wsX0_sort (va_wsS RX0 62 yX0_sortOfAmount wsX0_sortOfAmount) := goodIn_app (goodIn_of _ (by decide +kernel)) ggX0_sort_X0_sortOfAmount
theorem dX0_sort_0 : decode cX0_sort 0 = .ok (.iload_n 1, 1) := by decide +kernel
theorem dX0_sort_1 : decode cX0_sort 1 = .ok (.invokestatic 20, 3) := by decide +kernel
theorem dX0_sort_4 : decode cX0_sort 4 = .ok (.ifCond .ne 5, 3) := by decide +kernel
theorem dX0_sort_7 : decode cX0_sort 7 = .ok (.iconst (-1), 1) := by decide +kernel
theorem dX0_sort_8 : decode cX0_sort 8 = .ok (.ireturn, 1) := by decide +kernel
theorem dX0_sort_9 : decode cX0_sort 9 = .ok (.aload_n 0, 1) := by decide +kernel
theorem dX0_sort_10 : decode cX0_sort 10 = .ok (.getfield 9, 3) := by decide +kernel
theorem dX0_sort_13 : decode cX0_sort 13 = .ok (.iload_n 1, 1) := by decide +kernel
theorem dX0_sort_14 : decode cX0_sort 14 = .ok (.laload, 1) := by decide +kernel
theorem dX0_sort_15 : decode cX0_sort 15 = .ok (.lstore_n 2, 1) := by decide +kernel
theorem dX0_sort_16 : decode cX0_sort 16 = .ok (.lload_n 2, 1) := by decide +kernel
theorem dX0_sort_17 : decode cX0_sort 17 = .ok (.lconst 0, 1) := by decide +kernel
theorem dX0_sort_18 : decode cX0_sort 18 = .ok (.lcmp, 1) := by decide +kernel
theorem dX0_sort_19 : decode cX0_sort 19 = .ok (.ifCond .ge 13, 3) := by decide +kernel
theorem dX0_sort_22 : decode cX0_sort 22 = .ok (.lload_n 2, 1) := by decide +kernel
theorem dX0_sort_23 : decode cX0_sort 23 = .ok (.invokestatic 62, 3) := by decide +kernel
theorem dX0_sort_26 : decode cX0_sort 26 = .ok (.bipush 8, 2) := by decide +kernel
theorem dX0_sort_28 : decode cX0_sort 28 = .ok (.iadd, 1) := by decide +kernel
theorem dX0_sort_29 : decode cX0_sort 29 = .ok (.goto 7, 3) := by decide +kernel
theorem dX0_sort_32 : decode cX0_sort 32 = .ok (.lload_n 2, 1) := by decide +kernel
theorem dX0_sort_33 : decode cX0_sort 33 = .ok (.invokestatic 62, 3) := by decide +kernel
theorem dX0_sort_36 : decode cX0_sort 36 = .ok (.ireturn, 1) := by decide +kernel
theorem dX0_flags_0 : decode cX0_flags 0 = .ok (.aload_n 0, 1) := by decide +kernel
theorem dX0_flags_1 : decode cX0_flags 1 = .ok (.getfield 13, 3) := by decide +kernel
theorem dX0_flags_4 : decode cX0_flags 4 = .ok (.ireturn, 1) := by decide +kernel
theorem dX0_clear_0 : decode cX0_clear 0 = .ok (.aload_n 0, 1) := by decide +kernel
theorem dX0_clear_1 : decode cX0_clear 1 = .ok (.iconst 0, 1) := by decide +kernel
theorem dX0_clear_2 : decode cX0_clear 2 = .ok (.putfield 13, 3) := by decide +kernel
theorem dX0_clear_5 : decode cX0_clear 5 = .ok (.return_, 1) := by decide +kernel
theorem dX0_isRegister_0 : decode cX0_isRegister 0 = .ok (.iload_n 0, 1) := by decide +kernel
theorem dX0_isRegister_1 : decode cX0_isRegister 1 = .ok (.ifCond .lt 13, 3) := by decide +kernel
theorem dX0_isRegister_4 : decode cX0_isRegister 4 = .ok (.iload_n 0, 1) := by decide +kernel
theorem dX0_isRegister_5 : decode cX0_isRegister 5 = .ok (.bipush 8, 2) := by decide +kernel
theorem dX0_isRegister_7 : decode cX0_isRegister 7 = .ok (.if_icmp .ge 7, 3) := by decide +kernel
theorem dX0_isRegister_10 : decode cX0_isRegister 10 = .ok (.iconst 1, 1) := by decide +kernel
theorem dX0_isRegister_11 : decode cX0_isRegister 11 = .ok (.goto 4, 3) := by decide +kernel
theorem dX0_isRegister_14 : decode cX0_isRegister 14 = .ok (.iconst 0, 1) := by decide +kernel
theorem dX0_isRegister_15 : decode cX0_isRegister 15 = .ok (.ireturn, 1) := by decide +kernel
theorem dX0_raise_0 : decode cX0_raise 0 = .ok (.aload_n 0, 1) := by decide +kernel
theorem dX0_raise_1 : decode cX0_raise 1 = .ok (.dup, 1) := by decide +kernel
theorem dX0_raise_2 : decode cX0_raise 2 = .ok (.getfield 13, 3) := by decide +kernel
theorem dX0_raise_5 : decode cX0_raise 5 = .ok (.iload_n 1, 1) := by decide +kernel
theorem dX0_raise_6 : decode cX0_raise 6 = .ok (.ior, 1) := by decide +kernel
theorem dX0_raise_7 : decode cX0_raise 7 = .ok (.putfield 13, 3) := by decide +kernel
theorem dX0_raise_10 : decode cX0_raise 10 = .ok (.return_, 1) := by decide +kernel
theorem dX0_isZero_0 : decode cX0_isZero 0 = .ok (.lload_n 0, 1) := by decide +kernel
theorem dX0_isZero_1 : decode cX0_isZero 1 = .ok (.ldc2_w 65, 3) := by decide +kernel
theorem dX0_isZero_4 : decode cX0_isZero 4 = .ok (.land, 1) := by decide +kernel
theorem dX0_isZero_5 : decode cX0_isZero 5 = .ok (.lconst 0, 1) := by decide +kernel
theorem dX0_isZero_6 : decode cX0_isZero 6 = .ok (.lcmp, 1) := by decide +kernel
theorem dX0_isZero_7 : decode cX0_isZero 7 = .ok (.ifCond .ne 7, 3) := by decide +kernel
theorem dX0_isZero_10 : decode cX0_isZero 10 = .ok (.iconst 1, 1) := by decide +kernel
theorem dX0_isZero_11 : decode cX0_isZero 11 = .ok (.goto 4, 3) := by decide +kernel
theorem dX0_isZero_14 : decode cX0_isZero 14 = .ok (.iconst 0, 1) := by decide +kernel
theorem dX0_isZero_15 : decode cX0_isZero 15 = .ok (.ireturn, 1) := by decide +kernel
theorem dX0_isInfinity_0 : decode cX0_isInfinity 0 = .ok (.lload_n 0, 1) := by decide +kernel
theorem dX0_isInfinity_1 : decode cX0_isInfinity 1 = .ok (.ldc2_w 65, 3) := by decide +kernel
theorem dX0_isInfinity_4 : decode cX0_isInfinity 4 = .ok (.land, 1) := by decide +kernel
theorem dX0_isInfinity_5 : decode cX0_isInfinity 5 = .ok (.ldc2_w 67, 3) := by decide +kernel
theorem dX0_isInfinity_8 : decode cX0_isInfinity 8 = .ok (.lcmp, 1) := by decide +kernel
theorem dX0_isInfinity_9 : decode cX0_isInfinity 9 = .ok (.ifCond .ne 7, 3) := by decide +kernel
theorem dX0_isInfinity_12 : decode cX0_isInfinity 12 = .ok (.iconst 1, 1) := by decide +kernel
theorem dX0_isInfinity_13 : decode cX0_isInfinity 13 = .ok (.goto 4, 3) := by decide +kernel
theorem dX0_isInfinity_16 : decode cX0_isInfinity 16 = .ok (.iconst 0, 1) := by decide +kernel
theorem dX0_isInfinity_17 : decode cX0_isInfinity 17 = .ok (.ireturn, 1) := by decide +kernel
theorem dX0_isNan_0 : decode cX0_isNan 0 = .ok (.lload_n 0, 1) := by decide +kernel
theorem dX0_isNan_1 : decode cX0_isNan 1 = .ok (.ldc2_w 65, 3) := by decide +kernel
theorem dX0_isNan_4 : decode cX0_isNan 4 = .ok (.land, 1) := by decide +kernel
theorem dX0_isNan_5 : decode cX0_isNan 5 = .ok (.ldc2_w 67, 3) := by decide +kernel
theorem dX0_isNan_8 : decode cX0_isNan 8 = .ok (.lcmp, 1) := by decide +kernel
theorem dX0_isNan_9 : decode cX0_isNan 9 = .ok (.ifCond .le 7, 3) := by decide +kernel
theorem dX0_isNan_12 : decode cX0_isNan 12 = .ok (.iconst 1, 1) := by decide +kernel
theorem dX0_isNan_13 : decode cX0_isNan 13 = .ok (.goto 4, 3) := by decide +kernel
theorem dX0_isNan_16 : decode cX0_isNan 16 = .ok (.iconst 0, 1) := by decide +kernel
theorem dX0_isNan_17 : decode cX0_isNan 17 = .ok (.ireturn, 1) := by decide +kernel
theorem dX0_signOf_0 : decode cX0_signOf 0 = .ok (.lload_n 0, 1) := by decide +kernel
theorem dX0_signOf_1 : decode cX0_signOf 1 = .ok (.ldc2_w 69, 3) := by decide +kernel
theorem dX0_signOf_4 : decode cX0_signOf 4 = .ok (.land, 1) := by decide +kernel
theorem dX0_signOf_5 : decode cX0_signOf 5 = .ok (.lreturn, 1) := by decide +kernel
set_option maxRecDepth 20000 in
theorem ggX0_sortOfAmount_X0_isZero : GoodIn wsX0_sortOfAmount wsX0_isZero := goodIn_r _ [6, 1] (by decide +kernel) (by decide +kernel)
set_option maxRecDepth 20000 in
theorem gX0_sortOfAmount_X0_isZero : GoodIn wsX0_sortOfAmount (va_wsS RX0 43 yX0_isZero wsX0_isZero) := goodIn_app (goodIn_of _ (by decide +kernel)) ggX0_sortOfAmount_X0_isZero
set_option maxRecDepth 20000 in
theorem ggX0_sortOfAmount_X0_isInfinity : GoodIn wsX0_sortOfAmount wsX0_isInfinity := goodIn_r _ [9, 1, 10] (by decide +kernel) (by decide +kernel)
set_option maxRecDepth 20000 in
theorem gX0_sortOfAmount_X0_isInfinity : GoodIn wsX0_sortOfAmount (va_wsS RX0 48 yX0_isInfinity wsX0_isInfinity) := goodIn_app (goodIn_of _ (by decide +kernel)) ggX0_sortOfAmount_X0_isInfinity
set_option maxRecDepth 20000 in
theorem ggX0_sortOfAmount_X0_isNan : GoodIn wsX0_sortOfAmount wsX0_isNan := goodIn_r _ [13, 1, 10] (by decide +kernel) (by decide +kernel)
set_option maxRecDepth 20000 in
theorem gX0_sortOfAmount_X0_isNan : GoodIn wsX0_sortOfAmount (va_wsS RX0 51 yX0_isNan wsX0_isNan) := goodIn_app (goodIn_of _ (by decide +kernel)) ggX0_sortOfAmount_X0_isNan
theorem dX0_sortOfAmount_0 : decode cX0_sortOfAmount 0 = .ok (.lload_n 0, 1) := by decide +kernel
theorem dX0_sortOfAmount_1 : decode cX0_sortOfAmount 1 = .ok (.invokestatic 43, 3) := by decide +kernel
theorem dX0_sortOfAmount_4 : decode cX0_sortOfAmount 4 = .ok (.ifCond .eq 5, 3) := by decide +kernel
theorem dX0_sortOfAmount_7 : decode cX0_sortOfAmount 7 = .ok (.iconst 0, 1) := by decide +kernel
theorem dX0_sortOfAmount_8 : decode cX0_sortOfAmount 8 = .ok (.ireturn, 1) := by decide +kernel
theorem dX0_sortOfAmount_9 : decode cX0_sortOfAmount 9 = .ok (.lload_n 0, 1) := by decide +kernel
theorem dX0_sortOfAmount_10 : decode cX0_sortOfAmount 10 = .ok (.invokestatic 48, 3) := by decide +kernel
theorem dX0_sortOfAmount_13 : decode cX0_sortOfAmount 13 = .ok (.ifCond .eq 5, 3) := by decide +kernel
theorem dX0_sortOfAmount_16 : decode cX0_sortOfAmount 16 = .ok (.iconst 3, 1) := by decide +kernel
theorem dX0_sortOfAmount_17 : decode cX0_sortOfAmount 17 = .ok (.ireturn, 1) := by decide +kernel
theorem dX0_sortOfAmount_18 : decode cX0_sortOfAmount 18 = .ok (.lload_n 0, 1) := by decide +kernel
theorem dX0_sortOfAmount_19 : decode cX0_sortOfAmount 19 = .ok (.invokestatic 51, 3) := by decide +kernel
theorem dX0_sortOfAmount_22 : decode cX0_sortOfAmount 22 = .ok (.ifCond .eq 5, 3) := by decide +kernel
theorem dX0_sortOfAmount_25 : decode cX0_sortOfAmount 25 = .ok (.iconst 4, 1) := by decide +kernel
theorem dX0_sortOfAmount_26 : decode cX0_sortOfAmount 26 = .ok (.ireturn, 1) := by decide +kernel
theorem dX0_sortOfAmount_27 : decode cX0_sortOfAmount 27 = .ok (.lload_n 0, 1) := by decide +kernel
theorem dX0_sortOfAmount_28 : decode cX0_sortOfAmount 28 = .ok (.ldc2_w 65, 3) := by decide +kernel
theorem dX0_sortOfAmount_31 : decode cX0_sortOfAmount 31 = .ok (.land, 1) := by decide +kernel
theorem dX0_sortOfAmount_32 : decode cX0_sortOfAmount 32 = .ok (.ldc2_w 71, 3) := by decide +kernel
theorem dX0_sortOfAmount_35 : decode cX0_sortOfAmount 35 = .ok (.lcmp, 1) := by decide +kernel
theorem dX0_sortOfAmount_36 : decode cX0_sortOfAmount 36 = .ok (.ifCond .ge 7, 3) := by decide +kernel
theorem dX0_sortOfAmount_39 : decode cX0_sortOfAmount 39 = .ok (.iconst 1, 1) := by decide +kernel
theorem dX0_sortOfAmount_40 : decode cX0_sortOfAmount 40 = .ok (.goto 4, 3) := by decide +kernel
theorem dX0_sortOfAmount_43 : decode cX0_sortOfAmount 43 = .ok (.iconst 2, 1) := by decide +kernel
theorem dX0_sortOfAmount_44 : decode cX0_sortOfAmount 44 = .ok (.ireturn, 1) := by decide +kernel
theorem dX0_fieldE_0 : decode cX0_fieldE 0 = .ok (.lload_n 0, 1) := by decide +kernel
theorem dX0_fieldE_1 : decode cX0_fieldE 1 = .ok (.ldc2_w 65, 3) := by decide +kernel
theorem dX0_fieldE_4 : decode cX0_fieldE 4 = .ok (.land, 1) := by decide +kernel
theorem dX0_fieldE_5 : decode cX0_fieldE 5 = .ok (.bipush 52, 2) := by decide +kernel
theorem dX0_fieldE_7 : decode cX0_fieldE 7 = .ok (.lshr, 1) := by decide +kernel
theorem dX0_fieldE_8 : decode cX0_fieldE 8 = .ok (.l2i, 1) := by decide +kernel
theorem dX0_fieldE_9 : decode cX0_fieldE 9 = .ok (.ireturn, 1) := by decide +kernel
set_option maxRecDepth 20000 in
theorem ggX0_significand_X0_fieldE : GoodIn wsX0_significand wsX0_fieldE := goodIn_r _ [6, 7] (by decide +kernel) (by decide +kernel)
set_option maxRecDepth 20000 in
theorem gX0_significand_X0_fieldE : GoodIn wsX0_significand (va_wsS RX0 75 yX0_fieldE wsX0_fieldE) := goodIn_app (goodIn_of _ (by decide +kernel)) ggX0_significand_X0_fieldE
theorem dX0_significand_0 : decode cX0_significand 0 = .ok (.lload_n 0, 1) := by decide +kernel
theorem dX0_significand_1 : decode cX0_significand 1 = .ok (.ldc2_w 73, 3) := by decide +kernel
theorem dX0_significand_4 : decode cX0_significand 4 = .ok (.land, 1) := by decide +kernel
theorem dX0_significand_5 : decode cX0_significand 5 = .ok (.lstore_n 2, 1) := by decide +kernel
theorem dX0_significand_6 : decode cX0_significand 6 = .ok (.lload_n 0, 1) := by decide +kernel
theorem dX0_significand_7 : decode cX0_significand 7 = .ok (.invokestatic 75, 3) := by decide +kernel
theorem dX0_significand_10 : decode cX0_significand 10 = .ok (.ifCond .ne 7, 3) := by decide +kernel
theorem dX0_significand_13 : decode cX0_significand 13 = .ok (.lload_n 2, 1) := by decide +kernel
theorem dX0_significand_14 : decode cX0_significand 14 = .ok (.goto 8, 3) := by decide +kernel
theorem dX0_significand_17 : decode cX0_significand 17 = .ok (.ldc2_w 71, 3) := by decide +kernel
theorem dX0_significand_20 : decode cX0_significand 20 = .ok (.lload_n 2, 1) := by decide +kernel
theorem dX0_significand_21 : decode cX0_significand 21 = .ok (.ladd, 1) := by decide +kernel
theorem dX0_significand_22 : decode cX0_significand 22 = .ok (.lreturn, 1) := by decide +kernel
set_option maxRecDepth 20000 in
theorem ggX0_power_X0_fieldE : GoodIn wsX0_power wsX0_fieldE := goodIn_r _ [8, 9] (by decide +kernel) (by decide +kernel)
set_option maxRecDepth 20000 in
theorem gX0_power_X0_fieldE : GoodIn wsX0_power (va_wsS RX0 75 yX0_fieldE wsX0_fieldE) := goodIn_app (goodIn_of _ (by decide +kernel)) ggX0_power_X0_fieldE
theorem dX0_power_0 : decode cX0_power 0 = .ok (.lload_n 0, 1) := by decide +kernel
theorem dX0_power_1 : decode cX0_power 1 = .ok (.invokestatic 75, 3) := by decide +kernel
theorem dX0_power_4 : decode cX0_power 4 = .ok (.iconst 1, 1) := by decide +kernel
theorem dX0_power_5 : decode cX0_power 5 = .ok (.invokestatic 78, 3) := by decide +kernel
theorem dX0_power_8 : decode cX0_power 8 = .ok (.iconst 1, 1) := by decide +kernel
theorem dX0_power_9 : decode cX0_power 9 = .ok (.isub, 1) := by decide +kernel
theorem dX0_power_10 : decode cX0_power 10 = .ok (.sipush (-1074), 3) := by decide +kernel
theorem dX0_power_13 : decode cX0_power 13 = .ok (.iadd, 1) := by decide +kernel
theorem dX0_power_14 : decode cX0_power 14 = .ok (.ireturn, 1) := by decide +kernel
set_option maxRecDepth 20000 in
theorem ggX0_spareRoom_X0_significand : GoodIn wsX0_spareRoom wsX0_significand := goodIn_r _ [4, 5, 6, 7, 8, 3, 9, 10] (by decide +kernel) (by decide +kernel)
set_option maxRecDepth 20000 in
theorem gX0_spareRoom_X0_significand : GoodIn wsX0_spareRoom (va_wsS RX0 84 yX0_significand wsX0_significand) := goodIn_app (goodIn_of _ (by decide +kernel)) ggX0_spareRoom_X0_significand
set_option maxRecDepth 20000 in
theorem ggX0_spareRoom_J13_numberOfLeadingZeros_95d88 : GoodIn wsX0_spareRoom wsJ13_numberOfLeadingZeros_95d88 := goodIn_r _ [14, 15, 16, 17, 18, 19] (by decide +kernel) (by decide +kernel)
set_option maxRecDepth 20000 in
theorem gX0_spareRoom_J13_numberOfLeadingZeros_95d88 : GoodIn wsX0_spareRoom (va_wsS RX0 87 yJ13_numberOfLeadingZeros_95d88 wsJ13_numberOfLeadingZeros_95d88) := goodIn_app (goodIn_of _ (by decide +kernel)) ggX0_spareRoom_J13_numberOfLeadingZeros_95d88
theorem dX0_spareRoom_0 : decode cX0_spareRoom 0 = .ok (.lload_n 0, 1) := by decide +kernel
theorem dX0_spareRoom_1 : decode cX0_spareRoom 1 = .ok (.invokestatic 84, 3) := by decide +kernel
theorem dX0_spareRoom_4 : decode cX0_spareRoom 4 = .ok (.invokestatic 87, 3) := by decide +kernel
theorem dX0_spareRoom_7 : decode cX0_spareRoom 7 = .ok (.bipush 11, 2) := by decide +kernel
theorem dX0_spareRoom_9 : decode cX0_spareRoom 9 = .ok (.isub, 1) := by decide +kernel
theorem dX0_spareRoom_10 : decode cX0_spareRoom 10 = .ok (.ireturn, 1) := by decide +kernel
set_option maxRecDepth 20000 in
theorem ggX0_fullSignificand_X0_significand : GoodIn wsX0_fullSignificand wsX0_significand := goodIn_r _ [4, 5, 6, 7, 8, 3, 9, 10] (by decide +kernel) (by decide +kernel)
set_option maxRecDepth 20000 in
theorem gX0_fullSignificand_X0_significand : GoodIn wsX0_fullSignificand (va_wsS RX0 84 yX0_significand wsX0_significand) := goodIn_app (goodIn_of _ (by decide +kernel)) ggX0_fullSignificand_X0_significand
set_option maxRecDepth 20000 in
theorem ggX0_fullSignificand_X0_spareRoom : GoodIn wsX0_fullSignificand wsX0_spareRoom := goodIn_r _ [13, 1, 2, 3, 4, 5, 6, 7, 8, 9, 10, 14, 15, 16, 17, 18, 19, 20, 21, 22] (by decide +kernel) (by decide +kernel)
set_option maxRecDepth 20000 in
theorem gX0_fullSignificand_X0_spareRoom : GoodIn wsX0_fullSignificand (va_wsS RX0 92 yX0_spareRoom wsX0_spareRoom) := goodIn_app (goodIn_of _ (by decide +kernel)) ggX0_fullSignificand_X0_spareRoom
theorem dX0_fullSignificand_0 : decode cX0_fullSignificand 0 = .ok (.lload_n 0, 1) := by decide +kernel
theorem dX0_fullSignificand_1 : decode cX0_fullSignificand 1 = .ok (.invokestatic 84, 3) := by decide +kernel
theorem dX0_fullSignificand_4 : decode cX0_fullSignificand 4 = .ok (.lload_n 0, 1) := by decide +kernel
theorem dX0_fullSignificand_5 : decode cX0_fullSignificand 5 = .ok (.invokestatic 92, 3) := by decide +kernel
theorem dX0_fullSignificand_8 : decode cX0_fullSignificand 8 = .ok (.lshl, 1) := by decide +kernel
theorem dX0_fullSignificand_9 : decode cX0_fullSignificand 9 = .ok (.lreturn, 1) := by decide +kernel
set_option maxRecDepth 20000 in
theorem ggX0_fullPower_X0_power : GoodIn wsX0_fullPower wsX0_power := goodIn_r _ [4, 5, 6, 7, 8, 9, 10, 3, 11, 12] (by decide +kernel) (by decide +kernel)
set_option maxRecDepth 20000 in
theorem gX0_fullPower_X0_power : GoodIn wsX0_fullPower (va_wsS RX0 95 yX0_power wsX0_power) := goodIn_app (goodIn_of _ (by decide +kernel)) ggX0_fullPower_X0_power
set_option maxRecDepth 20000 in
theorem ggX0_fullPower_X0_spareRoom : GoodIn wsX0_fullPower wsX0_spareRoom := goodIn_r _ [15, 16, 17, 3, 18, 19, 20, 9, 10, 11, 12, 21, 22, 23, 24, 25, 26, 27, 28, 29] (by decide +kernel) (by decide +kernel)
set_option maxRecDepth 20000 in
theorem gX0_fullPower_X0_spareRoom : GoodIn wsX0_fullPower (va_wsS RX0 92 yX0_spareRoom wsX0_spareRoom) := goodIn_app (goodIn_of _ (by decide +kernel)) ggX0_fullPower_X0_spareRoom
theorem dX0_fullPower_0 : decode cX0_fullPower 0 = .ok (.lload_n 0, 1) := by decide +kernel
theorem dX0_fullPower_1 : decode cX0_fullPower 1 = .ok (.invokestatic 95, 3) := by decide +kernel
theorem dX0_fullPower_4 : decode cX0_fullPower 4 = .ok (.lload_n 0, 1) := by decide +kernel
theorem dX0_fullPower_5 : decode cX0_fullPower 5 = .ok (.invokestatic 92, 3) := by decide +kernel
theorem dX0_fullPower_8 : decode cX0_fullPower 8 = .ok (.isub, 1) := by decide +kernel
theorem dX0_fullPower_9 : decode cX0_fullPower 9 = .ok (.ireturn, 1) := by decide +kernel
set_option maxRecDepth 20000 in
theorem ggX0_pattern_J13_numberOfLeadingZeros_95d88 : GoodIn wsX0_pattern wsJ13_numberOfLeadingZeros_95d88 := goodIn_r _ [8, 9, 10, 11, 12, 13] (by decide +kernel) (by decide +kernel)
set_option maxRecDepth 20000 in
theorem gX0_pattern_J13_numberOfLeadingZeros_95d88 : GoodIn wsX0_pattern (va_wsS RX0 87 yJ13_numberOfLeadingZeros_95d88 wsJ13_numberOfLeadingZeros_95d88) := goodIn_app (goodIn_of _ (by decide +kernel)) ggX0_pattern_J13_numberOfLeadingZeros_95d88
theorem dX0_pattern_0 : decode cX0_pattern 0 = .ok (.lload_n 0, 1) := by decide +kernel
theorem dX0_pattern_1 : decode cX0_pattern 1 = .ok (.lconst 0, 1) := by decide +kernel
theorem dX0_pattern_2 : decode cX0_pattern 2 = .ok (.lcmp, 1) := by decide +kernel
theorem dX0_pattern_3 : decode cX0_pattern 3 = .ok (.ifCond .ne 5, 3) := by decide +kernel
theorem dX0_pattern_6 : decode cX0_pattern 6 = .ok (.lconst 0, 1) := by decide +kernel
theorem dX0_pattern_7 : decode cX0_pattern 7 = .ok (.lreturn, 1) := by decide +kernel
theorem dX0_pattern_8 : decode cX0_pattern 8 = .ok (.lload_n 0, 1) := by decide +kernel
theorem dX0_pattern_9 : decode cX0_pattern 9 = .ok (.invokestatic 87, 3) := by decide +kernel
theorem dX0_pattern_12 : decode cX0_pattern 12 = .ok (.bipush 11, 2) := by decide +kernel
theorem dX0_pattern_14 : decode cX0_pattern 14 = .ok (.isub, 1) := by decide +kernel
theorem dX0_pattern_15 : decode cX0_pattern 15 = .ok (.istore_n 3, 1) := by decide +kernel
theorem dX0_pattern_16 : decode cX0_pattern 16 = .ok (.iload_n 3, 1) := by decide +kernel
theorem dX0_pattern_17 : decode cX0_pattern 17 = .ok (.iload_n 2, 1) := by decide +kernel
theorem dX0_pattern_18 : decode cX0_pattern 18 = .ok (.sipush (-1074), 3) := by decide +kernel
theorem dX0_pattern_21 : decode cX0_pattern 21 = .ok (.isub, 1) := by decide +kernel
theorem dX0_pattern_22 : decode cX0_pattern 22 = .ok (.invokestatic 98, 3) := by decide +kernel
theorem dX0_pattern_25 : decode cX0_pattern 25 = .ok (.istore 4, 2) := by decide +kernel
theorem dX0_pattern_27 : decode cX0_pattern 27 = .ok (.iload_n 2, 1) := by decide +kernel
theorem dX0_pattern_28 : decode cX0_pattern 28 = .ok (.iload 4, 2) := by decide +kernel
theorem dX0_pattern_30 : decode cX0_pattern 30 = .ok (.isub, 1) := by decide +kernel
theorem dX0_pattern_31 : decode cX0_pattern 31 = .ok (.sipush (-1074), 3) := by decide +kernel
theorem dX0_pattern_34 : decode cX0_pattern 34 = .ok (.isub, 1) := by decide +kernel
theorem dX0_pattern_35 : decode cX0_pattern 35 = .ok (.i2l, 1) := by decide +kernel
theorem dX0_pattern_36 : decode cX0_pattern 36 = .ok (.bipush 52, 2) := by decide +kernel
theorem dX0_pattern_38 : decode cX0_pattern 38 = .ok (.lshl, 1) := by decide +kernel
theorem dX0_pattern_39 : decode cX0_pattern 39 = .ok (.lload_n 0, 1) := by decide +kernel
theorem dX0_pattern_40 : decode cX0_pattern 40 = .ok (.iload 4, 2) := by decide +kernel
theorem dX0_pattern_42 : decode cX0_pattern 42 = .ok (.lshl, 1) := by decide +kernel
theorem dX0_pattern_43 : decode cX0_pattern 43 = .ok (.ladd, 1) := by decide +kernel
theorem dX0_pattern_44 : decode cX0_pattern 44 = .ok (.lreturn, 1) := by decide +kernel
theorem dX0_nearestShifted_0 : decode cX0_nearestShifted 0 = .ok (.lload_n 0, 1) := by decide +kernel
theorem dX0_nearestShifted_1 : decode cX0_nearestShifted 1 = .ok (.iload_n 2, 1) := by decide +kernel
theorem dX0_nearestShifted_2 : decode cX0_nearestShifted 2 = .ok (.lshr, 1) := by decide +kernel
theorem dX0_nearestShifted_3 : decode cX0_nearestShifted 3 = .ok (.lstore_n 3, 1) := by decide +kernel
theorem dX0_nearestShifted_4 : decode cX0_nearestShifted 4 = .ok (.lload_n 0, 1) := by decide +kernel
theorem dX0_nearestShifted_5 : decode cX0_nearestShifted 5 = .ok (.lload_n 3, 1) := by decide +kernel
theorem dX0_nearestShifted_6 : decode cX0_nearestShifted 6 = .ok (.iload_n 2, 1) := by decide +kernel
theorem dX0_nearestShifted_7 : decode cX0_nearestShifted 7 = .ok (.lshl, 1) := by decide +kernel
theorem dX0_nearestShifted_8 : decode cX0_nearestShifted 8 = .ok (.lsub, 1) := by decide +kernel
theorem dX0_nearestShifted_9 : decode cX0_nearestShifted 9 = .ok (.lstore 5, 2) := by decide +kernel
theorem dX0_nearestShifted_11 : decode cX0_nearestShifted 11 = .ok (.lconst 1, 1) := by decide +kernel
theorem dX0_nearestShifted_12 : decode cX0_nearestShifted 12 = .ok (.iload_n 2, 1) := by decide +kernel
theorem dX0_nearestShifted_13 : decode cX0_nearestShifted 13 = .ok (.iconst 1, 1) := by decide +kernel
theorem dX0_nearestShifted_14 : decode cX0_nearestShifted 14 = .ok (.isub, 1) := by decide +kernel
theorem dX0_nearestShifted_15 : decode cX0_nearestShifted 15 = .ok (.lshl, 1) := by decide +kernel
theorem dX0_nearestShifted_16 : decode cX0_nearestShifted 16 = .ok (.lstore 7, 2) := by decide +kernel
theorem dX0_nearestShifted_18 : decode cX0_nearestShifted 18 = .ok (.lload 5, 2) := by decide +kernel
theorem dX0_nearestShifted_20 : decode cX0_nearestShifted 20 = .ok (.lload 7, 2) := by decide +kernel
theorem dX0_nearestShifted_22 : decode cX0_nearestShifted 22 = .ok (.lcmp, 1) := by decide +kernel
theorem dX0_nearestShifted_23 : decode cX0_nearestShifted 23 = .ok (.ifCond .gt 19, 3) := by decide +kernel
theorem dX0_nearestShifted_26 : decode cX0_nearestShifted 26 = .ok (.lload 5, 2) := by decide +kernel
theorem dX0_nearestShifted_28 : decode cX0_nearestShifted 28 = .ok (.lload 7, 2) := by decide +kernel
theorem dX0_nearestShifted_30 : decode cX0_nearestShifted 30 = .ok (.lcmp, 1) := by decide +kernel
theorem dX0_nearestShifted_31 : decode cX0_nearestShifted 31 = .ok (.ifCond .ne 15, 3) := by decide +kernel
theorem dX0_nearestShifted_34 : decode cX0_nearestShifted 34 = .ok (.lload_n 3, 1) := by decide +kernel
theorem dX0_nearestShifted_35 : decode cX0_nearestShifted 35 = .ok (.lconst 1, 1) := by decide +kernel
theorem dX0_nearestShifted_36 : decode cX0_nearestShifted 36 = .ok (.land, 1) := by decide +kernel
theorem dX0_nearestShifted_37 : decode cX0_nearestShifted 37 = .ok (.lconst 1, 1) := by decide +kernel
theorem dX0_nearestShifted_38 : decode cX0_nearestShifted 38 = .ok (.lcmp, 1) := by decide +kernel
theorem dX0_nearestShifted_39 : decode cX0_nearestShifted 39 = .ok (.ifCond .ne 7, 3) := by decide +kernel
theorem dX0_nearestShifted_42 : decode cX0_nearestShifted 42 = .ok (.iconst 1, 1) := by decide +kernel
theorem dX0_nearestShifted_43 : decode cX0_nearestShifted 43 = .ok (.goto 4, 3) := by decide +kernel
theorem dX0_nearestShifted_46 : decode cX0_nearestShifted 46 = .ok (.iconst 0, 1) := by decide +kernel
theorem dX0_nearestShifted_47 : decode cX0_nearestShifted 47 = .ok (.istore 9, 2) := by decide +kernel
theorem dX0_nearestShifted_49 : decode cX0_nearestShifted 49 = .ok (.iload 9, 2) := by decide +kernel
theorem dX0_nearestShifted_51 : decode cX0_nearestShifted 51 = .ok (.ifCond .eq 9, 3) := by decide +kernel
theorem dX0_nearestShifted_54 : decode cX0_nearestShifted 54 = .ok (.lload_n 3, 1) := by decide +kernel
theorem dX0_nearestShifted_55 : decode cX0_nearestShifted 55 = .ok (.lconst 1, 1) := by decide +kernel
theorem dX0_nearestShifted_56 : decode cX0_nearestShifted 56 = .ok (.ladd, 1) := by decide +kernel
theorem dX0_nearestShifted_57 : decode cX0_nearestShifted 57 = .ok (.goto 4, 3) := by decide +kernel
theorem dX0_nearestShifted_60 : decode cX0_nearestShifted 60 = .ok (.lload_n 3, 1) := by decide +kernel
theorem dX0_nearestShifted_61 : decode cX0_nearestShifted 61 = .ok (.lreturn, 1) := by decide +kernel
set_option maxRecDepth 20000 in
theorem ggX0_squareRoot_X0_isNan : GoodIn wsX0_squareRoot wsX0_isNan := goodIn_r _ [6, 7, 2] (by decide +kernel) (by decide +kernel)
set_option maxRecDepth 20000 in
theorem gX0_squareRoot_X0_isNan : GoodIn wsX0_squareRoot (va_wsS RX0 51 yX0_isNan wsX0_isNan) := goodIn_app (goodIn_of _ (by decide +kernel)) ggX0_squareRoot_X0_isNan
set_option maxRecDepth 20000 in
theorem ggX0_squareRoot_X0_isZero : GoodIn wsX0_squareRoot wsX0_isZero := goodIn_r _ [10, 7] (by decide +kernel) (by decide +kernel)
set_option maxRecDepth 20000 in
theorem gX0_squareRoot_X0_isZero : GoodIn wsX0_squareRoot (va_wsS RX0 43 yX0_isZero wsX0_isZero) := goodIn_app (goodIn_of _ (by decide +kernel)) ggX0_squareRoot_X0_isZero
set_option maxRecDepth 20000 in
theorem ggX0_squareRoot_X0_raise : GoodIn wsX0_squareRoot wsX0_raise := goodIn_r _ [14, 15, 59, 60, 61] (by decide +kernel) (by decide +kernel)
set_option maxRecDepth 20000 in
theorem gX0_squareRoot_X0_raise : GoodIn wsX0_squareRoot (wsV RX0 103 RX0 yX0_raise wsX0_raise) := goodIn_app (goodIn_of _ (by decide +kernel)) ggX0_squareRoot_X0_raise
set_option maxRecDepth 20000 in
theorem ggX0_squareRoot_X0_rootOfPositive : GoodIn wsX0_squareRoot wsX0_rootOfPositive := goodIn_r _ [19, 20, 21, 5, 22, 23, 24, 25, 26, 27, 28, 29, 30, 31, 32, 7, 33, 34, 35, 36, 37, 38, 39, 40, 41, 42, 43, 44, 45, 46, 47, 48, 49, 50, 51, 52, 11, 12, 13, 14, 15, 53, 54, 55, 56, 57, 58, 59, 60, 61] (by decide +kernel) (by decide +kernel)
set_option maxRecDepth 20000 in
theorem gX0_squareRoot_X0_rootOfPositive : GoodIn wsX0_squareRoot (wsV RX0 107 RX0 yX0_rootOfPositive wsX0_rootOfPositive) := goodIn_app (goodIn_of _ (by decide +kernel)) ggX0_squareRoot_X0_rootOfPositive
theorem dX0_squareRoot_0 : decode cX0_squareRoot 0 = .ok (.lload_n 1, 1) := by decide +kernel
theorem dX0_squareRoot_1 : decode cX0_squareRoot 1 = .ok (.invokestatic 51, 3) := by decide +kernel
theorem dX0_squareRoot_4 : decode cX0_squareRoot 4 = .ok (.ifCond .eq 7, 3) := by decide +kernel
theorem dX0_squareRoot_7 : decode cX0_squareRoot 7 = .ok (.ldc2_w 101, 3) := by decide +kernel
theorem dX0_squareRoot_10 : decode cX0_squareRoot 10 = .ok (.lreturn, 1) := by decide +kernel
theorem dX0_squareRoot_11 : decode cX0_squareRoot 11 = .ok (.lload_n 1, 1) := by decide +kernel
theorem dX0_squareRoot_12 : decode cX0_squareRoot 12 = .ok (.invokestatic 43, 3) := by decide +kernel
theorem dX0_squareRoot_15 : decode cX0_squareRoot 15 = .ok (.ifCond .ne 11, 3) := by decide +kernel
theorem dX0_squareRoot_18 : decode cX0_squareRoot 18 = .ok (.lload_n 1, 1) := by decide +kernel
theorem dX0_squareRoot_19 : decode cX0_squareRoot 19 = .ok (.ldc2_w 67, 3) := by decide +kernel
theorem dX0_squareRoot_22 : decode cX0_squareRoot 22 = .ok (.lcmp, 1) := by decide +kernel
theorem dX0_squareRoot_23 : decode cX0_squareRoot 23 = .ok (.ifCond .ne 5, 3) := by decide +kernel
theorem dX0_squareRoot_26 : decode cX0_squareRoot 26 = .ok (.lload_n 1, 1) := by decide +kernel
theorem dX0_squareRoot_27 : decode cX0_squareRoot 27 = .ok (.lreturn, 1) := by decide +kernel
theorem dX0_squareRoot_28 : decode cX0_squareRoot 28 = .ok (.lload_n 1, 1) := by decide +kernel
theorem dX0_squareRoot_29 : decode cX0_squareRoot 29 = .ok (.lconst 0, 1) := by decide +kernel
theorem dX0_squareRoot_30 : decode cX0_squareRoot 30 = .ok (.lcmp, 1) := by decide +kernel
theorem dX0_squareRoot_31 : decode cX0_squareRoot 31 = .ok (.ifCond .ge 12, 3) := by decide +kernel
theorem dX0_squareRoot_34 : decode cX0_squareRoot 34 = .ok (.aload_n 0, 1) := by decide +kernel
theorem dX0_squareRoot_35 : decode cX0_squareRoot 35 = .ok (.iconst 1, 1) := by decide +kernel
theorem dX0_squareRoot_36 : decode cX0_squareRoot 36 = .ok (.invokevirtual 103, 3) := by decide +kernel
theorem dX0_squareRoot_39 : decode cX0_squareRoot 39 = .ok (.ldc2_w 101, 3) := by decide +kernel
theorem dX0_squareRoot_42 : decode cX0_squareRoot 42 = .ok (.lreturn, 1) := by decide +kernel
theorem dX0_squareRoot_43 : decode cX0_squareRoot 43 = .ok (.aload_n 0, 1) := by decide +kernel
theorem dX0_squareRoot_44 : decode cX0_squareRoot 44 = .ok (.lload_n 1, 1) := by decide +kernel
theorem dX0_squareRoot_45 : decode cX0_squareRoot 45 = .ok (.invokevirtual 107, 3) := by decide +kernel
theorem dX0_squareRoot_48 : decode cX0_squareRoot 48 = .ok (.lreturn, 1) := by decide +kernel
set_option maxRecDepth 20000 in
theorem ggX0_rootOfPositive_X0_fullPower : GoodIn wsX0_rootOfPositive wsX0_fullPower := goodIn_r _ [4, 5, 6, 3, 7, 8, 9, 10, 11, 12, 13, 14, 15, 16, 17, 18, 19, 20, 21, 22, 23, 24, 25, 26, 27, 28, 29, 30, 31, 32] (by decide +kernel) (by decide +kernel)
set_option maxRecDepth 20000 in
theorem gX0_rootOfPositive_X0_fullPower : GoodIn wsX0_rootOfPositive (va_wsS RX0 55 yX0_fullPower wsX0_fullPower) := goodIn_app (goodIn_of _ (by decide +kernel)) ggX0_rootOfPositive_X0_fullPower
set_option maxRecDepth 20000 in
theorem ggX0_rootOfPositive_X0_fullSignificand : GoodIn wsX0_rootOfPositive wsX0_fullSignificand := goodIn_r _ [35, 19, 20, 3, 21, 22, 23, 12, 13, 14, 15, 16, 17, 18, 24, 25, 26, 27, 28, 29, 30, 31, 32] (by decide +kernel) (by decide +kernel)
set_option maxRecDepth 20000 in
theorem gX0_rootOfPositive_X0_fullSignificand : GoodIn wsX0_rootOfPositive (va_wsS RX0 110 yX0_fullSignificand wsX0_fullSignificand) := goodIn_app (goodIn_of _ (by decide +kernel)) ggX0_rootOfPositive_X0_fullSignificand
set_option maxRecDepth 20000 in
theorem ggX0_rootOfPositive_X0_raise : GoodIn wsX0_rootOfPositive wsX0_raise := goodIn_r _ [39, 40, 47, 48, 49] (by decide +kernel) (by decide +kernel)
set_option maxRecDepth 20000 in
theorem gX0_rootOfPositive_X0_raise : GoodIn wsX0_rootOfPositive (wsV RX0 103 RX0 yX0_raise wsX0_raise) := goodIn_app (goodIn_of _ (by decide +kernel)) ggX0_rootOfPositive_X0_raise
set_option maxRecDepth 20000 in
theorem ggX0_rootOfPositive_X0_pattern : GoodIn wsX0_rootOfPositive wsX0_pattern := goodIn_r _ [43, 44, 45, 10, 46, 24, 25, 26, 27, 28, 29, 30, 31, 32] (by decide +kernel) (by decide +kernel)
set_option maxRecDepth 20000 in
theorem gX0_rootOfPositive_X0_pattern : GoodIn wsX0_rootOfPositive (va_wsS RX0 113 yX0_pattern wsX0_pattern) := goodIn_app (goodIn_of _ (by decide +kernel)) ggX0_rootOfPositive_X0_pattern
theorem dX0_rootOfPositive_0 : decode cX0_rootOfPositive 0 = .ok (.lload_n 1, 1) := by decide +kernel
theorem dX0_rootOfPositive_1 : decode cX0_rootOfPositive 1 = .ok (.invokestatic 55, 3) := by decide +kernel
theorem dX0_rootOfPositive_4 : decode cX0_rootOfPositive 4 = .ok (.iconst 1, 1) := by decide +kernel
theorem dX0_rootOfPositive_5 : decode cX0_rootOfPositive 5 = .ok (.iand, 1) := by decide +kernel
theorem dX0_rootOfPositive_6 : decode cX0_rootOfPositive 6 = .ok (.istore_n 3, 1) := by decide +kernel
theorem dX0_rootOfPositive_7 : decode cX0_rootOfPositive 7 = .ok (.lload_n 1, 1) := by decide +kernel
theorem dX0_rootOfPositive_8 : decode cX0_rootOfPositive 8 = .ok (.invokestatic 55, 3) := by decide +kernel
theorem dX0_rootOfPositive_11 : decode cX0_rootOfPositive 11 = .ok (.iload_n 3, 1) := by decide +kernel
theorem dX0_rootOfPositive_12 : decode cX0_rootOfPositive 12 = .ok (.isub, 1) := by decide +kernel
theorem dX0_rootOfPositive_13 : decode cX0_rootOfPositive 13 = .ok (.iconst 2, 1) := by decide +kernel
theorem dX0_rootOfPositive_14 : decode cX0_rootOfPositive 14 = .ok (.idiv, 1) := by decide +kernel
theorem dX0_rootOfPositive_15 : decode cX0_rootOfPositive 15 = .ok (.istore 4, 2) := by decide +kernel
theorem dX0_rootOfPositive_17 : decode cX0_rootOfPositive 17 = .ok (.lload_n 1, 1) := by decide +kernel
theorem dX0_rootOfPositive_18 : decode cX0_rootOfPositive 18 = .ok (.invokestatic 110, 3) := by decide +kernel
theorem dX0_rootOfPositive_21 : decode cX0_rootOfPositive 21 = .ok (.bipush 10, 2) := by decide +kernel
theorem dX0_rootOfPositive_23 : decode cX0_rootOfPositive 23 = .ok (.iload_n 3, 1) := by decide +kernel
theorem dX0_rootOfPositive_24 : decode cX0_rootOfPositive 24 = .ok (.iadd, 1) := by decide +kernel
theorem dX0_rootOfPositive_25 : decode cX0_rootOfPositive 25 = .ok (.lshl, 1) := by decide +kernel
theorem dX0_rootOfPositive_26 : decode cX0_rootOfPositive 26 = .ok (.lstore 5, 2) := by decide +kernel
theorem dX0_rootOfPositive_28 : decode cX0_rootOfPositive 28 = .ok (.lconst 0, 1) := by decide +kernel
theorem dX0_rootOfPositive_29 : decode cX0_rootOfPositive 29 = .ok (.lstore 7, 2) := by decide +kernel
theorem dX0_rootOfPositive_31 : decode cX0_rootOfPositive 31 = .ok (.lconst 0, 1) := by decide +kernel
theorem dX0_rootOfPositive_32 : decode cX0_rootOfPositive 32 = .ok (.lstore 9, 2) := by decide +kernel
theorem dX0_rootOfPositive_34 : decode cX0_rootOfPositive 34 = .ok (.iconst 0, 1) := by decide +kernel
theorem dX0_rootOfPositive_35 : decode cX0_rootOfPositive 35 = .ok (.istore 11, 2) := by decide +kernel
theorem dX0_rootOfPositive_37 : decode cX0_rootOfPositive 37 = .ok (.iload 11, 2) := by decide +kernel
theorem dX0_rootOfPositive_39 : decode cX0_rootOfPositive 39 = .ok (.bipush 54, 2) := by decide +kernel
theorem dX0_rootOfPositive_41 : decode cX0_rootOfPositive 41 = .ok (.if_icmp .ge 62, 3) := by decide +kernel
theorem dX0_rootOfPositive_44 : decode cX0_rootOfPositive 44 = .ok (.lload 9, 2) := by decide +kernel
theorem dX0_rootOfPositive_46 : decode cX0_rootOfPositive 46 = .ok (.iconst 2, 1) := by decide +kernel
theorem dX0_rootOfPositive_47 : decode cX0_rootOfPositive 47 = .ok (.lshl, 1) := by decide +kernel
theorem dX0_rootOfPositive_48 : decode cX0_rootOfPositive 48 = .ok (.lload 5, 2) := by decide +kernel
theorem dX0_rootOfPositive_50 : decode cX0_rootOfPositive 50 = .ok (.bipush 62, 2) := by decide +kernel
theorem dX0_rootOfPositive_52 : decode cX0_rootOfPositive 52 = .ok (.lushr, 1) := by decide +kernel
theorem dX0_rootOfPositive_53 : decode cX0_rootOfPositive 53 = .ok (.ladd, 1) := by decide +kernel
theorem dX0_rootOfPositive_54 : decode cX0_rootOfPositive 54 = .ok (.lstore 9, 2) := by decide +kernel
theorem dX0_rootOfPositive_56 : decode cX0_rootOfPositive 56 = .ok (.lload 5, 2) := by decide +kernel
theorem dX0_rootOfPositive_58 : decode cX0_rootOfPositive 58 = .ok (.iconst 2, 1) := by decide +kernel
theorem dX0_rootOfPositive_59 : decode cX0_rootOfPositive 59 = .ok (.lshl, 1) := by decide +kernel
theorem dX0_rootOfPositive_60 : decode cX0_rootOfPositive 60 = .ok (.lstore 5, 2) := by decide +kernel
theorem dX0_rootOfPositive_62 : decode cX0_rootOfPositive 62 = .ok (.lload 7, 2) := by decide +kernel
theorem dX0_rootOfPositive_64 : decode cX0_rootOfPositive 64 = .ok (.iconst 2, 1) := by decide +kernel
theorem dX0_rootOfPositive_65 : decode cX0_rootOfPositive 65 = .ok (.lshl, 1) := by decide +kernel
theorem dX0_rootOfPositive_66 : decode cX0_rootOfPositive 66 = .ok (.lconst 1, 1) := by decide +kernel
theorem dX0_rootOfPositive_67 : decode cX0_rootOfPositive 67 = .ok (.ladd, 1) := by decide +kernel
theorem dX0_rootOfPositive_68 : decode cX0_rootOfPositive 68 = .ok (.lstore 12, 2) := by decide +kernel
theorem dX0_rootOfPositive_70 : decode cX0_rootOfPositive 70 = .ok (.lload 7, 2) := by decide +kernel
theorem dX0_rootOfPositive_72 : decode cX0_rootOfPositive 72 = .ok (.iconst 1, 1) := by decide +kernel
theorem dX0_rootOfPositive_73 : decode cX0_rootOfPositive 73 = .ok (.lshl, 1) := by decide +kernel
theorem dX0_rootOfPositive_74 : decode cX0_rootOfPositive 74 = .ok (.lstore 7, 2) := by decide +kernel
theorem dX0_rootOfPositive_76 : decode cX0_rootOfPositive 76 = .ok (.lload 9, 2) := by decide +kernel
theorem dX0_rootOfPositive_78 : decode cX0_rootOfPositive 78 = .ok (.lload 12, 2) := by decide +kernel
theorem dX0_rootOfPositive_80 : decode cX0_rootOfPositive 80 = .ok (.lcmp, 1) := by decide +kernel
theorem dX0_rootOfPositive_81 : decode cX0_rootOfPositive 81 = .ok (.ifCond .lt 16, 3) := by decide +kernel
theorem dX0_rootOfPositive_84 : decode cX0_rootOfPositive 84 = .ok (.lload 9, 2) := by decide +kernel
theorem dX0_rootOfPositive_86 : decode cX0_rootOfPositive 86 = .ok (.lload 12, 2) := by decide +kernel
theorem dX0_rootOfPositive_88 : decode cX0_rootOfPositive 88 = .ok (.lsub, 1) := by decide +kernel
theorem dX0_rootOfPositive_89 : decode cX0_rootOfPositive 89 = .ok (.lstore 9, 2) := by decide +kernel
theorem dX0_rootOfPositive_91 : decode cX0_rootOfPositive 91 = .ok (.lload 7, 2) := by decide +kernel
theorem dX0_rootOfPositive_93 : decode cX0_rootOfPositive 93 = .ok (.lconst 1, 1) := by decide +kernel
theorem dX0_rootOfPositive_94 : decode cX0_rootOfPositive 94 = .ok (.ladd, 1) := by decide +kernel
theorem dX0_rootOfPositive_95 : decode cX0_rootOfPositive 95 = .ok (.lstore 7, 2) := by decide +kernel
theorem dX0_rootOfPositive_97 : decode cX0_rootOfPositive 97 = .ok (.iinc 11 1, 3) := by decide +kernel
theorem dX0_rootOfPositive_100 : decode cX0_rootOfPositive 100 = .ok (.goto (-63), 3) := by decide +kernel
theorem dX0_rootOfPositive_103 : decode cX0_rootOfPositive 103 = .ok (.lload 7, 2) := by decide +kernel
theorem dX0_rootOfPositive_105 : decode cX0_rootOfPositive 105 = .ok (.lconst 1, 1) := by decide +kernel
theorem dX0_rootOfPositive_106 : decode cX0_rootOfPositive 106 = .ok (.land, 1) := by decide +kernel
theorem dX0_rootOfPositive_107 : decode cX0_rootOfPositive 107 = .ok (.lstore 11, 2) := by decide +kernel
theorem dX0_rootOfPositive_109 : decode cX0_rootOfPositive 109 = .ok (.lload 11, 2) := by decide +kernel
theorem dX0_rootOfPositive_111 : decode cX0_rootOfPositive 111 = .ok (.lconst 0, 1) := by decide +kernel
theorem dX0_rootOfPositive_112 : decode cX0_rootOfPositive 112 = .ok (.lcmp, 1) := by decide +kernel
theorem dX0_rootOfPositive_113 : decode cX0_rootOfPositive 113 = .ok (.ifCond .ne 10, 3) := by decide +kernel
theorem dX0_rootOfPositive_116 : decode cX0_rootOfPositive 116 = .ok (.lload 9, 2) := by decide +kernel
theorem dX0_rootOfPositive_118 : decode cX0_rootOfPositive 118 = .ok (.lconst 0, 1) := by decide +kernel
theorem dX0_rootOfPositive_119 : decode cX0_rootOfPositive 119 = .ok (.lcmp, 1) := by decide +kernel
theorem dX0_rootOfPositive_120 : decode cX0_rootOfPositive 120 = .ok (.ifCond .eq 8, 3) := by decide +kernel
theorem dX0_rootOfPositive_123 : decode cX0_rootOfPositive 123 = .ok (.aload_n 0, 1) := by decide +kernel
theorem dX0_rootOfPositive_124 : decode cX0_rootOfPositive 124 = .ok (.iconst 2, 1) := by decide +kernel
theorem dX0_rootOfPositive_125 : decode cX0_rootOfPositive 125 = .ok (.invokevirtual 103, 3) := by decide +kernel
theorem dX0_rootOfPositive_128 : decode cX0_rootOfPositive 128 = .ok (.lload 7, 2) := by decide +kernel
theorem dX0_rootOfPositive_130 : decode cX0_rootOfPositive 130 = .ok (.iconst 1, 1) := by decide +kernel
theorem dX0_rootOfPositive_131 : decode cX0_rootOfPositive 131 = .ok (.lshr, 1) := by decide +kernel
theorem dX0_rootOfPositive_132 : decode cX0_rootOfPositive 132 = .ok (.lload 11, 2) := by decide +kernel
theorem dX0_rootOfPositive_134 : decode cX0_rootOfPositive 134 = .ok (.ladd, 1) := by decide +kernel
theorem dX0_rootOfPositive_135 : decode cX0_rootOfPositive 135 = .ok (.iload 4, 2) := by decide +kernel
theorem dX0_rootOfPositive_137 : decode cX0_rootOfPositive 137 = .ok (.bipush 26, 2) := by decide +kernel
theorem dX0_rootOfPositive_139 : decode cX0_rootOfPositive 139 = .ok (.isub, 1) := by decide +kernel
theorem dX0_rootOfPositive_140 : decode cX0_rootOfPositive 140 = .ok (.invokestatic 113, 3) := by decide +kernel
theorem dX0_rootOfPositive_143 : decode cX0_rootOfPositive 143 = .ok (.lreturn, 1) := by decide +kernel
set_option maxRecDepth 20000 in
theorem ggX0_madeWhole_X0_isNan : GoodIn wsX0_madeWhole wsX0_isNan := goodIn_r _ [9, 10, 11] (by decide +kernel) (by decide +kernel)
set_option maxRecDepth 20000 in
theorem gX0_madeWhole_X0_isNan : GoodIn wsX0_madeWhole (va_wsS RX0 51 yX0_isNan wsX0_isNan) := goodIn_app (goodIn_of _ (by decide +kernel)) ggX0_madeWhole_X0_isNan
set_option maxRecDepth 20000 in
theorem ggX0_madeWhole_X0_isZero : GoodIn wsX0_madeWhole wsX0_isZero := goodIn_r _ [14, 10] (by decide +kernel) (by decide +kernel)
set_option maxRecDepth 20000 in
theorem gX0_madeWhole_X0_isZero : GoodIn wsX0_madeWhole (va_wsS RX0 43 yX0_isZero wsX0_isZero) := goodIn_app (goodIn_of _ (by decide +kernel)) ggX0_madeWhole_X0_isZero
set_option maxRecDepth 20000 in
theorem ggX0_madeWhole_X0_isInfinity : GoodIn wsX0_madeWhole wsX0_isInfinity := goodIn_r _ [17, 10, 11] (by decide +kernel) (by decide +kernel)
set_option maxRecDepth 20000 in
theorem gX0_madeWhole_X0_isInfinity : GoodIn wsX0_madeWhole (va_wsS RX0 48 yX0_isInfinity wsX0_isInfinity) := goodIn_app (goodIn_of _ (by decide +kernel)) ggX0_madeWhole_X0_isInfinity
set_option maxRecDepth 20000 in
theorem ggX0_madeWhole_X0_power : GoodIn wsX0_madeWhole wsX0_power := goodIn_r _ [20, 21, 22, 4, 23, 24, 25, 8, 26, 10] (by decide +kernel) (by decide +kernel)
set_option maxRecDepth 20000 in
theorem gX0_madeWhole_X0_power : GoodIn wsX0_madeWhole (va_wsS RX0 95 yX0_power wsX0_power) := goodIn_app (goodIn_of _ (by decide +kernel)) ggX0_madeWhole_X0_power
set_option maxRecDepth 20000 in
theorem ggX0_madeWhole_X0_signOf : GoodIn wsX0_madeWhole wsX0_signOf := goodIn_r _ [29, 30] (by decide +kernel) (by decide +kernel)
set_option maxRecDepth 20000 in
theorem gX0_madeWhole_X0_signOf : GoodIn wsX0_madeWhole (va_wsS RX0 116 yX0_signOf wsX0_signOf) := goodIn_app (goodIn_of _ (by decide +kernel)) ggX0_madeWhole_X0_signOf
set_option maxRecDepth 20000 in
theorem ggX0_madeWhole_X0_significand : GoodIn wsX0_madeWhole wsX0_significand := goodIn_r _ [33, 34, 35, 24, 25, 8, 26, 10] (by decide +kernel) (by decide +kernel)
set_option maxRecDepth 20000 in
theorem gX0_madeWhole_X0_significand : GoodIn wsX0_madeWhole (va_wsS RX0 84 yX0_significand wsX0_significand) := goodIn_app (goodIn_of _ (by decide +kernel)) ggX0_madeWhole_X0_significand
set_option maxRecDepth 20000 in
theorem ggX0_madeWhole_X0_wholeAmount : GoodIn wsX0_madeWhole wsX0_wholeAmount := goodIn_r _ [38, 39, 40, 8, 41] (by decide +kernel) (by decide +kernel)
set_option maxRecDepth 20000 in
theorem gX0_madeWhole_X0_wholeAmount : GoodIn wsX0_madeWhole (va_wsS RX0 119 yX0_wholeAmount wsX0_wholeAmount) := goodIn_app (goodIn_of _ (by decide +kernel)) ggX0_madeWhole_X0_wholeAmount
set_option maxRecDepth 20000 in
theorem ggX0_madeWhole_X0_pattern : GoodIn wsX0_madeWhole wsX0_pattern := goodIn_r _ [44, 2, 3, 4, 5, 45, 46, 47, 48, 49, 50, 51, 52, 53] (by decide +kernel) (by decide +kernel)
set_option maxRecDepth 20000 in
theorem gX0_madeWhole_X0_pattern : GoodIn wsX0_madeWhole (va_wsS RX0 113 yX0_pattern wsX0_pattern) := goodIn_app (goodIn_of _ (by decide +kernel)) ggX0_madeWhole_X0_pattern
set_option maxRecDepth 20000 in
theorem ggX0_madeWhole_X0_raise : GoodIn wsX0_madeWhole wsX0_raise := goodIn_r _ [57, 58, 59, 60, 61] (by decide +kernel) (by decide +kernel)
set_option maxRecDepth 20000 in
theorem gX0_madeWhole_X0_raise : GoodIn wsX0_madeWhole (wsV RX0 103 RX0 yX0_raise wsX0_raise) := goodIn_app (goodIn_of _ (by decide +kernel)) ggX0_madeWhole_X0_raise
theorem dX0_madeWhole_0 : decode cX0_madeWhole 0 = .ok (.lload_n 1, 1) := by decide +kernel
theorem dX0_madeWhole_1 : decode cX0_madeWhole 1 = .ok (.invokestatic 51, 3) := by decide +kernel
theorem dX0_madeWhole_4 : decode cX0_madeWhole 4 = .ok (.ifCond .eq 7, 3) := by decide +kernel
theorem dX0_madeWhole_7 : decode cX0_madeWhole 7 = .ok (.ldc2_w 101, 3) := by decide +kernel
theorem dX0_madeWhole_10 : decode cX0_madeWhole 10 = .ok (.lreturn, 1) := by decide +kernel
theorem dX0_madeWhole_11 : decode cX0_madeWhole 11 = .ok (.lload_n 1, 1) := by decide +kernel
theorem dX0_madeWhole_12 : decode cX0_madeWhole 12 = .ok (.invokestatic 43, 3) := by decide +kernel
theorem dX0_madeWhole_15 : decode cX0_madeWhole 15 = .ok (.ifCond .ne 17, 3) := by decide +kernel
theorem dX0_madeWhole_18 : decode cX0_madeWhole 18 = .ok (.lload_n 1, 1) := by decide +kernel
theorem dX0_madeWhole_19 : decode cX0_madeWhole 19 = .ok (.invokestatic 48, 3) := by decide +kernel
theorem dX0_madeWhole_22 : decode cX0_madeWhole 22 = .ok (.ifCond .ne 10, 3) := by decide +kernel
theorem dX0_madeWhole_25 : decode cX0_madeWhole 25 = .ok (.lload_n 1, 1) := by decide +kernel
theorem dX0_madeWhole_26 : decode cX0_madeWhole 26 = .ok (.invokestatic 95, 3) := by decide +kernel
theorem dX0_madeWhole_29 : decode cX0_madeWhole 29 = .ok (.ifCond .lt 5, 3) := by decide +kernel
theorem dX0_madeWhole_32 : decode cX0_madeWhole 32 = .ok (.lload_n 1, 1) := by decide +kernel
theorem dX0_madeWhole_33 : decode cX0_madeWhole 33 = .ok (.lreturn, 1) := by decide +kernel
theorem dX0_madeWhole_34 : decode cX0_madeWhole 34 = .ok (.lload_n 1, 1) := by decide +kernel
theorem dX0_madeWhole_35 : decode cX0_madeWhole 35 = .ok (.invokestatic 95, 3) := by decide +kernel
theorem dX0_madeWhole_38 : decode cX0_madeWhole 38 = .ok (.ineg, 1) := by decide +kernel
theorem dX0_madeWhole_39 : decode cX0_madeWhole 39 = .ok (.bipush 60, 2) := by decide +kernel
theorem dX0_madeWhole_41 : decode cX0_madeWhole 41 = .ok (.invokestatic 98, 3) := by decide +kernel
theorem dX0_madeWhole_44 : decode cX0_madeWhole 44 = .ok (.istore 4, 2) := by decide +kernel
theorem dX0_madeWhole_46 : decode cX0_madeWhole 46 = .ok (.lload_n 1, 1) := by decide +kernel
theorem dX0_madeWhole_47 : decode cX0_madeWhole 47 = .ok (.invokestatic 116, 3) := by decide +kernel
theorem dX0_madeWhole_50 : decode cX0_madeWhole 50 = .ok (.lload_n 1, 1) := by decide +kernel
theorem dX0_madeWhole_51 : decode cX0_madeWhole 51 = .ok (.invokestatic 84, 3) := by decide +kernel
theorem dX0_madeWhole_54 : decode cX0_madeWhole 54 = .ok (.iload 4, 2) := by decide +kernel
theorem dX0_madeWhole_56 : decode cX0_madeWhole 56 = .ok (.lload_n 1, 1) := by decide +kernel
theorem dX0_madeWhole_57 : decode cX0_madeWhole 57 = .ok (.lconst 0, 1) := by decide +kernel
theorem dX0_madeWhole_58 : decode cX0_madeWhole 58 = .ok (.lcmp, 1) := by decide +kernel
theorem dX0_madeWhole_59 : decode cX0_madeWhole 59 = .ok (.ifCond .ge 7, 3) := by decide +kernel
theorem dX0_madeWhole_62 : decode cX0_madeWhole 62 = .ok (.iconst 1, 1) := by decide +kernel
theorem dX0_madeWhole_63 : decode cX0_madeWhole 63 = .ok (.goto 4, 3) := by decide +kernel
theorem dX0_madeWhole_66 : decode cX0_madeWhole 66 = .ok (.iconst 0, 1) := by decide +kernel
theorem dX0_madeWhole_67 : decode cX0_madeWhole 67 = .ok (.iload_n 3, 1) := by decide +kernel
theorem dX0_madeWhole_68 : decode cX0_madeWhole 68 = .ok (.invokestatic 119, 3) := by decide +kernel
theorem dX0_madeWhole_71 : decode cX0_madeWhole 71 = .ok (.iconst 0, 1) := by decide +kernel
theorem dX0_madeWhole_72 : decode cX0_madeWhole 72 = .ok (.invokestatic 113, 3) := by decide +kernel
theorem dX0_madeWhole_75 : decode cX0_madeWhole 75 = .ok (.lor, 1) := by decide +kernel
theorem dX0_madeWhole_76 : decode cX0_madeWhole 76 = .ok (.lstore 5, 2) := by decide +kernel
theorem dX0_madeWhole_78 : decode cX0_madeWhole 78 = .ok (.iload_n 3, 1) := by decide +kernel
theorem dX0_madeWhole_79 : decode cX0_madeWhole 79 = .ok (.ifCond .ne 15, 3) := by decide +kernel
theorem dX0_madeWhole_82 : decode cX0_madeWhole 82 = .ok (.lload 5, 2) := by decide +kernel
theorem dX0_madeWhole_84 : decode cX0_madeWhole 84 = .ok (.lload_n 1, 1) := by decide +kernel
theorem dX0_madeWhole_85 : decode cX0_madeWhole 85 = .ok (.lcmp, 1) := by decide +kernel
theorem dX0_madeWhole_86 : decode cX0_madeWhole 86 = .ok (.ifCond .eq 8, 3) := by decide +kernel
theorem dX0_madeWhole_89 : decode cX0_madeWhole 89 = .ok (.aload_n 0, 1) := by decide +kernel
theorem dX0_madeWhole_90 : decode cX0_madeWhole 90 = .ok (.iconst 2, 1) := by decide +kernel
theorem dX0_madeWhole_91 : decode cX0_madeWhole 91 = .ok (.invokevirtual 103, 3) := by decide +kernel
theorem dX0_madeWhole_94 : decode cX0_madeWhole 94 = .ok (.lload 5, 2) := by decide +kernel
theorem dX0_madeWhole_96 : decode cX0_madeWhole 96 = .ok (.lreturn, 1) := by decide +kernel
set_option maxRecDepth 20000 in
theorem ggX0_wholeAmount_X0_nearestShifted : GoodIn wsX0_wholeAmount wsX0_nearestShifted := goodIn_r _ [4] (by decide +kernel) (by decide +kernel)
set_option maxRecDepth 20000 in
theorem gX0_wholeAmount_X0_nearestShifted : GoodIn wsX0_wholeAmount (va_wsS RX0 123 yX0_nearestShifted wsX0_nearestShifted) := goodIn_app (goodIn_of _ (by decide +kernel)) ggX0_wholeAmount_X0_nearestShifted
theorem dX0_wholeAmount_0 : decode cX0_wholeAmount 0 = .ok (.iload 4, 2) := by decide +kernel
theorem dX0_wholeAmount_2 : decode cX0_wholeAmount 2 = .ok (.ifCond .ne 9, 3) := by decide +kernel
theorem dX0_wholeAmount_5 : decode cX0_wholeAmount 5 = .ok (.lload_n 0, 1) := by decide +kernel
theorem dX0_wholeAmount_6 : decode cX0_wholeAmount 6 = .ok (.iload_n 2, 1) := by decide +kernel
theorem dX0_wholeAmount_7 : decode cX0_wholeAmount 7 = .ok (.invokestatic 123, 3) := by decide +kernel
theorem dX0_wholeAmount_10 : decode cX0_wholeAmount 10 = .ok (.lreturn, 1) := by decide +kernel
theorem dX0_wholeAmount_11 : decode cX0_wholeAmount 11 = .ok (.lload_n 0, 1) := by decide +kernel
theorem dX0_wholeAmount_12 : decode cX0_wholeAmount 12 = .ok (.iload_n 2, 1) := by decide +kernel
theorem dX0_wholeAmount_13 : decode cX0_wholeAmount 13 = .ok (.lshr, 1) := by decide +kernel
theorem dX0_wholeAmount_14 : decode cX0_wholeAmount 14 = .ok (.lstore 5, 2) := by decide +kernel
theorem dX0_wholeAmount_16 : decode cX0_wholeAmount 16 = .ok (.iload 4, 2) := by decide +kernel
theorem dX0_wholeAmount_18 : decode cX0_wholeAmount 18 = .ok (.iconst 1, 1) := by decide +kernel
theorem dX0_wholeAmount_19 : decode cX0_wholeAmount 19 = .ok (.if_icmp .ne 7, 3) := by decide +kernel
theorem dX0_wholeAmount_22 : decode cX0_wholeAmount 22 = .ok (.iload_n 3, 1) := by decide +kernel
theorem dX0_wholeAmount_23 : decode cX0_wholeAmount 23 = .ok (.ifCond .ne 13, 3) := by decide +kernel
theorem dX0_wholeAmount_26 : decode cX0_wholeAmount 26 = .ok (.iload 4, 2) := by decide +kernel
theorem dX0_wholeAmount_28 : decode cX0_wholeAmount 28 = .ok (.iconst 2, 1) := by decide +kernel
theorem dX0_wholeAmount_29 : decode cX0_wholeAmount 29 = .ok (.if_icmp .ne 11, 3) := by decide +kernel
theorem dX0_wholeAmount_32 : decode cX0_wholeAmount 32 = .ok (.iload_n 3, 1) := by decide +kernel
theorem dX0_wholeAmount_33 : decode cX0_wholeAmount 33 = .ok (.ifCond .ne 7, 3) := by decide +kernel
theorem dX0_wholeAmount_36 : decode cX0_wholeAmount 36 = .ok (.iconst 1, 1) := by decide +kernel
theorem dX0_wholeAmount_37 : decode cX0_wholeAmount 37 = .ok (.goto 4, 3) := by decide +kernel
theorem dX0_wholeAmount_40 : decode cX0_wholeAmount 40 = .ok (.iconst 0, 1) := by decide +kernel
theorem dX0_wholeAmount_41 : decode cX0_wholeAmount 41 = .ok (.istore 7, 2) := by decide +kernel
theorem dX0_wholeAmount_43 : decode cX0_wholeAmount 43 = .ok (.iload 7, 2) := by decide +kernel
theorem dX0_wholeAmount_45 : decode cX0_wholeAmount 45 = .ok (.ifCond .eq 19, 3) := by decide +kernel
theorem dX0_wholeAmount_48 : decode cX0_wholeAmount 48 = .ok (.lload 5, 2) := by decide +kernel
theorem dX0_wholeAmount_50 : decode cX0_wholeAmount 50 = .ok (.iload_n 2, 1) := by decide +kernel
theorem dX0_wholeAmount_51 : decode cX0_wholeAmount 51 = .ok (.lshl, 1) := by decide +kernel
theorem dX0_wholeAmount_52 : decode cX0_wholeAmount 52 = .ok (.lload_n 0, 1) := by decide +kernel
theorem dX0_wholeAmount_53 : decode cX0_wholeAmount 53 = .ok (.lcmp, 1) := by decide +kernel
theorem dX0_wholeAmount_54 : decode cX0_wholeAmount 54 = .ok (.ifCond .eq 10, 3) := by decide +kernel
theorem dX0_wholeAmount_57 : decode cX0_wholeAmount 57 = .ok (.lload 5, 2) := by decide +kernel
theorem dX0_wholeAmount_59 : decode cX0_wholeAmount 59 = .ok (.lconst 1, 1) := by decide +kernel
theorem dX0_wholeAmount_60 : decode cX0_wholeAmount 60 = .ok (.ladd, 1) := by decide +kernel
theorem dX0_wholeAmount_61 : decode cX0_wholeAmount 61 = .ok (.goto 5, 3) := by decide +kernel
theorem dX0_wholeAmount_64 : decode cX0_wholeAmount 64 = .ok (.lload 5, 2) := by decide +kernel
theorem dX0_wholeAmount_66 : decode cX0_wholeAmount 66 = .ok (.lreturn, 1) := by decide +kernel
set_option maxRecDepth 20000 in
theorem ggX0_remainder_X0_isNan : GoodIn wsX0_remainder wsX0_isNan := goodIn_r _ [6, 7, 8] (by decide +kernel) (by decide +kernel)
set_option maxRecDepth 20000 in
theorem gX0_remainder_X0_isNan : GoodIn wsX0_remainder (va_wsS RX0 51 yX0_isNan wsX0_isNan) := goodIn_app (goodIn_of _ (by decide +kernel)) ggX0_remainder_X0_isNan
set_option maxRecDepth 20000 in
theorem ggX0_remainder_X0_isInfinity : GoodIn wsX0_remainder wsX0_isInfinity := goodIn_r _ [11, 7, 8] (by decide +kernel) (by decide +kernel)
set_option maxRecDepth 20000 in
theorem gX0_remainder_X0_isInfinity : GoodIn wsX0_remainder (va_wsS RX0 48 yX0_isInfinity wsX0_isInfinity) := goodIn_app (goodIn_of _ (by decide +kernel)) ggX0_remainder_X0_isInfinity
set_option maxRecDepth 20000 in
theorem ggX0_remainder_X0_isZero : GoodIn wsX0_remainder wsX0_isZero := goodIn_r _ [14, 7] (by decide +kernel) (by decide +kernel)
set_option maxRecDepth 20000 in
theorem gX0_remainder_X0_isZero : GoodIn wsX0_remainder (va_wsS RX0 43 yX0_isZero wsX0_isZero) := goodIn_app (goodIn_of _ (by decide +kernel)) ggX0_remainder_X0_isZero
set_option maxRecDepth 20000 in
theorem ggX0_remainder_X0_raise : GoodIn wsX0_remainder wsX0_raise := goodIn_r _ [18, 19, 59, 60, 61] (by decide +kernel) (by decide +kernel)
set_option maxRecDepth 20000 in
theorem gX0_remainder_X0_raise : GoodIn wsX0_remainder (wsV RX0 103 RX0 yX0_raise wsX0_raise) := goodIn_app (goodIn_of _ (by decide +kernel)) ggX0_remainder_X0_raise
set_option maxRecDepth 20000 in
theorem ggX0_remainder_X0_power : GoodIn wsX0_remainder wsX0_power := goodIn_r _ [22, 23, 24, 25, 26, 27, 28, 5, 29, 7] (by decide +kernel) (by decide +kernel)
set_option maxRecDepth 20000 in
theorem gX0_remainder_X0_power : GoodIn wsX0_remainder (va_wsS RX0 95 yX0_power wsX0_power) := goodIn_app (goodIn_of _ (by decide +kernel)) ggX0_remainder_X0_power
set_option maxRecDepth 20000 in
theorem ggX0_remainder_X0_remainderOfFinite : GoodIn wsX0_remainder wsX0_remainderOfFinite := goodIn_r _ [33, 23, 24, 25, 26, 34, 35, 36, 37, 38, 1, 39, 40, 5, 41, 42, 43, 27, 28, 29, 7, 20, 21, 22, 44, 45, 46, 47, 48, 49, 50, 51, 52, 53, 54, 55, 56, 57, 58, 59, 60, 61] (by decide +kernel) (by decide +kernel)
set_option maxRecDepth 20000 in
theorem gX0_remainder_X0_remainderOfFinite : GoodIn wsX0_remainder (wsV RX0 126 RX0 yX0_remainderOfFinite wsX0_remainderOfFinite) := goodIn_app (goodIn_of _ (by decide +kernel)) ggX0_remainder_X0_remainderOfFinite
theorem dX0_remainder_0 : decode cX0_remainder 0 = .ok (.aload_n 0, 1) := by decide +kernel
theorem dX0_remainder_1 : decode cX0_remainder 1 = .ok (.iconst 0, 1) := by decide +kernel
theorem dX0_remainder_2 : decode cX0_remainder 2 = .ok (.putfield 17, 3) := by decide +kernel
theorem dX0_remainder_5 : decode cX0_remainder 5 = .ok (.lload_n 1, 1) := by decide +kernel
theorem dX0_remainder_6 : decode cX0_remainder 6 = .ok (.invokestatic 51, 3) := by decide +kernel
theorem dX0_remainder_9 : decode cX0_remainder 9 = .ok (.ifCond .ne 10, 3) := by decide +kernel
theorem dX0_remainder_12 : decode cX0_remainder 12 = .ok (.lload_n 3, 1) := by decide +kernel
theorem dX0_remainder_13 : decode cX0_remainder 13 = .ok (.invokestatic 51, 3) := by decide +kernel
theorem dX0_remainder_16 : decode cX0_remainder 16 = .ok (.ifCond .eq 7, 3) := by decide +kernel
theorem dX0_remainder_19 : decode cX0_remainder 19 = .ok (.ldc2_w 101, 3) := by decide +kernel
theorem dX0_remainder_22 : decode cX0_remainder 22 = .ok (.lreturn, 1) := by decide +kernel
theorem dX0_remainder_23 : decode cX0_remainder 23 = .ok (.lload_n 1, 1) := by decide +kernel
theorem dX0_remainder_24 : decode cX0_remainder 24 = .ok (.invokestatic 48, 3) := by decide +kernel
theorem dX0_remainder_27 : decode cX0_remainder 27 = .ok (.ifCond .ne 10, 3) := by decide +kernel
theorem dX0_remainder_30 : decode cX0_remainder 30 = .ok (.lload_n 3, 1) := by decide +kernel
theorem dX0_remainder_31 : decode cX0_remainder 31 = .ok (.invokestatic 43, 3) := by decide +kernel
theorem dX0_remainder_34 : decode cX0_remainder 34 = .ok (.ifCond .eq 12, 3) := by decide +kernel
theorem dX0_remainder_37 : decode cX0_remainder 37 = .ok (.aload_n 0, 1) := by decide +kernel
theorem dX0_remainder_38 : decode cX0_remainder 38 = .ok (.iconst 1, 1) := by decide +kernel
theorem dX0_remainder_39 : decode cX0_remainder 39 = .ok (.invokevirtual 103, 3) := by decide +kernel
theorem dX0_remainder_42 : decode cX0_remainder 42 = .ok (.ldc2_w 101, 3) := by decide +kernel
theorem dX0_remainder_45 : decode cX0_remainder 45 = .ok (.lreturn, 1) := by decide +kernel
theorem dX0_remainder_46 : decode cX0_remainder 46 = .ok (.lload_n 3, 1) := by decide +kernel
theorem dX0_remainder_47 : decode cX0_remainder 47 = .ok (.invokestatic 48, 3) := by decide +kernel
theorem dX0_remainder_50 : decode cX0_remainder 50 = .ok (.ifCond .ne 10, 3) := by decide +kernel
theorem dX0_remainder_53 : decode cX0_remainder 53 = .ok (.lload_n 1, 1) := by decide +kernel
theorem dX0_remainder_54 : decode cX0_remainder 54 = .ok (.invokestatic 43, 3) := by decide +kernel
theorem dX0_remainder_57 : decode cX0_remainder 57 = .ok (.ifCond .eq 5, 3) := by decide +kernel
theorem dX0_remainder_60 : decode cX0_remainder 60 = .ok (.lload_n 1, 1) := by decide +kernel
theorem dX0_remainder_61 : decode cX0_remainder 61 = .ok (.lreturn, 1) := by decide +kernel
theorem dX0_remainder_62 : decode cX0_remainder 62 = .ok (.lload_n 1, 1) := by decide +kernel
theorem dX0_remainder_63 : decode cX0_remainder 63 = .ok (.invokestatic 95, 3) := by decide +kernel
theorem dX0_remainder_66 : decode cX0_remainder 66 = .ok (.lload_n 3, 1) := by decide +kernel
theorem dX0_remainder_67 : decode cX0_remainder 67 = .ok (.invokestatic 95, 3) := by decide +kernel
theorem dX0_remainder_70 : decode cX0_remainder 70 = .ok (.isub, 1) := by decide +kernel
theorem dX0_remainder_71 : decode cX0_remainder 71 = .ok (.istore 6, 2) := by decide +kernel
theorem dX0_remainder_73 : decode cX0_remainder 73 = .ok (.iload 6, 2) := by decide +kernel
theorem dX0_remainder_75 : decode cX0_remainder 75 = .ok (.iconst (-1), 1) := by decide +kernel
theorem dX0_remainder_76 : decode cX0_remainder 76 = .ok (.if_icmp .ge 5, 3) := by decide +kernel
theorem dX0_remainder_79 : decode cX0_remainder 79 = .ok (.lload_n 1, 1) := by decide +kernel
theorem dX0_remainder_80 : decode cX0_remainder 80 = .ok (.lreturn, 1) := by decide +kernel
theorem dX0_remainder_81 : decode cX0_remainder 81 = .ok (.aload_n 0, 1) := by decide +kernel
theorem dX0_remainder_82 : decode cX0_remainder 82 = .ok (.lload_n 1, 1) := by decide +kernel
theorem dX0_remainder_83 : decode cX0_remainder 83 = .ok (.lload_n 3, 1) := by decide +kernel
theorem dX0_remainder_84 : decode cX0_remainder 84 = .ok (.iload 6, 2) := by decide +kernel
theorem dX0_remainder_86 : decode cX0_remainder 86 = .ok (.iload 5, 2) := by decide +kernel
theorem dX0_remainder_88 : decode cX0_remainder 88 = .ok (.invokevirtual 126, 3) := by decide +kernel
theorem dX0_remainder_91 : decode cX0_remainder 91 = .ok (.lreturn, 1) := by decide +kernel
set_option maxRecDepth 20000 in
theorem ggX0_remainderOfFinite_X0_significand : GoodIn wsX0_remainderOfFinite wsX0_significand := goodIn_r _ [14, 15, 16, 17, 18, 13, 19, 20] (by decide +kernel) (by decide +kernel)
set_option maxRecDepth 20000 in
theorem gX0_remainderOfFinite_X0_significand : GoodIn wsX0_remainderOfFinite (va_wsS RX0 84 yX0_significand wsX0_significand) := goodIn_app (goodIn_of _ (by decide +kernel)) ggX0_remainderOfFinite_X0_significand
set_option maxRecDepth 20000 in
theorem ggX0_remainderOfFinite_X0_power : GoodIn wsX0_remainderOfFinite wsX0_power := goodIn_r _ [23, 1, 2, 3, 4, 17, 18, 13, 19, 20] (by decide +kernel) (by decide +kernel)
set_option maxRecDepth 20000 in
theorem gX0_remainderOfFinite_X0_power : GoodIn wsX0_remainderOfFinite (va_wsS RX0 95 yX0_power wsX0_power) := goodIn_app (goodIn_of _ (by decide +kernel)) ggX0_remainderOfFinite_X0_power
set_option maxRecDepth 20000 in
theorem ggX0_remainderOfFinite_X0_signOf : GoodIn wsX0_remainderOfFinite wsX0_signOf := goodIn_r _ [26, 8] (by decide +kernel) (by decide +kernel)
set_option maxRecDepth 20000 in
theorem gX0_remainderOfFinite_X0_signOf : GoodIn wsX0_remainderOfFinite (va_wsS RX0 116 yX0_signOf wsX0_signOf) := goodIn_app (goodIn_of _ (by decide +kernel)) ggX0_remainderOfFinite_X0_signOf
set_option maxRecDepth 20000 in
theorem ggX0_remainderOfFinite_X0_pattern : GoodIn wsX0_remainderOfFinite wsX0_pattern := goodIn_r _ [29, 5, 6, 3, 7, 30, 31, 32, 33, 34, 35, 36, 37, 38] (by decide +kernel) (by decide +kernel)
set_option maxRecDepth 20000 in
theorem gX0_remainderOfFinite_X0_pattern : GoodIn wsX0_remainderOfFinite (va_wsS RX0 113 yX0_pattern wsX0_pattern) := goodIn_app (goodIn_of _ (by decide +kernel)) ggX0_remainderOfFinite_X0_pattern
theorem dX0_remainderOfFinite_0 : decode cX0_remainderOfFinite 0 = .ok (.lload_n 3, 1) := by decide +kernel
theorem dX0_remainderOfFinite_1 : decode cX0_remainderOfFinite 1 = .ok (.invokestatic 84, 3) := by decide +kernel
theorem dX0_remainderOfFinite_4 : decode cX0_remainderOfFinite 4 = .ok (.iload 5, 2) := by decide +kernel
theorem dX0_remainderOfFinite_6 : decode cX0_remainderOfFinite 6 = .ok (.ineg, 1) := by decide +kernel
theorem dX0_remainderOfFinite_7 : decode cX0_remainderOfFinite 7 = .ok (.iconst 0, 1) := by decide +kernel
theorem dX0_remainderOfFinite_8 : decode cX0_remainderOfFinite 8 = .ok (.invokestatic 78, 3) := by decide +kernel
theorem dX0_remainderOfFinite_11 : decode cX0_remainderOfFinite 11 = .ok (.lshl, 1) := by decide +kernel
theorem dX0_remainderOfFinite_12 : decode cX0_remainderOfFinite 12 = .ok (.lstore 7, 2) := by decide +kernel
theorem dX0_remainderOfFinite_14 : decode cX0_remainderOfFinite 14 = .ok (.lload_n 1, 1) := by decide +kernel
theorem dX0_remainderOfFinite_15 : decode cX0_remainderOfFinite 15 = .ok (.invokestatic 95, 3) := by decide +kernel
theorem dX0_remainderOfFinite_18 : decode cX0_remainderOfFinite 18 = .ok (.lload_n 3, 1) := by decide +kernel
theorem dX0_remainderOfFinite_19 : decode cX0_remainderOfFinite 19 = .ok (.invokestatic 95, 3) := by decide +kernel
theorem dX0_remainderOfFinite_22 : decode cX0_remainderOfFinite 22 = .ok (.invokestatic 98, 3) := by decide +kernel
theorem dX0_remainderOfFinite_25 : decode cX0_remainderOfFinite 25 = .ok (.istore 9, 2) := by decide +kernel
theorem dX0_remainderOfFinite_27 : decode cX0_remainderOfFinite 27 = .ok (.lload_n 1, 1) := by decide +kernel
theorem dX0_remainderOfFinite_28 : decode cX0_remainderOfFinite 28 = .ok (.invokestatic 84, 3) := by decide +kernel
theorem dX0_remainderOfFinite_31 : decode cX0_remainderOfFinite 31 = .ok (.lload 7, 2) := by decide +kernel
theorem dX0_remainderOfFinite_33 : decode cX0_remainderOfFinite 33 = .ok (.ldiv, 1) := by decide +kernel
theorem dX0_remainderOfFinite_34 : decode cX0_remainderOfFinite 34 = .ok (.lstore 10, 2) := by decide +kernel
theorem dX0_remainderOfFinite_36 : decode cX0_remainderOfFinite 36 = .ok (.lload_n 1, 1) := by decide +kernel
theorem dX0_remainderOfFinite_37 : decode cX0_remainderOfFinite 37 = .ok (.invokestatic 84, 3) := by decide +kernel
theorem dX0_remainderOfFinite_40 : decode cX0_remainderOfFinite 40 = .ok (.lload 7, 2) := by decide +kernel
theorem dX0_remainderOfFinite_42 : decode cX0_remainderOfFinite 42 = .ok (.lrem, 1) := by decide +kernel
theorem dX0_remainderOfFinite_43 : decode cX0_remainderOfFinite 43 = .ok (.lstore 12, 2) := by decide +kernel
theorem dX0_remainderOfFinite_45 : decode cX0_remainderOfFinite 45 = .ok (.iload 5, 2) := by decide +kernel
theorem dX0_remainderOfFinite_47 : decode cX0_remainderOfFinite 47 = .ok (.istore 14, 2) := by decide +kernel
theorem dX0_remainderOfFinite_49 : decode cX0_remainderOfFinite 49 = .ok (.iload 14, 2) := by decide +kernel
theorem dX0_remainderOfFinite_51 : decode cX0_remainderOfFinite 51 = .ok (.ifCond .le 45, 3) := by decide +kernel
theorem dX0_remainderOfFinite_54 : decode cX0_remainderOfFinite 54 = .ok (.iload 14, 2) := by decide +kernel
theorem dX0_remainderOfFinite_56 : decode cX0_remainderOfFinite 56 = .ok (.bipush 10, 2) := by decide +kernel
theorem dX0_remainderOfFinite_58 : decode cX0_remainderOfFinite 58 = .ok (.invokestatic 98, 3) := by decide +kernel
theorem dX0_remainderOfFinite_61 : decode cX0_remainderOfFinite 61 = .ok (.istore 15, 2) := by decide +kernel
theorem dX0_remainderOfFinite_63 : decode cX0_remainderOfFinite 63 = .ok (.lload 12, 2) := by decide +kernel
theorem dX0_remainderOfFinite_65 : decode cX0_remainderOfFinite 65 = .ok (.iload 15, 2) := by decide +kernel
theorem dX0_remainderOfFinite_67 : decode cX0_remainderOfFinite 67 = .ok (.lshl, 1) := by decide +kernel
theorem dX0_remainderOfFinite_68 : decode cX0_remainderOfFinite 68 = .ok (.lstore 16, 2) := by decide +kernel
theorem dX0_remainderOfFinite_70 : decode cX0_remainderOfFinite 70 = .ok (.lload 10, 2) := by decide +kernel
theorem dX0_remainderOfFinite_72 : decode cX0_remainderOfFinite 72 = .ok (.iload 15, 2) := by decide +kernel
theorem dX0_remainderOfFinite_74 : decode cX0_remainderOfFinite 74 = .ok (.lshl, 1) := by decide +kernel
theorem dX0_remainderOfFinite_75 : decode cX0_remainderOfFinite 75 = .ok (.lload 16, 2) := by decide +kernel
theorem dX0_remainderOfFinite_77 : decode cX0_remainderOfFinite 77 = .ok (.lload 7, 2) := by decide +kernel
theorem dX0_remainderOfFinite_79 : decode cX0_remainderOfFinite 79 = .ok (.ldiv, 1) := by decide +kernel
theorem dX0_remainderOfFinite_80 : decode cX0_remainderOfFinite 80 = .ok (.ladd, 1) := by decide +kernel
theorem dX0_remainderOfFinite_81 : decode cX0_remainderOfFinite 81 = .ok (.lstore 10, 2) := by decide +kernel
theorem dX0_remainderOfFinite_83 : decode cX0_remainderOfFinite 83 = .ok (.lload 16, 2) := by decide +kernel
theorem dX0_remainderOfFinite_85 : decode cX0_remainderOfFinite 85 = .ok (.lload 7, 2) := by decide +kernel
theorem dX0_remainderOfFinite_87 : decode cX0_remainderOfFinite 87 = .ok (.lrem, 1) := by decide +kernel
theorem dX0_remainderOfFinite_88 : decode cX0_remainderOfFinite 88 = .ok (.lstore 12, 2) := by decide +kernel
theorem dX0_remainderOfFinite_90 : decode cX0_remainderOfFinite 90 = .ok (.iinc 14 (-10), 3) := by decide +kernel
theorem dX0_remainderOfFinite_93 : decode cX0_remainderOfFinite 93 = .ok (.goto (-44), 3) := by decide +kernel
theorem dX0_remainderOfFinite_96 : decode cX0_remainderOfFinite 96 = .ok (.lload_n 1, 1) := by decide +kernel
theorem dX0_remainderOfFinite_97 : decode cX0_remainderOfFinite 97 = .ok (.invokestatic 116, 3) := by decide +kernel
theorem dX0_remainderOfFinite_100 : decode cX0_remainderOfFinite 100 = .ok (.lstore 14, 2) := by decide +kernel
theorem dX0_remainderOfFinite_102 : decode cX0_remainderOfFinite 102 = .ok (.lload 12, 2) := by decide +kernel
theorem dX0_remainderOfFinite_104 : decode cX0_remainderOfFinite 104 = .ok (.iconst 1, 1) := by decide +kernel
theorem dX0_remainderOfFinite_105 : decode cX0_remainderOfFinite 105 = .ok (.lshl, 1) := by decide +kernel
theorem dX0_remainderOfFinite_106 : decode cX0_remainderOfFinite 106 = .ok (.lstore 16, 2) := by decide +kernel
theorem dX0_remainderOfFinite_108 : decode cX0_remainderOfFinite 108 = .ok (.iload 6, 2) := by decide +kernel
theorem dX0_remainderOfFinite_110 : decode cX0_remainderOfFinite 110 = .ok (.ifCond .eq 49, 3) := by decide +kernel
theorem dX0_remainderOfFinite_113 : decode cX0_remainderOfFinite 113 = .ok (.lload 16, 2) := by decide +kernel
theorem dX0_remainderOfFinite_115 : decode cX0_remainderOfFinite 115 = .ok (.lload 7, 2) := by decide +kernel
theorem dX0_remainderOfFinite_117 : decode cX0_remainderOfFinite 117 = .ok (.lcmp, 1) := by decide +kernel
theorem dX0_remainderOfFinite_118 : decode cX0_remainderOfFinite 118 = .ok (.ifCond .gt 20, 3) := by decide +kernel
theorem dX0_remainderOfFinite_121 : decode cX0_remainderOfFinite 121 = .ok (.lload 16, 2) := by decide +kernel
theorem dX0_remainderOfFinite_123 : decode cX0_remainderOfFinite 123 = .ok (.lload 7, 2) := by decide +kernel
theorem dX0_remainderOfFinite_125 : decode cX0_remainderOfFinite 125 = .ok (.lcmp, 1) := by decide +kernel
theorem dX0_remainderOfFinite_126 : decode cX0_remainderOfFinite 126 = .ok (.ifCond .ne 33, 3) := by decide +kernel
theorem dX0_remainderOfFinite_129 : decode cX0_remainderOfFinite 129 = .ok (.lload 10, 2) := by decide +kernel
theorem dX0_remainderOfFinite_131 : decode cX0_remainderOfFinite 131 = .ok (.lconst 1, 1) := by decide +kernel
theorem dX0_remainderOfFinite_132 : decode cX0_remainderOfFinite 132 = .ok (.land, 1) := by decide +kernel
theorem dX0_remainderOfFinite_133 : decode cX0_remainderOfFinite 133 = .ok (.lconst 1, 1) := by decide +kernel
theorem dX0_remainderOfFinite_134 : decode cX0_remainderOfFinite 134 = .ok (.lcmp, 1) := by decide +kernel
theorem dX0_remainderOfFinite_135 : decode cX0_remainderOfFinite 135 = .ok (.ifCond .ne 24, 3) := by decide +kernel
theorem dX0_remainderOfFinite_138 : decode cX0_remainderOfFinite 138 = .ok (.lload 10, 2) := by decide +kernel
theorem dX0_remainderOfFinite_140 : decode cX0_remainderOfFinite 140 = .ok (.lconst 1, 1) := by decide +kernel
theorem dX0_remainderOfFinite_141 : decode cX0_remainderOfFinite 141 = .ok (.ladd, 1) := by decide +kernel
theorem dX0_remainderOfFinite_142 : decode cX0_remainderOfFinite 142 = .ok (.lstore 10, 2) := by decide +kernel
theorem dX0_remainderOfFinite_144 : decode cX0_remainderOfFinite 144 = .ok (.lload 7, 2) := by decide +kernel
theorem dX0_remainderOfFinite_146 : decode cX0_remainderOfFinite 146 = .ok (.lload 12, 2) := by decide +kernel
theorem dX0_remainderOfFinite_148 : decode cX0_remainderOfFinite 148 = .ok (.lsub, 1) := by decide +kernel
theorem dX0_remainderOfFinite_149 : decode cX0_remainderOfFinite 149 = .ok (.lstore 12, 2) := by decide +kernel
theorem dX0_remainderOfFinite_151 : decode cX0_remainderOfFinite 151 = .ok (.lload 14, 2) := by decide +kernel
theorem dX0_remainderOfFinite_153 : decode cX0_remainderOfFinite 153 = .ok (.ldc2_w 69, 3) := by decide +kernel
theorem dX0_remainderOfFinite_156 : decode cX0_remainderOfFinite 156 = .ok (.lxor, 1) := by decide +kernel
theorem dX0_remainderOfFinite_157 : decode cX0_remainderOfFinite 157 = .ok (.lstore 14, 2) := by decide +kernel
theorem dX0_remainderOfFinite_159 : decode cX0_remainderOfFinite 159 = .ok (.aload_n 0, 1) := by decide +kernel
theorem dX0_remainderOfFinite_160 : decode cX0_remainderOfFinite 160 = .ok (.lload 10, 2) := by decide +kernel
theorem dX0_remainderOfFinite_162 : decode cX0_remainderOfFinite 162 = .ok (.ldc2_w 130, 3) := by decide +kernel
theorem dX0_remainderOfFinite_165 : decode cX0_remainderOfFinite 165 = .ok (.land, 1) := by decide +kernel
theorem dX0_remainderOfFinite_166 : decode cX0_remainderOfFinite 166 = .ok (.l2i, 1) := by decide +kernel
theorem dX0_remainderOfFinite_167 : decode cX0_remainderOfFinite 167 = .ok (.putfield 17, 3) := by decide +kernel
theorem dX0_remainderOfFinite_170 : decode cX0_remainderOfFinite 170 = .ok (.lload 14, 2) := by decide +kernel
theorem dX0_remainderOfFinite_172 : decode cX0_remainderOfFinite 172 = .ok (.lload 12, 2) := by decide +kernel
theorem dX0_remainderOfFinite_174 : decode cX0_remainderOfFinite 174 = .ok (.iload 9, 2) := by decide +kernel
theorem dX0_remainderOfFinite_176 : decode cX0_remainderOfFinite 176 = .ok (.invokestatic 113, 3) := by decide +kernel
theorem dX0_remainderOfFinite_179 : decode cX0_remainderOfFinite 179 = .ok (.lor, 1) := by decide +kernel
theorem dX0_remainderOfFinite_180 : decode cX0_remainderOfFinite 180 = .ok (.lreturn, 1) := by decide +kernel
theorem dX0_place_0 : decode cX0_place 0 = .ok (.lload_n 0, 1) := by decide +kernel
theorem dX0_place_1 : decode cX0_place 1 = .ok (.lconst 0, 1) := by decide +kernel
theorem dX0_place_2 : decode cX0_place 2 = .ok (.lcmp, 1) := by decide +kernel
theorem dX0_place_3 : decode cX0_place 3 = .ok (.ifCond .ge 12, 3) := by decide +kernel
theorem dX0_place_6 : decode cX0_place 6 = .ok (.lload_n 0, 1) := by decide +kernel
theorem dX0_place_7 : decode cX0_place 7 = .ok (.ldc2_w 65, 3) := by decide +kernel
theorem dX0_place_10 : decode cX0_place 10 = .ok (.land, 1) := by decide +kernel
theorem dX0_place_11 : decode cX0_place 11 = .ok (.lneg, 1) := by decide +kernel
theorem dX0_place_12 : decode cX0_place 12 = .ok (.goto 4, 3) := by decide +kernel
theorem dX0_place_15 : decode cX0_place 15 = .ok (.lload_n 0, 1) := by decide +kernel
theorem dX0_place_16 : decode cX0_place 16 = .ok (.lreturn, 1) := by decide +kernel
set_option maxRecDepth 20000 in
theorem ggX0_nextTowards_X0_isNan : GoodIn wsX0_nextTowards wsX0_isNan := goodIn_r _ [6, 7, 8] (by decide +kernel) (by decide +kernel)
set_option maxRecDepth 20000 in
theorem gX0_nextTowards_X0_isNan : GoodIn wsX0_nextTowards (va_wsS RX0 51 yX0_isNan wsX0_isNan) := goodIn_app (goodIn_of _ (by decide +kernel)) ggX0_nextTowards_X0_isNan
set_option maxRecDepth 20000 in
theorem ggX0_nextTowards_X0_place : GoodIn wsX0_nextTowards wsX0_place := goodIn_r _ [11, 7] (by decide +kernel) (by decide +kernel)
set_option maxRecDepth 20000 in
theorem gX0_nextTowards_X0_place : GoodIn wsX0_nextTowards (va_wsS RX0 59 yX0_place wsX0_place) := goodIn_app (goodIn_of _ (by decide +kernel)) ggX0_nextTowards_X0_place
set_option maxRecDepth 20000 in
theorem ggX0_nextTowards_X0_signOf : GoodIn wsX0_nextTowards wsX0_signOf := goodIn_r _ [14, 2] (by decide +kernel) (by decide +kernel)
set_option maxRecDepth 20000 in
theorem gX0_nextTowards_X0_signOf : GoodIn wsX0_nextTowards (va_wsS RX0 116 yX0_signOf wsX0_signOf) := goodIn_app (goodIn_of _ (by decide +kernel)) ggX0_nextTowards_X0_signOf
theorem dX0_nextTowards_0 : decode cX0_nextTowards 0 = .ok (.lload_n 0, 1) := by decide +kernel
theorem dX0_nextTowards_1 : decode cX0_nextTowards 1 = .ok (.invokestatic 51, 3) := by decide +kernel
theorem dX0_nextTowards_4 : decode cX0_nextTowards 4 = .ok (.ifCond .ne 10, 3) := by decide +kernel
theorem dX0_nextTowards_7 : decode cX0_nextTowards 7 = .ok (.lload_n 2, 1) := by decide +kernel
theorem dX0_nextTowards_8 : decode cX0_nextTowards 8 = .ok (.invokestatic 51, 3) := by decide +kernel
theorem dX0_nextTowards_11 : decode cX0_nextTowards 11 = .ok (.ifCond .eq 7, 3) := by decide +kernel
theorem dX0_nextTowards_14 : decode cX0_nextTowards 14 = .ok (.ldc2_w 101, 3) := by decide +kernel
theorem dX0_nextTowards_17 : decode cX0_nextTowards 17 = .ok (.lreturn, 1) := by decide +kernel
theorem dX0_nextTowards_18 : decode cX0_nextTowards 18 = .ok (.lload_n 0, 1) := by decide +kernel
theorem dX0_nextTowards_19 : decode cX0_nextTowards 19 = .ok (.invokestatic 59, 3) := by decide +kernel
theorem dX0_nextTowards_22 : decode cX0_nextTowards 22 = .ok (.lload_n 2, 1) := by decide +kernel
theorem dX0_nextTowards_23 : decode cX0_nextTowards 23 = .ok (.invokestatic 59, 3) := by decide +kernel
theorem dX0_nextTowards_26 : decode cX0_nextTowards 26 = .ok (.lcmp, 1) := by decide +kernel
theorem dX0_nextTowards_27 : decode cX0_nextTowards 27 = .ok (.ifCond .ne 5, 3) := by decide +kernel
theorem dX0_nextTowards_30 : decode cX0_nextTowards 30 = .ok (.lload_n 0, 1) := by decide +kernel
theorem dX0_nextTowards_31 : decode cX0_nextTowards 31 = .ok (.lreturn, 1) := by decide +kernel
theorem dX0_nextTowards_32 : decode cX0_nextTowards 32 = .ok (.lload_n 0, 1) := by decide +kernel
theorem dX0_nextTowards_33 : decode cX0_nextTowards 33 = .ok (.invokestatic 59, 3) := by decide +kernel
theorem dX0_nextTowards_36 : decode cX0_nextTowards 36 = .ok (.lload_n 2, 1) := by decide +kernel
theorem dX0_nextTowards_37 : decode cX0_nextTowards 37 = .ok (.invokestatic 59, 3) := by decide +kernel
theorem dX0_nextTowards_40 : decode cX0_nextTowards 40 = .ok (.lcmp, 1) := by decide +kernel
theorem dX0_nextTowards_41 : decode cX0_nextTowards 41 = .ok (.ifCond .ge 12, 3) := by decide +kernel
theorem dX0_nextTowards_44 : decode cX0_nextTowards 44 = .ok (.lload_n 0, 1) := by decide +kernel
theorem dX0_nextTowards_45 : decode cX0_nextTowards 45 = .ok (.invokestatic 59, 3) := by decide +kernel
theorem dX0_nextTowards_48 : decode cX0_nextTowards 48 = .ok (.lconst 1, 1) := by decide +kernel
theorem dX0_nextTowards_49 : decode cX0_nextTowards 49 = .ok (.ladd, 1) := by decide +kernel
theorem dX0_nextTowards_50 : decode cX0_nextTowards 50 = .ok (.goto 9, 3) := by decide +kernel
theorem dX0_nextTowards_53 : decode cX0_nextTowards 53 = .ok (.lload_n 0, 1) := by decide +kernel
theorem dX0_nextTowards_54 : decode cX0_nextTowards 54 = .ok (.invokestatic 59, 3) := by decide +kernel
theorem dX0_nextTowards_57 : decode cX0_nextTowards 57 = .ok (.lconst 1, 1) := by decide +kernel
theorem dX0_nextTowards_58 : decode cX0_nextTowards 58 = .ok (.lsub, 1) := by decide +kernel
theorem dX0_nextTowards_59 : decode cX0_nextTowards 59 = .ok (.lstore 4, 2) := by decide +kernel
theorem dX0_nextTowards_61 : decode cX0_nextTowards 61 = .ok (.lload 4, 2) := by decide +kernel
theorem dX0_nextTowards_63 : decode cX0_nextTowards 63 = .ok (.lconst 0, 1) := by decide +kernel
theorem dX0_nextTowards_64 : decode cX0_nextTowards 64 = .ok (.lcmp, 1) := by decide +kernel
theorem dX0_nextTowards_65 : decode cX0_nextTowards 65 = .ok (.ifCond .ne 8, 3) := by decide +kernel
theorem dX0_nextTowards_68 : decode cX0_nextTowards 68 = .ok (.lload_n 0, 1) := by decide +kernel
theorem dX0_nextTowards_69 : decode cX0_nextTowards 69 = .ok (.invokestatic 116, 3) := by decide +kernel
theorem dX0_nextTowards_72 : decode cX0_nextTowards 72 = .ok (.lreturn, 1) := by decide +kernel
theorem dX0_nextTowards_73 : decode cX0_nextTowards 73 = .ok (.lload 4, 2) := by decide +kernel
theorem dX0_nextTowards_75 : decode cX0_nextTowards 75 = .ok (.lconst 0, 1) := by decide +kernel
theorem dX0_nextTowards_76 : decode cX0_nextTowards 76 = .ok (.lcmp, 1) := by decide +kernel
theorem dX0_nextTowards_77 : decode cX0_nextTowards 77 = .ok (.ifCond .ge 13, 3) := by decide +kernel
theorem dX0_nextTowards_80 : decode cX0_nextTowards 80 = .ok (.ldc2_w 69, 3) := by decide +kernel
theorem dX0_nextTowards_83 : decode cX0_nextTowards 83 = .ok (.lload 4, 2) := by decide +kernel
theorem dX0_nextTowards_85 : decode cX0_nextTowards 85 = .ok (.lneg, 1) := by decide +kernel
theorem dX0_nextTowards_86 : decode cX0_nextTowards 86 = .ok (.lor, 1) := by decide +kernel
theorem dX0_nextTowards_87 : decode cX0_nextTowards 87 = .ok (.goto 5, 3) := by decide +kernel
theorem dX0_nextTowards_90 : decode cX0_nextTowards 90 = .ok (.lload 4, 2) := by decide +kernel
theorem dX0_nextTowards_92 : decode cX0_nextTowards 92 = .ok (.lreturn, 1) := by decide +kernel
set_option maxRecDepth 20000 in
theorem ggX0_timesPowerOfTwo_X0_isNan : GoodIn wsX0_timesPowerOfTwo wsX0_isNan := goodIn_r _ [13, 14, 3] (by decide +kernel) (by decide +kernel)
set_option maxRecDepth 20000 in
theorem gX0_timesPowerOfTwo_X0_isNan : GoodIn wsX0_timesPowerOfTwo (va_wsS RX0 51 yX0_isNan wsX0_isNan) := goodIn_app (goodIn_of _ (by decide +kernel)) ggX0_timesPowerOfTwo_X0_isNan
set_option maxRecDepth 20000 in
theorem ggX0_timesPowerOfTwo_X0_isZero : GoodIn wsX0_timesPowerOfTwo wsX0_isZero := goodIn_r _ [17, 14] (by decide +kernel) (by decide +kernel)
set_option maxRecDepth 20000 in
theorem gX0_timesPowerOfTwo_X0_isZero : GoodIn wsX0_timesPowerOfTwo (va_wsS RX0 43 yX0_isZero wsX0_isZero) := goodIn_app (goodIn_of _ (by decide +kernel)) ggX0_timesPowerOfTwo_X0_isZero
set_option maxRecDepth 20000 in
theorem ggX0_timesPowerOfTwo_X0_isInfinity : GoodIn wsX0_timesPowerOfTwo wsX0_isInfinity := goodIn_r _ [20, 14, 3] (by decide +kernel) (by decide +kernel)
set_option maxRecDepth 20000 in
theorem gX0_timesPowerOfTwo_X0_isInfinity : GoodIn wsX0_timesPowerOfTwo (va_wsS RX0 48 yX0_isInfinity wsX0_isInfinity) := goodIn_app (goodIn_of _ (by decide +kernel)) ggX0_timesPowerOfTwo_X0_isInfinity
set_option maxRecDepth 20000 in
theorem ggX0_timesPowerOfTwo_X0_fullPower : GoodIn wsX0_timesPowerOfTwo wsX0_fullPower := goodIn_r _ [23, 24, 25, 12, 26, 27, 28, 8, 29, 30, 31, 32, 14, 33, 34, 35, 36, 37, 38, 39, 40, 41, 42, 43, 44, 45, 46, 47, 48, 49] (by decide +kernel) (by decide +kernel)
set_option maxRecDepth 20000 in
theorem gX0_timesPowerOfTwo_X0_fullPower : GoodIn wsX0_timesPowerOfTwo (va_wsS RX0 55 yX0_fullPower wsX0_fullPower) := goodIn_app (goodIn_of _ (by decide +kernel)) ggX0_timesPowerOfTwo_X0_fullPower
set_option maxRecDepth 20000 in
theorem ggX0_timesPowerOfTwo_X0_raise : GoodIn wsX0_timesPowerOfTwo wsX0_raise := goodIn_r _ [53, 54, 75, 76, 77] (by decide +kernel) (by decide +kernel)
set_option maxRecDepth 20000 in
theorem gX0_timesPowerOfTwo_X0_raise : GoodIn wsX0_timesPowerOfTwo (wsV RX0 103 RX0 yX0_raise wsX0_raise) := goodIn_app (goodIn_of _ (by decide +kernel)) ggX0_timesPowerOfTwo_X0_raise
set_option maxRecDepth 20000 in
theorem ggX0_timesPowerOfTwo_X0_signOf : GoodIn wsX0_timesPowerOfTwo wsX0_signOf := goodIn_r _ [57, 58] (by decide +kernel) (by decide +kernel)
set_option maxRecDepth 20000 in
theorem gX0_timesPowerOfTwo_X0_signOf : GoodIn wsX0_timesPowerOfTwo (va_wsS RX0 116 yX0_signOf wsX0_signOf) := goodIn_app (goodIn_of _ (by decide +kernel)) ggX0_timesPowerOfTwo_X0_signOf
set_option maxRecDepth 20000 in
theorem ggX0_timesPowerOfTwo_X0_fullSignificand : GoodIn wsX0_timesPowerOfTwo wsX0_fullSignificand := goodIn_r _ [61, 36, 37, 12, 38, 39, 40, 30, 31, 32, 14, 33, 34, 35, 41, 42, 43, 44, 45, 46, 47, 48, 49] (by decide +kernel) (by decide +kernel)
set_option maxRecDepth 20000 in
theorem gX0_timesPowerOfTwo_X0_fullSignificand : GoodIn wsX0_timesPowerOfTwo (va_wsS RX0 110 yX0_fullSignificand wsX0_fullSignificand) := goodIn_app (goodIn_of _ (by decide +kernel)) ggX0_timesPowerOfTwo_X0_fullSignificand
set_option maxRecDepth 20000 in
theorem ggX0_timesPowerOfTwo_X0_pattern : GoodIn wsX0_timesPowerOfTwo wsX0_pattern := goodIn_r _ [64, 65, 66, 8, 67, 41, 42, 43, 44, 45, 46, 47, 48, 49] (by decide +kernel) (by decide +kernel)
set_option maxRecDepth 20000 in
theorem gX0_timesPowerOfTwo_X0_pattern : GoodIn wsX0_timesPowerOfTwo (va_wsS RX0 113 yX0_pattern wsX0_pattern) := goodIn_app (goodIn_of _ (by decide +kernel)) ggX0_timesPowerOfTwo_X0_pattern
set_option maxRecDepth 20000 in
theorem ggX0_timesPowerOfTwo_X0_roundedToLeastPower : GoodIn wsX0_timesPowerOfTwo wsX0_roundedToLeastPower := goodIn_r _ [71, 40, 72, 73, 12, 74, 50, 51, 52, 53, 54, 62, 63, 64, 65, 66, 8, 67, 41, 42, 43, 44, 45, 46, 47, 48, 49, 75, 76, 77] (by decide +kernel) (by decide +kernel)
set_option maxRecDepth 20000 in
theorem gX0_timesPowerOfTwo_X0_roundedToLeastPower : GoodIn wsX0_timesPowerOfTwo (wsV RX0 140 RX0 yX0_roundedToLeastPower wsX0_roundedToLeastPower) := goodIn_app (goodIn_of _ (by decide +kernel)) ggX0_timesPowerOfTwo_X0_roundedToLeastPower
theorem dX0_timesPowerOfTwo_0 : decode cX0_timesPowerOfTwo 0 = .ok (.lload_n 1, 1) := by decide +kernel
theorem dX0_timesPowerOfTwo_1 : decode cX0_timesPowerOfTwo 1 = .ok (.invokestatic 51, 3) := by decide +kernel
theorem dX0_timesPowerOfTwo_4 : decode cX0_timesPowerOfTwo 4 = .ok (.ifCond .eq 7, 3) := by decide +kernel
theorem dX0_timesPowerOfTwo_7 : decode cX0_timesPowerOfTwo 7 = .ok (.ldc2_w 101, 3) := by decide +kernel
theorem dX0_timesPowerOfTwo_10 : decode cX0_timesPowerOfTwo 10 = .ok (.lreturn, 1) := by decide +kernel
theorem dX0_timesPowerOfTwo_11 : decode cX0_timesPowerOfTwo 11 = .ok (.lload_n 1, 1) := by decide +kernel
theorem dX0_timesPowerOfTwo_12 : decode cX0_timesPowerOfTwo 12 = .ok (.invokestatic 43, 3) := by decide +kernel
theorem dX0_timesPowerOfTwo_15 : decode cX0_timesPowerOfTwo 15 = .ok (.ifCond .ne 10, 3) := by decide +kernel
theorem dX0_timesPowerOfTwo_18 : decode cX0_timesPowerOfTwo 18 = .ok (.lload_n 1, 1) := by decide +kernel
theorem dX0_timesPowerOfTwo_19 : decode cX0_timesPowerOfTwo 19 = .ok (.invokestatic 48, 3) := by decide +kernel
theorem dX0_timesPowerOfTwo_22 : decode cX0_timesPowerOfTwo 22 = .ok (.ifCond .eq 5, 3) := by decide +kernel
theorem dX0_timesPowerOfTwo_25 : decode cX0_timesPowerOfTwo 25 = .ok (.lload_n 1, 1) := by decide +kernel
theorem dX0_timesPowerOfTwo_26 : decode cX0_timesPowerOfTwo 26 = .ok (.lreturn, 1) := by decide +kernel
theorem dX0_timesPowerOfTwo_27 : decode cX0_timesPowerOfTwo 27 = .ok (.lload_n 1, 1) := by decide +kernel
theorem dX0_timesPowerOfTwo_28 : decode cX0_timesPowerOfTwo 28 = .ok (.invokestatic 55, 3) := by decide +kernel
theorem dX0_timesPowerOfTwo_31 : decode cX0_timesPowerOfTwo 31 = .ok (.i2l, 1) := by decide +kernel
theorem dX0_timesPowerOfTwo_32 : decode cX0_timesPowerOfTwo 32 = .ok (.iload_n 3, 1) := by decide +kernel
theorem dX0_timesPowerOfTwo_33 : decode cX0_timesPowerOfTwo 33 = .ok (.i2l, 1) := by decide +kernel
theorem dX0_timesPowerOfTwo_34 : decode cX0_timesPowerOfTwo 34 = .ok (.ladd, 1) := by decide +kernel
theorem dX0_timesPowerOfTwo_35 : decode cX0_timesPowerOfTwo 35 = .ok (.lstore 4, 2) := by decide +kernel
theorem dX0_timesPowerOfTwo_37 : decode cX0_timesPowerOfTwo 37 = .ok (.lload 4, 2) := by decide +kernel
theorem dX0_timesPowerOfTwo_39 : decode cX0_timesPowerOfTwo 39 = .ok (.ldc2_w 132, 3) := by decide +kernel
theorem dX0_timesPowerOfTwo_42 : decode cX0_timesPowerOfTwo 42 = .ok (.lcmp, 1) := by decide +kernel
theorem dX0_timesPowerOfTwo_43 : decode cX0_timesPowerOfTwo 43 = .ok (.ifCond .le 18, 3) := by decide +kernel
theorem dX0_timesPowerOfTwo_46 : decode cX0_timesPowerOfTwo 46 = .ok (.aload_n 0, 1) := by decide +kernel
theorem dX0_timesPowerOfTwo_47 : decode cX0_timesPowerOfTwo 47 = .ok (.bipush 6, 2) := by decide +kernel
theorem dX0_timesPowerOfTwo_49 : decode cX0_timesPowerOfTwo 49 = .ok (.invokevirtual 103, 3) := by decide +kernel
theorem dX0_timesPowerOfTwo_52 : decode cX0_timesPowerOfTwo 52 = .ok (.lload_n 1, 1) := by decide +kernel
theorem dX0_timesPowerOfTwo_53 : decode cX0_timesPowerOfTwo 53 = .ok (.invokestatic 116, 3) := by decide +kernel
theorem dX0_timesPowerOfTwo_56 : decode cX0_timesPowerOfTwo 56 = .ok (.ldc2_w 67, 3) := by decide +kernel
theorem dX0_timesPowerOfTwo_59 : decode cX0_timesPowerOfTwo 59 = .ok (.lor, 1) := by decide +kernel
theorem dX0_timesPowerOfTwo_60 : decode cX0_timesPowerOfTwo 60 = .ok (.lreturn, 1) := by decide +kernel
theorem dX0_timesPowerOfTwo_61 : decode cX0_timesPowerOfTwo 61 = .ok (.lload 4, 2) := by decide +kernel
theorem dX0_timesPowerOfTwo_63 : decode cX0_timesPowerOfTwo 63 = .ok (.ldc2_w 134, 3) := by decide +kernel
theorem dX0_timesPowerOfTwo_66 : decode cX0_timesPowerOfTwo 66 = .ok (.lcmp, 1) := by decide +kernel
theorem dX0_timesPowerOfTwo_67 : decode cX0_timesPowerOfTwo 67 = .ok (.ifCond .lt 19, 3) := by decide +kernel
theorem dX0_timesPowerOfTwo_70 : decode cX0_timesPowerOfTwo 70 = .ok (.lload_n 1, 1) := by decide +kernel
theorem dX0_timesPowerOfTwo_71 : decode cX0_timesPowerOfTwo 71 = .ok (.invokestatic 116, 3) := by decide +kernel
theorem dX0_timesPowerOfTwo_74 : decode cX0_timesPowerOfTwo 74 = .ok (.lload_n 1, 1) := by decide +kernel
theorem dX0_timesPowerOfTwo_75 : decode cX0_timesPowerOfTwo 75 = .ok (.invokestatic 110, 3) := by decide +kernel
theorem dX0_timesPowerOfTwo_78 : decode cX0_timesPowerOfTwo 78 = .ok (.lload 4, 2) := by decide +kernel
theorem dX0_timesPowerOfTwo_80 : decode cX0_timesPowerOfTwo 80 = .ok (.l2i, 1) := by decide +kernel
theorem dX0_timesPowerOfTwo_81 : decode cX0_timesPowerOfTwo 81 = .ok (.invokestatic 113, 3) := by decide +kernel
theorem dX0_timesPowerOfTwo_84 : decode cX0_timesPowerOfTwo 84 = .ok (.lor, 1) := by decide +kernel
theorem dX0_timesPowerOfTwo_85 : decode cX0_timesPowerOfTwo 85 = .ok (.lreturn, 1) := by decide +kernel
theorem dX0_timesPowerOfTwo_86 : decode cX0_timesPowerOfTwo 86 = .ok (.ldc2_w 134, 3) := by decide +kernel
theorem dX0_timesPowerOfTwo_89 : decode cX0_timesPowerOfTwo 89 = .ok (.lload 4, 2) := by decide +kernel
theorem dX0_timesPowerOfTwo_91 : decode cX0_timesPowerOfTwo 91 = .ok (.lsub, 1) := by decide +kernel
theorem dX0_timesPowerOfTwo_92 : decode cX0_timesPowerOfTwo 92 = .ok (.ldc2_w 136, 3) := by decide +kernel
theorem dX0_timesPowerOfTwo_95 : decode cX0_timesPowerOfTwo 95 = .ok (.invokestatic 138, 3) := by decide +kernel
theorem dX0_timesPowerOfTwo_98 : decode cX0_timesPowerOfTwo 98 = .ok (.l2i, 1) := by decide +kernel
theorem dX0_timesPowerOfTwo_99 : decode cX0_timesPowerOfTwo 99 = .ok (.istore 6, 2) := by decide +kernel
theorem dX0_timesPowerOfTwo_101 : decode cX0_timesPowerOfTwo 101 = .ok (.lload_n 1, 1) := by decide +kernel
theorem dX0_timesPowerOfTwo_102 : decode cX0_timesPowerOfTwo 102 = .ok (.invokestatic 116, 3) := by decide +kernel
theorem dX0_timesPowerOfTwo_105 : decode cX0_timesPowerOfTwo 105 = .ok (.aload_n 0, 1) := by decide +kernel
theorem dX0_timesPowerOfTwo_106 : decode cX0_timesPowerOfTwo 106 = .ok (.lload_n 1, 1) := by decide +kernel
theorem dX0_timesPowerOfTwo_107 : decode cX0_timesPowerOfTwo 107 = .ok (.invokestatic 110, 3) := by decide +kernel
theorem dX0_timesPowerOfTwo_110 : decode cX0_timesPowerOfTwo 110 = .ok (.iload 6, 2) := by decide +kernel
theorem dX0_timesPowerOfTwo_112 : decode cX0_timesPowerOfTwo 112 = .ok (.invokevirtual 140, 3) := by decide +kernel
theorem dX0_timesPowerOfTwo_115 : decode cX0_timesPowerOfTwo 115 = .ok (.lor, 1) := by decide +kernel
theorem dX0_timesPowerOfTwo_116 : decode cX0_timesPowerOfTwo 116 = .ok (.lreturn, 1) := by decide +kernel
set_option maxRecDepth 20000 in
theorem ggX0_roundedToLeastPower_X0_nearestShifted : GoodIn wsX0_roundedToLeastPower wsX0_nearestShifted := goodIn_r _ [5] (by decide +kernel) (by decide +kernel)
set_option maxRecDepth 20000 in
theorem gX0_roundedToLeastPower_X0_nearestShifted : GoodIn wsX0_roundedToLeastPower (va_wsS RX0 123 yX0_nearestShifted wsX0_nearestShifted) := goodIn_app (goodIn_of _ (by decide +kernel)) ggX0_roundedToLeastPower_X0_nearestShifted
set_option maxRecDepth 20000 in
theorem ggX0_roundedToLeastPower_X0_raise : GoodIn wsX0_roundedToLeastPower wsX0_raise := goodIn_r _ [9, 10, 27, 28, 29] (by decide +kernel) (by decide +kernel)
set_option maxRecDepth 20000 in
theorem gX0_roundedToLeastPower_X0_raise : GoodIn wsX0_roundedToLeastPower (wsV RX0 103 RX0 yX0_raise wsX0_raise) := goodIn_app (goodIn_of _ (by decide +kernel)) ggX0_roundedToLeastPower_X0_raise
set_option maxRecDepth 20000 in
theorem ggX0_roundedToLeastPower_X0_pattern : GoodIn wsX0_roundedToLeastPower wsX0_pattern := goodIn_r _ [13, 14, 15, 16, 17, 18, 19, 20, 21, 22, 23, 24, 25, 26] (by decide +kernel) (by decide +kernel)
set_option maxRecDepth 20000 in
theorem gX0_roundedToLeastPower_X0_pattern : GoodIn wsX0_roundedToLeastPower (va_wsS RX0 113 yX0_pattern wsX0_pattern) := goodIn_app (goodIn_of _ (by decide +kernel)) ggX0_roundedToLeastPower_X0_pattern
theorem dX0_roundedToLeastPower_0 : decode cX0_roundedToLeastPower 0 = .ok (.lload_n 1, 1) := by decide +kernel
theorem dX0_roundedToLeastPower_1 : decode cX0_roundedToLeastPower 1 = .ok (.iload_n 3, 1) := by decide +kernel
theorem dX0_roundedToLeastPower_2 : decode cX0_roundedToLeastPower 2 = .ok (.invokestatic 123, 3) := by decide +kernel
theorem dX0_roundedToLeastPower_5 : decode cX0_roundedToLeastPower 5 = .ok (.lstore 4, 2) := by decide +kernel
theorem dX0_roundedToLeastPower_7 : decode cX0_roundedToLeastPower 7 = .ok (.lload 4, 2) := by decide +kernel
theorem dX0_roundedToLeastPower_9 : decode cX0_roundedToLeastPower 9 = .ok (.iload_n 3, 1) := by decide +kernel
theorem dX0_roundedToLeastPower_10 : decode cX0_roundedToLeastPower 10 = .ok (.lshl, 1) := by decide +kernel
theorem dX0_roundedToLeastPower_11 : decode cX0_roundedToLeastPower 11 = .ok (.lload_n 1, 1) := by decide +kernel
theorem dX0_roundedToLeastPower_12 : decode cX0_roundedToLeastPower 12 = .ok (.lcmp, 1) := by decide +kernel
theorem dX0_roundedToLeastPower_13 : decode cX0_roundedToLeastPower 13 = .ok (.ifCond .eq 22, 3) := by decide +kernel
theorem dX0_roundedToLeastPower_16 : decode cX0_roundedToLeastPower 16 = .ok (.aload_n 0, 1) := by decide +kernel
theorem dX0_roundedToLeastPower_17 : decode cX0_roundedToLeastPower 17 = .ok (.lload 4, 2) := by decide +kernel
theorem dX0_roundedToLeastPower_19 : decode cX0_roundedToLeastPower 19 = .ok (.ldc2_w 71, 3) := by decide +kernel
theorem dX0_roundedToLeastPower_22 : decode cX0_roundedToLeastPower 22 = .ok (.lcmp, 1) := by decide +kernel
theorem dX0_roundedToLeastPower_23 : decode cX0_roundedToLeastPower 23 = .ok (.ifCond .ge 8, 3) := by decide +kernel
theorem dX0_roundedToLeastPower_26 : decode cX0_roundedToLeastPower 26 = .ok (.bipush 10, 2) := by decide +kernel
theorem dX0_roundedToLeastPower_28 : decode cX0_roundedToLeastPower 28 = .ok (.goto 4, 3) := by decide +kernel
theorem dX0_roundedToLeastPower_31 : decode cX0_roundedToLeastPower 31 = .ok (.iconst 2, 1) := by decide +kernel
theorem dX0_roundedToLeastPower_32 : decode cX0_roundedToLeastPower 32 = .ok (.invokevirtual 103, 3) := by decide +kernel
theorem dX0_roundedToLeastPower_35 : decode cX0_roundedToLeastPower 35 = .ok (.lload 4, 2) := by decide +kernel
theorem dX0_roundedToLeastPower_37 : decode cX0_roundedToLeastPower 37 = .ok (.sipush (-1074), 3) := by decide +kernel
theorem dX0_roundedToLeastPower_40 : decode cX0_roundedToLeastPower 40 = .ok (.invokestatic 113, 3) := by decide +kernel
theorem dX0_roundedToLeastPower_43 : decode cX0_roundedToLeastPower 43 = .ok (.lreturn, 1) := by decide +kernel
theorem dJ6_numberOfLeadingZeros_0f7a4_0 : decode cJ6_numberOfLeadingZeros_0f7a4 0 = .ok (.iload_n 0, 1) := by decide +kernel
theorem dJ6_numberOfLeadingZeros_0f7a4_1 : decode cJ6_numberOfLeadingZeros_0f7a4 1 = .ok (.ifCond .gt 14, 3) := by decide +kernel
theorem dJ6_numberOfLeadingZeros_0f7a4_4 : decode cJ6_numberOfLeadingZeros_0f7a4 4 = .ok (.iload_n 0, 1) := by decide +kernel
theorem dJ6_numberOfLeadingZeros_0f7a4_5 : decode cJ6_numberOfLeadingZeros_0f7a4 5 = .ok (.ifCond .ne 8, 3) := by decide +kernel
theorem dJ6_numberOfLeadingZeros_0f7a4_8 : decode cJ6_numberOfLeadingZeros_0f7a4 8 = .ok (.bipush 32, 2) := by decide +kernel
theorem dJ6_numberOfLeadingZeros_0f7a4_10 : decode cJ6_numberOfLeadingZeros_0f7a4 10 = .ok (.goto 4, 3) := by decide +kernel
theorem dJ6_numberOfLeadingZeros_0f7a4_13 : decode cJ6_numberOfLeadingZeros_0f7a4 13 = .ok (.iconst 0, 1) := by decide +kernel
theorem dJ6_numberOfLeadingZeros_0f7a4_14 : decode cJ6_numberOfLeadingZeros_0f7a4 14 = .ok (.ireturn, 1) := by decide +kernel
theorem dJ6_numberOfLeadingZeros_0f7a4_15 : decode cJ6_numberOfLeadingZeros_0f7a4 15 = .ok (.bipush 31, 2) := by decide +kernel
theorem dJ6_numberOfLeadingZeros_0f7a4_17 : decode cJ6_numberOfLeadingZeros_0f7a4 17 = .ok (.istore_n 1, 1) := by decide +kernel
theorem dJ6_numberOfLeadingZeros_0f7a4_18 : decode cJ6_numberOfLeadingZeros_0f7a4 18 = .ok (.iload_n 0, 1) := by decide +kernel
theorem dJ6_numberOfLeadingZeros_0f7a4_19 : decode cJ6_numberOfLeadingZeros_0f7a4 19 = .ok (.ldc_w 264, 3) := by decide +kernel
theorem dJ6_numberOfLeadingZeros_0f7a4_22 : decode cJ6_numberOfLeadingZeros_0f7a4 22 = .ok (.if_icmp .lt 11, 3) := by decide +kernel
theorem dJ6_numberOfLeadingZeros_0f7a4_25 : decode cJ6_numberOfLeadingZeros_0f7a4 25 = .ok (.iinc 1 (-16), 3) := by decide +kernel
theorem dJ6_numberOfLeadingZeros_0f7a4_28 : decode cJ6_numberOfLeadingZeros_0f7a4 28 = .ok (.iload_n 0, 1) := by decide +kernel
theorem dJ6_numberOfLeadingZeros_0f7a4_29 : decode cJ6_numberOfLeadingZeros_0f7a4 29 = .ok (.bipush 16, 2) := by decide +kernel
theorem dJ6_numberOfLeadingZeros_0f7a4_31 : decode cJ6_numberOfLeadingZeros_0f7a4 31 = .ok (.iushr, 1) := by decide +kernel
theorem dJ6_numberOfLeadingZeros_0f7a4_32 : decode cJ6_numberOfLeadingZeros_0f7a4 32 = .ok (.istore_n 0, 1) := by decide +kernel
theorem dJ6_numberOfLeadingZeros_0f7a4_33 : decode cJ6_numberOfLeadingZeros_0f7a4 33 = .ok (.iload_n 0, 1) := by decide +kernel
theorem dJ6_numberOfLeadingZeros_0f7a4_34 : decode cJ6_numberOfLeadingZeros_0f7a4 34 = .ok (.sipush 256, 3) := by decide +kernel
theorem dJ6_numberOfLeadingZeros_0f7a4_37 : decode cJ6_numberOfLeadingZeros_0f7a4 37 = .ok (.if_icmp .lt 11, 3) := by decide +kernel
theorem dJ6_numberOfLeadingZeros_0f7a4_40 : decode cJ6_numberOfLeadingZeros_0f7a4 40 = .ok (.iinc 1 (-8), 3) := by decide +kernel
theorem dJ6_numberOfLeadingZeros_0f7a4_43 : decode cJ6_numberOfLeadingZeros_0f7a4 43 = .ok (.iload_n 0, 1) := by decide +kernel
theorem dJ6_numberOfLeadingZeros_0f7a4_44 : decode cJ6_numberOfLeadingZeros_0f7a4 44 = .ok (.bipush 8, 2) := by decide +kernel
theorem dJ6_numberOfLeadingZeros_0f7a4_46 : decode cJ6_numberOfLeadingZeros_0f7a4 46 = .ok (.iushr, 1) := by decide +kernel
theorem dJ6_numberOfLeadingZeros_0f7a4_47 : decode cJ6_numberOfLeadingZeros_0f7a4 47 = .ok (.istore_n 0, 1) := by decide +kernel
theorem dJ6_numberOfLeadingZeros_0f7a4_48 : decode cJ6_numberOfLeadingZeros_0f7a4 48 = .ok (.iload_n 0, 1) := by decide +kernel
theorem dJ6_numberOfLeadingZeros_0f7a4_49 : decode cJ6_numberOfLeadingZeros_0f7a4 49 = .ok (.bipush 16, 2) := by decide +kernel
theorem dJ6_numberOfLeadingZeros_0f7a4_51 : decode cJ6_numberOfLeadingZeros_0f7a4 51 = .ok (.if_icmp .lt 10, 3) := by decide +kernel
theorem dJ6_numberOfLeadingZeros_0f7a4_54 : decode cJ6_numberOfLeadingZeros_0f7a4 54 = .ok (.iinc 1 (-4), 3) := by decide +kernel
theorem dJ6_numberOfLeadingZeros_0f7a4_57 : decode cJ6_numberOfLeadingZeros_0f7a4 57 = .ok (.iload_n 0, 1) := by decide +kernel
theorem dJ6_numberOfLeadingZeros_0f7a4_58 : decode cJ6_numberOfLeadingZeros_0f7a4 58 = .ok (.iconst 4, 1) := by decide +kernel
theorem dJ6_numberOfLeadingZeros_0f7a4_59 : decode cJ6_numberOfLeadingZeros_0f7a4 59 = .ok (.iushr, 1) := by decide +kernel
theorem dJ6_numberOfLeadingZeros_0f7a4_60 : decode cJ6_numberOfLeadingZeros_0f7a4 60 = .ok (.istore_n 0, 1) := by decide +kernel
theorem dJ6_numberOfLeadingZeros_0f7a4_61 : decode cJ6_numberOfLeadingZeros_0f7a4 61 = .ok (.iload_n 0, 1) := by decide +kernel
theorem dJ6_numberOfLeadingZeros_0f7a4_62 : decode cJ6_numberOfLeadingZeros_0f7a4 62 = .ok (.iconst 4, 1) := by decide +kernel
theorem dJ6_numberOfLeadingZeros_0f7a4_63 : decode cJ6_numberOfLeadingZeros_0f7a4 63 = .ok (.if_icmp .lt 10, 3) := by decide +kernel
theorem dJ6_numberOfLeadingZeros_0f7a4_66 : decode cJ6_numberOfLeadingZeros_0f7a4 66 = .ok (.iinc 1 (-2), 3) := by decide +kernel
theorem dJ6_numberOfLeadingZeros_0f7a4_69 : decode cJ6_numberOfLeadingZeros_0f7a4 69 = .ok (.iload_n 0, 1) := by decide +kernel
theorem dJ6_numberOfLeadingZeros_0f7a4_70 : decode cJ6_numberOfLeadingZeros_0f7a4 70 = .ok (.iconst 2, 1) := by decide +kernel
theorem dJ6_numberOfLeadingZeros_0f7a4_71 : decode cJ6_numberOfLeadingZeros_0f7a4 71 = .ok (.iushr, 1) := by decide +kernel
theorem dJ6_numberOfLeadingZeros_0f7a4_72 : decode cJ6_numberOfLeadingZeros_0f7a4 72 = .ok (.istore_n 0, 1) := by decide +kernel
theorem dJ6_numberOfLeadingZeros_0f7a4_73 : decode cJ6_numberOfLeadingZeros_0f7a4 73 = .ok (.iload_n 1, 1) := by decide +kernel
theorem dJ6_numberOfLeadingZeros_0f7a4_74 : decode cJ6_numberOfLeadingZeros_0f7a4 74 = .ok (.iload_n 0, 1) := by decide +kernel
theorem dJ6_numberOfLeadingZeros_0f7a4_75 : decode cJ6_numberOfLeadingZeros_0f7a4 75 = .ok (.iconst 1, 1) := by decide +kernel
theorem dJ6_numberOfLeadingZeros_0f7a4_76 : decode cJ6_numberOfLeadingZeros_0f7a4 76 = .ok (.iushr, 1) := by decide +kernel
theorem dJ6_numberOfLeadingZeros_0f7a4_77 : decode cJ6_numberOfLeadingZeros_0f7a4 77 = .ok (.isub, 1) := by decide +kernel
theorem dJ6_numberOfLeadingZeros_0f7a4_78 : decode cJ6_numberOfLeadingZeros_0f7a4 78 = .ok (.ireturn, 1) := by decide +kernel
set_option maxRecDepth 20000 in
theorem ggJ13_numberOfLeadingZeros_95d88_J6_numberOfLeadingZeros_0f7a4 : GoodIn wsJ13_numberOfLeadingZeros_95d88 wsJ6_numberOfLeadingZeros_0f7a4 := goodIn_r _ [4, 5] (by decide +kernel) (by decide +kernel)
set_option maxRecDepth 20000 in
theorem gJ13_numberOfLeadingZeros_95d88_J6_numberOfLeadingZeros_0f7a4 : GoodIn wsJ13_numberOfLeadingZeros_95d88 (va_wsS RJ13 308 yJ6_numberOfLeadingZeros_0f7a4 wsJ6_numberOfLeadingZeros_0f7a4) := goodIn_app (goodIn_of _ (by decide +kernel)) ggJ13_numberOfLeadingZeros_95d88_J6_numberOfLeadingZeros_0f7a4
theorem dJ13_numberOfLeadingZeros_95d88_0 : decode cJ13_numberOfLeadingZeros_95d88 0 = .ok (.lload_n 0, 1) := by decide +kernel
theorem dJ13_numberOfLeadingZeros_95d88_1 : decode cJ13_numberOfLeadingZeros_95d88 1 = .ok (.bipush 32, 2) := by decide +kernel
theorem dJ13_numberOfLeadingZeros_95d88_3 : decode cJ13_numberOfLeadingZeros_95d88 3 = .ok (.lushr, 1) := by decide +kernel
theorem dJ13_numberOfLeadingZeros_95d88_4 : decode cJ13_numberOfLeadingZeros_95d88 4 = .ok (.l2i, 1) := by decide +kernel
theorem dJ13_numberOfLeadingZeros_95d88_5 : decode cJ13_numberOfLeadingZeros_95d88 5 = .ok (.istore_n 2, 1) := by decide +kernel
theorem dJ13_numberOfLeadingZeros_95d88_6 : decode cJ13_numberOfLeadingZeros_95d88 6 = .ok (.iload_n 2, 1) := by decide +kernel
theorem dJ13_numberOfLeadingZeros_95d88_7 : decode cJ13_numberOfLeadingZeros_95d88 7 = .ok (.ifCond .ne 14, 3) := by decide +kernel
theorem dJ13_numberOfLeadingZeros_95d88_10 : decode cJ13_numberOfLeadingZeros_95d88 10 = .ok (.bipush 32, 2) := by decide +kernel
theorem dJ13_numberOfLeadingZeros_95d88_12 : decode cJ13_numberOfLeadingZeros_95d88 12 = .ok (.lload_n 0, 1) := by decide +kernel
theorem dJ13_numberOfLeadingZeros_95d88_13 : decode cJ13_numberOfLeadingZeros_95d88 13 = .ok (.l2i, 1) := by decide +kernel
theorem dJ13_numberOfLeadingZeros_95d88_14 : decode cJ13_numberOfLeadingZeros_95d88 14 = .ok (.invokestatic 308, 3) := by decide +kernel
theorem dJ13_numberOfLeadingZeros_95d88_17 : decode cJ13_numberOfLeadingZeros_95d88 17 = .ok (.iadd, 1) := by decide +kernel
theorem dJ13_numberOfLeadingZeros_95d88_18 : decode cJ13_numberOfLeadingZeros_95d88 18 = .ok (.goto 7, 3) := by decide +kernel
theorem dJ13_numberOfLeadingZeros_95d88_21 : decode cJ13_numberOfLeadingZeros_95d88 21 = .ok (.iload_n 2, 1) := by decide +kernel
theorem dJ13_numberOfLeadingZeros_95d88_22 : decode cJ13_numberOfLeadingZeros_95d88 22 = .ok (.invokestatic 308, 3) := by decide +kernel
theorem dJ13_numberOfLeadingZeros_95d88_25 : decode cJ13_numberOfLeadingZeros_95d88 25 = .ok (.ireturn, 1) := by decide +kernel
theorem dJ9_max_7cf53_0 : decode cJ9_max_7cf53 0 = .ok (.iload_n 0, 1) := by decide +kernel
theorem dJ9_max_7cf53_1 : decode cJ9_max_7cf53 1 = .ok (.iload_n 1, 1) := by decide +kernel
theorem dJ9_max_7cf53_2 : decode cJ9_max_7cf53 2 = .ok (.if_icmp .lt 7, 3) := by decide +kernel
theorem dJ9_max_7cf53_5 : decode cJ9_max_7cf53 5 = .ok (.iload_n 0, 1) := by decide +kernel
theorem dJ9_max_7cf53_6 : decode cJ9_max_7cf53 6 = .ok (.goto 4, 3) := by decide +kernel
theorem dJ9_max_7cf53_9 : decode cJ9_max_7cf53 9 = .ok (.iload_n 1, 1) := by decide +kernel
theorem dJ9_max_7cf53_10 : decode cJ9_max_7cf53 10 = .ok (.ireturn, 1) := by decide +kernel
theorem dJ9_min_7cf53_0 : decode cJ9_min_7cf53 0 = .ok (.iload_n 0, 1) := by decide +kernel
theorem dJ9_min_7cf53_1 : decode cJ9_min_7cf53 1 = .ok (.iload_n 1, 1) := by decide +kernel
theorem dJ9_min_7cf53_2 : decode cJ9_min_7cf53 2 = .ok (.if_icmp .gt 7, 3) := by decide +kernel
theorem dJ9_min_7cf53_5 : decode cJ9_min_7cf53 5 = .ok (.iload_n 0, 1) := by decide +kernel
theorem dJ9_min_7cf53_6 : decode cJ9_min_7cf53 6 = .ok (.goto 4, 3) := by decide +kernel
theorem dJ9_min_7cf53_9 : decode cJ9_min_7cf53 9 = .ok (.iload_n 1, 1) := by decide +kernel
theorem dJ9_min_7cf53_10 : decode cJ9_min_7cf53 10 = .ok (.ireturn, 1) := by decide +kernel
theorem dJ9_min_f86c9_0 : decode cJ9_min_f86c9 0 = .ok (.lload_n 0, 1) := by decide +kernel
theorem dJ9_min_f86c9_1 : decode cJ9_min_f86c9 1 = .ok (.lload_n 2, 1) := by decide +kernel
theorem dJ9_min_f86c9_2 : decode cJ9_min_f86c9 2 = .ok (.lcmp, 1) := by decide +kernel
theorem dJ9_min_f86c9_3 : decode cJ9_min_f86c9 3 = .ok (.ifCond .gt 7, 3) := by decide +kernel
theorem dJ9_min_f86c9_6 : decode cJ9_min_f86c9 6 = .ok (.lload_n 0, 1) := by decide +kernel
theorem dJ9_min_f86c9_7 : decode cJ9_min_f86c9 7 = .ok (.goto 4, 3) := by decide +kernel
theorem dJ9_min_f86c9_10 : decode cJ9_min_f86c9 10 = .ok (.lload_n 2, 1) := by decide +kernel
theorem dJ9_min_f86c9_11 : decode cJ9_min_f86c9 11 = .ok (.lreturn, 1) := by decide +kernel
theorem dL_law_0 : decode cL_law 0 = .ok (.new 7, 3) := by decide +kernel
theorem dL_law_3 : decode cL_law 3 = .ok (.dup, 1) := by decide +kernel
theorem dL_law_4 : decode cL_law 4 = .ok (.invokespecial 9, 3) := by decide +kernel
theorem dL_law_7 : decode cL_law 7 = .ok (.astore_n 1, 1) := by decide +kernel
theorem dL_law_8 : decode cL_law 8 = .ok (.new 10, 3) := by decide +kernel
theorem dL_law_11 : decode cL_law 11 = .ok (.dup, 1) := by decide +kernel
theorem dL_law_12 : decode cL_law 12 = .ok (.invokespecial 12, 3) := by decide +kernel
theorem dL_law_15 : decode cL_law 15 = .ok (.astore_n 2, 1) := by decide +kernel
theorem dL_law_16 : decode cL_law 16 = .ok (.iconst 0, 1) := by decide +kernel
theorem dL_law_17 : decode cL_law 17 = .ok (.istore_n 3, 1) := by decide +kernel
theorem dL_law_18 : decode cL_law 18 = .ok (.iload_n 3, 1) := by decide +kernel
theorem dL_law_19 : decode cL_law 19 = .ok (.aload_n 0, 1) := by decide +kernel
theorem dL_law_20 : decode cL_law 20 = .ok (.arraylength, 1) := by decide +kernel
theorem dL_law_21 : decode cL_law 21 = .ok (.iconst 5, 1) := by decide +kernel
theorem dL_law_22 : decode cL_law 22 = .ok (.isub, 1) := by decide +kernel
theorem dL_law_23 : decode cL_law 23 = .ok (.if_icmp .gt 517, 3) := by decide +kernel
theorem dL_law_26 : decode cL_law 26 = .ok (.aload_n 0, 1) := by decide +kernel
theorem dL_law_27 : decode cL_law 27 = .ok (.iload_n 3, 1) := by decide +kernel
theorem dL_law_28 : decode cL_law 28 = .ok (.iaload, 1) := by decide +kernel
theorem dL_law_29 : decode cL_law 29 = .ok (.bipush 15, 2) := by decide +kernel
theorem dL_law_31 : decode cL_law 31 = .ok (.iand, 1) := by decide +kernel
theorem dL_law_32 : decode cL_law 32 = .ok (.tableswitch 502 0 12 #[68, 131, 155, 188, 231, 300, 313, 356, 399, 422, 455, 478, 491], 68) := by decide +kernel
theorem dL_law_100 : decode cL_law 100 = .ok (.aload_n 1, 1) := by decide +kernel
theorem dL_law_101 : decode cL_law 101 = .ok (.aload_n 0, 1) := by decide +kernel
theorem dL_law_102 : decode cL_law 102 = .ok (.iload_n 3, 1) := by decide +kernel
theorem dL_law_103 : decode cL_law 103 = .ok (.iconst 1, 1) := by decide +kernel
theorem dL_law_104 : decode cL_law 104 = .ok (.iadd, 1) := by decide +kernel
theorem dL_law_105 : decode cL_law 105 = .ok (.iaload, 1) := by decide +kernel
theorem dL_law_106 : decode cL_law 106 = .ok (.aload_n 0, 1) := by decide +kernel
theorem dL_law_107 : decode cL_law 107 = .ok (.iload_n 3, 1) := by decide +kernel
theorem dL_law_108 : decode cL_law 108 = .ok (.iconst 2, 1) := by decide +kernel
theorem dL_law_109 : decode cL_law 109 = .ok (.iadd, 1) := by decide +kernel
theorem dL_law_110 : decode cL_law 110 = .ok (.iaload, 1) := by decide +kernel
theorem dL_law_111 : decode cL_law 111 = .ok (.i2l, 1) := by decide +kernel
theorem dL_law_112 : decode cL_law 112 = .ok (.bipush 32, 2) := by decide +kernel
theorem dL_law_114 : decode cL_law 114 = .ok (.lshl, 1) := by decide +kernel
theorem dL_law_115 : decode cL_law 115 = .ok (.aload_n 0, 1) := by decide +kernel
theorem dL_law_116 : decode cL_law 116 = .ok (.iload_n 3, 1) := by decide +kernel
theorem dL_law_117 : decode cL_law 117 = .ok (.iconst 3, 1) := by decide +kernel
theorem dL_law_118 : decode cL_law 118 = .ok (.iadd, 1) := by decide +kernel
theorem dL_law_119 : decode cL_law 119 = .ok (.iaload, 1) := by decide +kernel
theorem dL_law_120 : decode cL_law 120 = .ok (.i2l, 1) := by decide +kernel
theorem dL_law_121 : decode cL_law 121 = .ok (.ldc2_w 13, 3) := by decide +kernel
theorem dL_law_124 : decode cL_law 124 = .ok (.land, 1) := by decide +kernel
theorem dL_law_125 : decode cL_law 125 = .ok (.lor, 1) := by decide +kernel
theorem dL_law_126 : decode cL_law 126 = .ok (.invokevirtual 15, 3) := by decide +kernel
theorem dL_law_129 : decode cL_law 129 = .ok (.aload_n 2, 1) := by decide +kernel
theorem dL_law_130 : decode cL_law 130 = .ok (.aload_n 0, 1) := by decide +kernel
theorem dL_law_131 : decode cL_law 131 = .ok (.iload_n 3, 1) := by decide +kernel
theorem dL_law_132 : decode cL_law 132 = .ok (.iconst 1, 1) := by decide +kernel
theorem dL_law_133 : decode cL_law 133 = .ok (.iadd, 1) := by decide +kernel
theorem dL_law_134 : decode cL_law 134 = .ok (.iaload, 1) := by decide +kernel
theorem dL_law_135 : decode cL_law 135 = .ok (.aload_n 0, 1) := by decide +kernel
theorem dL_law_136 : decode cL_law 136 = .ok (.iload_n 3, 1) := by decide +kernel
theorem dL_law_137 : decode cL_law 137 = .ok (.iconst 2, 1) := by decide +kernel
theorem dL_law_138 : decode cL_law 138 = .ok (.iadd, 1) := by decide +kernel
theorem dL_law_139 : decode cL_law 139 = .ok (.iaload, 1) := by decide +kernel
theorem dL_law_140 : decode cL_law 140 = .ok (.i2l, 1) := by decide +kernel
theorem dL_law_141 : decode cL_law 141 = .ok (.bipush 32, 2) := by decide +kernel
theorem dL_law_143 : decode cL_law 143 = .ok (.lshl, 1) := by decide +kernel
theorem dL_law_144 : decode cL_law 144 = .ok (.aload_n 0, 1) := by decide +kernel
theorem dL_law_145 : decode cL_law 145 = .ok (.iload_n 3, 1) := by decide +kernel
theorem dL_law_146 : decode cL_law 146 = .ok (.iconst 3, 1) := by decide +kernel
theorem dL_law_147 : decode cL_law 147 = .ok (.iadd, 1) := by decide +kernel
theorem dL_law_148 : decode cL_law 148 = .ok (.iaload, 1) := by decide +kernel
theorem dL_law_149 : decode cL_law 149 = .ok (.i2l, 1) := by decide +kernel
theorem dL_law_150 : decode cL_law 150 = .ok (.ldc2_w 13, 3) := by decide +kernel
theorem dL_law_153 : decode cL_law 153 = .ok (.land, 1) := by decide +kernel
theorem dL_law_154 : decode cL_law 154 = .ok (.lor, 1) := by decide +kernel
theorem dL_law_155 : decode cL_law 155 = .ok (.invokevirtual 19, 3) := by decide +kernel
theorem dL_law_158 : decode cL_law 158 = .ok (.if_icmp .eq 376, 3) := by decide +kernel
theorem dL_law_161 : decode cL_law 161 = .ok (.iconst 0, 1) := by decide +kernel
theorem dL_law_162 : decode cL_law 162 = .ok (.ireturn, 1) := by decide +kernel
theorem dL_law_163 : decode cL_law 163 = .ok (.aload_n 1, 1) := by decide +kernel
theorem dL_law_164 : decode cL_law 164 = .ok (.aload_n 0, 1) := by decide +kernel
theorem dL_law_165 : decode cL_law 165 = .ok (.iload_n 3, 1) := by decide +kernel
theorem dL_law_166 : decode cL_law 166 = .ok (.iconst 1, 1) := by decide +kernel
theorem dL_law_167 : decode cL_law 167 = .ok (.iadd, 1) := by decide +kernel
theorem dL_law_168 : decode cL_law 168 = .ok (.iaload, 1) := by decide +kernel
theorem dL_law_169 : decode cL_law 169 = .ok (.invokevirtual 20, 3) := by decide +kernel
theorem dL_law_172 : decode cL_law 172 = .ok (.aload_n 2, 1) := by decide +kernel
theorem dL_law_173 : decode cL_law 173 = .ok (.aload_n 0, 1) := by decide +kernel
theorem dL_law_174 : decode cL_law 174 = .ok (.iload_n 3, 1) := by decide +kernel
theorem dL_law_175 : decode cL_law 175 = .ok (.iconst 1, 1) := by decide +kernel
theorem dL_law_176 : decode cL_law 176 = .ok (.iadd, 1) := by decide +kernel
theorem dL_law_177 : decode cL_law 177 = .ok (.iaload, 1) := by decide +kernel
theorem dL_law_178 : decode cL_law 178 = .ok (.invokevirtual 24, 3) := by decide +kernel
theorem dL_law_181 : decode cL_law 181 = .ok (.lcmp, 1) := by decide +kernel
theorem dL_law_182 : decode cL_law 182 = .ok (.ifCond .eq 352, 3) := by decide +kernel
theorem dL_law_185 : decode cL_law 185 = .ok (.iconst 0, 1) := by decide +kernel
theorem dL_law_186 : decode cL_law 186 = .ok (.ireturn, 1) := by decide +kernel
theorem dL_law_187 : decode cL_law 187 = .ok (.aload_n 1, 1) := by decide +kernel
theorem dL_law_188 : decode cL_law 188 = .ok (.aload_n 0, 1) := by decide +kernel
theorem dL_law_189 : decode cL_law 189 = .ok (.iload_n 3, 1) := by decide +kernel
theorem dL_law_190 : decode cL_law 190 = .ok (.iconst 1, 1) := by decide +kernel
theorem dL_law_191 : decode cL_law 191 = .ok (.iadd, 1) := by decide +kernel
theorem dL_law_192 : decode cL_law 192 = .ok (.iaload, 1) := by decide +kernel
theorem dL_law_193 : decode cL_law 193 = .ok (.aload_n 0, 1) := by decide +kernel
theorem dL_law_194 : decode cL_law 194 = .ok (.iload_n 3, 1) := by decide +kernel
theorem dL_law_195 : decode cL_law 195 = .ok (.iconst 2, 1) := by decide +kernel
theorem dL_law_196 : decode cL_law 196 = .ok (.iadd, 1) := by decide +kernel
theorem dL_law_197 : decode cL_law 197 = .ok (.iaload, 1) := by decide +kernel
theorem dL_law_198 : decode cL_law 198 = .ok (.invokevirtual 25, 3) := by decide +kernel
theorem dL_law_201 : decode cL_law 201 = .ok (.aload_n 2, 1) := by decide +kernel
theorem dL_law_202 : decode cL_law 202 = .ok (.aload_n 0, 1) := by decide +kernel
theorem dL_law_203 : decode cL_law 203 = .ok (.iload_n 3, 1) := by decide +kernel
theorem dL_law_204 : decode cL_law 204 = .ok (.iconst 1, 1) := by decide +kernel
theorem dL_law_205 : decode cL_law 205 = .ok (.iadd, 1) := by decide +kernel
theorem dL_law_206 : decode cL_law 206 = .ok (.iaload, 1) := by decide +kernel
theorem dL_law_207 : decode cL_law 207 = .ok (.aload_n 0, 1) := by decide +kernel
theorem dL_law_208 : decode cL_law 208 = .ok (.iload_n 3, 1) := by decide +kernel
theorem dL_law_209 : decode cL_law 209 = .ok (.iconst 2, 1) := by decide +kernel
theorem dL_law_210 : decode cL_law 210 = .ok (.iadd, 1) := by decide +kernel
theorem dL_law_211 : decode cL_law 211 = .ok (.iaload, 1) := by decide +kernel
theorem dL_law_212 : decode cL_law 212 = .ok (.invokevirtual 29, 3) := by decide +kernel
theorem dL_law_215 : decode cL_law 215 = .ok (.if_icmp .eq 319, 3) := by decide +kernel
theorem dL_law_218 : decode cL_law 218 = .ok (.iconst 0, 1) := by decide +kernel
theorem dL_law_219 : decode cL_law 219 = .ok (.ireturn, 1) := by decide +kernel
theorem dL_law_220 : decode cL_law 220 = .ok (.aload_n 1, 1) := by decide +kernel
theorem dL_law_221 : decode cL_law 221 = .ok (.aload_n 0, 1) := by decide +kernel
theorem dL_law_222 : decode cL_law 222 = .ok (.iload_n 3, 1) := by decide +kernel
theorem dL_law_223 : decode cL_law 223 = .ok (.iconst 1, 1) := by decide +kernel
theorem dL_law_224 : decode cL_law 224 = .ok (.iadd, 1) := by decide +kernel
theorem dL_law_225 : decode cL_law 225 = .ok (.iaload, 1) := by decide +kernel
theorem dL_law_226 : decode cL_law 226 = .ok (.aload_n 0, 1) := by decide +kernel
theorem dL_law_227 : decode cL_law 227 = .ok (.iload_n 3, 1) := by decide +kernel
theorem dL_law_228 : decode cL_law 228 = .ok (.iconst 2, 1) := by decide +kernel
theorem dL_law_229 : decode cL_law 229 = .ok (.iadd, 1) := by decide +kernel
theorem dL_law_230 : decode cL_law 230 = .ok (.iaload, 1) := by decide +kernel
theorem dL_law_231 : decode cL_law 231 = .ok (.aload_n 0, 1) := by decide +kernel
theorem dL_law_232 : decode cL_law 232 = .ok (.iload_n 3, 1) := by decide +kernel
theorem dL_law_233 : decode cL_law 233 = .ok (.iconst 3, 1) := by decide +kernel
theorem dL_law_234 : decode cL_law 234 = .ok (.iadd, 1) := by decide +kernel
theorem dL_law_235 : decode cL_law 235 = .ok (.iaload, 1) := by decide +kernel
theorem dL_law_236 : decode cL_law 236 = .ok (.invokevirtual 30, 3) := by decide +kernel
theorem dL_law_239 : decode cL_law 239 = .ok (.aload_n 2, 1) := by decide +kernel
theorem dL_law_240 : decode cL_law 240 = .ok (.aload_n 0, 1) := by decide +kernel
theorem dL_law_241 : decode cL_law 241 = .ok (.iload_n 3, 1) := by decide +kernel
theorem dL_law_242 : decode cL_law 242 = .ok (.iconst 1, 1) := by decide +kernel
theorem dL_law_243 : decode cL_law 243 = .ok (.iadd, 1) := by decide +kernel
theorem dL_law_244 : decode cL_law 244 = .ok (.iaload, 1) := by decide +kernel
theorem dL_law_245 : decode cL_law 245 = .ok (.aload_n 0, 1) := by decide +kernel
theorem dL_law_246 : decode cL_law 246 = .ok (.iload_n 3, 1) := by decide +kernel
theorem dL_law_247 : decode cL_law 247 = .ok (.iconst 2, 1) := by decide +kernel
theorem dL_law_248 : decode cL_law 248 = .ok (.iadd, 1) := by decide +kernel
theorem dL_law_249 : decode cL_law 249 = .ok (.iaload, 1) := by decide +kernel
theorem dL_law_250 : decode cL_law 250 = .ok (.aload_n 0, 1) := by decide +kernel
theorem dL_law_251 : decode cL_law 251 = .ok (.iload_n 3, 1) := by decide +kernel
theorem dL_law_252 : decode cL_law 252 = .ok (.iconst 3, 1) := by decide +kernel
theorem dL_law_253 : decode cL_law 253 = .ok (.iadd, 1) := by decide +kernel
theorem dL_law_254 : decode cL_law 254 = .ok (.iaload, 1) := by decide +kernel
theorem dL_law_255 : decode cL_law 255 = .ok (.invokevirtual 34, 3) := by decide +kernel
theorem dL_law_258 : decode cL_law 258 = .ok (.if_icmp .eq 276, 3) := by decide +kernel
theorem dL_law_261 : decode cL_law 261 = .ok (.iconst 0, 1) := by decide +kernel
theorem dL_law_262 : decode cL_law 262 = .ok (.ireturn, 1) := by decide +kernel
theorem dL_law_263 : decode cL_law 263 = .ok (.aload_n 1, 1) := by decide +kernel
theorem dL_law_264 : decode cL_law 264 = .ok (.aload_n 0, 1) := by decide +kernel
theorem dL_law_265 : decode cL_law 265 = .ok (.iload_n 3, 1) := by decide +kernel
theorem dL_law_266 : decode cL_law 266 = .ok (.iconst 1, 1) := by decide +kernel
theorem dL_law_267 : decode cL_law 267 = .ok (.iadd, 1) := by decide +kernel
theorem dL_law_268 : decode cL_law 268 = .ok (.iaload, 1) := by decide +kernel
theorem dL_law_269 : decode cL_law 269 = .ok (.aload_n 0, 1) := by decide +kernel
theorem dL_law_270 : decode cL_law 270 = .ok (.iload_n 3, 1) := by decide +kernel
theorem dL_law_271 : decode cL_law 271 = .ok (.iconst 2, 1) := by decide +kernel
theorem dL_law_272 : decode cL_law 272 = .ok (.iadd, 1) := by decide +kernel
theorem dL_law_273 : decode cL_law 273 = .ok (.iaload, 1) := by decide +kernel
theorem dL_law_274 : decode cL_law 274 = .ok (.aload_n 0, 1) := by decide +kernel
theorem dL_law_275 : decode cL_law 275 = .ok (.iload_n 3, 1) := by decide +kernel
theorem dL_law_276 : decode cL_law 276 = .ok (.iconst 3, 1) := by decide +kernel
theorem dL_law_277 : decode cL_law 277 = .ok (.iadd, 1) := by decide +kernel
theorem dL_law_278 : decode cL_law 278 = .ok (.iaload, 1) := by decide +kernel
theorem dL_law_279 : decode cL_law 279 = .ok (.aload_n 0, 1) := by decide +kernel
theorem dL_law_280 : decode cL_law 280 = .ok (.iload_n 3, 1) := by decide +kernel
theorem dL_law_281 : decode cL_law 281 = .ok (.iconst 4, 1) := by decide +kernel
theorem dL_law_282 : decode cL_law 282 = .ok (.iadd, 1) := by decide +kernel
theorem dL_law_283 : decode cL_law 283 = .ok (.iaload, 1) := by decide +kernel
theorem dL_law_284 : decode cL_law 284 = .ok (.ifCond .eq 7, 3) := by decide +kernel
theorem dL_law_287 : decode cL_law 287 = .ok (.iconst 1, 1) := by decide +kernel
theorem dL_law_288 : decode cL_law 288 = .ok (.goto 4, 3) := by decide +kernel
theorem dL_law_291 : decode cL_law 291 = .ok (.iconst 0, 1) := by decide +kernel
theorem dL_law_292 : decode cL_law 292 = .ok (.invokevirtual 35, 3) := by decide +kernel
theorem dL_law_295 : decode cL_law 295 = .ok (.aload_n 2, 1) := by decide +kernel
theorem dL_law_296 : decode cL_law 296 = .ok (.aload_n 0, 1) := by decide +kernel
theorem dL_law_297 : decode cL_law 297 = .ok (.iload_n 3, 1) := by decide +kernel
theorem dL_law_298 : decode cL_law 298 = .ok (.iconst 1, 1) := by decide +kernel
theorem dL_law_299 : decode cL_law 299 = .ok (.iadd, 1) := by decide +kernel
theorem dL_law_300 : decode cL_law 300 = .ok (.iaload, 1) := by decide +kernel
theorem dL_law_301 : decode cL_law 301 = .ok (.aload_n 0, 1) := by decide +kernel
theorem dL_law_302 : decode cL_law 302 = .ok (.iload_n 3, 1) := by decide +kernel
theorem dL_law_303 : decode cL_law 303 = .ok (.iconst 2, 1) := by decide +kernel
theorem dL_law_304 : decode cL_law 304 = .ok (.iadd, 1) := by decide +kernel
theorem dL_law_305 : decode cL_law 305 = .ok (.iaload, 1) := by decide +kernel
theorem dL_law_306 : decode cL_law 306 = .ok (.aload_n 0, 1) := by decide +kernel
theorem dL_law_307 : decode cL_law 307 = .ok (.iload_n 3, 1) := by decide +kernel
theorem dL_law_308 : decode cL_law 308 = .ok (.iconst 3, 1) := by decide +kernel
theorem dL_law_309 : decode cL_law 309 = .ok (.iadd, 1) := by decide +kernel
theorem dL_law_310 : decode cL_law 310 = .ok (.iaload, 1) := by decide +kernel
theorem dL_law_311 : decode cL_law 311 = .ok (.aload_n 0, 1) := by decide +kernel
theorem dL_law_312 : decode cL_law 312 = .ok (.iload_n 3, 1) := by decide +kernel
theorem dL_law_313 : decode cL_law 313 = .ok (.iconst 4, 1) := by decide +kernel
theorem dL_law_314 : decode cL_law 314 = .ok (.iadd, 1) := by decide +kernel
theorem dL_law_315 : decode cL_law 315 = .ok (.iaload, 1) := by decide +kernel
theorem dL_law_316 : decode cL_law 316 = .ok (.ifCond .eq 7, 3) := by decide +kernel
theorem dL_law_319 : decode cL_law 319 = .ok (.iconst 1, 1) := by decide +kernel
theorem dL_law_320 : decode cL_law 320 = .ok (.goto 4, 3) := by decide +kernel
theorem dL_law_323 : decode cL_law 323 = .ok (.iconst 0, 1) := by decide +kernel
theorem dL_law_324 : decode cL_law 324 = .ok (.invokevirtual 39, 3) := by decide +kernel
theorem dL_law_327 : decode cL_law 327 = .ok (.if_icmp .eq 207, 3) := by decide +kernel
theorem dL_law_330 : decode cL_law 330 = .ok (.iconst 0, 1) := by decide +kernel
theorem dL_law_331 : decode cL_law 331 = .ok (.ireturn, 1) := by decide +kernel
theorem dL_law_332 : decode cL_law 332 = .ok (.aload_n 1, 1) := by decide +kernel
theorem dL_law_333 : decode cL_law 333 = .ok (.invokevirtual 40, 3) := by decide +kernel
theorem dL_law_336 : decode cL_law 336 = .ok (.aload_n 2, 1) := by decide +kernel
theorem dL_law_337 : decode cL_law 337 = .ok (.invokevirtual 44, 3) := by decide +kernel
theorem dL_law_340 : decode cL_law 340 = .ok (.if_icmp .eq 194, 3) := by decide +kernel
theorem dL_law_343 : decode cL_law 343 = .ok (.iconst 0, 1) := by decide +kernel
theorem dL_law_344 : decode cL_law 344 = .ok (.ireturn, 1) := by decide +kernel
theorem dL_law_345 : decode cL_law 345 = .ok (.aload_n 1, 1) := by decide +kernel
theorem dL_law_346 : decode cL_law 346 = .ok (.aload_n 0, 1) := by decide +kernel
theorem dL_law_347 : decode cL_law 347 = .ok (.iload_n 3, 1) := by decide +kernel
theorem dL_law_348 : decode cL_law 348 = .ok (.iconst 1, 1) := by decide +kernel
theorem dL_law_349 : decode cL_law 349 = .ok (.iadd, 1) := by decide +kernel
theorem dL_law_350 : decode cL_law 350 = .ok (.iaload, 1) := by decide +kernel
theorem dL_law_351 : decode cL_law 351 = .ok (.aload_n 0, 1) := by decide +kernel
theorem dL_law_352 : decode cL_law 352 = .ok (.iload_n 3, 1) := by decide +kernel
theorem dL_law_353 : decode cL_law 353 = .ok (.iconst 2, 1) := by decide +kernel
theorem dL_law_354 : decode cL_law 354 = .ok (.iadd, 1) := by decide +kernel
theorem dL_law_355 : decode cL_law 355 = .ok (.iaload, 1) := by decide +kernel
theorem dL_law_356 : decode cL_law 356 = .ok (.aload_n 0, 1) := by decide +kernel
theorem dL_law_357 : decode cL_law 357 = .ok (.iload_n 3, 1) := by decide +kernel
theorem dL_law_358 : decode cL_law 358 = .ok (.iconst 3, 1) := by decide +kernel
theorem dL_law_359 : decode cL_law 359 = .ok (.iadd, 1) := by decide +kernel
theorem dL_law_360 : decode cL_law 360 = .ok (.iaload, 1) := by decide +kernel
theorem dL_law_361 : decode cL_law 361 = .ok (.invokevirtual 45, 3) := by decide +kernel
theorem dL_law_364 : decode cL_law 364 = .ok (.aload_n 2, 1) := by decide +kernel
theorem dL_law_365 : decode cL_law 365 = .ok (.aload_n 0, 1) := by decide +kernel
theorem dL_law_366 : decode cL_law 366 = .ok (.iload_n 3, 1) := by decide +kernel
theorem dL_law_367 : decode cL_law 367 = .ok (.iconst 1, 1) := by decide +kernel
theorem dL_law_368 : decode cL_law 368 = .ok (.iadd, 1) := by decide +kernel
theorem dL_law_369 : decode cL_law 369 = .ok (.iaload, 1) := by decide +kernel
theorem dL_law_370 : decode cL_law 370 = .ok (.aload_n 0, 1) := by decide +kernel
theorem dL_law_371 : decode cL_law 371 = .ok (.iload_n 3, 1) := by decide +kernel
theorem dL_law_372 : decode cL_law 372 = .ok (.iconst 2, 1) := by decide +kernel
theorem dL_law_373 : decode cL_law 373 = .ok (.iadd, 1) := by decide +kernel
theorem dL_law_374 : decode cL_law 374 = .ok (.iaload, 1) := by decide +kernel
theorem dL_law_375 : decode cL_law 375 = .ok (.aload_n 0, 1) := by decide +kernel
theorem dL_law_376 : decode cL_law 376 = .ok (.iload_n 3, 1) := by decide +kernel
theorem dL_law_377 : decode cL_law 377 = .ok (.iconst 3, 1) := by decide +kernel
theorem dL_law_378 : decode cL_law 378 = .ok (.iadd, 1) := by decide +kernel
theorem dL_law_379 : decode cL_law 379 = .ok (.iaload, 1) := by decide +kernel
theorem dL_law_380 : decode cL_law 380 = .ok (.invokevirtual 48, 3) := by decide +kernel
theorem dL_law_383 : decode cL_law 383 = .ok (.if_icmp .eq 151, 3) := by decide +kernel
theorem dL_law_386 : decode cL_law 386 = .ok (.iconst 0, 1) := by decide +kernel
theorem dL_law_387 : decode cL_law 387 = .ok (.ireturn, 1) := by decide +kernel
theorem dL_law_388 : decode cL_law 388 = .ok (.aload_n 1, 1) := by decide +kernel
theorem dL_law_389 : decode cL_law 389 = .ok (.aload_n 0, 1) := by decide +kernel
theorem dL_law_390 : decode cL_law 390 = .ok (.iload_n 3, 1) := by decide +kernel
theorem dL_law_391 : decode cL_law 391 = .ok (.iconst 1, 1) := by decide +kernel
theorem dL_law_392 : decode cL_law 392 = .ok (.iadd, 1) := by decide +kernel
theorem dL_law_393 : decode cL_law 393 = .ok (.iaload, 1) := by decide +kernel
theorem dL_law_394 : decode cL_law 394 = .ok (.aload_n 0, 1) := by decide +kernel
theorem dL_law_395 : decode cL_law 395 = .ok (.iload_n 3, 1) := by decide +kernel
theorem dL_law_396 : decode cL_law 396 = .ok (.iconst 2, 1) := by decide +kernel
theorem dL_law_397 : decode cL_law 397 = .ok (.iadd, 1) := by decide +kernel
theorem dL_law_398 : decode cL_law 398 = .ok (.iaload, 1) := by decide +kernel
theorem dL_law_399 : decode cL_law 399 = .ok (.aload_n 0, 1) := by decide +kernel
theorem dL_law_400 : decode cL_law 400 = .ok (.iload_n 3, 1) := by decide +kernel
theorem dL_law_401 : decode cL_law 401 = .ok (.iconst 3, 1) := by decide +kernel
theorem dL_law_402 : decode cL_law 402 = .ok (.iadd, 1) := by decide +kernel
theorem dL_law_403 : decode cL_law 403 = .ok (.iaload, 1) := by decide +kernel
theorem dL_law_404 : decode cL_law 404 = .ok (.invokevirtual 49, 3) := by decide +kernel
theorem dL_law_407 : decode cL_law 407 = .ok (.aload_n 2, 1) := by decide +kernel
theorem dL_law_408 : decode cL_law 408 = .ok (.aload_n 0, 1) := by decide +kernel
theorem dL_law_409 : decode cL_law 409 = .ok (.iload_n 3, 1) := by decide +kernel
theorem dL_law_410 : decode cL_law 410 = .ok (.iconst 1, 1) := by decide +kernel
theorem dL_law_411 : decode cL_law 411 = .ok (.iadd, 1) := by decide +kernel
theorem dL_law_412 : decode cL_law 412 = .ok (.iaload, 1) := by decide +kernel
theorem dL_law_413 : decode cL_law 413 = .ok (.aload_n 0, 1) := by decide +kernel
theorem dL_law_414 : decode cL_law 414 = .ok (.iload_n 3, 1) := by decide +kernel
theorem dL_law_415 : decode cL_law 415 = .ok (.iconst 2, 1) := by decide +kernel
theorem dL_law_416 : decode cL_law 416 = .ok (.iadd, 1) := by decide +kernel
theorem dL_law_417 : decode cL_law 417 = .ok (.iaload, 1) := by decide +kernel
theorem dL_law_418 : decode cL_law 418 = .ok (.aload_n 0, 1) := by decide +kernel
theorem dL_law_419 : decode cL_law 419 = .ok (.iload_n 3, 1) := by decide +kernel
theorem dL_law_420 : decode cL_law 420 = .ok (.iconst 3, 1) := by decide +kernel
theorem dL_law_421 : decode cL_law 421 = .ok (.iadd, 1) := by decide +kernel
theorem dL_law_422 : decode cL_law 422 = .ok (.iaload, 1) := by decide +kernel
theorem dL_law_423 : decode cL_law 423 = .ok (.invokevirtual 52, 3) := by decide +kernel
theorem dL_law_426 : decode cL_law 426 = .ok (.if_icmp .eq 108, 3) := by decide +kernel
theorem dL_law_429 : decode cL_law 429 = .ok (.iconst 0, 1) := by decide +kernel
theorem dL_law_430 : decode cL_law 430 = .ok (.ireturn, 1) := by decide +kernel
theorem dL_law_431 : decode cL_law 431 = .ok (.aload_n 1, 1) := by decide +kernel
theorem dL_law_432 : decode cL_law 432 = .ok (.aload_n 0, 1) := by decide +kernel
theorem dL_law_433 : decode cL_law 433 = .ok (.iload_n 3, 1) := by decide +kernel
theorem dL_law_434 : decode cL_law 434 = .ok (.iconst 1, 1) := by decide +kernel
theorem dL_law_435 : decode cL_law 435 = .ok (.iadd, 1) := by decide +kernel
theorem dL_law_436 : decode cL_law 436 = .ok (.iaload, 1) := by decide +kernel
theorem dL_law_437 : decode cL_law 437 = .ok (.invokevirtual 53, 3) := by decide +kernel
theorem dL_law_440 : decode cL_law 440 = .ok (.aload_n 2, 1) := by decide +kernel
theorem dL_law_441 : decode cL_law 441 = .ok (.aload_n 0, 1) := by decide +kernel
theorem dL_law_442 : decode cL_law 442 = .ok (.iload_n 3, 1) := by decide +kernel
theorem dL_law_443 : decode cL_law 443 = .ok (.iconst 1, 1) := by decide +kernel
theorem dL_law_444 : decode cL_law 444 = .ok (.iadd, 1) := by decide +kernel
theorem dL_law_445 : decode cL_law 445 = .ok (.iaload, 1) := by decide +kernel
theorem dL_law_446 : decode cL_law 446 = .ok (.invokevirtual 57, 3) := by decide +kernel
theorem dL_law_449 : decode cL_law 449 = .ok (.if_icmp .eq 85, 3) := by decide +kernel
theorem dL_law_452 : decode cL_law 452 = .ok (.iconst 0, 1) := by decide +kernel
theorem dL_law_453 : decode cL_law 453 = .ok (.ireturn, 1) := by decide +kernel
theorem dL_law_454 : decode cL_law 454 = .ok (.aload_n 1, 1) := by decide +kernel
theorem dL_law_455 : decode cL_law 455 = .ok (.aload_n 0, 1) := by decide +kernel
theorem dL_law_456 : decode cL_law 456 = .ok (.iload_n 3, 1) := by decide +kernel
theorem dL_law_457 : decode cL_law 457 = .ok (.iconst 1, 1) := by decide +kernel
theorem dL_law_458 : decode cL_law 458 = .ok (.iadd, 1) := by decide +kernel
theorem dL_law_459 : decode cL_law 459 = .ok (.iaload, 1) := by decide +kernel
theorem dL_law_460 : decode cL_law 460 = .ok (.aload_n 0, 1) := by decide +kernel
theorem dL_law_461 : decode cL_law 461 = .ok (.iload_n 3, 1) := by decide +kernel
theorem dL_law_462 : decode cL_law 462 = .ok (.iconst 2, 1) := by decide +kernel
theorem dL_law_463 : decode cL_law 463 = .ok (.iadd, 1) := by decide +kernel
theorem dL_law_464 : decode cL_law 464 = .ok (.iaload, 1) := by decide +kernel
theorem dL_law_465 : decode cL_law 465 = .ok (.invokevirtual 58, 3) := by decide +kernel
theorem dL_law_468 : decode cL_law 468 = .ok (.aload_n 2, 1) := by decide +kernel
theorem dL_law_469 : decode cL_law 469 = .ok (.aload_n 0, 1) := by decide +kernel
theorem dL_law_470 : decode cL_law 470 = .ok (.iload_n 3, 1) := by decide +kernel
theorem dL_law_471 : decode cL_law 471 = .ok (.iconst 1, 1) := by decide +kernel
theorem dL_law_472 : decode cL_law 472 = .ok (.iadd, 1) := by decide +kernel
theorem dL_law_473 : decode cL_law 473 = .ok (.iaload, 1) := by decide +kernel
theorem dL_law_474 : decode cL_law 474 = .ok (.aload_n 0, 1) := by decide +kernel
theorem dL_law_475 : decode cL_law 475 = .ok (.iload_n 3, 1) := by decide +kernel
theorem dL_law_476 : decode cL_law 476 = .ok (.iconst 2, 1) := by decide +kernel
theorem dL_law_477 : decode cL_law 477 = .ok (.iadd, 1) := by decide +kernel
theorem dL_law_478 : decode cL_law 478 = .ok (.iaload, 1) := by decide +kernel
theorem dL_law_479 : decode cL_law 479 = .ok (.invokevirtual 62, 3) := by decide +kernel
theorem dL_law_482 : decode cL_law 482 = .ok (.if_icmp .eq 52, 3) := by decide +kernel
theorem dL_law_485 : decode cL_law 485 = .ok (.iconst 0, 1) := by decide +kernel
theorem dL_law_486 : decode cL_law 486 = .ok (.ireturn, 1) := by decide +kernel
theorem dL_law_487 : decode cL_law 487 = .ok (.aload_n 1, 1) := by decide +kernel
theorem dL_law_488 : decode cL_law 488 = .ok (.aload_n 0, 1) := by decide +kernel
theorem dL_law_489 : decode cL_law 489 = .ok (.iload_n 3, 1) := by decide +kernel
theorem dL_law_490 : decode cL_law 490 = .ok (.iconst 1, 1) := by decide +kernel
theorem dL_law_491 : decode cL_law 491 = .ok (.iadd, 1) := by decide +kernel
theorem dL_law_492 : decode cL_law 492 = .ok (.iaload, 1) := by decide +kernel
theorem dL_law_493 : decode cL_law 493 = .ok (.invokevirtual 63, 3) := by decide +kernel
theorem dL_law_496 : decode cL_law 496 = .ok (.aload_n 2, 1) := by decide +kernel
theorem dL_law_497 : decode cL_law 497 = .ok (.aload_n 0, 1) := by decide +kernel
theorem dL_law_498 : decode cL_law 498 = .ok (.iload_n 3, 1) := by decide +kernel
theorem dL_law_499 : decode cL_law 499 = .ok (.iconst 1, 1) := by decide +kernel
theorem dL_law_500 : decode cL_law 500 = .ok (.iadd, 1) := by decide +kernel
theorem dL_law_501 : decode cL_law 501 = .ok (.iaload, 1) := by decide +kernel
theorem dL_law_502 : decode cL_law 502 = .ok (.invokevirtual 66, 3) := by decide +kernel
theorem dL_law_505 : decode cL_law 505 = .ok (.if_icmp .eq 29, 3) := by decide +kernel
theorem dL_law_508 : decode cL_law 508 = .ok (.iconst 0, 1) := by decide +kernel
theorem dL_law_509 : decode cL_law 509 = .ok (.ireturn, 1) := by decide +kernel
theorem dL_law_510 : decode cL_law 510 = .ok (.aload_n 1, 1) := by decide +kernel
theorem dL_law_511 : decode cL_law 511 = .ok (.invokevirtual 67, 3) := by decide +kernel
theorem dL_law_514 : decode cL_law 514 = .ok (.aload_n 2, 1) := by decide +kernel
theorem dL_law_515 : decode cL_law 515 = .ok (.invokevirtual 70, 3) := by decide +kernel
theorem dL_law_518 : decode cL_law 518 = .ok (.if_icmp .eq 16, 3) := by decide +kernel
theorem dL_law_521 : decode cL_law 521 = .ok (.iconst 0, 1) := by decide +kernel
theorem dL_law_522 : decode cL_law 522 = .ok (.ireturn, 1) := by decide +kernel
theorem dL_law_523 : decode cL_law 523 = .ok (.aload_n 1, 1) := by decide +kernel
theorem dL_law_524 : decode cL_law 524 = .ok (.invokevirtual 71, 3) := by decide +kernel
theorem dL_law_527 : decode cL_law 527 = .ok (.aload_n 2, 1) := by decide +kernel
theorem dL_law_528 : decode cL_law 528 = .ok (.invokevirtual 74, 3) := by decide +kernel
theorem dL_law_531 : decode cL_law 531 = .ok (.goto 3, 3) := by decide +kernel
theorem dL_law_534 : decode cL_law 534 = .ok (.iinc 3 5, 3) := by decide +kernel
theorem dL_law_537 : decode cL_law 537 = .ok (.goto (-519), 3) := by decide +kernel
theorem dL_law_540 : decode cL_law 540 = .ok (.iconst 1, 1) := by decide +kernel
theorem dL_law_541 : decode cL_law 541 = .ok (.ireturn, 1) := by decide +kernel
abbrev vwCl : List vw_C := [(RX0, TX0, 3), (RX1, TX1, 5)]
