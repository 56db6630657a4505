section
-- ===== PART A: goes FIRST, ahead of the names: the tables' words, and 'selects' of the private methods out of them =====
/-- a private method of a class that the tables say can be made, by its rows of tables_1 -/
def lw_okq (q : MethodName × Nat) : Prop := (q.1.cls ≠ "java/lang/invoke/MethodHandle" ∧ q.1.cls ≠ "java/lang/invoke/VarHandle") ∧ Cond.instantiable q.1.cls q.2 ∈ tables_1 ∧ Cond.privateMethod q.1 ∈ tables_1 ∧ Cond.instanceMethod q.1 ∈ tables_1
theorem lw_p0 : lw_okq (⟨"BinaryFunctions", "squareRoot", "(J)J"⟩, 3) := ⟨⟨by decide +kernel, by decide +kernel⟩, List.mem_of_getElem? (i := 7) (by decide +kernel), List.mem_of_getElem? (i := 41) (by decide +kernel), List.mem_of_getElem? (i := 42) (by decide +kernel)⟩
theorem lw_p1 : lw_okq (⟨"BinaryFunctions", "raise", "(I)V"⟩, 3) := ⟨⟨by decide +kernel, by decide +kernel⟩, List.mem_of_getElem? (i := 7) (by decide +kernel), List.mem_of_getElem? (i := 54) (by decide +kernel), List.mem_of_getElem? (i := 55) (by decide +kernel)⟩
theorem lw_p2 : lw_okq (⟨"BinaryFunctions", "rootOfPositive", "(J)J"⟩, 3) := ⟨⟨by decide +kernel, by decide +kernel⟩, List.mem_of_getElem? (i := 7) (by decide +kernel), List.mem_of_getElem? (i := 58) (by decide +kernel), List.mem_of_getElem? (i := 59) (by decide +kernel)⟩
theorem lw_p3 : lw_okq (⟨"BinaryFunctions", "madeWhole", "(JI)J"⟩, 3) := ⟨⟨by decide +kernel, by decide +kernel⟩, List.mem_of_getElem? (i := 7) (by decide +kernel), List.mem_of_getElem? (i := 102) (by decide +kernel), List.mem_of_getElem? (i := 103) (by decide +kernel)⟩
theorem lw_p4 : lw_okq (⟨"BinaryFunctions", "remainder", "(JJZ)J"⟩, 3) := ⟨⟨by decide +kernel, by decide +kernel⟩, List.mem_of_getElem? (i := 7) (by decide +kernel), List.mem_of_getElem? (i := 123) (by decide +kernel), List.mem_of_getElem? (i := 124) (by decide +kernel)⟩
theorem lw_p5 : lw_okq (⟨"BinaryFunctions", "remainderOfFinite", "(JJIZ)J"⟩, 3) := ⟨⟨by decide +kernel, by decide +kernel⟩, List.mem_of_getElem? (i := 7) (by decide +kernel), List.mem_of_getElem? (i := 127) (by decide +kernel), List.mem_of_getElem? (i := 128) (by decide +kernel)⟩
theorem lw_p6 : lw_okq (⟨"BinaryFunctions", "timesPowerOfTwo", "(JI)J"⟩, 3) := ⟨⟨by decide +kernel, by decide +kernel⟩, List.mem_of_getElem? (i := 7) (by decide +kernel), List.mem_of_getElem? (i := 150) (by decide +kernel), List.mem_of_getElem? (i := 151) (by decide +kernel)⟩
theorem lw_p7 : lw_okq (⟨"BinaryFunctions", "roundedToLeastPower", "(JI)J"⟩, 3) := ⟨⟨by decide +kernel, by decide +kernel⟩, List.mem_of_getElem? (i := 7) (by decide +kernel), List.mem_of_getElem? (i := 160) (by decide +kernel), List.mem_of_getElem? (i := 161) (by decide +kernel)⟩
theorem lw_p8 : lw_okq (⟨"BinaryFunctionsModel", "root", "(J)J"⟩, 5) := ⟨⟨by decide +kernel, by decide +kernel⟩, List.mem_of_getElem? (i := 189) (by decide +kernel), List.mem_of_getElem? (i := 241) (by decide +kernel), List.mem_of_getElem? (i := 242) (by decide +kernel)⟩
theorem lw_p9 : lw_okq (⟨"BinaryFunctionsModel", "squareFits", "(JJJ)Z"⟩, 5) := ⟨⟨by decide +kernel, by decide +kernel⟩, List.mem_of_getElem? (i := 189) (by decide +kernel), List.mem_of_getElem? (i := 255) (by decide +kernel), List.mem_of_getElem? (i := 256) (by decide +kernel)⟩
theorem lw_p10 : lw_okq (⟨"BinaryFunctionsModel", "multiply", "(JJ)V"⟩, 5) := ⟨⟨by decide +kernel, by decide +kernel⟩, List.mem_of_getElem? (i := 189) (by decide +kernel), List.mem_of_getElem? (i := 259) (by decide +kernel), List.mem_of_getElem? (i := 260) (by decide +kernel)⟩
theorem lw_p11 : lw_okq (⟨"BinaryFunctionsModel", "rest", "(JJZ)J"⟩, 5) := ⟨⟨by decide +kernel, by decide +kernel⟩, List.mem_of_getElem? (i := 189) (by decide +kernel), List.mem_of_getElem? (i := 287) (by decide +kernel), List.mem_of_getElem? (i := 288) (by decide +kernel)⟩
theorem lw_p12 : lw_okq (⟨"BinaryFunctionsModel", "rounded", "(JJ)J"⟩, 5) := ⟨⟨by decide +kernel, by decide +kernel⟩, List.mem_of_getElem? (i := 189) (by decide +kernel), List.mem_of_getElem? (i := 307) (by decide +kernel), List.mem_of_getElem? (i := 308) (by decide +kernel)⟩
def lw_privs_1 : List (MethodName × Nat) := [(⟨"BinaryFunctions", "squareRoot", "(J)J"⟩, 3), (⟨"BinaryFunctions", "raise", "(I)V"⟩, 3), (⟨"BinaryFunctions", "rootOfPositive", "(J)J"⟩, 3), (⟨"BinaryFunctions", "madeWhole", "(JI)J"⟩, 3), (⟨"BinaryFunctions", "remainder", "(JJZ)J"⟩, 3), (⟨"BinaryFunctions", "remainderOfFinite", "(JJIZ)J"⟩, 3), (⟨"BinaryFunctions", "timesPowerOfTwo", "(JI)J"⟩, 3), (⟨"BinaryFunctions", "roundedToLeastPower", "(JI)J"⟩, 3), (⟨"BinaryFunctionsModel", "root", "(J)J"⟩, 5), (⟨"BinaryFunctionsModel", "squareFits", "(JJJ)Z"⟩, 5), (⟨"BinaryFunctionsModel", "multiply", "(JJ)V"⟩, 5), (⟨"BinaryFunctionsModel", "rest", "(JJZ)J"⟩, 5), (⟨"BinaryFunctionsModel", "rounded", "(JJ)J"⟩, 5)]
theorem lw_r1 : ∀ q ∈ lw_privs_1, lw_okq q := List.forall_mem_cons.mpr ⟨lw_p0, List.forall_mem_cons.mpr ⟨lw_p1, List.forall_mem_cons.mpr ⟨lw_p2, List.forall_mem_cons.mpr ⟨lw_p3, List.forall_mem_cons.mpr ⟨lw_p4, List.forall_mem_cons.mpr ⟨lw_p5, List.forall_mem_cons.mpr ⟨lw_p6, List.forall_mem_cons.mpr ⟨lw_p7, List.forall_mem_cons.mpr ⟨lw_p8, List.forall_mem_cons.mpr ⟨lw_p9, List.forall_mem_cons.mpr ⟨lw_p10, List.forall_mem_cons.mpr ⟨lw_p11, List.forall_mem_cons.mpr ⟨lw_p12, fun _ h => absurd h List.not_mem_nil⟩⟩⟩⟩⟩⟩⟩⟩⟩⟩⟩⟩⟩
def lw_privs : List (MethodName × Nat) := lw_privs_1
def lw_tbl : List Cond := k2_sels lw_privs ++ tables_1
theorem lw_privs_ok : ∀ q ∈ lw_privs, lw_okq q := lw_r1
end
section
/-! ===== BEGIN words of one list among another's, by their places ===== -/
theorem goodIn_r {big : List Cond} (ws : List Cond) (ps : List Nat) (hp : ws = ps.filterMap (fun i => big[i]?)) (h : ws.all goodWord = true) : GoodIn big ws := by
  intro w hw
  have h1 := List.all_eq_true.mp h w hw
  rw [hp] at hw
  obtain ⟨i, -, hi⟩ := List.mem_filterMap.mp hw
  have hm : w ∈ big := by first | exact List.mem_of_getElem? hi | exact List.getElem?_mem hi
  exact ⟨hm, good_of_word h1⟩
theorem goodIn_app {big a b : List Cond} (ha : GoodIn big a) (hb : GoodIn big b) : GoodIn big (a ++ b) := fun w h => (List.mem_append.mp h).elim (ha w) (hb w)
theorem goodIn_ca {big a b : List Cond} {c : Cond} (ha : GoodIn big (c :: a)) (hb : GoodIn big b) : GoodIn big (c :: (a ++ b)) := fun w h => (List.mem_cons.mp h).elim (fun e => ha w (List.mem_cons.mpr (Or.inl e))) (fun h => (List.mem_append.mp h).elim (fun h => ha w (List.mem_cons.mpr (Or.inr h))) (hb w))
theorem goodIn_sub {big ws : List Cond} (hm : ∀ w ∈ ws, w ∈ big) (h : ws.all goodWord = true) : GoodIn big ws := fun w hw => ⟨hm w hw, good_of_word (List.all_eq_true.mp h w hw)⟩
/-! ===== END ===== -/

/-! ===== BEGIN printed: names, fields, word lists, decode rows ===== -/
def RX0 : String := "BinaryFunctions"
def TX0 : u_T := fun k => match k with
  | 0 => ("BinaryFunctions", "registers", "[J", true)
  | 1 => ("BinaryFunctions", "raised", "I", false)
  | _ => ("BinaryFunctions", "lastQuotient", "I", false)
def tyX0 : Nat → FieldType := fun k => match k with
  | 0 => .array .long
  | 1 => .int
  | _ => .int
abbrev wsX00 : List Cond := u_ws RX0 TX0 3
theorem nmX0 : ∀ a, a < 3 → ∀ b, b < 3 → a ≠ b → (TX0 a).2.1 ≠ (TX0 b).2.1 := by decide +kernel
theorem tyX0_ok : ∀ k, k < 3 → parseFieldDescriptor (TX0 k).2.2.1 = some (tyX0 k) := by decide +kernel
abbrev cX0_init : ByteArray := prog_1_method_1_code
def yX0_init : MethodName := ⟨RX0, "<init>", "()V"⟩
abbrev cX0_load : ByteArray := prog_1_method_2_code
def yX0_load : MethodName := ⟨RX0, "load", "(IJ)Z"⟩
abbrev cX0_bits : ByteArray := prog_1_method_3_code
def yX0_bits : MethodName := ⟨RX0, "bits", "(I)J"⟩
abbrev cX0_sqrt : ByteArray := prog_1_method_4_code
def yX0_sqrt : MethodName := ⟨RX0, "sqrt", "(II)Z"⟩
abbrev cX0_whole : ByteArray := prog_1_method_5_code
def yX0_whole : MethodName := ⟨RX0, "whole", "(III)Z"⟩
abbrev cX0_left : ByteArray := prog_1_method_6_code
def yX0_left : MethodName := ⟨RX0, "left", "(IIIZ)Z"⟩
abbrev cX0_quotient : ByteArray := prog_1_method_7_code
def yX0_quotient : MethodName := ⟨RX0, "quotient", "()I"⟩
abbrev cX0_neighbour : ByteArray := prog_1_method_8_code
def yX0_neighbour : MethodName := ⟨RX0, "neighbour", "(III)Z"⟩
abbrev cX0_scale : ByteArray := prog_1_method_9_code
def yX0_scale : MethodName := ⟨RX0, "scale", "(III)Z"⟩
abbrev cX0_exponent : ByteArray := prog_1_method_10_code
def yX0_exponent : MethodName := ⟨RX0, "exponent", "(I)I"⟩
abbrev cX0_compare : ByteArray := prog_1_method_11_code
def yX0_compare : MethodName := ⟨RX0, "compare", "(II)I"⟩
abbrev cX0_sort : ByteArray := prog_1_method_12_code
def yX0_sort : MethodName := ⟨RX0, "sort", "(I)I"⟩
abbrev cX0_flags : ByteArray := prog_1_method_13_code
def yX0_flags : MethodName := ⟨RX0, "flags", "()I"⟩
abbrev cX0_clear : ByteArray := prog_1_method_14_code
def yX0_clear : MethodName := ⟨RX0, "clear", "()V"⟩
abbrev cX0_isRegister : ByteArray := prog_1_method_15_code
def yX0_isRegister : MethodName := ⟨RX0, "isRegister", "(I)Z"⟩
abbrev cX0_raise : ByteArray := prog_1_method_16_code
def yX0_raise : MethodName := ⟨RX0, "raise", "(I)V"⟩
abbrev cX0_isZero : ByteArray := prog_1_method_17_code
def yX0_isZero : MethodName := ⟨RX0, "isZero", "(J)Z"⟩
abbrev cX0_isInfinity : ByteArray := prog_1_method_18_code
def yX0_isInfinity : MethodName := ⟨RX0, "isInfinity", "(J)Z"⟩
abbrev cX0_isNan : ByteArray := prog_1_method_19_code
def yX0_isNan : MethodName := ⟨RX0, "isNan", "(J)Z"⟩
abbrev cX0_signOf : ByteArray := prog_1_method_20_code
def yX0_signOf : MethodName := ⟨RX0, "signOf", "(J)J"⟩
abbrev cX0_sortOfAmount : ByteArray := prog_1_method_21_code
def yX0_sortOfAmount : MethodName := ⟨RX0, "sortOfAmount", "(J)I"⟩
abbrev cX0_fieldE : ByteArray := prog_1_method_22_code
def yX0_fieldE : MethodName := ⟨RX0, "fieldE", "(J)I"⟩
abbrev cX0_significand : ByteArray := prog_1_method_23_code
def yX0_significand : MethodName := ⟨RX0, "significand", "(J)J"⟩
abbrev cX0_power : ByteArray := prog_1_method_24_code
def yX0_power : MethodName := ⟨RX0, "power", "(J)I"⟩
abbrev cX0_spareRoom : ByteArray := prog_1_method_25_code
def yX0_spareRoom : MethodName := ⟨RX0, "spareRoom", "(J)I"⟩
abbrev cX0_fullSignificand : ByteArray := prog_1_method_26_code
def yX0_fullSignificand : MethodName := ⟨RX0, "fullSignificand", "(J)J"⟩
abbrev cX0_fullPower : ByteArray := prog_1_method_27_code
def yX0_fullPower : MethodName := ⟨RX0, "fullPower", "(J)I"⟩
abbrev cX0_pattern : ByteArray := prog_1_method_28_code
def yX0_pattern : MethodName := ⟨RX0, "pattern", "(JI)J"⟩
abbrev cX0_nearestShifted : ByteArray := prog_1_method_29_code
def yX0_nearestShifted : MethodName := ⟨RX0, "nearestShifted", "(JI)J"⟩
abbrev cX0_squareRoot : ByteArray := prog_1_method_30_code
def yX0_squareRoot : MethodName := ⟨RX0, "squareRoot", "(J)J"⟩
abbrev cX0_rootOfPositive : ByteArray := prog_1_method_31_code
def yX0_rootOfPositive : MethodName := ⟨RX0, "rootOfPositive", "(J)J"⟩
abbrev cX0_madeWhole : ByteArray := prog_1_method_32_code
def yX0_madeWhole : MethodName := ⟨RX0, "madeWhole", "(JI)J"⟩
abbrev cX0_wholeAmount : ByteArray := prog_1_method_33_code
def yX0_wholeAmount : MethodName := ⟨RX0, "wholeAmount", "(JIZI)J"⟩
abbrev cX0_remainder : ByteArray := prog_1_method_34_code
def yX0_remainder : MethodName := ⟨RX0, "remainder", "(JJZ)J"⟩
abbrev cX0_remainderOfFinite : ByteArray := prog_1_method_35_code
def yX0_remainderOfFinite : MethodName := ⟨RX0, "remainderOfFinite", "(JJIZ)J"⟩
abbrev cX0_place : ByteArray := prog_1_method_36_code
def yX0_place : MethodName := ⟨RX0, "place", "(J)J"⟩
abbrev cX0_nextTowards : ByteArray := prog_1_method_37_code
def yX0_nextTowards : MethodName := ⟨RX0, "nextTowards", "(JJ)J"⟩
abbrev cX0_timesPowerOfTwo : ByteArray := prog_1_method_38_code
def yX0_timesPowerOfTwo : MethodName := ⟨RX0, "timesPowerOfTwo", "(JI)J"⟩
abbrev cX0_roundedToLeastPower : ByteArray := prog_1_method_39_code
def yX0_roundedToLeastPower : MethodName := ⟨RX0, "roundedToLeastPower", "(JI)J"⟩
def RX1 : String := "BinaryFunctionsModel"
def TX1 : u_T := fun k => match k with
  | 0 => ("BinaryFunctionsModel", "register", "[J", false)
  | 1 => ("BinaryFunctionsModel", "flag", "I", false)
  | 2 => ("BinaryFunctionsModel", "quotient", "I", false)
  | 3 => ("BinaryFunctionsModel", "high", "J", false)
  | _ => ("BinaryFunctionsModel", "low", "J", false)
def tyX1 : Nat → FieldType := fun k => match k with
  | 0 => .array .long
  | 1 => .int
  | 2 => .int
  | 3 => .long
  | _ => .long
abbrev wsX10 : List Cond := u_ws RX1 TX1 5
theorem nmX1 : ∀ a, a < 5 → ∀ b, b < 5 → a ≠ b → (TX1 a).2.1 ≠ (TX1 b).2.1 := by decide +kernel
theorem tyX1_ok : ∀ k, k < 5 → parseFieldDescriptor (TX1 k).2.2.1 = some (tyX1 k) := by decide +kernel
def RJ6 : String := "java/lang/Integer"
def TJ6 : u_T := fun k => match k with
  | _ => ("", "", "", false)
def tyJ6 : Nat → FieldType := fun k => match k with
  | _ => .int
abbrev wsJ60 : List Cond := u_ws RJ6 TJ6 0
theorem nmJ6 : ∀ a, a < 0 → ∀ b, b < 0 → a ≠ b → (TJ6 a).2.1 ≠ (TJ6 b).2.1 := by decide +kernel
theorem tyJ6_ok : ∀ k, k < 0 → parseFieldDescriptor (TJ6 k).2.2.1 = some (tyJ6 k) := by decide +kernel
abbrev cJ6_numberOfLeadingZeros_0f7a4 : ByteArray := prog_4_method_47_code
def yJ6_numberOfLeadingZeros_0f7a4 : MethodName := ⟨RJ6, "numberOfLeadingZeros", "(I)I"⟩
def RJ13 : String := "java/lang/Long"
def TJ13 : u_T := fun k => match k with
  | _ => ("", "", "", false)
def tyJ13 : Nat → FieldType := fun k => match k with
  | _ => .int
abbrev wsJ130 : List Cond := u_ws RJ13 TJ13 0
theorem nmJ13 : ∀ a, a < 0 → ∀ b, b < 0 → a ≠ b → (TJ13 a).2.1 ≠ (TJ13 b).2.1 := by decide +kernel
theorem tyJ13_ok : ∀ k, k < 0 → parseFieldDescriptor (TJ13 k).2.2.1 = some (tyJ13 k) := by decide +kernel
abbrev cJ13_numberOfLeadingZeros_95d88 : ByteArray := prog_5_method_48_code
def yJ13_numberOfLeadingZeros_95d88 : MethodName := ⟨RJ13, "numberOfLeadingZeros", "(J)I"⟩
def RJ9 : String := "java/lang/Math"
def TJ9 : u_T := fun k => match k with
  | _ => ("", "", "", false)
def tyJ9 : Nat → FieldType := fun k => match k with
  | _ => .int
abbrev wsJ90 : List Cond := u_ws RJ9 TJ9 0
theorem nmJ9 : ∀ a, a < 0 → ∀ b, b < 0 → a ≠ b → (TJ9 a).2.1 ≠ (TJ9 b).2.1 := by decide +kernel
theorem tyJ9_ok : ∀ k, k < 0 → parseFieldDescriptor (TJ9 k).2.2.1 = some (tyJ9 k) := by decide +kernel
abbrev cJ9_max_7cf53 : ByteArray := prog_6_method_65_code
def yJ9_max_7cf53 : MethodName := ⟨RJ9, "max", "(II)I"⟩
abbrev cJ9_min_7cf53 : ByteArray := prog_6_method_69_code
def yJ9_min_7cf53 : MethodName := ⟨RJ9, "min", "(II)I"⟩
abbrev cJ9_min_f86c9 : ByteArray := prog_6_method_70_code
def yJ9_min_f86c9 : MethodName := ⟨RJ9, "min", "(JJ)J"⟩
def RL : String := "BinaryFunctionsLaw"
abbrev cL_law : ByteArray := code
def yL_law : MethodName := ⟨RL, "law", "([I)Z"⟩
def wsX0_init : List Cond := .code yX0_init cX0_init 1 none :: ([.methodLink RX0 1 objectInit, .instanceMethod objectInit, .code objectInit ⟨#[0xb1]⟩ 1 none, .arrayClass .long, .fieldLink RX0 9 "BinaryFunctions" "registers" "[J", .fieldLink RX0 13 "BinaryFunctions" "raised" "I", .fieldLink RX0 17 "BinaryFunctions" "lastQuotient" "I"] ++ wsX00)
def wsX0_isRegister : List Cond := .code yX0_isRegister cX0_isRegister 1 (some .boolean) :: ([])
def wsX0_load : List Cond := .code yX0_load cX0_load 4 (some .boolean) :: ([.fieldLink RX0 9 "BinaryFunctions" "registers" "[J", .methodLink RX0 20 yX0_isRegister, .static yX0_isRegister, .initialized RX0, .code yX0_isRegister cX0_isRegister 1 (some .boolean)] ++ wsX00)
def wsX0_bits : List Cond := .code yX0_bits cX0_bits 2 (some .long) :: ([.fieldLink RX0 9 "BinaryFunctions" "registers" "[J", .methodLink RX0 20 yX0_isRegister, .static yX0_isRegister, .initialized RX0, .code yX0_isRegister cX0_isRegister 1 (some .boolean)] ++ wsX00)
def wsX0_isNan : List Cond := .code yX0_isNan cX0_isNan 2 (some .boolean) :: ([.constantLong RX0 65 (9223372036854775807), .constantLong RX0 67 (9218868437227405312)])
def wsX0_isZero : List Cond := .code yX0_isZero cX0_isZero 2 (some .boolean) :: ([.constantLong RX0 65 (9223372036854775807)])
def wsX0_raise : List Cond := .code yX0_raise cX0_raise 2 none :: ([.fieldLink RX0 13 "BinaryFunctions" "raised" "I"] ++ wsX00)
def wsX0_fieldE : List Cond := .code yX0_fieldE cX0_fieldE 2 (some .int) :: ([.constantLong RX0 65 (9223372036854775807)])
def wsX0_power : List Cond := .code yX0_power cX0_power 2 (some .int) :: ([.methodLink RX0 78 Lib.Math.max.name, .static Lib.Math.max.name, .initialized "java/lang/Math", .code Lib.Math.max.name Lib.Math.max.code 2 (some .int), .methodLink RX0 75 yX0_fieldE, .static yX0_fieldE, .initialized RX0, .code yX0_fieldE cX0_fieldE 2 (some .int), .constantLong RX0 65 (9223372036854775807)])
def wsX0_significand : List Cond := .code yX0_significand cX0_significand 4 (some .long) :: ([.constantLong RX0 73 (4503599627370495), .constantLong RX0 71 (4503599627370496), .methodLink RX0 75 yX0_fieldE, .static yX0_fieldE, .initialized RX0, .code yX0_fieldE cX0_fieldE 2 (some .int), .constantLong RX0 65 (9223372036854775807)])
def wsJ6_numberOfLeadingZeros_0f7a4 : List Cond := .code yJ6_numberOfLeadingZeros_0f7a4 cJ6_numberOfLeadingZeros_0f7a4 2 (some .int) :: ([.constant RJ6 264 (65536)])
def wsJ13_numberOfLeadingZeros_95d88 : List Cond := .code yJ13_numberOfLeadingZeros_95d88 cJ13_numberOfLeadingZeros_95d88 3 (some .int) :: ([.methodLink RJ13 308 yJ6_numberOfLeadingZeros_0f7a4, .static yJ6_numberOfLeadingZeros_0f7a4, .initialized RJ6, .code yJ6_numberOfLeadingZeros_0f7a4 cJ6_numberOfLeadingZeros_0f7a4 2 (some .int), .constant RJ6 264 (65536)])
def wsX0_spareRoom : List Cond := .code yX0_spareRoom cX0_spareRoom 2 (some .int) :: ([.methodLink RX0 84 yX0_significand, .static yX0_significand, .initialized RX0, .code yX0_significand cX0_significand 4 (some .long), .constantLong RX0 73 (4503599627370495), .constantLong RX0 71 (4503599627370496), .methodLink RX0 75 yX0_fieldE, .static yX0_fieldE, .code yX0_fieldE cX0_fieldE 2 (some .int), .constantLong RX0 65 (9223372036854775807), .methodLink RX0 87 yJ13_numberOfLeadingZeros_95d88, .static yJ13_numberOfLeadingZeros_95d88, .initialized RJ13, .code yJ13_numberOfLeadingZeros_95d88 cJ13_numberOfLeadingZeros_95d88 3 (some .int), .methodLink RJ13 308 yJ6_numberOfLeadingZeros_0f7a4, .static yJ6_numberOfLeadingZeros_0f7a4, .initialized RJ6, .code yJ6_numberOfLeadingZeros_0f7a4 cJ6_numberOfLeadingZeros_0f7a4 2 (some .int), .constant RJ6 264 (65536)])
def wsX0_fullPower_r1 : List Cond := [Cond.methodLink RX0 95 yX0_power, Cond.static yX0_power, Cond.initialized RX0, Cond.code yX0_power cX0_power 2 (some .int), Cond.methodLink RX0 78 Lib.Math.max.name, Cond.static Lib.Math.max.name, Cond.initialized "java/lang/Math", Cond.code Lib.Math.max.name Lib.Math.max.code 2 (some .int), Cond.methodLink RX0 75 yX0_fieldE, Cond.static yX0_fieldE, Cond.code yX0_fieldE cX0_fieldE 2 (some .int), Cond.constantLong RX0 65 (9223372036854775807), Cond.methodLink RX0 92 yX0_spareRoom, Cond.static yX0_spareRoom, Cond.code yX0_spareRoom cX0_spareRoom 2 (some .int), Cond.methodLink RX0 84 yX0_significand, Cond.static yX0_significand, Cond.code yX0_significand cX0_significand 4 (some .long), Cond.constantLong RX0 73 (4503599627370495), Cond.constantLong RX0 71 (4503599627370496), Cond.methodLink RX0 87 yJ13_numberOfLeadingZeros_95d88, Cond.static yJ13_numberOfLeadingZeros_95d88, Cond.initialized RJ13, Cond.code yJ13_numberOfLeadingZeros_95d88 cJ13_numberOfLeadingZeros_95d88 3 (some .int)]
def wsX0_fullPower_r2 : List Cond := [Cond.methodLink RJ13 308 yJ6_numberOfLeadingZeros_0f7a4, Cond.static yJ6_numberOfLeadingZeros_0f7a4, Cond.initialized RJ6, Cond.code yJ6_numberOfLeadingZeros_0f7a4 cJ6_numberOfLeadingZeros_0f7a4 2 (some .int), Cond.constant RJ6 264 (65536)]
def wsX0_fullPower : List Cond := .code yX0_fullPower cX0_fullPower 2 (some .int) :: ((wsX0_fullPower_r1 ++ wsX0_fullPower_r2))
def wsX0_fullSignificand : List Cond := .code yX0_fullSignificand cX0_fullSignificand 2 (some .long) :: ([.methodLink RX0 84 yX0_significand, .static yX0_significand, .initialized RX0, .code yX0_significand cX0_significand 4 (some .long), .constantLong RX0 73 (4503599627370495), .constantLong RX0 71 (4503599627370496), .methodLink RX0 75 yX0_fieldE, .static yX0_fieldE, .code yX0_fieldE cX0_fieldE 2 (some .int), .constantLong RX0 65 (9223372036854775807), .methodLink RX0 92 yX0_spareRoom, .static yX0_spareRoom, .code yX0_spareRoom cX0_spareRoom 2 (some .int), .methodLink RX0 87 yJ13_numberOfLeadingZeros_95d88, .static yJ13_numberOfLeadingZeros_95d88, .initialized RJ13, .code yJ13_numberOfLeadingZeros_95d88 cJ13_numberOfLeadingZeros_95d88 3 (some .int), .methodLink RJ13 308 yJ6_numberOfLeadingZeros_0f7a4, .static yJ6_numberOfLeadingZeros_0f7a4, .initialized RJ6, .code yJ6_numberOfLeadingZeros_0f7a4 cJ6_numberOfLeadingZeros_0f7a4 2 (some .int), .constant RJ6 264 (65536)])
def wsX0_pattern : List Cond := .code yX0_pattern cX0_pattern 5 (some .long) :: ([.methodLink RX0 98 Lib.Math.min.name, .static Lib.Math.min.name, .initialized "java/lang/Math", .code Lib.Math.min.name Lib.Math.min.code 2 (some .int), .methodLink RX0 87 yJ13_numberOfLeadingZeros_95d88, .static yJ13_numberOfLeadingZeros_95d88, .initialized RJ13, .code yJ13_numberOfLeadingZeros_95d88 cJ13_numberOfLeadingZeros_95d88 3 (some .int), .methodLink RJ13 308 yJ6_numberOfLeadingZeros_0f7a4, .static yJ6_numberOfLeadingZeros_0f7a4, .initialized RJ6, .code yJ6_numberOfLeadingZeros_0f7a4 cJ6_numberOfLeadingZeros_0f7a4 2 (some .int), .constant RJ6 264 (65536)])
def wsX0_rootOfPositive_r1 : List Cond := [Cond.methodLink RX0 55 yX0_fullPower, Cond.static yX0_fullPower, Cond.initialized RX0, Cond.code yX0_fullPower cX0_fullPower 2 (some .int), Cond.methodLink RX0 95 yX0_power, Cond.static yX0_power, Cond.code yX0_power cX0_power 2 (some .int), Cond.methodLink RX0 78 Lib.Math.max.name, Cond.static Lib.Math.max.name, Cond.initialized "java/lang/Math", Cond.code Lib.Math.max.name Lib.Math.max.code 2 (some .int), Cond.methodLink RX0 75 yX0_fieldE, Cond.static yX0_fieldE, Cond.code yX0_fieldE cX0_fieldE 2 (some .int), Cond.constantLong RX0 65 (9223372036854775807), Cond.methodLink RX0 92 yX0_spareRoom, Cond.static yX0_spareRoom, Cond.code yX0_spareRoom cX0_spareRoom 2 (some .int), Cond.methodLink RX0 84 yX0_significand, Cond.static yX0_significand, Cond.code yX0_significand cX0_significand 4 (some .long), Cond.constantLong RX0 73 (4503599627370495), Cond.constantLong RX0 71 (4503599627370496), Cond.methodLink RX0 87 yJ13_numberOfLeadingZeros_95d88]
def wsX0_rootOfPositive_r2 : List Cond := [Cond.static yJ13_numberOfLeadingZeros_95d88, Cond.initialized RJ13, Cond.code yJ13_numberOfLeadingZeros_95d88 cJ13_numberOfLeadingZeros_95d88 3 (some .int), Cond.methodLink RJ13 308 yJ6_numberOfLeadingZeros_0f7a4, Cond.static yJ6_numberOfLeadingZeros_0f7a4, Cond.initialized RJ6, Cond.code yJ6_numberOfLeadingZeros_0f7a4 cJ6_numberOfLeadingZeros_0f7a4 2 (some .int), Cond.constant RJ6 264 (65536), Cond.methodLink RX0 110 yX0_fullSignificand, Cond.static yX0_fullSignificand, Cond.code yX0_fullSignificand cX0_fullSignificand 2 (some .long), Cond.methodLink RX0 103 yX0_raise, Cond.instanceMethod yX0_raise, Cond.selects RX0 yX0_raise yX0_raise, Cond.code yX0_raise cX0_raise 2 none, Cond.fieldLink RX0 13 "BinaryFunctions" "raised" "I", Cond.methodLink RX0 113 yX0_pattern, Cond.static yX0_pattern, Cond.code yX0_pattern cX0_pattern 5 (some .long), Cond.methodLink RX0 98 Lib.Math.min.name, Cond.static Lib.Math.min.name, Cond.code Lib.Math.min.name Lib.Math.min.code 2 (some .int)]
def wsX0_rootOfPositive : List Cond := .code yX0_rootOfPositive cX0_rootOfPositive 14 (some .long) :: ((wsX0_rootOfPositive_r1 ++ wsX0_rootOfPositive_r2) ++ wsX00)
def wsX0_squareRoot_r1 : List Cond := [Cond.constantLong RX0 101 (9221120237041090560), Cond.constantLong RX0 67 (9218868437227405312), Cond.methodLink RX0 51 yX0_isNan, Cond.static yX0_isNan, Cond.initialized RX0, Cond.code yX0_isNan cX0_isNan 2 (some .boolean), Cond.constantLong RX0 65 (9223372036854775807), Cond.methodLink RX0 43 yX0_isZero, Cond.static yX0_isZero, Cond.code yX0_isZero cX0_isZero 2 (some .boolean), Cond.methodLink RX0 103 yX0_raise, Cond.instanceMethod yX0_raise, Cond.selects RX0 yX0_raise yX0_raise, Cond.code yX0_raise cX0_raise 2 none, Cond.fieldLink RX0 13 "BinaryFunctions" "raised" "I", Cond.methodLink RX0 107 yX0_rootOfPositive, Cond.instanceMethod yX0_rootOfPositive, Cond.selects RX0 yX0_rootOfPositive yX0_rootOfPositive, Cond.code yX0_rootOfPositive cX0_rootOfPositive 14 (some .long), Cond.methodLink RX0 55 yX0_fullPower, Cond.static yX0_fullPower, Cond.code yX0_fullPower cX0_fullPower 2 (some .int), Cond.methodLink RX0 95 yX0_power, Cond.static yX0_power]
def wsX0_squareRoot_r2 : List Cond := [Cond.code yX0_power cX0_power 2 (some .int), Cond.methodLink RX0 78 Lib.Math.max.name, Cond.static Lib.Math.max.name, Cond.initialized "java/lang/Math", Cond.code Lib.Math.max.name Lib.Math.max.code 2 (some .int), Cond.methodLink RX0 75 yX0_fieldE, Cond.static yX0_fieldE, Cond.code yX0_fieldE cX0_fieldE 2 (some .int), Cond.methodLink RX0 92 yX0_spareRoom, Cond.static yX0_spareRoom, Cond.code yX0_spareRoom cX0_spareRoom 2 (some .int), Cond.methodLink RX0 84 yX0_significand, Cond.static yX0_significand, Cond.code yX0_significand cX0_significand 4 (some .long), Cond.constantLong RX0 73 (4503599627370495), Cond.constantLong RX0 71 (4503599627370496), Cond.methodLink RX0 87 yJ13_numberOfLeadingZeros_95d88, Cond.static yJ13_numberOfLeadingZeros_95d88, Cond.initialized RJ13, Cond.code yJ13_numberOfLeadingZeros_95d88 cJ13_numberOfLeadingZeros_95d88 3 (some .int), Cond.methodLink RJ13 308 yJ6_numberOfLeadingZeros_0f7a4, Cond.static yJ6_numberOfLeadingZeros_0f7a4, Cond.initialized RJ6, Cond.code yJ6_numberOfLeadingZeros_0f7a4 cJ6_numberOfLeadingZeros_0f7a4 2 (some .int)]
def wsX0_squareRoot_r3 : List Cond := [Cond.constant RJ6 264 (65536), Cond.methodLink RX0 110 yX0_fullSignificand, Cond.static yX0_fullSignificand, Cond.code yX0_fullSignificand cX0_fullSignificand 2 (some .long), Cond.methodLink RX0 113 yX0_pattern, Cond.static yX0_pattern, Cond.code yX0_pattern cX0_pattern 5 (some .long), Cond.methodLink RX0 98 Lib.Math.min.name, Cond.static Lib.Math.min.name, Cond.code Lib.Math.min.name Lib.Math.min.code 2 (some .int)]
def wsX0_squareRoot : List Cond := .code yX0_squareRoot cX0_squareRoot 3 (some .long) :: ((wsX0_squareRoot_r1 ++ (wsX0_squareRoot_r2 ++ wsX0_squareRoot_r3)) ++ wsX00)
def wsX0_sqrt_r1 : List Cond := [Cond.fieldLink RX0 9 "BinaryFunctions" "registers" "[J", Cond.methodLink RX0 20 yX0_isRegister, Cond.static yX0_isRegister, Cond.initialized RX0, Cond.code yX0_isRegister cX0_isRegister 1 (some .boolean), Cond.methodLink RX0 24 yX0_squareRoot, Cond.instanceMethod yX0_squareRoot, Cond.selects RX0 yX0_squareRoot yX0_squareRoot, Cond.code yX0_squareRoot cX0_squareRoot 3 (some .long), Cond.constantLong RX0 101 (9221120237041090560), Cond.constantLong RX0 67 (9218868437227405312), Cond.methodLink RX0 51 yX0_isNan, Cond.static yX0_isNan, Cond.code yX0_isNan cX0_isNan 2 (some .boolean), Cond.constantLong RX0 65 (9223372036854775807), Cond.methodLink RX0 43 yX0_isZero, Cond.static yX0_isZero, Cond.code yX0_isZero cX0_isZero 2 (some .boolean), Cond.methodLink RX0 103 yX0_raise, Cond.instanceMethod yX0_raise, Cond.selects RX0 yX0_raise yX0_raise, Cond.code yX0_raise cX0_raise 2 none, Cond.fieldLink RX0 13 "BinaryFunctions" "raised" "I", Cond.methodLink RX0 107 yX0_rootOfPositive]
def wsX0_sqrt_r2 : List Cond := [Cond.instanceMethod yX0_rootOfPositive, Cond.selects RX0 yX0_rootOfPositive yX0_rootOfPositive, Cond.code yX0_rootOfPositive cX0_rootOfPositive 14 (some .long), Cond.methodLink RX0 55 yX0_fullPower, Cond.static yX0_fullPower, Cond.code yX0_fullPower cX0_fullPower 2 (some .int), Cond.methodLink RX0 95 yX0_power, Cond.static yX0_power, Cond.code yX0_power cX0_power 2 (some .int), Cond.methodLink RX0 78 Lib.Math.max.name, Cond.static Lib.Math.max.name, Cond.initialized "java/lang/Math", Cond.code Lib.Math.max.name Lib.Math.max.code 2 (some .int), Cond.methodLink RX0 75 yX0_fieldE, Cond.static yX0_fieldE, Cond.code yX0_fieldE cX0_fieldE 2 (some .int), Cond.methodLink RX0 92 yX0_spareRoom, Cond.static yX0_spareRoom, Cond.code yX0_spareRoom cX0_spareRoom 2 (some .int), Cond.methodLink RX0 84 yX0_significand, Cond.static yX0_significand, Cond.code yX0_significand cX0_significand 4 (some .long), Cond.constantLong RX0 73 (4503599627370495), Cond.constantLong RX0 71 (4503599627370496)]
def wsX0_sqrt_r3 : List Cond := [Cond.methodLink RX0 87 yJ13_numberOfLeadingZeros_95d88, Cond.static yJ13_numberOfLeadingZeros_95d88, Cond.initialized RJ13, Cond.code yJ13_numberOfLeadingZeros_95d88 cJ13_numberOfLeadingZeros_95d88 3 (some .int), Cond.methodLink RJ13 308 yJ6_numberOfLeadingZeros_0f7a4, Cond.static yJ6_numberOfLeadingZeros_0f7a4, Cond.initialized RJ6, Cond.code yJ6_numberOfLeadingZeros_0f7a4 cJ6_numberOfLeadingZeros_0f7a4 2 (some .int), Cond.constant RJ6 264 (65536), Cond.methodLink RX0 110 yX0_fullSignificand, Cond.static yX0_fullSignificand, Cond.code yX0_fullSignificand cX0_fullSignificand 2 (some .long), Cond.methodLink RX0 113 yX0_pattern, Cond.static yX0_pattern, Cond.code yX0_pattern cX0_pattern 5 (some .long), Cond.methodLink RX0 98 Lib.Math.min.name, Cond.static Lib.Math.min.name, Cond.code Lib.Math.min.name Lib.Math.min.code 2 (some .int)]
def wsX0_sqrt : List Cond := .code yX0_sqrt cX0_sqrt 3 (some .boolean) :: ((wsX0_sqrt_r1 ++ (wsX0_sqrt_r2 ++ wsX0_sqrt_r3)) ++ wsX00)
def wsX0_isInfinity : List Cond := .code yX0_isInfinity cX0_isInfinity 2 (some .boolean) :: ([.constantLong RX0 65 (9223372036854775807), .constantLong RX0 67 (9218868437227405312)])
def wsX0_signOf : List Cond := .code yX0_signOf cX0_signOf 2 (some .long) :: ([.constantLong RX0 69 (-9223372036854775808)])
def wsX0_nearestShifted : List Cond := .code yX0_nearestShifted cX0_nearestShifted 10 (some .long) :: ([])
def wsX0_wholeAmount : List Cond := .code yX0_wholeAmount cX0_wholeAmount 8 (some .long) :: ([.methodLink RX0 123 yX0_nearestShifted, .static yX0_nearestShifted, .initialized RX0, .code yX0_nearestShifted cX0_nearestShifted 10 (some .long)])
def wsX0_madeWhole_r1 : List Cond := [Cond.constantLong RX0 101 (9221120237041090560), Cond.methodLink RX0 98 Lib.Math.min.name, Cond.static Lib.Math.min.name, Cond.initialized "java/lang/Math", Cond.code Lib.Math.min.name Lib.Math.min.code 2 (some .int), Cond.methodLink RX0 51 yX0_isNan, Cond.static yX0_isNan, Cond.initialized RX0, Cond.code yX0_isNan cX0_isNan 2 (some .boolean), Cond.constantLong RX0 65 (9223372036854775807), Cond.constantLong RX0 67 (9218868437227405312), Cond.methodLink RX0 43 yX0_isZero, Cond.static yX0_isZero, Cond.code yX0_isZero cX0_isZero 2 (some .boolean), Cond.methodLink RX0 48 yX0_isInfinity, Cond.static yX0_isInfinity, Cond.code yX0_isInfinity cX0_isInfinity 2 (some .boolean), Cond.methodLink RX0 95 yX0_power, Cond.static yX0_power, Cond.code yX0_power cX0_power 2 (some .int), Cond.methodLink RX0 78 Lib.Math.max.name, Cond.static Lib.Math.max.name, Cond.code Lib.Math.max.name Lib.Math.max.code 2 (some .int), Cond.methodLink RX0 75 yX0_fieldE]
def wsX0_madeWhole_r2 : List Cond := [Cond.static yX0_fieldE, Cond.code yX0_fieldE cX0_fieldE 2 (some .int), Cond.methodLink RX0 116 yX0_signOf, Cond.static yX0_signOf, Cond.code yX0_signOf cX0_signOf 2 (some .long), Cond.constantLong RX0 69 (-9223372036854775808), Cond.methodLink RX0 84 yX0_significand, Cond.static yX0_significand, Cond.code yX0_significand cX0_significand 4 (some .long), Cond.constantLong RX0 73 (4503599627370495), Cond.constantLong RX0 71 (4503599627370496), Cond.methodLink RX0 119 yX0_wholeAmount, Cond.static yX0_wholeAmount, Cond.code yX0_wholeAmount cX0_wholeAmount 8 (some .long), Cond.methodLink RX0 123 yX0_nearestShifted, Cond.static yX0_nearestShifted, Cond.code yX0_nearestShifted cX0_nearestShifted 10 (some .long), Cond.methodLink RX0 113 yX0_pattern, Cond.static yX0_pattern, Cond.code yX0_pattern cX0_pattern 5 (some .long), Cond.methodLink RX0 87 yJ13_numberOfLeadingZeros_95d88, Cond.static yJ13_numberOfLeadingZeros_95d88, Cond.initialized RJ13, Cond.code yJ13_numberOfLeadingZeros_95d88 cJ13_numberOfLeadingZeros_95d88 3 (some .int)]
def wsX0_madeWhole_r3 : List Cond := [Cond.methodLink RJ13 308 yJ6_numberOfLeadingZeros_0f7a4, Cond.static yJ6_numberOfLeadingZeros_0f7a4, Cond.initialized RJ6, Cond.code yJ6_numberOfLeadingZeros_0f7a4 cJ6_numberOfLeadingZeros_0f7a4 2 (some .int), Cond.constant RJ6 264 (65536), Cond.methodLink RX0 103 yX0_raise, Cond.instanceMethod yX0_raise, Cond.selects RX0 yX0_raise yX0_raise, Cond.code yX0_raise cX0_raise 2 none, Cond.fieldLink RX0 13 "BinaryFunctions" "raised" "I"]
def wsX0_madeWhole : List Cond := .code yX0_madeWhole cX0_madeWhole 7 (some .long) :: ((wsX0_madeWhole_r1 ++ (wsX0_madeWhole_r2 ++ wsX0_madeWhole_r3)) ++ wsX00)
def wsX0_whole_r1 : List Cond := [Cond.fieldLink RX0 9 "BinaryFunctions" "registers" "[J", Cond.methodLink RX0 20 yX0_isRegister, Cond.static yX0_isRegister, Cond.initialized RX0, Cond.code yX0_isRegister cX0_isRegister 1 (some .boolean), Cond.methodLink RX0 28 yX0_madeWhole, Cond.instanceMethod yX0_madeWhole, Cond.selects RX0 yX0_madeWhole yX0_madeWhole, Cond.code yX0_madeWhole cX0_madeWhole 7 (some .long), Cond.constantLong RX0 101 (9221120237041090560), Cond.methodLink RX0 98 Lib.Math.min.name, Cond.static Lib.Math.min.name, Cond.initialized "java/lang/Math", Cond.code Lib.Math.min.name Lib.Math.min.code 2 (some .int), Cond.methodLink RX0 51 yX0_isNan, Cond.static yX0_isNan, Cond.code yX0_isNan cX0_isNan 2 (some .boolean), Cond.constantLong RX0 65 (9223372036854775807), Cond.constantLong RX0 67 (9218868437227405312), Cond.methodLink RX0 43 yX0_isZero, Cond.static yX0_isZero, Cond.code yX0_isZero cX0_isZero 2 (some .boolean), Cond.methodLink RX0 48 yX0_isInfinity, Cond.static yX0_isInfinity]
def wsX0_whole_r2 : List Cond := [Cond.code yX0_isInfinity cX0_isInfinity 2 (some .boolean), Cond.methodLink RX0 95 yX0_power, Cond.static yX0_power, Cond.code yX0_power cX0_power 2 (some .int), Cond.methodLink RX0 78 Lib.Math.max.name, Cond.static Lib.Math.max.name, Cond.code Lib.Math.max.name Lib.Math.max.code 2 (some .int), Cond.methodLink RX0 75 yX0_fieldE, Cond.static yX0_fieldE, Cond.code yX0_fieldE cX0_fieldE 2 (some .int), Cond.methodLink RX0 116 yX0_signOf, Cond.static yX0_signOf, Cond.code yX0_signOf cX0_signOf 2 (some .long), Cond.constantLong RX0 69 (-9223372036854775808), Cond.methodLink RX0 84 yX0_significand, Cond.static yX0_significand, Cond.code yX0_significand cX0_significand 4 (some .long), Cond.constantLong RX0 73 (4503599627370495), Cond.constantLong RX0 71 (4503599627370496), Cond.methodLink RX0 119 yX0_wholeAmount, Cond.static yX0_wholeAmount, Cond.code yX0_wholeAmount cX0_wholeAmount 8 (some .long), Cond.methodLink RX0 123 yX0_nearestShifted, Cond.static yX0_nearestShifted]
def wsX0_whole_r3 : List Cond := [Cond.code yX0_nearestShifted cX0_nearestShifted 10 (some .long), Cond.methodLink RX0 113 yX0_pattern, Cond.static yX0_pattern, Cond.code yX0_pattern cX0_pattern 5 (some .long), Cond.methodLink RX0 87 yJ13_numberOfLeadingZeros_95d88, Cond.static yJ13_numberOfLeadingZeros_95d88, Cond.initialized RJ13, Cond.code yJ13_numberOfLeadingZeros_95d88 cJ13_numberOfLeadingZeros_95d88 3 (some .int), Cond.methodLink RJ13 308 yJ6_numberOfLeadingZeros_0f7a4, Cond.static yJ6_numberOfLeadingZeros_0f7a4, Cond.initialized RJ6, Cond.code yJ6_numberOfLeadingZeros_0f7a4 cJ6_numberOfLeadingZeros_0f7a4 2 (some .int), Cond.constant RJ6 264 (65536), Cond.methodLink RX0 103 yX0_raise, Cond.instanceMethod yX0_raise, Cond.selects RX0 yX0_raise yX0_raise, Cond.code yX0_raise cX0_raise 2 none, Cond.fieldLink RX0 13 "BinaryFunctions" "raised" "I"]
def wsX0_whole : List Cond := .code yX0_whole cX0_whole 4 (some .boolean) :: ((wsX0_whole_r1 ++ (wsX0_whole_r2 ++ wsX0_whole_r3)) ++ wsX00)
def wsX0_remainderOfFinite_r1 : List Cond := [Cond.methodLink RX0 78 Lib.Math.max.name, Cond.static Lib.Math.max.name, Cond.initialized "java/lang/Math", Cond.code Lib.Math.max.name Lib.Math.max.code 2 (some .int), Cond.methodLink RX0 98 Lib.Math.min.name, Cond.static Lib.Math.min.name, Cond.code Lib.Math.min.name Lib.Math.min.code 2 (some .int), Cond.constantLong RX0 69 (-9223372036854775808), Cond.constantLong RX0 130 (7), Cond.fieldLink RX0 17 "BinaryFunctions" "lastQuotient" "I", Cond.methodLink RX0 84 yX0_significand, Cond.static yX0_significand, Cond.initialized RX0, Cond.code yX0_significand cX0_significand 4 (some .long), Cond.constantLong RX0 73 (4503599627370495), Cond.constantLong RX0 71 (4503599627370496), Cond.methodLink RX0 75 yX0_fieldE, Cond.static yX0_fieldE, Cond.code yX0_fieldE cX0_fieldE 2 (some .int), Cond.constantLong RX0 65 (9223372036854775807), Cond.methodLink RX0 95 yX0_power, Cond.static yX0_power, Cond.code yX0_power cX0_power 2 (some .int), Cond.methodLink RX0 116 yX0_signOf]
def wsX0_remainderOfFinite_r2 : List Cond := [Cond.static yX0_signOf, Cond.code yX0_signOf cX0_signOf 2 (some .long), Cond.methodLink RX0 113 yX0_pattern, Cond.static yX0_pattern, Cond.code yX0_pattern cX0_pattern 5 (some .long), Cond.methodLink RX0 87 yJ13_numberOfLeadingZeros_95d88, Cond.static yJ13_numberOfLeadingZeros_95d88, Cond.initialized RJ13, Cond.code yJ13_numberOfLeadingZeros_95d88 cJ13_numberOfLeadingZeros_95d88 3 (some .int), Cond.methodLink RJ13 308 yJ6_numberOfLeadingZeros_0f7a4, Cond.static yJ6_numberOfLeadingZeros_0f7a4, Cond.initialized RJ6, Cond.code yJ6_numberOfLeadingZeros_0f7a4 cJ6_numberOfLeadingZeros_0f7a4 2 (some .int), Cond.constant RJ6 264 (65536)]
def wsX0_remainderOfFinite : List Cond := .code yX0_remainderOfFinite cX0_remainderOfFinite 18 (some .long) :: ((wsX0_remainderOfFinite_r1 ++ wsX0_remainderOfFinite_r2) ++ wsX00)
def wsX0_remainder_r1 : List Cond := [Cond.fieldLink RX0 17 "BinaryFunctions" "lastQuotient" "I", Cond.constantLong RX0 101 (9221120237041090560), Cond.methodLink RX0 51 yX0_isNan, Cond.static yX0_isNan, Cond.initialized RX0, Cond.code yX0_isNan cX0_isNan 2 (some .boolean), Cond.constantLong RX0 65 (9223372036854775807), Cond.constantLong RX0 67 (9218868437227405312), Cond.methodLink RX0 48 yX0_isInfinity, Cond.static yX0_isInfinity, Cond.code yX0_isInfinity cX0_isInfinity 2 (some .boolean), Cond.methodLink RX0 43 yX0_isZero, Cond.static yX0_isZero, Cond.code yX0_isZero cX0_isZero 2 (some .boolean), Cond.methodLink RX0 103 yX0_raise, Cond.instanceMethod yX0_raise, Cond.selects RX0 yX0_raise yX0_raise, Cond.code yX0_raise cX0_raise 2 none, Cond.fieldLink RX0 13 "BinaryFunctions" "raised" "I", Cond.methodLink RX0 95 yX0_power, Cond.static yX0_power, Cond.code yX0_power cX0_power 2 (some .int), Cond.methodLink RX0 78 Lib.Math.max.name, Cond.static Lib.Math.max.name]
def wsX0_remainder_r2 : List Cond := [Cond.initialized "java/lang/Math", Cond.code Lib.Math.max.name Lib.Math.max.code 2 (some .int), Cond.methodLink RX0 75 yX0_fieldE, Cond.static yX0_fieldE, Cond.code yX0_fieldE cX0_fieldE 2 (some .int), Cond.methodLink RX0 126 yX0_remainderOfFinite, Cond.instanceMethod yX0_remainderOfFinite, Cond.selects RX0 yX0_remainderOfFinite yX0_remainderOfFinite, Cond.code yX0_remainderOfFinite cX0_remainderOfFinite 18 (some .long), Cond.methodLink RX0 98 Lib.Math.min.name, Cond.static Lib.Math.min.name, Cond.code Lib.Math.min.name Lib.Math.min.code 2 (some .int), Cond.constantLong RX0 69 (-9223372036854775808), Cond.constantLong RX0 130 (7), Cond.methodLink RX0 84 yX0_significand, Cond.static yX0_significand, Cond.code yX0_significand cX0_significand 4 (some .long), Cond.constantLong RX0 73 (4503599627370495), Cond.constantLong RX0 71 (4503599627370496), Cond.methodLink RX0 116 yX0_signOf, Cond.static yX0_signOf, Cond.code yX0_signOf cX0_signOf 2 (some .long), Cond.methodLink RX0 113 yX0_pattern, Cond.static yX0_pattern]
def wsX0_remainder_r3 : List Cond := [Cond.code yX0_pattern cX0_pattern 5 (some .long), Cond.methodLink RX0 87 yJ13_numberOfLeadingZeros_95d88, Cond.static yJ13_numberOfLeadingZeros_95d88, Cond.initialized RJ13, Cond.code yJ13_numberOfLeadingZeros_95d88 cJ13_numberOfLeadingZeros_95d88 3 (some .int), Cond.methodLink RJ13 308 yJ6_numberOfLeadingZeros_0f7a4, Cond.static yJ6_numberOfLeadingZeros_0f7a4, Cond.initialized RJ6, Cond.code yJ6_numberOfLeadingZeros_0f7a4 cJ6_numberOfLeadingZeros_0f7a4 2 (some .int), Cond.constant RJ6 264 (65536)]
def wsX0_remainder : List Cond := .code yX0_remainder cX0_remainder 7 (some .long) :: ((wsX0_remainder_r1 ++ (wsX0_remainder_r2 ++ wsX0_remainder_r3)) ++ wsX00)
def wsX0_left_r1 : List Cond := [Cond.fieldLink RX0 9 "BinaryFunctions" "registers" "[J", Cond.methodLink RX0 20 yX0_isRegister, Cond.static yX0_isRegister, Cond.initialized RX0, Cond.code yX0_isRegister cX0_isRegister 1 (some .boolean), Cond.methodLink RX0 32 yX0_remainder, Cond.instanceMethod yX0_remainder, Cond.selects RX0 yX0_remainder yX0_remainder, Cond.code yX0_remainder cX0_remainder 7 (some .long), Cond.fieldLink RX0 17 "BinaryFunctions" "lastQuotient" "I", Cond.constantLong RX0 101 (9221120237041090560), Cond.methodLink RX0 51 yX0_isNan, Cond.static yX0_isNan, Cond.code yX0_isNan cX0_isNan 2 (some .boolean), Cond.constantLong RX0 65 (9223372036854775807), Cond.constantLong RX0 67 (9218868437227405312), Cond.methodLink RX0 48 yX0_isInfinity, Cond.static yX0_isInfinity, Cond.code yX0_isInfinity cX0_isInfinity 2 (some .boolean), Cond.methodLink RX0 43 yX0_isZero, Cond.static yX0_isZero, Cond.code yX0_isZero cX0_isZero 2 (some .boolean), Cond.methodLink RX0 103 yX0_raise, Cond.instanceMethod yX0_raise]
def wsX0_left_r2 : List Cond := [Cond.selects RX0 yX0_raise yX0_raise, Cond.code yX0_raise cX0_raise 2 none, Cond.fieldLink RX0 13 "BinaryFunctions" "raised" "I", Cond.methodLink RX0 95 yX0_power, Cond.static yX0_power, Cond.code yX0_power cX0_power 2 (some .int), Cond.methodLink RX0 78 Lib.Math.max.name, Cond.static Lib.Math.max.name, Cond.initialized "java/lang/Math", Cond.code Lib.Math.max.name Lib.Math.max.code 2 (some .int), Cond.methodLink RX0 75 yX0_fieldE, Cond.static yX0_fieldE, Cond.code yX0_fieldE cX0_fieldE 2 (some .int), Cond.methodLink RX0 126 yX0_remainderOfFinite, Cond.instanceMethod yX0_remainderOfFinite, Cond.selects RX0 yX0_remainderOfFinite yX0_remainderOfFinite, Cond.code yX0_remainderOfFinite cX0_remainderOfFinite 18 (some .long), Cond.methodLink RX0 98 Lib.Math.min.name, Cond.static Lib.Math.min.name, Cond.code Lib.Math.min.name Lib.Math.min.code 2 (some .int), Cond.constantLong RX0 69 (-9223372036854775808), Cond.constantLong RX0 130 (7), Cond.methodLink RX0 84 yX0_significand, Cond.static yX0_significand]
def wsX0_left_r3 : List Cond := [Cond.code yX0_significand cX0_significand 4 (some .long), Cond.constantLong RX0 73 (4503599627370495), Cond.constantLong RX0 71 (4503599627370496), Cond.methodLink RX0 116 yX0_signOf, Cond.static yX0_signOf, Cond.code yX0_signOf cX0_signOf 2 (some .long), Cond.methodLink RX0 113 yX0_pattern, Cond.static yX0_pattern, Cond.code yX0_pattern cX0_pattern 5 (some .long), Cond.methodLink RX0 87 yJ13_numberOfLeadingZeros_95d88, Cond.static yJ13_numberOfLeadingZeros_95d88, Cond.initialized RJ13, Cond.code yJ13_numberOfLeadingZeros_95d88 cJ13_numberOfLeadingZeros_95d88 3 (some .int), Cond.methodLink RJ13 308 yJ6_numberOfLeadingZeros_0f7a4, Cond.static yJ6_numberOfLeadingZeros_0f7a4, Cond.initialized RJ6, Cond.code yJ6_numberOfLeadingZeros_0f7a4 cJ6_numberOfLeadingZeros_0f7a4 2 (some .int), Cond.constant RJ6 264 (65536)]
def wsX0_left : List Cond := .code yX0_left cX0_left 5 (some .boolean) :: ((wsX0_left_r1 ++ (wsX0_left_r2 ++ wsX0_left_r3)) ++ wsX00)
def wsX0_quotient : List Cond := .code yX0_quotient cX0_quotient 1 (some .int) :: ([.fieldLink RX0 17 "BinaryFunctions" "lastQuotient" "I"] ++ wsX00)
def wsX0_place : List Cond := .code yX0_place cX0_place 2 (some .long) :: ([.constantLong RX0 65 (9223372036854775807)])
def wsX0_nextTowards : List Cond := .code yX0_nextTowards cX0_nextTowards 6 (some .long) :: ([.constantLong RX0 101 (9221120237041090560), .constantLong RX0 69 (-9223372036854775808), .methodLink RX0 51 yX0_isNan, .static yX0_isNan, .initialized RX0, .code yX0_isNan cX0_isNan 2 (some .boolean), .constantLong RX0 65 (9223372036854775807), .constantLong RX0 67 (9218868437227405312), .methodLink RX0 59 yX0_place, .static yX0_place, .code yX0_place cX0_place 2 (some .long), .methodLink RX0 116 yX0_signOf, .static yX0_signOf, .code yX0_signOf cX0_signOf 2 (some .long)])
def wsX0_neighbour : List Cond := .code yX0_neighbour cX0_neighbour 4 (some .boolean) :: ([.fieldLink RX0 9 "BinaryFunctions" "registers" "[J", .methodLink RX0 20 yX0_isRegister, .static yX0_isRegister, .initialized RX0, .code yX0_isRegister cX0_isRegister 1 (some .boolean), .methodLink RX0 36 yX0_nextTowards, .static yX0_nextTowards, .code yX0_nextTowards cX0_nextTowards 6 (some .long), .constantLong RX0 101 (9221120237041090560), .constantLong RX0 69 (-9223372036854775808), .methodLink RX0 51 yX0_isNan, .static yX0_isNan, .code yX0_isNan cX0_isNan 2 (some .boolean), .constantLong RX0 65 (9223372036854775807), .constantLong RX0 67 (9218868437227405312), .methodLink RX0 59 yX0_place, .static yX0_place, .code yX0_place cX0_place 2 (some .long), .methodLink RX0 116 yX0_signOf, .static yX0_signOf, .code yX0_signOf cX0_signOf 2 (some .long)] ++ wsX00)
def wsX0_roundedToLeastPower_r1 : List Cond := [Cond.constantLong RX0 71 (4503599627370496), Cond.methodLink RX0 123 yX0_nearestShifted, Cond.static yX0_nearestShifted, Cond.initialized RX0, Cond.code yX0_nearestShifted cX0_nearestShifted 10 (some .long), Cond.methodLink RX0 103 yX0_raise, Cond.instanceMethod yX0_raise, Cond.selects RX0 yX0_raise yX0_raise, Cond.code yX0_raise cX0_raise 2 none, Cond.fieldLink RX0 13 "BinaryFunctions" "raised" "I", Cond.methodLink RX0 113 yX0_pattern, Cond.static yX0_pattern, Cond.code yX0_pattern cX0_pattern 5 (some .long), Cond.methodLink RX0 98 Lib.Math.min.name, Cond.static Lib.Math.min.name, Cond.initialized "java/lang/Math", Cond.code Lib.Math.min.name Lib.Math.min.code 2 (some .int), Cond.methodLink RX0 87 yJ13_numberOfLeadingZeros_95d88, Cond.static yJ13_numberOfLeadingZeros_95d88, Cond.initialized RJ13, Cond.code yJ13_numberOfLeadingZeros_95d88 cJ13_numberOfLeadingZeros_95d88 3 (some .int), Cond.methodLink RJ13 308 yJ6_numberOfLeadingZeros_0f7a4, Cond.static yJ6_numberOfLeadingZeros_0f7a4, Cond.initialized RJ6]
def wsX0_roundedToLeastPower_r2 : List Cond := [Cond.code yJ6_numberOfLeadingZeros_0f7a4 cJ6_numberOfLeadingZeros_0f7a4 2 (some .int), Cond.constant RJ6 264 (65536)]
def wsX0_roundedToLeastPower : List Cond := .code yX0_roundedToLeastPower cX0_roundedToLeastPower 6 (some .long) :: ((wsX0_roundedToLeastPower_r1 ++ wsX0_roundedToLeastPower_r2) ++ wsX00)
def wsX0_timesPowerOfTwo_r1 : List Cond := [Cond.constantLong RX0 101 (9221120237041090560), Cond.constantLong RX0 132 (971), Cond.constantLong RX0 67 (9218868437227405312), Cond.constantLong RX0 134 (-1074), Cond.constantLong RX0 136 (60), Cond.methodLink RX0 138 Lib.MathLoose.min_long.x, Cond.static Lib.MathLoose.min_long.x, Cond.initialized "java/lang/Math", Cond.code Lib.MathLoose.min_long.x Lib.MathLoose.min_long.code 4 (some .long), Cond.methodLink RX0 51 yX0_isNan, Cond.static yX0_isNan, Cond.initialized RX0, Cond.code yX0_isNan cX0_isNan 2 (some .boolean), Cond.constantLong RX0 65 (9223372036854775807), Cond.methodLink RX0 43 yX0_isZero, Cond.static yX0_isZero, Cond.code yX0_isZero cX0_isZero 2 (some .boolean), Cond.methodLink RX0 48 yX0_isInfinity, Cond.static yX0_isInfinity, Cond.code yX0_isInfinity cX0_isInfinity 2 (some .boolean), Cond.methodLink RX0 55 yX0_fullPower, Cond.static yX0_fullPower, Cond.code yX0_fullPower cX0_fullPower 2 (some .int), Cond.methodLink RX0 95 yX0_power]
def wsX0_timesPowerOfTwo_r2 : List Cond := [Cond.static yX0_power, Cond.code yX0_power cX0_power 2 (some .int), Cond.methodLink RX0 78 Lib.Math.max.name, Cond.static Lib.Math.max.name, Cond.code Lib.Math.max.name Lib.Math.max.code 2 (some .int), Cond.methodLink RX0 75 yX0_fieldE, Cond.static yX0_fieldE, Cond.code yX0_fieldE cX0_fieldE 2 (some .int), Cond.methodLink RX0 92 yX0_spareRoom, Cond.static yX0_spareRoom, Cond.code yX0_spareRoom cX0_spareRoom 2 (some .int), Cond.methodLink RX0 84 yX0_significand, Cond.static yX0_significand, Cond.code yX0_significand cX0_significand 4 (some .long), Cond.constantLong RX0 73 (4503599627370495), Cond.constantLong RX0 71 (4503599627370496), Cond.methodLink RX0 87 yJ13_numberOfLeadingZeros_95d88, Cond.static yJ13_numberOfLeadingZeros_95d88, Cond.initialized RJ13, Cond.code yJ13_numberOfLeadingZeros_95d88 cJ13_numberOfLeadingZeros_95d88 3 (some .int), Cond.methodLink RJ13 308 yJ6_numberOfLeadingZeros_0f7a4, Cond.static yJ6_numberOfLeadingZeros_0f7a4, Cond.initialized RJ6, Cond.code yJ6_numberOfLeadingZeros_0f7a4 cJ6_numberOfLeadingZeros_0f7a4 2 (some .int)]
def wsX0_timesPowerOfTwo_r3 : List Cond := [Cond.constant RJ6 264 (65536), Cond.methodLink RX0 103 yX0_raise, Cond.instanceMethod yX0_raise, Cond.selects RX0 yX0_raise yX0_raise, Cond.code yX0_raise cX0_raise 2 none, Cond.fieldLink RX0 13 "BinaryFunctions" "raised" "I", Cond.methodLink RX0 116 yX0_signOf, Cond.static yX0_signOf, Cond.code yX0_signOf cX0_signOf 2 (some .long), Cond.constantLong RX0 69 (-9223372036854775808), Cond.methodLink RX0 110 yX0_fullSignificand, Cond.static yX0_fullSignificand, Cond.code yX0_fullSignificand cX0_fullSignificand 2 (some .long), Cond.methodLink RX0 113 yX0_pattern, Cond.static yX0_pattern, Cond.code yX0_pattern cX0_pattern 5 (some .long), Cond.methodLink RX0 98 Lib.Math.min.name, Cond.static Lib.Math.min.name, Cond.code Lib.Math.min.name Lib.Math.min.code 2 (some .int), Cond.methodLink RX0 140 yX0_roundedToLeastPower, Cond.instanceMethod yX0_roundedToLeastPower, Cond.selects RX0 yX0_roundedToLeastPower yX0_roundedToLeastPower, Cond.code yX0_roundedToLeastPower cX0_roundedToLeastPower 6 (some .long), Cond.methodLink RX0 123 yX0_nearestShifted]
def wsX0_timesPowerOfTwo_r4 : List Cond := [Cond.static yX0_nearestShifted, Cond.code yX0_nearestShifted cX0_nearestShifted 10 (some .long)]
def wsX0_timesPowerOfTwo : List Cond := .code yX0_timesPowerOfTwo cX0_timesPowerOfTwo 7 (some .long) :: ((wsX0_timesPowerOfTwo_r1 ++ (wsX0_timesPowerOfTwo_r2 ++ (wsX0_timesPowerOfTwo_r3 ++ wsX0_timesPowerOfTwo_r4))) ++ wsX00)
def wsX0_scale_r1 : List Cond := [Cond.fieldLink RX0 9 "BinaryFunctions" "registers" "[J", Cond.methodLink RX0 20 yX0_isRegister, Cond.static yX0_isRegister, Cond.initialized RX0, Cond.code yX0_isRegister cX0_isRegister 1 (some .boolean), Cond.methodLink RX0 40 yX0_timesPowerOfTwo, Cond.instanceMethod yX0_timesPowerOfTwo, Cond.selects RX0 yX0_timesPowerOfTwo yX0_timesPowerOfTwo, Cond.code yX0_timesPowerOfTwo cX0_timesPowerOfTwo 7 (some .long), Cond.constantLong RX0 101 (9221120237041090560), Cond.constantLong RX0 132 (971), Cond.constantLong RX0 67 (9218868437227405312), Cond.constantLong RX0 134 (-1074), Cond.constantLong RX0 136 (60), Cond.methodLink RX0 138 Lib.MathLoose.min_long.x, Cond.static Lib.MathLoose.min_long.x, Cond.initialized "java/lang/Math", Cond.code Lib.MathLoose.min_long.x Lib.MathLoose.min_long.code 4 (some .long), Cond.methodLink RX0 51 yX0_isNan, Cond.static yX0_isNan, Cond.code yX0_isNan cX0_isNan 2 (some .boolean), Cond.constantLong RX0 65 (9223372036854775807), Cond.methodLink RX0 43 yX0_isZero, Cond.static yX0_isZero]
def wsX0_scale_r2 : List Cond := [Cond.code yX0_isZero cX0_isZero 2 (some .boolean), Cond.methodLink RX0 48 yX0_isInfinity, Cond.static yX0_isInfinity, Cond.code yX0_isInfinity cX0_isInfinity 2 (some .boolean), Cond.methodLink RX0 55 yX0_fullPower, Cond.static yX0_fullPower, Cond.code yX0_fullPower cX0_fullPower 2 (some .int), Cond.methodLink RX0 95 yX0_power, Cond.static yX0_power, Cond.code yX0_power cX0_power 2 (some .int), Cond.methodLink RX0 78 Lib.Math.max.name, Cond.static Lib.Math.max.name, Cond.code Lib.Math.max.name Lib.Math.max.code 2 (some .int), Cond.methodLink RX0 75 yX0_fieldE, Cond.static yX0_fieldE, Cond.code yX0_fieldE cX0_fieldE 2 (some .int), Cond.methodLink RX0 92 yX0_spareRoom, Cond.static yX0_spareRoom, Cond.code yX0_spareRoom cX0_spareRoom 2 (some .int), Cond.methodLink RX0 84 yX0_significand, Cond.static yX0_significand, Cond.code yX0_significand cX0_significand 4 (some .long), Cond.constantLong RX0 73 (4503599627370495), Cond.constantLong RX0 71 (4503599627370496)]
def wsX0_scale_r3 : List Cond := [Cond.methodLink RX0 87 yJ13_numberOfLeadingZeros_95d88, Cond.static yJ13_numberOfLeadingZeros_95d88, Cond.initialized RJ13, Cond.code yJ13_numberOfLeadingZeros_95d88 cJ13_numberOfLeadingZeros_95d88 3 (some .int), Cond.methodLink RJ13 308 yJ6_numberOfLeadingZeros_0f7a4, Cond.static yJ6_numberOfLeadingZeros_0f7a4, Cond.initialized RJ6, Cond.code yJ6_numberOfLeadingZeros_0f7a4 cJ6_numberOfLeadingZeros_0f7a4 2 (some .int), Cond.constant RJ6 264 (65536), Cond.methodLink RX0 103 yX0_raise, Cond.instanceMethod yX0_raise, Cond.selects RX0 yX0_raise yX0_raise, Cond.code yX0_raise cX0_raise 2 none, Cond.fieldLink RX0 13 "BinaryFunctions" "raised" "I", Cond.methodLink RX0 116 yX0_signOf, Cond.static yX0_signOf, Cond.code yX0_signOf cX0_signOf 2 (some .long), Cond.constantLong RX0 69 (-9223372036854775808), Cond.methodLink RX0 110 yX0_fullSignificand, Cond.static yX0_fullSignificand, Cond.code yX0_fullSignificand cX0_fullSignificand 2 (some .long), Cond.methodLink RX0 113 yX0_pattern, Cond.static yX0_pattern, Cond.code yX0_pattern cX0_pattern 5 (some .long)]
def wsX0_scale_r4 : List Cond := [Cond.methodLink RX0 98 Lib.Math.min.name, Cond.static Lib.Math.min.name, Cond.code Lib.Math.min.name Lib.Math.min.code 2 (some .int), Cond.methodLink RX0 140 yX0_roundedToLeastPower, Cond.instanceMethod yX0_roundedToLeastPower, Cond.selects RX0 yX0_roundedToLeastPower yX0_roundedToLeastPower, Cond.code yX0_roundedToLeastPower cX0_roundedToLeastPower 6 (some .long), Cond.methodLink RX0 123 yX0_nearestShifted, Cond.static yX0_nearestShifted, Cond.code yX0_nearestShifted cX0_nearestShifted 10 (some .long)]
def wsX0_scale : List Cond := .code yX0_scale cX0_scale 4 (some .boolean) :: ((wsX0_scale_r1 ++ (wsX0_scale_r2 ++ (wsX0_scale_r3 ++ wsX0_scale_r4))) ++ wsX00)
def wsX0_exponent_r1 : List Cond := [Cond.fieldLink RX0 9 "BinaryFunctions" "registers" "[J", Cond.constant RX0 47 (-2147483648), Cond.constant RX0 54 (2147483647), Cond.methodLink RX0 20 yX0_isRegister, Cond.static yX0_isRegister, Cond.initialized RX0, Cond.code yX0_isRegister cX0_isRegister 1 (some .boolean), Cond.methodLink RX0 43 yX0_isZero, Cond.static yX0_isZero, Cond.code yX0_isZero cX0_isZero 2 (some .boolean), Cond.constantLong RX0 65 (9223372036854775807), Cond.methodLink RX0 48 yX0_isInfinity, Cond.static yX0_isInfinity, Cond.code yX0_isInfinity cX0_isInfinity 2 (some .boolean), Cond.constantLong RX0 67 (9218868437227405312), Cond.methodLink RX0 51 yX0_isNan, Cond.static yX0_isNan, Cond.code yX0_isNan cX0_isNan 2 (some .boolean), Cond.methodLink RX0 55 yX0_fullPower, Cond.static yX0_fullPower, Cond.code yX0_fullPower cX0_fullPower 2 (some .int), Cond.methodLink RX0 95 yX0_power, Cond.static yX0_power, Cond.code yX0_power cX0_power 2 (some .int)]
def wsX0_exponent_r2 : List Cond := [Cond.methodLink RX0 78 Lib.Math.max.name, Cond.static Lib.Math.max.name, Cond.initialized "java/lang/Math", Cond.code Lib.Math.max.name Lib.Math.max.code 2 (some .int), Cond.methodLink RX0 75 yX0_fieldE, Cond.static yX0_fieldE, Cond.code yX0_fieldE cX0_fieldE 2 (some .int), Cond.methodLink RX0 92 yX0_spareRoom, Cond.static yX0_spareRoom, Cond.code yX0_spareRoom cX0_spareRoom 2 (some .int), Cond.methodLink RX0 84 yX0_significand, Cond.static yX0_significand, Cond.code yX0_significand cX0_significand 4 (some .long), Cond.constantLong RX0 73 (4503599627370495), Cond.constantLong RX0 71 (4503599627370496), Cond.methodLink RX0 87 yJ13_numberOfLeadingZeros_95d88, Cond.static yJ13_numberOfLeadingZeros_95d88, Cond.initialized RJ13, Cond.code yJ13_numberOfLeadingZeros_95d88 cJ13_numberOfLeadingZeros_95d88 3 (some .int), Cond.methodLink RJ13 308 yJ6_numberOfLeadingZeros_0f7a4, Cond.static yJ6_numberOfLeadingZeros_0f7a4, Cond.initialized RJ6, Cond.code yJ6_numberOfLeadingZeros_0f7a4 cJ6_numberOfLeadingZeros_0f7a4 2 (some .int), Cond.constant RJ6 264 (65536)]
def wsX0_exponent : List Cond := .code yX0_exponent cX0_exponent 4 (some .int) :: ((wsX0_exponent_r1 ++ wsX0_exponent_r2) ++ wsX00)
def wsX0_compare : List Cond := .code yX0_compare cX0_compare 7 (some .int) :: ([.fieldLink RX0 9 "BinaryFunctions" "registers" "[J", .methodLink RX0 20 yX0_isRegister, .static yX0_isRegister, .initialized RX0, .code yX0_isRegister cX0_isRegister 1 (some .boolean), .methodLink RX0 51 yX0_isNan, .static yX0_isNan, .code yX0_isNan cX0_isNan 2 (some .boolean), .constantLong RX0 65 (9223372036854775807), .constantLong RX0 67 (9218868437227405312), .methodLink RX0 59 yX0_place, .static yX0_place, .code yX0_place cX0_place 2 (some .long)] ++ wsX00)
def wsX0_sortOfAmount : List Cond := .code yX0_sortOfAmount cX0_sortOfAmount 2 (some .int) :: ([.constantLong RX0 65 (9223372036854775807), .constantLong RX0 71 (4503599627370496), .methodLink RX0 43 yX0_isZero, .static yX0_isZero, .initialized RX0, .code yX0_isZero cX0_isZero 2 (some .boolean), .methodLink RX0 48 yX0_isInfinity, .static yX0_isInfinity, .code yX0_isInfinity cX0_isInfinity 2 (some .boolean), .constantLong RX0 67 (9218868437227405312), .methodLink RX0 51 yX0_isNan, .static yX0_isNan, .code yX0_isNan cX0_isNan 2 (some .boolean)])
def wsX0_sort : List Cond := .code yX0_sort cX0_sort 4 (some .int) :: ([.fieldLink RX0 9 "BinaryFunctions" "registers" "[J", .methodLink RX0 20 yX0_isRegister, .static yX0_isRegister, .initialized RX0, .code yX0_isRegister cX0_isRegister 1 (some .boolean), .methodLink RX0 62 yX0_sortOfAmount, .static yX0_sortOfAmount, .code yX0_sortOfAmount cX0_sortOfAmount 2 (some .int), .constantLong RX0 65 (9223372036854775807), .constantLong RX0 71 (4503599627370496), .methodLink RX0 43 yX0_isZero, .static yX0_isZero, .code yX0_isZero cX0_isZero 2 (some .boolean), .methodLink RX0 48 yX0_isInfinity, .static yX0_isInfinity, .code yX0_isInfinity cX0_isInfinity 2 (some .boolean), .constantLong RX0 67 (9218868437227405312), .methodLink RX0 51 yX0_isNan, .static yX0_isNan, .code yX0_isNan cX0_isNan 2 (some .boolean)] ++ wsX00)
def wsX0_flags : List Cond := .code yX0_flags cX0_flags 1 (some .int) :: ([.fieldLink RX0 13 "BinaryFunctions" "raised" "I"] ++ wsX00)
def wsX0_clear : List Cond := .code yX0_clear cX0_clear 1 none :: ([.fieldLink RX0 13 "BinaryFunctions" "raised" "I"] ++ wsX00)
def wsJ9_max_7cf53 : List Cond := .code yJ9_max_7cf53 cJ9_max_7cf53 2 (some .int) :: ([])
def wsJ9_min_7cf53 : List Cond := .code yJ9_min_7cf53 cJ9_min_7cf53 2 (some .int) :: ([])
def wsJ9_min_f86c9 : List Cond := .code yJ9_min_f86c9 cJ9_min_f86c9 4 (some .long) :: ([])
theorem dX0_init_0 : decode cX0_init 0 = .ok (.aload_n 0, 1) := by decide +kernel
theorem dX0_init_1 : decode cX0_init 1 = .ok (.invokespecial 1, 3) := by decide +kernel
theorem dX0_init_4 : decode cX0_init 4 = .ok (.aload_n 0, 1) := by decide +kernel
theorem dX0_init_5 : decode cX0_init 5 = .ok (.bipush 8, 2) := by decide +kernel
theorem dX0_init_7 : decode cX0_init 7 = .ok (.newarray .long, 2) := by decide +kernel
theorem dX0_init_9 : decode cX0_init 9 = .ok (.putfield 9, 3) := by decide +kernel
theorem dX0_init_12 : decode cX0_init 12 = .ok (.aload_n 0, 1) := by decide +kernel
theorem dX0_init_13 : decode cX0_init 13 = .ok (.iconst 0, 1) := by decide +kernel
theorem dX0_init_14 : decode cX0_init 14 = .ok (.putfield 13, 3) := by decide +kernel
theorem dX0_init_17 : decode cX0_init 17 = .ok (.aload_n 0, 1) := by decide +kernel
theorem dX0_init_18 : decode cX0_init 18 = .ok (.iconst 0, 1) := by decide +kernel
theorem dX0_init_19 : decode cX0_init 19 = .ok (.putfield 17, 3) := by decide +kernel
theorem dX0_init_22 : decode cX0_init 22 = .ok (.return_, 1) := by decide +kernel
set_option maxRecDepth 20000 in
theorem ggX0_load_X0_isRegister : GoodIn wsX0_load wsX0_isRegister := goodIn_r _ [5] (by decide +kernel) (by decide +kernel)
set_option maxRecDepth 20000 in
theorem gX0_load_X0_isRegister : GoodIn wsX0_load (va_wsS RX0 20 yX0_isRegister wsX0_isRegister) := goodIn_app (goodIn_of _ (by decide +kernel)) ggX0_load_X0_isRegister
theorem dX0_load_0 : decode cX0_load 0 = .ok (.iload_n 1, 1) := by decide +kernel
theorem dX0_load_1 : decode cX0_load 1 = .ok (.invokestatic 20, 3) := by decide +kernel
theorem dX0_load_4 : decode cX0_load 4 = .ok (.ifCond .ne 5, 3) := by decide +kernel
theorem dX0_load_7 : decode cX0_load 7 = .ok (.iconst 0, 1) := by decide +kernel
theorem dX0_load_8 : decode cX0_load 8 = .ok (.ireturn, 1) := by decide +kernel
theorem dX0_load_9 : decode cX0_load 9 = .ok (.aload_n 0, 1) := by decide +kernel
theorem dX0_load_10 : decode cX0_load 10 = .ok (.getfield 9, 3) := by decide +kernel
theorem dX0_load_13 : decode cX0_load 13 = .ok (.iload_n 1, 1) := by decide +kernel
theorem dX0_load_14 : decode cX0_load 14 = .ok (.lload_n 2, 1) := by decide +kernel
theorem dX0_load_15 : decode cX0_load 15 = .ok (.lastore, 1) := by decide +kernel
theorem dX0_load_16 : decode cX0_load 16 = .ok (.iconst 1, 1) := by decide +kernel
theorem dX0_load_17 : decode cX0_load 17 = .ok (.ireturn, 1) := by decide +kernel
set_option maxRecDepth 20000 in
theorem ggX0_bits_X0_isRegister : GoodIn wsX0_bits wsX0_isRegister := goodIn_r _ [5] (by decide +kernel) (by decide +kernel)
set_option maxRecDepth 20000 in
theorem gX0_bits_X0_isRegister : GoodIn wsX0_bits (va_wsS RX0 20 yX0_isRegister wsX0_isRegister) := goodIn_app (goodIn_of _ (by decide +kernel)) ggX0_bits_X0_isRegister
theorem dX0_bits_0 : decode cX0_bits 0 = .ok (.iload_n 1, 1) := by decide +kernel
theorem dX0_bits_1 : decode cX0_bits 1 = .ok (.invokestatic 20, 3) := by decide +kernel
theorem dX0_bits_4 : decode cX0_bits 4 = .ok (.ifCond .eq 12, 3) := by decide +kernel
theorem dX0_bits_7 : decode cX0_bits 7 = .ok (.aload_n 0, 1) := by decide +kernel
theorem dX0_bits_8 : decode cX0_bits 8 = .ok (.getfield 9, 3) := by decide +kernel
theorem dX0_bits_11 : decode cX0_bits 11 = .ok (.iload_n 1, 1) := by decide +kernel
theorem dX0_bits_12 : decode cX0_bits 12 = .ok (.laload, 1) := by decide +kernel
theorem dX0_bits_13 : decode cX0_bits 13 = .ok (.goto 4, 3) := by decide +kernel
theorem dX0_bits_16 : decode cX0_bits 16 = .ok (.lconst 0, 1) := by decide +kernel
theorem dX0_bits_17 : decode cX0_bits 17 = .ok (.lreturn, 1) := by decide +kernel
set_option maxRecDepth 20000 in
theorem ggX0_sqrt_X0_isRegister : GoodIn wsX0_sqrt wsX0_isRegister := goodIn_r _ [5] (by decide +kernel) (by decide +kernel)
set_option maxRecDepth 20000 in
theorem gX0_sqrt_X0_isRegister : GoodIn wsX0_sqrt (va_wsS RX0 20 yX0_isRegister wsX0_isRegister) := goodIn_app (goodIn_of _ (by decide +kernel)) ggX0_sqrt_X0_isRegister
set_option maxRecDepth 20000 in
theorem ggX0_sqrt_X0_squareRoot : GoodIn wsX0_sqrt wsX0_squareRoot := goodIn_r _ [9, 10, 11, 12, 13, 4, 14, 15, 16, 17, 18, 19, 20, 21, 22, 23, 24, 25, 26, 27, 28, 29, 30, 31, 32, 33, 34, 35, 36, 37, 38, 39, 40, 41, 42, 43, 44, 45, 46, 47, 48, 49, 50, 51, 52, 53, 54, 55, 56, 57, 58, 59, 60, 61, 62, 63, 64, 65, 66, 67, 68, 69] (by decide +kernel) (by decide +kernel)
set_option maxRecDepth 20000 in
theorem gX0_sqrt_X0_squareRoot : GoodIn wsX0_sqrt (wsV RX0 24 RX0 yX0_squareRoot wsX0_squareRoot) := goodIn_app (goodIn_of _ (by decide +kernel)) ggX0_sqrt_X0_squareRoot
theorem dX0_sqrt_0 : decode cX0_sqrt 0 = .ok (.iload_n 1, 1) := by decide +kernel
theorem dX0_sqrt_1 : decode cX0_sqrt 1 = .ok (.invokestatic 20, 3) := by decide +kernel
theorem dX0_sqrt_4 : decode cX0_sqrt 4 = .ok (.ifCond .eq 10, 3) := by decide +kernel
theorem dX0_sqrt_7 : decode cX0_sqrt 7 = .ok (.iload_n 2, 1) := by decide +kernel
theorem dX0_sqrt_8 : decode cX0_sqrt 8 = .ok (.invokestatic 20, 3) := by decide +kernel
theorem dX0_sqrt_11 : decode cX0_sqrt 11 = .ok (.ifCond .ne 5, 3) := by decide +kernel
theorem dX0_sqrt_14 : decode cX0_sqrt 14 = .ok (.iconst 0, 1) := by decide +kernel
theorem dX0_sqrt_15 : decode cX0_sqrt 15 = .ok (.ireturn, 1) := by decide +kernel
theorem dX0_sqrt_16 : decode cX0_sqrt 16 = .ok (.aload_n 0, 1) := by decide +kernel
theorem dX0_sqrt_17 : decode cX0_sqrt 17 = .ok (.getfield 9, 3) := by decide +kernel
theorem dX0_sqrt_20 : decode cX0_sqrt 20 = .ok (.iload_n 1, 1) := by decide +kernel
theorem dX0_sqrt_21 : decode cX0_sqrt 21 = .ok (.aload_n 0, 1) := by decide +kernel
theorem dX0_sqrt_22 : decode cX0_sqrt 22 = .ok (.aload_n 0, 1) := by decide +kernel
theorem dX0_sqrt_23 : decode cX0_sqrt 23 = .ok (.getfield 9, 3) := by decide +kernel
theorem dX0_sqrt_26 : decode cX0_sqrt 26 = .ok (.iload_n 2, 1) := by decide +kernel
theorem dX0_sqrt_27 : decode cX0_sqrt 27 = .ok (.laload, 1) := by decide +kernel
theorem dX0_sqrt_28 : decode cX0_sqrt 28 = .ok (.invokevirtual 24, 3) := by decide +kernel
theorem dX0_sqrt_31 : decode cX0_sqrt 31 = .ok (.lastore, 1) := by decide +kernel
theorem dX0_sqrt_32 : decode cX0_sqrt 32 = .ok (.iconst 1, 1) := by decide +kernel
theorem dX0_sqrt_33 : decode cX0_sqrt 33 = .ok (.ireturn, 1) := by decide +kernel
set_option maxRecDepth 20000 in
theorem ggX0_whole_X0_isRegister : GoodIn wsX0_whole wsX0_isRegister := goodIn_r _ [5] (by decide +kernel) (by decide +kernel)
set_option maxRecDepth 20000 in
theorem gX0_whole_X0_isRegister : GoodIn wsX0_whole (va_wsS RX0 20 yX0_isRegister wsX0_isRegister) := goodIn_app (goodIn_of _ (by decide +kernel)) ggX0_whole_X0_isRegister
set_option maxRecDepth 20000 in
theorem ggX0_whole_X0_madeWhole : GoodIn wsX0_whole wsX0_madeWhole := goodIn_r _ [9, 10, 11, 12, 13, 14, 15, 16, 4, 17, 18, 19, 20, 21, 22, 23, 24, 25, 26, 27, 28, 29, 30, 31, 32, 33, 34, 35, 36, 37, 38, 39, 40, 41, 42, 43, 44, 45, 46, 47, 48, 49, 50, 51, 52, 53, 54, 55, 56, 57, 58, 59, 60, 61, 62, 63, 64, 65, 66, 67, 68, 69] (by decide +kernel) (by decide +kernel)
set_option maxRecDepth 20000 in
theorem gX0_whole_X0_madeWhole : GoodIn wsX0_whole (wsV RX0 28 RX0 yX0_madeWhole wsX0_madeWhole) := goodIn_app (goodIn_of _ (by decide +kernel)) ggX0_whole_X0_madeWhole
theorem dX0_whole_0 : decode cX0_whole 0 = .ok (.iload_n 1, 1) := by decide +kernel
theorem dX0_whole_1 : decode cX0_whole 1 = .ok (.invokestatic 20, 3) := by decide +kernel
theorem dX0_whole_4 : decode cX0_whole 4 = .ok (.ifCond .eq 19, 3) := by decide +kernel
theorem dX0_whole_7 : decode cX0_whole 7 = .ok (.iload_n 2, 1) := by decide +kernel
theorem dX0_whole_8 : decode cX0_whole 8 = .ok (.invokestatic 20, 3) := by decide +kernel
theorem dX0_whole_11 : decode cX0_whole 11 = .ok (.ifCond .eq 12, 3) := by decide +kernel
theorem dX0_whole_14 : decode cX0_whole 14 = .ok (.iload_n 3, 1) := by decide +kernel
theorem dX0_whole_15 : decode cX0_whole 15 = .ok (.ifCond .lt 8, 3) := by decide +kernel
theorem dX0_whole_18 : decode cX0_whole 18 = .ok (.iload_n 3, 1) := by decide +kernel
theorem dX0_whole_19 : decode cX0_whole 19 = .ok (.iconst 3, 1) := by decide +kernel
theorem dX0_whole_20 : decode cX0_whole 20 = .ok (.if_icmp .le 5, 3) := by decide +kernel
theorem dX0_whole_23 : decode cX0_whole 23 = .ok (.iconst 0, 1) := by decide +kernel
theorem dX0_whole_24 : decode cX0_whole 24 = .ok (.ireturn, 1) := by decide +kernel
theorem dX0_whole_25 : decode cX0_whole 25 = .ok (.aload_n 0, 1) := by decide +kernel
theorem dX0_whole_26 : decode cX0_whole 26 = .ok (.getfield 9, 3) := by decide +kernel
theorem dX0_whole_29 : decode cX0_whole 29 = .ok (.iload_n 1, 1) := by decide +kernel
theorem dX0_whole_30 : decode cX0_whole 30 = .ok (.aload_n 0, 1) := by decide +kernel
theorem dX0_whole_31 : decode cX0_whole 31 = .ok (.aload_n 0, 1) := by decide +kernel
theorem dX0_whole_32 : decode cX0_whole 32 = .ok (.getfield 9, 3) := by decide +kernel
theorem dX0_whole_35 : decode cX0_whole 35 = .ok (.iload_n 2, 1) := by decide +kernel
theorem dX0_whole_36 : decode cX0_whole 36 = .ok (.laload, 1) := by decide +kernel
theorem dX0_whole_37 : decode cX0_whole 37 = .ok (.iload_n 3, 1) := by decide +kernel
theorem dX0_whole_38 : decode cX0_whole 38 = .ok (.invokevirtual 28, 3) := by decide +kernel
theorem dX0_whole_41 : decode cX0_whole 41 = .ok (.lastore, 1) := by decide +kernel
theorem dX0_whole_42 : decode cX0_whole 42 = .ok (.iconst 1, 1) := by decide +kernel
theorem dX0_whole_43 : decode cX0_whole 43 = .ok (.ireturn, 1) := by decide +kernel
set_option maxRecDepth 20000 in
theorem ggX0_left_X0_isRegister : GoodIn wsX0_left wsX0_isRegister := goodIn_r _ [5] (by decide +kernel) (by decide +kernel)
set_option maxRecDepth 20000 in
theorem gX0_left_X0_isRegister : GoodIn wsX0_left (va_wsS RX0 20 yX0_isRegister wsX0_isRegister) := goodIn_app (goodIn_of _ (by decide +kernel)) ggX0_left_X0_isRegister
set_option maxRecDepth 20000 in
theorem ggX0_left_X0_remainder : GoodIn wsX0_left wsX0_remainder := goodIn_r _ [9, 10, 11, 12, 13, 4, 14, 15, 16, 17, 18, 19, 20, 21, 22, 23, 24, 25, 26, 27, 28, 29, 30, 31, 32, 33, 34, 35, 36, 37, 38, 39, 40, 41, 42, 43, 44, 45, 46, 47, 48, 49, 50, 51, 52, 53, 54, 55, 56, 57, 58, 59, 60, 61, 62, 63, 64, 65, 66, 67, 68, 69] (by decide +kernel) (by decide +kernel)
set_option maxRecDepth 20000 in
theorem gX0_left_X0_remainder : GoodIn wsX0_left (wsV RX0 32 RX0 yX0_remainder wsX0_remainder) := goodIn_app (goodIn_of _ (by decide +kernel)) ggX0_left_X0_remainder
theorem dX0_left_0 : decode cX0_left 0 = .ok (.iload_n 1, 1) := by decide +kernel
theorem dX0_left_1 : decode cX0_left 1 = .ok (.invokestatic 20, 3) := by decide +kernel
theorem dX0_left_4 : decode cX0_left 4 = .ok (.ifCond .eq 17, 3) := by decide +kernel
theorem dX0_left_7 : decode cX0_left 7 = .ok (.iload_n 2, 1) := by decide +kernel
theorem dX0_left_8 : decode cX0_left 8 = .ok (.invokestatic 20, 3) := by decide +kernel
theorem dX0_left_11 : decode cX0_left 11 = .ok (.ifCond .eq 10, 3) := by decide +kernel
theorem dX0_left_14 : decode cX0_left 14 = .ok (.iload_n 3, 1) := by decide +kernel
theorem dX0_left_15 : decode cX0_left 15 = .ok (.invokestatic 20, 3) := by decide +kernel
theorem dX0_left_18 : decode cX0_left 18 = .ok (.ifCond .ne 5, 3) := by decide +kernel
theorem dX0_left_21 : decode cX0_left 21 = .ok (.iconst 0, 1) := by decide +kernel
theorem dX0_left_22 : decode cX0_left 22 = .ok (.ireturn, 1) := by decide +kernel
theorem dX0_left_23 : decode cX0_left 23 = .ok (.aload_n 0, 1) := by decide +kernel
theorem dX0_left_24 : decode cX0_left 24 = .ok (.getfield 9, 3) := by decide +kernel
theorem dX0_left_27 : decode cX0_left 27 = .ok (.iload_n 1, 1) := by decide +kernel
theorem dX0_left_28 : decode cX0_left 28 = .ok (.aload_n 0, 1) := by decide +kernel
theorem dX0_left_29 : decode cX0_left 29 = .ok (.aload_n 0, 1) := by decide +kernel
theorem dX0_left_30 : decode cX0_left 30 = .ok (.getfield 9, 3) := by decide +kernel
theorem dX0_left_33 : decode cX0_left 33 = .ok (.iload_n 2, 1) := by decide +kernel
theorem dX0_left_34 : decode cX0_left 34 = .ok (.laload, 1) := by decide +kernel
theorem dX0_left_35 : decode cX0_left 35 = .ok (.aload_n 0, 1) := by decide +kernel
theorem dX0_left_36 : decode cX0_left 36 = .ok (.getfield 9, 3) := by decide +kernel
theorem dX0_left_39 : decode cX0_left 39 = .ok (.iload_n 3, 1) := by decide +kernel
theorem dX0_left_40 : decode cX0_left 40 = .ok (.laload, 1) := by decide +kernel
theorem dX0_left_41 : decode cX0_left 41 = .ok (.iload 4, 2) := by decide +kernel
theorem dX0_left_43 : decode cX0_left 43 = .ok (.invokevirtual 32, 3) := by decide +kernel
theorem dX0_left_46 : decode cX0_left 46 = .ok (.lastore, 1) := by decide +kernel
theorem dX0_left_47 : decode cX0_left 47 = .ok (.iconst 1, 1) := by decide +kernel
theorem dX0_left_48 : decode cX0_left 48 = .ok (.ireturn, 1) := by decide +kernel
theorem dX0_quotient_0 : decode cX0_quotient 0 = .ok (.aload_n 0, 1) := by decide +kernel
theorem dX0_quotient_1 : decode cX0_quotient 1 = .ok (.getfield 17, 3) := by decide +kernel
theorem dX0_quotient_4 : decode cX0_quotient 4 = .ok (.ireturn, 1) := by decide +kernel
set_option maxRecDepth 20000 in
theorem ggX0_neighbour_X0_isRegister : GoodIn wsX0_neighbour wsX0_isRegister := goodIn_r _ [5] (by decide +kernel) (by decide +kernel)
set_option maxRecDepth 20000 in
theorem gX0_neighbour_X0_isRegister : GoodIn wsX0_neighbour (va_wsS RX0 20 yX0_isRegister wsX0_isRegister) := goodIn_app (goodIn_of _ (by decide +kernel)) ggX0_neighbour_X0_isRegister
set_option maxRecDepth 20000 in
theorem ggX0_neighbour_X0_nextTowards : GoodIn wsX0_neighbour wsX0_nextTowards := goodIn_r _ [8, 9, 10, 11, 12, 4, 13, 14, 15, 16, 17, 18, 19, 20, 21] (by decide +kernel) (by decide +kernel)
set_option maxRecDepth 20000 in
theorem gX0_neighbour_X0_nextTowards : GoodIn wsX0_neighbour (va_wsS RX0 36 yX0_nextTowards wsX0_nextTowards) := goodIn_app (goodIn_of _ (by decide +kernel)) ggX0_neighbour_X0_nextTowards
theorem dX0_neighbour_0 : decode cX0_neighbour 0 = .ok (.iload_n 1, 1) := by decide +kernel
theorem dX0_neighbour_1 : decode cX0_neighbour 1 = .ok (.invokestatic 20, 3) := by decide +kernel
theorem dX0_neighbour_4 : decode cX0_neighbour 4 = .ok (.ifCond .eq 17, 3) := by decide +kernel
theorem dX0_neighbour_7 : decode cX0_neighbour 7 = .ok (.iload_n 2, 1) := by decide +kernel
theorem dX0_neighbour_8 : decode cX0_neighbour 8 = .ok (.invokestatic 20, 3) := by decide +kernel
theorem dX0_neighbour_11 : decode cX0_neighbour 11 = .ok (.ifCond .eq 10, 3) := by decide +kernel
theorem dX0_neighbour_14 : decode cX0_neighbour 14 = .ok (.iload_n 3, 1) := by decide +kernel
theorem dX0_neighbour_15 : decode cX0_neighbour 15 = .ok (.invokestatic 20, 3) := by decide +kernel
theorem dX0_neighbour_18 : decode cX0_neighbour 18 = .ok (.ifCond .ne 5, 3) := by decide +kernel
theorem dX0_neighbour_21 : decode cX0_neighbour 21 = .ok (.iconst 0, 1) := by decide +kernel
theorem dX0_neighbour_22 : decode cX0_neighbour 22 = .ok (.ireturn, 1) := by decide +kernel
theorem dX0_neighbour_23 : decode cX0_neighbour 23 = .ok (.aload_n 0, 1) := by decide +kernel
theorem dX0_neighbour_24 : decode cX0_neighbour 24 = .ok (.getfield 9, 3) := by decide +kernel
theorem dX0_neighbour_27 : decode cX0_neighbour 27 = .ok (.iload_n 1, 1) := by decide +kernel
theorem dX0_neighbour_28 : decode cX0_neighbour 28 = .ok (.aload_n 0, 1) := by decide +kernel
theorem dX0_neighbour_29 : decode cX0_neighbour 29 = .ok (.getfield 9, 3) := by decide +kernel
theorem dX0_neighbour_32 : decode cX0_neighbour 32 = .ok (.iload_n 2, 1) := by decide +kernel
theorem dX0_neighbour_33 : decode cX0_neighbour 33 = .ok (.laload, 1) := by decide +kernel
theorem dX0_neighbour_34 : decode cX0_neighbour 34 = .ok (.aload_n 0, 1) := by decide +kernel
theorem dX0_neighbour_35 : decode cX0_neighbour 35 = .ok (.getfield 9, 3) := by decide +kernel
theorem dX0_neighbour_38 : decode cX0_neighbour 38 = .ok (.iload_n 3, 1) := by decide +kernel
theorem dX0_neighbour_39 : decode cX0_neighbour 39 = .ok (.laload, 1) := by decide +kernel
theorem dX0_neighbour_40 : decode cX0_neighbour 40 = .ok (.invokestatic 36, 3) := by decide +kernel
theorem dX0_neighbour_43 : decode cX0_neighbour 43 = .ok (.lastore, 1) := by decide +kernel
theorem dX0_neighbour_44 : decode cX0_neighbour 44 = .ok (.iconst 1, 1) := by decide +kernel
theorem dX0_neighbour_45 : decode cX0_neighbour 45 = .ok (.ireturn, 1) := by decide +kernel
set_option maxRecDepth 20000 in
theorem ggX0_scale_X0_isRegister : GoodIn wsX0_scale wsX0_isRegister := goodIn_r _ [5] (by decide +kernel) (by decide +kernel)
set_option maxRecDepth 20000 in
theorem gX0_scale_X0_isRegister : GoodIn wsX0_scale (va_wsS RX0 20 yX0_isRegister wsX0_isRegister) := goodIn_app (goodIn_of _ (by decide +kernel)) ggX0_scale_X0_isRegister
set_option maxRecDepth 20000 in
theorem ggX0_scale_X0_timesPowerOfTwo : GoodIn wsX0_scale wsX0_timesPowerOfTwo := goodIn_r _ [9, 10, 11, 12, 13, 14, 15, 16, 17, 18, 19, 20, 4, 21, 22, 23, 24, 25, 26, 27, 28, 29, 30, 31, 32, 33, 34, 35, 36, 37, 38, 39, 40, 41, 42, 43, 44, 45, 46, 47, 48, 49, 50, 51, 52, 53, 54, 55, 56, 57, 58, 59, 60, 61, 62, 63, 64, 65, 66, 67, 68, 69, 70, 71, 72, 73, 74, 75, 76, 77, 78, 79, 80, 81, 82, 83, 84, 85] (by decide +kernel) (by decide +kernel)
set_option maxRecDepth 20000 in
theorem gX0_scale_X0_timesPowerOfTwo : GoodIn wsX0_scale (wsV RX0 40 RX0 yX0_timesPowerOfTwo wsX0_timesPowerOfTwo) := goodIn_app (goodIn_of _ (by decide +kernel)) ggX0_scale_X0_timesPowerOfTwo
theorem dX0_scale_0 : decode cX0_scale 0 = .ok (.iload_n 1, 1) := by decide +kernel
theorem dX0_scale_1 : decode cX0_scale 1 = .ok (.invokestatic 20, 3) := by decide +kernel
theorem dX0_scale_4 : decode cX0_scale 4 = .ok (.ifCond .eq 10, 3) := by decide +kernel
theorem dX0_scale_7 : decode cX0_scale 7 = .ok (.iload_n 2, 1) := by decide +kernel
theorem dX0_scale_8 : decode cX0_scale 8 = .ok (.invokestatic 20, 3) := by decide +kernel
theorem dX0_scale_11 : decode cX0_scale 11 = .ok (.ifCond .ne 5, 3) := by decide +kernel
theorem dX0_scale_14 : decode cX0_scale 14 = .ok (.iconst 0, 1) := by decide +kernel
theorem dX0_scale_15 : decode cX0_scale 15 = .ok (.ireturn, 1) := by decide +kernel
theorem dX0_scale_16 : decode cX0_scale 16 = .ok (.aload_n 0, 1) := by decide +kernel
theorem dX0_scale_17 : decode cX0_scale 17 = .ok (.getfield 9, 3) := by decide +kernel
theorem dX0_scale_20 : decode cX0_scale 20 = .ok (.iload_n 1, 1) := by decide +kernel
theorem dX0_scale_21 : decode cX0_scale 21 = .ok (.aload_n 0, 1) := by decide +kernel
theorem dX0_scale_22 : decode cX0_scale 22 = .ok (.aload_n 0, 1) := by decide +kernel
theorem dX0_scale_23 : decode cX0_scale 23 = .ok (.getfield 9, 3) := by decide +kernel
theorem dX0_scale_26 : decode cX0_scale 26 = .ok (.iload_n 2, 1) := by decide +kernel
theorem dX0_scale_27 : decode cX0_scale 27 = .ok (.laload, 1) := by decide +kernel
theorem dX0_scale_28 : decode cX0_scale 28 = .ok (.iload_n 3, 1) := by decide +kernel
theorem dX0_scale_29 : decode cX0_scale 29 = .ok (.invokevirtual 40, 3) := by decide +kernel
theorem dX0_scale_32 : decode cX0_scale 32 = .ok (.lastore, 1) := by decide +kernel
theorem dX0_scale_33 : decode cX0_scale 33 = .ok (.iconst 1, 1) := by decide +kernel
theorem dX0_scale_34 : decode cX0_scale 34 = .ok (.ireturn, 1) := by decide +kernel
set_option maxRecDepth 20000 in
theorem ggX0_exponent_X0_isRegister : GoodIn wsX0_exponent wsX0_isRegister := goodIn_r _ [7] (by decide +kernel) (by decide +kernel)
set_option maxRecDepth 20000 in
theorem gX0_exponent_X0_isRegister : GoodIn wsX0_exponent (va_wsS RX0 20 yX0_isRegister wsX0_isRegister) := goodIn_app (goodIn_of _ (by decide +kernel)) ggX0_exponent_X0_isRegister
set_option maxRecDepth 20000 in
theorem ggX0_exponent_X0_isZero : GoodIn wsX0_exponent wsX0_isZero := goodIn_r _ [10, 11] (by decide +kernel) (by decide +kernel)
set_option maxRecDepth 20000 in
theorem gX0_exponent_X0_isZero : GoodIn wsX0_exponent (va_wsS RX0 43 yX0_isZero wsX0_isZero) := goodIn_app (goodIn_of _ (by decide +kernel)) ggX0_exponent_X0_isZero
set_option maxRecDepth 20000 in
theorem ggX0_exponent_X0_isInfinity : GoodIn wsX0_exponent wsX0_isInfinity := goodIn_r _ [14, 11, 15] (by decide +kernel) (by decide +kernel)
set_option maxRecDepth 20000 in
theorem gX0_exponent_X0_isInfinity : GoodIn wsX0_exponent (va_wsS RX0 48 yX0_isInfinity wsX0_isInfinity) := goodIn_app (goodIn_of _ (by decide +kernel)) ggX0_exponent_X0_isInfinity
set_option maxRecDepth 20000 in
theorem ggX0_exponent_X0_isNan : GoodIn wsX0_exponent wsX0_isNan := goodIn_r _ [18, 11, 15] (by decide +kernel) (by decide +kernel)
set_option maxRecDepth 20000 in
theorem gX0_exponent_X0_isNan : GoodIn wsX0_exponent (va_wsS RX0 51 yX0_isNan wsX0_isNan) := goodIn_app (goodIn_of _ (by decide +kernel)) ggX0_exponent_X0_isNan
set_option maxRecDepth 20000 in
theorem ggX0_exponent_X0_fullPower : GoodIn wsX0_exponent wsX0_fullPower := goodIn_r _ [21, 22, 23, 6, 24, 25, 26, 27, 28, 29, 30, 31, 11, 32, 33, 34, 35, 36, 37, 38, 39, 40, 41, 42, 43, 44, 45, 46, 47, 48] (by decide +kernel) (by decide +kernel)
set_option maxRecDepth 20000 in
theorem gX0_exponent_X0_fullPower : GoodIn wsX0_exponent (va_wsS RX0 55 yX0_fullPower wsX0_fullPower) := goodIn_app (goodIn_of _ (by decide +kernel)) ggX0_exponent_X0_fullPower
theorem dX0_exponent_0 : decode cX0_exponent 0 = .ok (.iload_n 1, 1) := by decide +kernel
theorem dX0_exponent_1 : decode cX0_exponent 1 = .ok (.invokestatic 20, 3) := by decide +kernel
theorem dX0_exponent_4 : decode cX0_exponent 4 = .ok (.ifCond .ne 5, 3) := by decide +kernel
theorem dX0_exponent_7 : decode cX0_exponent 7 = .ok (.iconst 0, 1) := by decide +kernel
theorem dX0_exponent_8 : decode cX0_exponent 8 = .ok (.ireturn, 1) := by decide +kernel
theorem dX0_exponent_9 : decode cX0_exponent 9 = .ok (.aload_n 0, 1) := by decide +kernel
theorem dX0_exponent_10 : decode cX0_exponent 10 = .ok (.getfield 9, 3) := by decide +kernel
theorem dX0_exponent_13 : decode cX0_exponent 13 = .ok (.iload_n 1, 1) := by decide +kernel
theorem dX0_exponent_14 : decode cX0_exponent 14 = .ok (.laload, 1) := by decide +kernel
theorem dX0_exponent_15 : decode cX0_exponent 15 = .ok (.lstore_n 2, 1) := by decide +kernel
theorem dX0_exponent_16 : decode cX0_exponent 16 = .ok (.lload_n 2, 1) := by decide +kernel
theorem dX0_exponent_17 : decode cX0_exponent 17 = .ok (.invokestatic 43, 3) := by decide +kernel
theorem dX0_exponent_20 : decode cX0_exponent 20 = .ok (.ifCond .eq 6, 3) := by decide +kernel
theorem dX0_exponent_23 : decode cX0_exponent 23 = .ok (.ldc 47, 2) := by decide +kernel
theorem dX0_exponent_25 : decode cX0_exponent 25 = .ok (.ireturn, 1) := by decide +kernel
theorem dX0_exponent_26 : decode cX0_exponent 26 = .ok (.lload_n 2, 1) := by decide +kernel
theorem dX0_exponent_27 : decode cX0_exponent 27 = .ok (.invokestatic 48, 3) := by decide +kernel
theorem dX0_exponent_30 : decode cX0_exponent 30 = .ok (.ifCond .ne 10, 3) := by decide +kernel
theorem dX0_exponent_33 : decode cX0_exponent 33 = .ok (.lload_n 2, 1) := by decide +kernel
theorem dX0_exponent_34 : decode cX0_exponent 34 = .ok (.invokestatic 51, 3) := by decide +kernel
theorem dX0_exponent_37 : decode cX0_exponent 37 = .ok (.ifCond .eq 6, 3) := by decide +kernel
theorem dX0_exponent_40 : decode cX0_exponent 40 = .ok (.ldc 54, 2) := by decide +kernel
theorem dX0_exponent_42 : decode cX0_exponent 42 = .ok (.ireturn, 1) := by decide +kernel
theorem dX0_exponent_43 : decode cX0_exponent 43 = .ok (.lload_n 2, 1) := by decide +kernel
theorem dX0_exponent_44 : decode cX0_exponent 44 = .ok (.invokestatic 55, 3) := by decide +kernel
theorem dX0_exponent_47 : decode cX0_exponent 47 = .ok (.bipush 52, 2) := by decide +kernel
theorem dX0_exponent_49 : decode cX0_exponent 49 = .ok (.iadd, 1) := by decide +kernel
theorem dX0_exponent_50 : decode cX0_exponent 50 = .ok (.ireturn, 1) := by decide +kernel
set_option maxRecDepth 20000 in
theorem ggX0_compare_X0_isRegister : GoodIn wsX0_compare wsX0_isRegister := goodIn_r _ [5] (by decide +kernel) (by decide +kernel)
set_option maxRecDepth 20000 in
theorem gX0_compare_X0_isRegister : GoodIn wsX0_compare (va_wsS RX0 20 yX0_isRegister wsX0_isRegister) := goodIn_app (goodIn_of _ (by decide +kernel)) ggX0_compare_X0_isRegister
set_option maxRecDepth 20000 in
theorem ggX0_compare_X0_isNan : GoodIn wsX0_compare wsX0_isNan := goodIn_r _ [8, 9, 10] (by decide +kernel) (by decide +kernel)
set_option maxRecDepth 20000 in
theorem gX0_compare_X0_isNan : GoodIn wsX0_compare (va_wsS RX0 51 yX0_isNan wsX0_isNan) := goodIn_app (goodIn_of _ (by decide +kernel)) ggX0_compare_X0_isNan
set_option maxRecDepth 20000 in
theorem ggX0_compare_X0_place : GoodIn wsX0_compare wsX0_place := goodIn_r _ [13, 9] (by decide +kernel) (by decide +kernel)
set_option maxRecDepth 20000 in
theorem gX0_compare_X0_place : GoodIn wsX0_compare (va_wsS RX0 59 yX0_place wsX0_place) := goodIn_app (goodIn_of _ (by decide +kernel)) ggX0_compare_X0_place
theorem dX0_compare_0 : decode cX0_compare 0 = .ok (.iload_n 1, 1) := by decide +kernel
theorem dX0_compare_1 : decode cX0_compare 1 = .ok (.invokestatic 20, 3) := by decide +kernel
theorem dX0_compare_4 : decode cX0_compare 4 = .ok (.ifCond .eq 34, 3) := by decide +kernel
theorem dX0_compare_7 : decode cX0_compare 7 = .ok (.iload_n 2, 1) := by decide +kernel
theorem dX0_compare_8 : decode cX0_compare 8 = .ok (.invokestatic 20, 3) := by decide +kernel
theorem dX0_compare_11 : decode cX0_compare 11 = .ok (.ifCond .eq 27, 3) := by decide +kernel
theorem dX0_compare_14 : decode cX0_compare 14 = .ok (.aload_n 0, 1) := by decide +kernel
theorem dX0_compare_15 : decode cX0_compare 15 = .ok (.getfield 9, 3) := by decide +kernel
theorem dX0_compare_18 : decode cX0_compare 18 = .ok (.iload_n 1, 1) := by decide +kernel
theorem dX0_compare_19 : decode cX0_compare 19 = .ok (.laload, 1) := by decide +kernel
theorem dX0_compare_20 : decode cX0_compare 20 = .ok (.invokestatic 51, 3) := by decide +kernel
theorem dX0_compare_23 : decode cX0_compare 23 = .ok (.ifCond .ne 15, 3) := by decide +kernel
theorem dX0_compare_26 : decode cX0_compare 26 = .ok (.aload_n 0, 1) := by decide +kernel
theorem dX0_compare_27 : decode cX0_compare 27 = .ok (.getfield 9, 3) := by decide +kernel
theorem dX0_compare_30 : decode cX0_compare 30 = .ok (.iload_n 2, 1) := by decide +kernel
theorem dX0_compare_31 : decode cX0_compare 31 = .ok (.laload, 1) := by decide +kernel
theorem dX0_compare_32 : decode cX0_compare 32 = .ok (.invokestatic 51, 3) := by decide +kernel
theorem dX0_compare_35 : decode cX0_compare 35 = .ok (.ifCond .eq 5, 3) := by decide +kernel
theorem dX0_compare_38 : decode cX0_compare 38 = .ok (.iconst 2, 1) := by decide +kernel
theorem dX0_compare_39 : decode cX0_compare 39 = .ok (.ireturn, 1) := by decide +kernel
theorem dX0_compare_40 : decode cX0_compare 40 = .ok (.aload_n 0, 1) := by decide +kernel
theorem dX0_compare_41 : decode cX0_compare 41 = .ok (.getfield 9, 3) := by decide +kernel
theorem dX0_compare_44 : decode cX0_compare 44 = .ok (.iload_n 1, 1) := by decide +kernel
theorem dX0_compare_45 : decode cX0_compare 45 = .ok (.laload, 1) := by decide +kernel
theorem dX0_compare_46 : decode cX0_compare 46 = .ok (.invokestatic 59, 3) := by decide +kernel
theorem dX0_compare_49 : decode cX0_compare 49 = .ok (.lstore_n 3, 1) := by decide +kernel
theorem dX0_compare_50 : decode cX0_compare 50 = .ok (.aload_n 0, 1) := by decide +kernel
theorem dX0_compare_51 : decode cX0_compare 51 = .ok (.getfield 9, 3) := by decide +kernel
theorem dX0_compare_54 : decode cX0_compare 54 = .ok (.iload_n 2, 1) := by decide +kernel
theorem dX0_compare_55 : decode cX0_compare 55 = .ok (.laload, 1) := by decide +kernel
theorem dX0_compare_56 : decode cX0_compare 56 = .ok (.invokestatic 59, 3) := by decide +kernel
theorem dX0_compare_59 : decode cX0_compare 59 = .ok (.lstore 5, 2) := by decide +kernel
theorem dX0_compare_61 : decode cX0_compare 61 = .ok (.lload_n 3, 1) := by decide +kernel
theorem dX0_compare_62 : decode cX0_compare 62 = .ok (.lload 5, 2) := by decide +kernel
theorem dX0_compare_64 : decode cX0_compare 64 = .ok (.lcmp, 1) := by decide +kernel
theorem dX0_compare_65 : decode cX0_compare 65 = .ok (.ifCond .ne 5, 3) := by decide +kernel
theorem dX0_compare_68 : decode cX0_compare 68 = .ok (.iconst 0, 1) := by decide +kernel
theorem dX0_compare_69 : decode cX0_compare 69 = .ok (.ireturn, 1) := by decide +kernel
theorem dX0_compare_70 : decode cX0_compare 70 = .ok (.lload_n 3, 1) := by decide +kernel
theorem dX0_compare_71 : decode cX0_compare 71 = .ok (.lload 5, 2) := by decide +kernel
theorem dX0_compare_73 : decode cX0_compare 73 = .ok (.lcmp, 1) := by decide +kernel
theorem dX0_compare_74 : decode cX0_compare 74 = .ok (.ifCond .ge 7, 3) := by decide +kernel
theorem dX0_compare_77 : decode cX0_compare 77 = .ok (.iconst (-1), 1) := by decide +kernel
theorem dX0_compare_78 : decode cX0_compare 78 = .ok (.goto 4, 3) := by decide +kernel
theorem dX0_compare_81 : decode cX0_compare 81 = .ok (.iconst 1, 1) := by decide +kernel
theorem dX0_compare_82 : decode cX0_compare 82 = .ok (.ireturn, 1) := by decide +kernel
set_option maxRecDepth 20000 in
theorem ggX0_sort_X0_isRegister : GoodIn wsX0_sort wsX0_isRegister := goodIn_r _ [5] (by decide +kernel) (by decide +kernel)
set_option maxRecDepth 20000 in
theorem gX0_sort_X0_isRegister : GoodIn wsX0_sort (va_wsS RX0 20 yX0_isRegister wsX0_isRegister) := goodIn_app (goodIn_of _ (by decide +kernel)) ggX0_sort_X0_isRegister
set_option maxRecDepth 20000 in
theorem ggX0_sort_X0_sortOfAmount : GoodIn wsX0_sort wsX0_sortOfAmount := goodIn_r _ [8, 9, 10, 11, 12, 4, 13, 14, 15, 16, 17, 18, 19, 20] (by decide +kernel) (by decide +kernel)
set_option maxRecDepth 20000 in
theorem gX0_sort_X0_sortOfAmount : GoodIn wsX0_sort (va_wsS RX0 62 yX0_sortOfAmount wsX0_sortOfAmount) := goodIn_app (goodIn_of _ (by decide +kernel)) ggX0_sort_X0_sortOfAmount
theorem dX0_sort_0 : decode cX0_sort 0 = .ok (.iload_n 1, 1) := by decide +kernel
theorem dX0_sort_1 : decode cX0_sort 1 = .ok (.invokestatic 20, 3) := by decide +kernel
theorem dX0_sort_4 : decode cX0_sort 4 = .ok (.ifCond .ne 5, 3) := by decide +kernel
theorem dX0_sort_7 : decode cX0_sort 7 = .ok (.iconst (-1), 1) := by decide +kernel
theorem dX0_sort_8 : decode cX0_sort 8 = .ok (.ireturn, 1) := by decide +kernel
theorem dX0_sort_9 : decode cX0_sort 9 = .ok (.aload_n 0, 1) := by decide +kernel
theorem dX0_sort_10 : decode cX0_sort 10 = .ok (.getfield 9, 3) := by decide +kernel
theorem dX0_sort_13 : decode cX0_sort 13 = .ok (.iload_n 1, 1) := by decide +kernel
theorem dX0_sort_14 : decode cX0_sort 14 = .ok (.laload, 1) := by decide +kernel
theorem dX0_sort_15 : decode cX0_sort 15 = .ok (.lstore_n 2, 1) := by decide +kernel
theorem dX0_sort_16 : decode cX0_sort 16 = .ok (.lload_n 2, 1) := by decide +kernel
theorem dX0_sort_17 : decode cX0_sort 17 = .ok (.lconst 0, 1) := by decide +kernel
theorem dX0_sort_18 : decode cX0_sort 18 = .ok (.lcmp, 1) := by decide +kernel
theorem dX0_sort_19 : decode cX0_sort 19 = .ok (.ifCond .ge 13, 3) := by decide +kernel
theorem dX0_sort_22 : decode cX0_sort 22 = .ok (.lload_n 2, 1) := by decide +kernel
theorem dX0_sort_23 : decode cX0_sort 23 = .ok (.invokestatic 62, 3) := by decide +kernel
theorem dX0_sort_26 : decode cX0_sort 26 = .ok (.bipush 8, 2) := by decide +kernel
theorem dX0_sort_28 : decode cX0_sort 28 = .ok (.iadd, 1) := by decide +kernel
theorem dX0_sort_29 : decode cX0_sort 29 = .ok (.goto 7, 3) := by decide +kernel
theorem dX0_sort_32 : decode cX0_sort 32 = .ok (.lload_n 2, 1) := by decide +kernel
theorem dX0_sort_33 : decode cX0_sort 33 = .ok (.invokestatic 62, 3) := by decide +kernel
theorem dX0_sort_36 : decode cX0_sort 36 = .ok (.ireturn, 1) := by decide +kernel
theorem dX0_flags_0 : decode cX0_flags 0 = .ok (.aload_n 0, 1) := by decide +kernel
theorem dX0_flags_1 : decode cX0_flags 1 = .ok (.getfield 13, 3) := by decide +kernel
theorem dX0_flags_4 : decode cX0_flags 4 = .ok (.ireturn, 1) := by decide +kernel
theorem dX0_clear_0 : decode cX0_clear 0 = .ok (.aload_n 0, 1) := by decide +kernel
theorem dX0_clear_1 : decode cX0_clear 1 = .ok (.iconst 0, 1) := by decide +kernel
theorem dX0_clear_2 : decode cX0_clear 2 = .ok (.putfield 13, 3) := by decide +kernel
theorem dX0_clear_5 : decode cX0_clear 5 = .ok (.return_, 1) := by decide +kernel
theorem dX0_isRegister_0 : decode cX0_isRegister 0 = .ok (.iload_n 0, 1) := by decide +kernel
theorem dX0_isRegister_1 : decode cX0_isRegister 1 = .ok (.ifCond .lt 13, 3) := by decide +kernel
theorem dX0_isRegister_4 : decode cX0_isRegister 4 = .ok (.iload_n 0, 1) := by decide +kernel
theorem dX0_isRegister_5 : decode cX0_isRegister 5 = .ok (.bipush 8, 2) := by decide +kernel
theorem dX0_isRegister_7 : decode cX0_isRegister 7 = .ok (.if_icmp .ge 7, 3) := by decide +kernel
theorem dX0_isRegister_10 : decode cX0_isRegister 10 = .ok (.iconst 1, 1) := by decide +kernel
theorem dX0_isRegister_11 : decode cX0_isRegister 11 = .ok (.goto 4, 3) := by decide +kernel
theorem dX0_isRegister_14 : decode cX0_isRegister 14 = .ok (.iconst 0, 1) := by decide +kernel
theorem dX0_isRegister_15 : decode cX0_isRegister 15 = .ok (.ireturn, 1) := by decide +kernel
theorem dX0_raise_0 : decode cX0_raise 0 = .ok (.aload_n 0, 1) := by decide +kernel
theorem dX0_raise_1 : decode cX0_raise 1 = .ok (.dup, 1) := by decide +kernel
theorem dX0_raise_2 : decode cX0_raise 2 = .ok (.getfield 13, 3) := by decide +kernel
theorem dX0_raise_5 : decode cX0_raise 5 = .ok (.iload_n 1, 1) := by decide +kernel
theorem dX0_raise_6 : decode cX0_raise 6 = .ok (.ior, 1) := by decide +kernel
theorem dX0_raise_7 : decode cX0_raise 7 = .ok (.putfield 13, 3) := by decide +kernel
theorem dX0_raise_10 : decode cX0_raise 10 = .ok (.return_, 1) := by decide +kernel
theorem dX0_isZero_0 : decode cX0_isZero 0 = .ok (.lload_n 0, 1) := by decide +kernel
theorem dX0_isZero_1 : decode cX0_isZero 1 = .ok (.ldc2_w 65, 3) := by decide +kernel
theorem dX0_isZero_4 : decode cX0_isZero 4 = .ok (.land, 1) := by decide +kernel
theorem dX0_isZero_5 : decode cX0_isZero 5 = .ok (.lconst 0, 1) := by decide +kernel
theorem dX0_isZero_6 : decode cX0_isZero 6 = .ok (.lcmp, 1) := by decide +kernel
theorem dX0_isZero_7 : decode cX0_isZero 7 = .ok (.ifCond .ne 7, 3) := by decide +kernel
theorem dX0_isZero_10 : decode cX0_isZero 10 = .ok (.iconst 1, 1) := by decide +kernel
theorem dX0_isZero_11 : decode cX0_isZero 11 = .ok (.goto 4, 3) := by decide +kernel
theorem dX0_isZero_14 : decode cX0_isZero 14 = .ok (.iconst 0, 1) := by decide +kernel
theorem dX0_isZero_15 : decode cX0_isZero 15 = .ok (.ireturn, 1) := by decide +kernel
theorem dX0_isInfinity_0 : decode cX0_isInfinity 0 = .ok (.lload_n 0, 1) := by decide +kernel
theorem dX0_isInfinity_1 : decode cX0_isInfinity 1 = .ok (.ldc2_w 65, 3) := by decide +kernel
theorem dX0_isInfinity_4 : decode cX0_isInfinity 4 = .ok (.land, 1) := by decide +kernel
theorem dX0_isInfinity_5 : decode cX0_isInfinity 5 = .ok (.ldc2_w 67, 3) := by decide +kernel
theorem dX0_isInfinity_8 : decode cX0_isInfinity 8 = .ok (.lcmp, 1) := by decide +kernel
theorem dX0_isInfinity_9 : decode cX0_isInfinity 9 = .ok (.ifCond .ne 7, 3) := by decide +kernel
theorem dX0_isInfinity_12 : decode cX0_isInfinity 12 = .ok (.iconst 1, 1) := by decide +kernel
theorem dX0_isInfinity_13 : decode cX0_isInfinity 13 = .ok (.goto 4, 3) := by decide +kernel
theorem dX0_isInfinity_16 : decode cX0_isInfinity 16 = .ok (.iconst 0, 1) := by decide +kernel
theorem dX0_isInfinity_17 : decode cX0_isInfinity 17 = .ok (.ireturn, 1) := by decide +kernel
theorem dX0_isNan_0 : decode cX0_isNan 0 = .ok (.lload_n 0, 1) := by decide +kernel
theorem dX0_isNan_1 : decode cX0_isNan 1 = .ok (.ldc2_w 65, 3) := by decide +kernel
theorem dX0_isNan_4 : decode cX0_isNan 4 = .ok (.land, 1) := by decide +kernel
theorem dX0_isNan_5 : decode cX0_isNan 5 = .ok (.ldc2_w 67, 3) := by decide +kernel
theorem dX0_isNan_8 : decode cX0_isNan 8 = .ok (.lcmp, 1) := by decide +kernel
theorem dX0_isNan_9 : decode cX0_isNan 9 = .ok (.ifCond .le 7, 3) := by decide +kernel
theorem dX0_isNan_12 : decode cX0_isNan 12 = .ok (.iconst 1, 1) := by decide +kernel
theorem dX0_isNan_13 : decode cX0_isNan 13 = .ok (.goto 4, 3) := by decide +kernel
theorem dX0_isNan_16 : decode cX0_isNan 16 = .ok (.iconst 0, 1) := by decide +kernel
theorem dX0_isNan_17 : decode cX0_isNan 17 = .ok (.ireturn, 1) := by decide +kernel
theorem dX0_signOf_0 : decode cX0_signOf 0 = .ok (.lload_n 0, 1) := by decide +kernel
theorem dX0_signOf_1 : decode cX0_signOf 1 = .ok (.ldc2_w 69, 3) := by decide +kernel
theorem dX0_signOf_4 : decode cX0_signOf 4 = .ok (.land, 1) := by decide +kernel
theorem dX0_signOf_5 : decode cX0_signOf 5 = .ok (.lreturn, 1) := by decide +kernel
set_option maxRecDepth 20000 in
theorem ggX0_sortOfAmount_X0_isZero : GoodIn wsX0_sortOfAmount wsX0_isZero := goodIn_r _ [6, 1] (by decide +kernel) (by decide +kernel)
set_option maxRecDepth 20000 in
theorem gX0_sortOfAmount_X0_isZero : GoodIn wsX0_sortOfAmount (va_wsS RX0 43 yX0_isZero wsX0_isZero) := goodIn_app (goodIn_of _ (by decide +kernel)) ggX0_sortOfAmount_X0_isZero
set_option maxRecDepth 20000 in
theorem ggX0_sortOfAmount_X0_isInfinity : GoodIn wsX0_sortOfAmount wsX0_isInfinity := goodIn_r _ [9, 1, 10] (by decide +kernel) (by decide +kernel)
set_option maxRecDepth 20000 in
theorem gX0_sortOfAmount_X0_isInfinity : GoodIn wsX0_sortOfAmount (va_wsS RX0 48 yX0_isInfinity wsX0_isInfinity) := goodIn_app (goodIn_of _ (by decide +kernel)) ggX0_sortOfAmount_X0_isInfinity
set_option maxRecDepth 20000 in
theorem ggX0_sortOfAmount_X0_isNan : GoodIn wsX0_sortOfAmount wsX0_isNan := goodIn_r _ [13, 1, 10] (by decide +kernel) (by decide +kernel)
set_option maxRecDepth 20000 in
theorem gX0_sortOfAmount_X0_isNan : GoodIn wsX0_sortOfAmount (va_wsS RX0 51 yX0_isNan wsX0_isNan) := goodIn_app (goodIn_of _ (by decide +kernel)) ggX0_sortOfAmount_X0_isNan
theorem dX0_sortOfAmount_0 : decode cX0_sortOfAmount 0 = .ok (.lload_n 0, 1) := by decide +kernel
theorem dX0_sortOfAmount_1 : decode cX0_sortOfAmount 1 = .ok (.invokestatic 43, 3) := by decide +kernel
theorem dX0_sortOfAmount_4 : decode cX0_sortOfAmount 4 = .ok (.ifCond .eq 5, 3) := by decide +kernel
theorem dX0_sortOfAmount_7 : decode cX0_sortOfAmount 7 = .ok (.iconst 0, 1) := by decide +kernel
theorem dX0_sortOfAmount_8 : decode cX0_sortOfAmount 8 = .ok (.ireturn, 1) := by decide +kernel
theorem dX0_sortOfAmount_9 : decode cX0_sortOfAmount 9 = .ok (.lload_n 0, 1) := by decide +kernel
theorem dX0_sortOfAmount_10 : decode cX0_sortOfAmount 10 = .ok (.invokestatic 48, 3) := by decide +kernel
theorem dX0_sortOfAmount_13 : decode cX0_sortOfAmount 13 = .ok (.ifCond .eq 5, 3) := by decide +kernel
theorem dX0_sortOfAmount_16 : decode cX0_sortOfAmount 16 = .ok (.iconst 3, 1) := by decide +kernel
theorem dX0_sortOfAmount_17 : decode cX0_sortOfAmount 17 = .ok (.ireturn, 1) := by decide +kernel
theorem dX0_sortOfAmount_18 : decode cX0_sortOfAmount 18 = .ok (.lload_n 0, 1) := by decide +kernel
theorem dX0_sortOfAmount_19 : decode cX0_sortOfAmount 19 = .ok (.invokestatic 51, 3) := by decide +kernel
theorem dX0_sortOfAmount_22 : decode cX0_sortOfAmount 22 = .ok (.ifCond .eq 5, 3) := by decide +kernel
theorem dX0_sortOfAmount_25 : decode cX0_sortOfAmount 25 = .ok (.iconst 4, 1) := by decide +kernel
theorem dX0_sortOfAmount_26 : decode cX0_sortOfAmount 26 = .ok (.ireturn, 1) := by decide +kernel
theorem dX0_sortOfAmount_27 : decode cX0_sortOfAmount 27 = .ok (.lload_n 0, 1) := by decide +kernel
theorem dX0_sortOfAmount_28 : decode cX0_sortOfAmount 28 = .ok (.ldc2_w 65, 3) := by decide +kernel
theorem dX0_sortOfAmount_31 : decode cX0_sortOfAmount 31 = .ok (.land, 1) := by decide +kernel
theorem dX0_sortOfAmount_32 : decode cX0_sortOfAmount 32 = .ok (.ldc2_w 71, 3) := by decide +kernel
theorem dX0_sortOfAmount_35 : decode cX0_sortOfAmount 35 = .ok (.lcmp, 1) := by decide +kernel
theorem dX0_sortOfAmount_36 : decode cX0_sortOfAmount 36 = .ok (.ifCond .ge 7, 3) := by decide +kernel
theorem dX0_sortOfAmount_39 : decode cX0_sortOfAmount 39 = .ok (.iconst 1, 1) := by decide +kernel
theorem dX0_sortOfAmount_40 : decode cX0_sortOfAmount 40 = .ok (.goto 4, 3) := by decide +kernel
theorem dX0_sortOfAmount_43 : decode cX0_sortOfAmount 43 = .ok (.iconst 2, 1) := by decide +kernel
theorem dX0_sortOfAmount_44 : decode cX0_sortOfAmount 44 = .ok (.ireturn, 1) := by decide +kernel
theorem dX0_fieldE_0 : decode cX0_fieldE 0 = .ok (.lload_n 0, 1) := by decide +kernel
theorem dX0_fieldE_1 : decode cX0_fieldE 1 = .ok (.ldc2_w 65, 3) := by decide +kernel
theorem dX0_fieldE_4 : decode cX0_fieldE 4 = .ok (.land, 1) := by decide +kernel
theorem dX0_fieldE_5 : decode cX0_fieldE 5 = .ok (.bipush 52, 2) := by decide +kernel
theorem dX0_fieldE_7 : decode cX0_fieldE 7 = .ok (.lshr, 1) := by decide +kernel
theorem dX0_fieldE_8 : decode cX0_fieldE 8 = .ok (.l2i, 1) := by decide +kernel
theorem dX0_fieldE_9 : decode cX0_fieldE 9 = .ok (.ireturn, 1) := by decide +kernel
set_option maxRecDepth 20000 in
theorem ggX0_significand_X0_fieldE : GoodIn wsX0_significand wsX0_fieldE := goodIn_r _ [6, 7] (by decide +kernel) (by decide +kernel)
set_option maxRecDepth 20000 in
theorem gX0_significand_X0_fieldE : GoodIn wsX0_significand (va_wsS RX0 75 yX0_fieldE wsX0_fieldE) := goodIn_app (goodIn_of _ (by decide +kernel)) ggX0_significand_X0_fieldE
theorem dX0_significand_0 : decode cX0_significand 0 = .ok (.lload_n 0, 1) := by decide +kernel
theorem dX0_significand_1 : decode cX0_significand 1 = .ok (.ldc2_w 73, 3) := by decide +kernel
theorem dX0_significand_4 : decode cX0_significand 4 = .ok (.land, 1) := by decide +kernel
theorem dX0_significand_5 : decode cX0_significand 5 = .ok (.lstore_n 2, 1) := by decide +kernel
theorem dX0_significand_6 : decode cX0_significand 6 = .ok (.lload_n 0, 1) := by decide +kernel
theorem dX0_significand_7 : decode cX0_significand 7 = .ok (.invokestatic 75, 3) := by decide +kernel
theorem dX0_significand_10 : decode cX0_significand 10 = .ok (.ifCond .ne 7, 3) := by decide +kernel
theorem dX0_significand_13 : decode cX0_significand 13 = .ok (.lload_n 2, 1) := by decide +kernel
theorem dX0_significand_14 : decode cX0_significand 14 = .ok (.goto 8, 3) := by decide +kernel
theorem dX0_significand_17 : decode cX0_significand 17 = .ok (.ldc2_w 71, 3) := by decide +kernel
theorem dX0_significand_20 : decode cX0_significand 20 = .ok (.lload_n 2, 1) := by decide +kernel
theorem dX0_significand_21 : decode cX0_significand 21 = .ok (.ladd, 1) := by decide +kernel
theorem dX0_significand_22 : decode cX0_significand 22 = .ok (.lreturn, 1) := by decide +kernel
set_option maxRecDepth 20000 in
theorem ggX0_power_X0_fieldE : GoodIn wsX0_power wsX0_fieldE := goodIn_r _ [8, 9] (by decide +kernel) (by decide +kernel)
set_option maxRecDepth 20000 in
theorem gX0_power_X0_fieldE : GoodIn wsX0_power (va_wsS RX0 75 yX0_fieldE wsX0_fieldE) := goodIn_app (goodIn_of _ (by decide +kernel)) ggX0_power_X0_fieldE
theorem dX0_power_0 : decode cX0_power 0 = .ok (.lload_n 0, 1) := by decide +kernel
theorem dX0_power_1 : decode cX0_power 1 = .ok (.invokestatic 75, 3) := by decide +kernel
theorem dX0_power_4 : decode cX0_power 4 = .ok (.iconst 1, 1) := by decide +kernel
theorem dX0_power_5 : decode cX0_power 5 = .ok (.invokestatic 78, 3) := by decide +kernel
theorem dX0_power_8 : decode cX0_power 8 = .ok (.iconst 1, 1) := by decide +kernel
theorem dX0_power_9 : decode cX0_power 9 = .ok (.isub, 1) := by decide +kernel
theorem dX0_power_10 : decode cX0_power 10 = .ok (.sipush (-1074), 3) := by decide +kernel
theorem dX0_power_13 : decode cX0_power 13 = .ok (.iadd, 1) := by decide +kernel
theorem dX0_power_14 : decode cX0_power 14 = .ok (.ireturn, 1) := by decide +kernel
set_option maxRecDepth 20000 in
theorem ggX0_spareRoom_X0_significand : GoodIn wsX0_spareRoom wsX0_significand := goodIn_r _ [4, 5, 6, 7, 8, 3, 9, 10] (by decide +kernel) (by decide +kernel)
set_option maxRecDepth 20000 in
theorem gX0_spareRoom_X0_significand : GoodIn wsX0_spareRoom (va_wsS RX0 84 yX0_significand wsX0_significand) := goodIn_app (goodIn_of _ (by decide +kernel)) ggX0_spareRoom_X0_significand
set_option maxRecDepth 20000 in
theorem ggX0_spareRoom_J13_numberOfLeadingZeros_95d88 : GoodIn wsX0_spareRoom wsJ13_numberOfLeadingZeros_95d88 := goodIn_r _ [14, 15, 16, 17, 18, 19] (by decide +kernel) (by decide +kernel)
set_option maxRecDepth 20000 in
theorem gX0_spareRoom_J13_numberOfLeadingZeros_95d88 : GoodIn wsX0_spareRoom (va_wsS RX0 87 yJ13_numberOfLeadingZeros_95d88 wsJ13_numberOfLeadingZeros_95d88) := goodIn_app (goodIn_of _ (by decide +kernel)) ggX0_spareRoom_J13_numberOfLeadingZeros_95d88
theorem dX0_spareRoom_0 : decode cX0_spareRoom 0 = .ok (.lload_n 0, 1) := by decide +kernel
theorem dX0_spareRoom_1 : decode cX0_spareRoom 1 = .ok (.invokestatic 84, 3) := by decide +kernel
theorem dX0_spareRoom_4 : decode cX0_spareRoom 4 = .ok (.invokestatic 87, 3) := by decide +kernel
theorem dX0_spareRoom_7 : decode cX0_spareRoom 7 = .ok (.bipush 11, 2) := by decide +kernel
theorem dX0_spareRoom_9 : decode cX0_spareRoom 9 = .ok (.isub, 1) := by decide +kernel
theorem dX0_spareRoom_10 : decode cX0_spareRoom 10 = .ok (.ireturn, 1) := by decide +kernel
set_option maxRecDepth 20000 in
theorem ggX0_fullSignificand_X0_significand : GoodIn wsX0_fullSignificand wsX0_significand := goodIn_r _ [4, 5, 6, 7, 8, 3, 9, 10] (by decide +kernel) (by decide +kernel)
set_option maxRecDepth 20000 in
theorem gX0_fullSignificand_X0_significand : GoodIn wsX0_fullSignificand (va_wsS RX0 84 yX0_significand wsX0_significand) := goodIn_app (goodIn_of _ (by decide +kernel)) ggX0_fullSignificand_X0_significand
set_option maxRecDepth 20000 in
theorem ggX0_fullSignificand_X0_spareRoom : GoodIn wsX0_fullSignificand wsX0_spareRoom := goodIn_r _ [13, 1, 2, 3, 4, 5, 6, 7, 8, 9, 10, 14, 15, 16, 17, 18, 19, 20, 21, 22] (by decide +kernel) (by decide +kernel)
set_option maxRecDepth 20000 in
theorem gX0_fullSignificand_X0_spareRoom : GoodIn wsX0_fullSignificand (va_wsS RX0 92 yX0_spareRoom wsX0_spareRoom) := goodIn_app (goodIn_of _ (by decide +kernel)) ggX0_fullSignificand_X0_spareRoom
theorem dX0_fullSignificand_0 : decode cX0_fullSignificand 0 = .ok (.lload_n 0, 1) := by decide +kernel
theorem dX0_fullSignificand_1 : decode cX0_fullSignificand 1 = .ok (.invokestatic 84, 3) := by decide +kernel
theorem dX0_fullSignificand_4 : decode cX0_fullSignificand 4 = .ok (.lload_n 0, 1) := by decide +kernel
theorem dX0_fullSignificand_5 : decode cX0_fullSignificand 5 = .ok (.invokestatic 92, 3) := by decide +kernel
theorem dX0_fullSignificand_8 : decode cX0_fullSignificand 8 = .ok (.lshl, 1) := by decide +kernel
theorem dX0_fullSignificand_9 : decode cX0_fullSignificand 9 = .ok (.lreturn, 1) := by decide +kernel
set_option maxRecDepth 20000 in
theorem ggX0_fullPower_X0_power : GoodIn wsX0_fullPower wsX0_power := goodIn_r _ [4, 5, 6, 7, 8, 9, 10, 3, 11, 12] (by decide +kernel) (by decide +kernel)
set_option maxRecDepth 20000 in
theorem gX0_fullPower_X0_power : GoodIn wsX0_fullPower (va_wsS RX0 95 yX0_power wsX0_power) := goodIn_app (goodIn_of _ (by decide +kernel)) ggX0_fullPower_X0_power
set_option maxRecDepth 20000 in
theorem ggX0_fullPower_X0_spareRoom : GoodIn wsX0_fullPower wsX0_spareRoom := goodIn_r _ [15, 16, 17, 3, 18, 19, 20, 9, 10, 11, 12, 21, 22, 23, 24, 25, 26, 27, 28, 29] (by decide +kernel) (by decide +kernel)
set_option maxRecDepth 20000 in
theorem gX0_fullPower_X0_spareRoom : GoodIn wsX0_fullPower (va_wsS RX0 92 yX0_spareRoom wsX0_spareRoom) := goodIn_app (goodIn_of _ (by decide +kernel)) ggX0_fullPower_X0_spareRoom
theorem dX0_fullPower_0 : decode cX0_fullPower 0 = .ok (.lload_n 0, 1) := by decide +kernel
theorem dX0_fullPower_1 : decode cX0_fullPower 1 = .ok (.invokestatic 95, 3) := by decide +kernel
theorem dX0_fullPower_4 : decode cX0_fullPower 4 = .ok (.lload_n 0, 1) := by decide +kernel
theorem dX0_fullPower_5 : decode cX0_fullPower 5 = .ok (.invokestatic 92, 3) := by decide +kernel
theorem dX0_fullPower_8 : decode cX0_fullPower 8 = .ok (.isub, 1) := by decide +kernel
theorem dX0_fullPower_9 : decode cX0_fullPower 9 = .ok (.ireturn, 1) := by decide +kernel
set_option maxRecDepth 20000 in
theorem ggX0_pattern_J13_numberOfLeadingZeros_95d88 : GoodIn wsX0_pattern wsJ13_numberOfLeadingZeros_95d88 := goodIn_r _ [8, 9, 10, 11, 12, 13] (by decide +kernel) (by decide +kernel)
set_option maxRecDepth 20000 in
theorem gX0_pattern_J13_numberOfLeadingZeros_95d88 : GoodIn wsX0_pattern (va_wsS RX0 87 yJ13_numberOfLeadingZeros_95d88 wsJ13_numberOfLeadingZeros_95d88) := goodIn_app (goodIn_of _ (by decide +kernel)) ggX0_pattern_J13_numberOfLeadingZeros_95d88
theorem dX0_pattern_0 : decode cX0_pattern 0 = .ok (.lload_n 0, 1) := by decide +kernel
theorem dX0_pattern_1 : decode cX0_pattern 1 = .ok (.lconst 0, 1) := by decide +kernel
theorem dX0_pattern_2 : decode cX0_pattern 2 = .ok (.lcmp, 1) := by decide +kernel
theorem dX0_pattern_3 : decode cX0_pattern 3 = .ok (.ifCond .ne 5, 3) := by decide +kernel
theorem dX0_pattern_6 : decode cX0_pattern 6 = .ok (.lconst 0, 1) := by decide +kernel
theorem dX0_pattern_7 : decode cX0_pattern 7 = .ok (.lreturn, 1) := by decide +kernel
theorem dX0_pattern_8 : decode cX0_pattern 8 = .ok (.lload_n 0, 1) := by decide +kernel
theorem dX0_pattern_9 : decode cX0_pattern 9 = .ok (.invokestatic 87, 3) := by decide +kernel
theorem dX0_pattern_12 : decode cX0_pattern 12 = .ok (.bipush 11, 2) := by decide +kernel
theorem dX0_pattern_14 : decode cX0_pattern 14 = .ok (.isub, 1) := by decide +kernel
theorem dX0_pattern_15 : decode cX0_pattern 15 = .ok (.istore_n 3, 1) := by decide +kernel
theorem dX0_pattern_16 : decode cX0_pattern 16 = .ok (.iload_n 3, 1) := by decide +kernel
theorem dX0_pattern_17 : decode cX0_pattern 17 = .ok (.iload_n 2, 1) := by decide +kernel
theorem dX0_pattern_18 : decode cX0_pattern 18 = .ok (.sipush (-1074), 3) := by decide +kernel
theorem dX0_pattern_21 : decode cX0_pattern 21 = .ok (.isub, 1) := by decide +kernel
theorem dX0_pattern_22 : decode cX0_pattern 22 = .ok (.invokestatic 98, 3) := by decide +kernel
theorem dX0_pattern_25 : decode cX0_pattern 25 = .ok (.istore 4, 2) := by decide +kernel
theorem dX0_pattern_27 : decode cX0_pattern 27 = .ok (.iload_n 2, 1) := by decide +kernel
theorem dX0_pattern_28 : decode cX0_pattern 28 = .ok (.iload 4, 2) := by decide +kernel
theorem dX0_pattern_30 : decode cX0_pattern 30 = .ok (.isub, 1) := by decide +kernel
theorem dX0_pattern_31 : decode cX0_pattern 31 = .ok (.sipush (-1074), 3) := by decide +kernel
theorem dX0_pattern_34 : decode cX0_pattern 34 = .ok (.isub, 1) := by decide +kernel
theorem dX0_pattern_35 : decode cX0_pattern 35 = .ok (.i2l, 1) := by decide +kernel
theorem dX0_pattern_36 : decode cX0_pattern 36 = .ok (.bipush 52, 2) := by decide +kernel
theorem dX0_pattern_38 : decode cX0_pattern 38 = .ok (.lshl, 1) := by decide +kernel
theorem dX0_pattern_39 : decode cX0_pattern 39 = .ok (.lload_n 0, 1) := by decide +kernel
theorem dX0_pattern_40 : decode cX0_pattern 40 = .ok (.iload 4, 2) := by decide +kernel
theorem dX0_pattern_42 : decode cX0_pattern 42 = .ok (.lshl, 1) := by decide +kernel
theorem dX0_pattern_43 : decode cX0_pattern 43 = .ok (.ladd, 1) := by decide +kernel
theorem dX0_pattern_44 : decode cX0_pattern 44 = .ok (.lreturn, 1) := by decide +kernel
theorem dX0_nearestShifted_0 : decode cX0_nearestShifted 0 = .ok (.lload_n 0, 1) := by decide +kernel
theorem dX0_nearestShifted_1 : decode cX0_nearestShifted 1 = .ok (.iload_n 2, 1) := by decide +kernel
theorem dX0_nearestShifted_2 : decode cX0_nearestShifted 2 = .ok (.lshr, 1) := by decide +kernel
theorem dX0_nearestShifted_3 : decode cX0_nearestShifted 3 = .ok (.lstore_n 3, 1) := by decide +kernel
theorem dX0_nearestShifted_4 : decode cX0_nearestShifted 4 = .ok (.lload_n 0, 1) := by decide +kernel
theorem dX0_nearestShifted_5 : decode cX0_nearestShifted 5 = .ok (.lload_n 3, 1) := by decide +kernel
theorem dX0_nearestShifted_6 : decode cX0_nearestShifted 6 = .ok (.iload_n 2, 1) := by decide +kernel
theorem dX0_nearestShifted_7 : decode cX0_nearestShifted 7 = .ok (.lshl, 1) := by decide +kernel
theorem dX0_nearestShifted_8 : decode cX0_nearestShifted 8 = .ok (.lsub, 1) := by decide +kernel
theorem dX0_nearestShifted_9 : decode cX0_nearestShifted 9 = .ok (.lstore 5, 2) := by decide +kernel
theorem dX0_nearestShifted_11 : decode cX0_nearestShifted 11 = .ok (.lconst 1, 1) := by decide +kernel
theorem dX0_nearestShifted_12 : decode cX0_nearestShifted 12 = .ok (.iload_n 2, 1) := by decide +kernel
theorem dX0_nearestShifted_13 : decode cX0_nearestShifted 13 = .ok (.iconst 1, 1) := by decide +kernel
theorem dX0_nearestShifted_14 : decode cX0_nearestShifted 14 = .ok (.isub, 1) := by decide +kernel
theorem dX0_nearestShifted_15 : decode cX0_nearestShifted 15 = .ok (.lshl, 1) := by decide +kernel
theorem dX0_nearestShifted_16 : decode cX0_nearestShifted 16 = .ok (.lstore 7, 2) := by decide +kernel
theorem dX0_nearestShifted_18 : decode cX0_nearestShifted 18 = .ok (.lload 5, 2) := by decide +kernel
theorem dX0_nearestShifted_20 : decode cX0_nearestShifted 20 = .ok (.lload 7, 2) := by decide +kernel
theorem dX0_nearestShifted_22 : decode cX0_nearestShifted 22 = .ok (.lcmp, 1) := by decide +kernel
theorem dX0_nearestShifted_23 : decode cX0_nearestShifted 23 = .ok (.ifCond .gt 19, 3) := by decide +kernel
theorem dX0_nearestShifted_26 : decode cX0_nearestShifted 26 = .ok (.lload 5, 2) := by decide +kernel
theorem dX0_nearestShifted_28 : decode cX0_nearestShifted 28 = .ok (.lload 7, 2) := by decide +kernel
theorem dX0_nearestShifted_30 : decode cX0_nearestShifted 30 = .ok (.lcmp, 1) := by decide +kernel
theorem dX0_nearestShifted_31 : decode cX0_nearestShifted 31 = .ok (.ifCond .ne 15, 3) := by decide +kernel
theorem dX0_nearestShifted_34 : decode cX0_nearestShifted 34 = .ok (.lload_n 3, 1) := by decide +kernel
theorem dX0_nearestShifted_35 : decode cX0_nearestShifted 35 = .ok (.lconst 1, 1) := by decide +kernel
theorem dX0_nearestShifted_36 : decode cX0_nearestShifted 36 = .ok (.land, 1) := by decide +kernel
theorem dX0_nearestShifted_37 : decode cX0_nearestShifted 37 = .ok (.lconst 1, 1) := by decide +kernel
theorem dX0_nearestShifted_38 : decode cX0_nearestShifted 38 = .ok (.lcmp, 1) := by decide +kernel
theorem dX0_nearestShifted_39 : decode cX0_nearestShifted 39 = .ok (.ifCond .ne 7, 3) := by decide +kernel
theorem dX0_nearestShifted_42 : decode cX0_nearestShifted 42 = .ok (.iconst 1, 1) := by decide +kernel
theorem dX0_nearestShifted_43 : decode cX0_nearestShifted 43 = .ok (.goto 4, 3) := by decide +kernel
theorem dX0_nearestShifted_46 : decode cX0_nearestShifted 46 = .ok (.iconst 0, 1) := by decide +kernel
theorem dX0_nearestShifted_47 : decode cX0_nearestShifted 47 = .ok (.istore 9, 2) := by decide +kernel
theorem dX0_nearestShifted_49 : decode cX0_nearestShifted 49 = .ok (.iload 9, 2) := by decide +kernel
theorem dX0_nearestShifted_51 : decode cX0_nearestShifted 51 = .ok (.ifCond .eq 9, 3) := by decide +kernel
theorem dX0_nearestShifted_54 : decode cX0_nearestShifted 54 = .ok (.lload_n 3, 1) := by decide +kernel
theorem dX0_nearestShifted_55 : decode cX0_nearestShifted 55 = .ok (.lconst 1, 1) := by decide +kernel
theorem dX0_nearestShifted_56 : decode cX0_nearestShifted 56 = .ok (.ladd, 1) := by decide +kernel
theorem dX0_nearestShifted_57 : decode cX0_nearestShifted 57 = .ok (.goto 4, 3) := by decide +kernel
theorem dX0_nearestShifted_60 : decode cX0_nearestShifted 60 = .ok (.lload_n 3, 1) := by decide +kernel
theorem dX0_nearestShifted_61 : decode cX0_nearestShifted 61 = .ok (.lreturn, 1) := by decide +kernel
set_option maxRecDepth 20000 in
theorem ggX0_squareRoot_X0_isNan : GoodIn wsX0_squareRoot wsX0_isNan := goodIn_r _ [6, 7, 2] (by decide +kernel) (by decide +kernel)
set_option maxRecDepth 20000 in
theorem gX0_squareRoot_X0_isNan : GoodIn wsX0_squareRoot (va_wsS RX0 51 yX0_isNan wsX0_isNan) := goodIn_app (goodIn_of _ (by decide +kernel)) ggX0_squareRoot_X0_isNan
set_option maxRecDepth 20000 in
theorem ggX0_squareRoot_X0_isZero : GoodIn wsX0_squareRoot wsX0_isZero := goodIn_r _ [10, 7] (by decide +kernel) (by decide +kernel)
set_option maxRecDepth 20000 in
theorem gX0_squareRoot_X0_isZero : GoodIn wsX0_squareRoot (va_wsS RX0 43 yX0_isZero wsX0_isZero) := goodIn_app (goodIn_of _ (by decide +kernel)) ggX0_squareRoot_X0_isZero
set_option maxRecDepth 20000 in
theorem ggX0_squareRoot_X0_raise : GoodIn wsX0_squareRoot wsX0_raise := goodIn_r _ [14, 15, 59, 60, 61] (by decide +kernel) (by decide +kernel)
set_option maxRecDepth 20000 in
theorem gX0_squareRoot_X0_raise : GoodIn wsX0_squareRoot (wsV RX0 103 RX0 yX0_raise wsX0_raise) := goodIn_app (goodIn_of _ (by decide +kernel)) ggX0_squareRoot_X0_raise
set_option maxRecDepth 20000 in
theorem ggX0_squareRoot_X0_rootOfPositive : GoodIn wsX0_squareRoot wsX0_rootOfPositive := goodIn_r _ [19, 20, 21, 5, 22, 23, 24, 25, 26, 27, 28, 29, 30, 31, 32, 7, 33, 34, 35, 36, 37, 38, 39, 40, 41, 42, 43, 44, 45, 46, 47, 48, 49, 50, 51, 52, 11, 12, 13, 14, 15, 53, 54, 55, 56, 57, 58, 59, 60, 61] (by decide +kernel) (by decide +kernel)
set_option maxRecDepth 20000 in
theorem gX0_squareRoot_X0_rootOfPositive : GoodIn wsX0_squareRoot (wsV RX0 107 RX0 yX0_rootOfPositive wsX0_rootOfPositive) := goodIn_app (goodIn_of _ (by decide +kernel)) ggX0_squareRoot_X0_rootOfPositive
theorem dX0_squareRoot_0 : decode cX0_squareRoot 0 = .ok (.lload_n 1, 1) := by decide +kernel
theorem dX0_squareRoot_1 : decode cX0_squareRoot 1 = .ok (.invokestatic 51, 3) := by decide +kernel
theorem dX0_squareRoot_4 : decode cX0_squareRoot 4 = .ok (.ifCond .eq 7, 3) := by decide +kernel
theorem dX0_squareRoot_7 : decode cX0_squareRoot 7 = .ok (.ldc2_w 101, 3) := by decide +kernel
theorem dX0_squareRoot_10 : decode cX0_squareRoot 10 = .ok (.lreturn, 1) := by decide +kernel
theorem dX0_squareRoot_11 : decode cX0_squareRoot 11 = .ok (.lload_n 1, 1) := by decide +kernel
theorem dX0_squareRoot_12 : decode cX0_squareRoot 12 = .ok (.invokestatic 43, 3) := by decide +kernel
theorem dX0_squareRoot_15 : decode cX0_squareRoot 15 = .ok (.ifCond .ne 11, 3) := by decide +kernel
theorem dX0_squareRoot_18 : decode cX0_squareRoot 18 = .ok (.lload_n 1, 1) := by decide +kernel
theorem dX0_squareRoot_19 : decode cX0_squareRoot 19 = .ok (.ldc2_w 67, 3) := by decide +kernel
theorem dX0_squareRoot_22 : decode cX0_squareRoot 22 = .ok (.lcmp, 1) := by decide +kernel
theorem dX0_squareRoot_23 : decode cX0_squareRoot 23 = .ok (.ifCond .ne 5, 3) := by decide +kernel
theorem dX0_squareRoot_26 : decode cX0_squareRoot 26 = .ok (.lload_n 1, 1) := by decide +kernel
theorem dX0_squareRoot_27 : decode cX0_squareRoot 27 = .ok (.lreturn, 1) := by decide +kernel
theorem dX0_squareRoot_28 : decode cX0_squareRoot 28 = .ok (.lload_n 1, 1) := by decide +kernel
theorem dX0_squareRoot_29 : decode cX0_squareRoot 29 = .ok (.lconst 0, 1) := by decide +kernel
theorem dX0_squareRoot_30 : decode cX0_squareRoot 30 = .ok (.lcmp, 1) := by decide +kernel
theorem dX0_squareRoot_31 : decode cX0_squareRoot 31 = .ok (.ifCond .ge 12, 3) := by decide +kernel
theorem dX0_squareRoot_34 : decode cX0_squareRoot 34 = .ok (.aload_n 0, 1) := by decide +kernel
theorem dX0_squareRoot_35 : decode cX0_squareRoot 35 = .ok (.iconst 1, 1) := by decide +kernel
theorem dX0_squareRoot_36 : decode cX0_squareRoot 36 = .ok (.invokevirtual 103, 3) := by decide +kernel
theorem dX0_squareRoot_39 : decode cX0_squareRoot 39 = .ok (.ldc2_w 101, 3) := by decide +kernel
theorem dX0_squareRoot_42 : decode cX0_squareRoot 42 = .ok (.lreturn, 1) := by decide +kernel
theorem dX0_squareRoot_43 : decode cX0_squareRoot 43 = .ok (.aload_n 0, 1) := by decide +kernel
theorem dX0_squareRoot_44 : decode cX0_squareRoot 44 = .ok (.lload_n 1, 1) := by decide +kernel
theorem dX0_squareRoot_45 : decode cX0_squareRoot 45 = .ok (.invokevirtual 107, 3) := by decide +kernel
theorem dX0_squareRoot_48 : decode cX0_squareRoot 48 = .ok (.lreturn, 1) := by decide +kernel
set_option maxRecDepth 20000 in
theorem ggX0_rootOfPositive_X0_fullPower : GoodIn wsX0_rootOfPositive wsX0_fullPower := goodIn_r _ [4, 5, 6, 3, 7, 8, 9, 10, 11, 12, 13, 14, 15, 16, 17, 18, 19, 20, 21, 22, 23, 24, 25, 26, 27, 28, 29, 30, 31, 32] (by decide +kernel) (by decide +kernel)
set_option maxRecDepth 20000 in
theorem gX0_rootOfPositive_X0_fullPower : GoodIn wsX0_rootOfPositive (va_wsS RX0 55 yX0_fullPower wsX0_fullPower) := goodIn_app (goodIn_of _ (by decide +kernel)) ggX0_rootOfPositive_X0_fullPower
set_option maxRecDepth 20000 in
theorem ggX0_rootOfPositive_X0_fullSignificand : GoodIn wsX0_rootOfPositive wsX0_fullSignificand := goodIn_r _ [35, 19, 20, 3, 21, 22, 23, 12, 13, 14, 15, 16, 17, 18, 24, 25, 26, 27, 28, 29, 30, 31, 32] (by decide +kernel) (by decide +kernel)
set_option maxRecDepth 20000 in
theorem gX0_rootOfPositive_X0_fullSignificand : GoodIn wsX0_rootOfPositive (va_wsS RX0 110 yX0_fullSignificand wsX0_fullSignificand) := goodIn_app (goodIn_of _ (by decide +kernel)) ggX0_rootOfPositive_X0_fullSignificand
set_option maxRecDepth 20000 in
theorem ggX0_rootOfPositive_X0_raise : GoodIn wsX0_rootOfPositive wsX0_raise := goodIn_r _ [39, 40, 47, 48, 49] (by decide +kernel) (by decide +kernel)
set_option maxRecDepth 20000 in
theorem gX0_rootOfPositive_X0_raise : GoodIn wsX0_rootOfPositive (wsV RX0 103 RX0 yX0_raise wsX0_raise) := goodIn_app (goodIn_of _ (by decide +kernel)) ggX0_rootOfPositive_X0_raise
set_option maxRecDepth 20000 in
theorem ggX0_rootOfPositive_X0_pattern : GoodIn wsX0_rootOfPositive wsX0_pattern := goodIn_r _ [43, 44, 45, 10, 46, 24, 25, 26, 27, 28, 29, 30, 31, 32] (by decide +kernel) (by decide +kernel)
set_option maxRecDepth 20000 in
theorem gX0_rootOfPositive_X0_pattern : GoodIn wsX0_rootOfPositive (va_wsS RX0 113 yX0_pattern wsX0_pattern) := goodIn_app (goodIn_of _ (by decide +kernel)) ggX0_rootOfPositive_X0_pattern
theorem dX0_rootOfPositive_0 : decode cX0_rootOfPositive 0 = .ok (.lload_n 1, 1) := by decide +kernel
theorem dX0_rootOfPositive_1 : decode cX0_rootOfPositive 1 = .ok (.invokestatic 55, 3) := by decide +kernel
theorem dX0_rootOfPositive_4 : decode cX0_rootOfPositive 4 = .ok (.iconst 1, 1) := by decide +kernel
theorem dX0_rootOfPositive_5 : decode cX0_rootOfPositive 5 = .ok (.iand, 1) := by decide +kernel
theorem dX0_rootOfPositive_6 : decode cX0_rootOfPositive 6 = .ok (.istore_n 3, 1) := by decide +kernel
theorem dX0_rootOfPositive_7 : decode cX0_rootOfPositive 7 = .ok (.lload_n 1, 1) := by decide +kernel
theorem dX0_rootOfPositive_8 : decode cX0_rootOfPositive 8 = .ok (.invokestatic 55, 3) := by decide +kernel
theorem dX0_rootOfPositive_11 : decode cX0_rootOfPositive 11 = .ok (.iload_n 3, 1) := by decide +kernel
theorem dX0_rootOfPositive_12 : decode cX0_rootOfPositive 12 = .ok (.isub, 1) := by decide +kernel
theorem dX0_rootOfPositive_13 : decode cX0_rootOfPositive 13 = .ok (.iconst 2, 1) := by decide +kernel
theorem dX0_rootOfPositive_14 : decode cX0_rootOfPositive 14 = .ok (.idiv, 1) := by decide +kernel
theorem dX0_rootOfPositive_15 : decode cX0_rootOfPositive 15 = .ok (.istore 4, 2) := by decide +kernel
theorem dX0_rootOfPositive_17 : decode cX0_rootOfPositive 17 = .ok (.lload_n 1, 1) := by decide +kernel
theorem dX0_rootOfPositive_18 : decode cX0_rootOfPositive 18 = .ok (.invokestatic 110, 3) := by decide +kernel
theorem dX0_rootOfPositive_21 : decode cX0_rootOfPositive 21 = .ok (.bipush 10, 2) := by decide +kernel
theorem dX0_rootOfPositive_23 : decode cX0_rootOfPositive 23 = .ok (.iload_n 3, 1) := by decide +kernel
theorem dX0_rootOfPositive_24 : decode cX0_rootOfPositive 24 = .ok (.iadd, 1) := by decide +kernel
theorem dX0_rootOfPositive_25 : decode cX0_rootOfPositive 25 = .ok (.lshl, 1) := by decide +kernel
theorem dX0_rootOfPositive_26 : decode cX0_rootOfPositive 26 = .ok (.lstore 5, 2) := by decide +kernel
theorem dX0_rootOfPositive_28 : decode cX0_rootOfPositive 28 = .ok (.lconst 0, 1) := by decide +kernel
theorem dX0_rootOfPositive_29 : decode cX0_rootOfPositive 29 = .ok (.lstore 7, 2) := by decide +kernel
theorem dX0_rootOfPositive_31 : decode cX0_rootOfPositive 31 = .ok (.lconst 0, 1) := by decide +kernel
theorem dX0_rootOfPositive_32 : decode cX0_rootOfPositive 32 = .ok (.lstore 9, 2) := by decide +kernel
theorem dX0_rootOfPositive_34 : decode cX0_rootOfPositive 34 = .ok (.iconst 0, 1) := by decide +kernel
theorem dX0_rootOfPositive_35 : decode cX0_rootOfPositive 35 = .ok (.istore 11, 2) := by decide +kernel
theorem dX0_rootOfPositive_37 : decode cX0_rootOfPositive 37 = .ok (.iload 11, 2) := by decide +kernel
theorem dX0_rootOfPositive_39 : decode cX0_rootOfPositive 39 = .ok (.bipush 54, 2) := by decide +kernel
theorem dX0_rootOfPositive_41 : decode cX0_rootOfPositive 41 = .ok (.if_icmp .ge 62, 3) := by decide +kernel
theorem dX0_rootOfPositive_44 : decode cX0_rootOfPositive 44 = .ok (.lload 9, 2) := by decide +kernel
theorem dX0_rootOfPositive_46 : decode cX0_rootOfPositive 46 = .ok (.iconst 2, 1) := by decide +kernel
theorem dX0_rootOfPositive_47 : decode cX0_rootOfPositive 47 = .ok (.lshl, 1) := by decide +kernel
theorem dX0_rootOfPositive_48 : decode cX0_rootOfPositive 48 = .ok (.lload 5, 2) := by decide +kernel
theorem dX0_rootOfPositive_50 : decode cX0_rootOfPositive 50 = .ok (.bipush 62, 2) := by decide +kernel
theorem dX0_rootOfPositive_52 : decode cX0_rootOfPositive 52 = .ok (.lushr, 1) := by decide +kernel
theorem dX0_rootOfPositive_53 : decode cX0_rootOfPositive 53 = .ok (.ladd, 1) := by decide +kernel
theorem dX0_rootOfPositive_54 : decode cX0_rootOfPositive 54 = .ok (.lstore 9, 2) := by decide +kernel
theorem dX0_rootOfPositive_56 : decode cX0_rootOfPositive 56 = .ok (.lload 5, 2) := by decide +kernel
theorem dX0_rootOfPositive_58 : decode cX0_rootOfPositive 58 = .ok (.iconst 2, 1) := by decide +kernel
theorem dX0_rootOfPositive_59 : decode cX0_rootOfPositive 59 = .ok (.lshl, 1) := by decide +kernel
theorem dX0_rootOfPositive_60 : decode cX0_rootOfPositive 60 = .ok (.lstore 5, 2) := by decide +kernel
theorem dX0_rootOfPositive_62 : decode cX0_rootOfPositive 62 = .ok (.lload 7, 2) := by decide +kernel
theorem dX0_rootOfPositive_64 : decode cX0_rootOfPositive 64 = .ok (.iconst 2, 1) := by decide +kernel
theorem dX0_rootOfPositive_65 : decode cX0_rootOfPositive 65 = .ok (.lshl, 1) := by decide +kernel
theorem dX0_rootOfPositive_66 : decode cX0_rootOfPositive 66 = .ok (.lconst 1, 1) := by decide +kernel
theorem dX0_rootOfPositive_67 : decode cX0_rootOfPositive 67 = .ok (.ladd, 1) := by decide +kernel
theorem dX0_rootOfPositive_68 : decode cX0_rootOfPositive 68 = .ok (.lstore 12, 2) := by decide +kernel
theorem dX0_rootOfPositive_70 : decode cX0_rootOfPositive 70 = .ok (.lload 7, 2) := by decide +kernel
theorem dX0_rootOfPositive_72 : decode cX0_rootOfPositive 72 = .ok (.iconst 1, 1) := by decide +kernel
theorem dX0_rootOfPositive_73 : decode cX0_rootOfPositive 73 = .ok (.lshl, 1) := by decide +kernel
theorem dX0_rootOfPositive_74 : decode cX0_rootOfPositive 74 = .ok (.lstore 7, 2) := by decide +kernel
theorem dX0_rootOfPositive_76 : decode cX0_rootOfPositive 76 = .ok (.lload 9, 2) := by decide +kernel
theorem dX0_rootOfPositive_78 : decode cX0_rootOfPositive 78 = .ok (.lload 12, 2) := by decide +kernel
theorem dX0_rootOfPositive_80 : decode cX0_rootOfPositive 80 = .ok (.lcmp, 1) := by decide +kernel
theorem dX0_rootOfPositive_81 : decode cX0_rootOfPositive 81 = .ok (.ifCond .lt 16, 3) := by decide +kernel
theorem dX0_rootOfPositive_84 : decode cX0_rootOfPositive 84 = .ok (.lload 9, 2) := by decide +kernel
theorem dX0_rootOfPositive_86 : decode cX0_rootOfPositive 86 = .ok (.lload 12, 2) := by decide +kernel
theorem dX0_rootOfPositive_88 : decode cX0_rootOfPositive 88 = .ok (.lsub, 1) := by decide +kernel
theorem dX0_rootOfPositive_89 : decode cX0_rootOfPositive 89 = .ok (.lstore 9, 2) := by decide +kernel
theorem dX0_rootOfPositive_91 : decode cX0_rootOfPositive 91 = .ok (.lload 7, 2) := by decide +kernel
theorem dX0_rootOfPositive_93 : decode cX0_rootOfPositive 93 = .ok (.lconst 1, 1) := by decide +kernel
theorem dX0_rootOfPositive_94 : decode cX0_rootOfPositive 94 = .ok (.ladd, 1) := by decide +kernel
theorem dX0_rootOfPositive_95 : decode cX0_rootOfPositive 95 = .ok (.lstore 7, 2) := by decide +kernel
theorem dX0_rootOfPositive_97 : decode cX0_rootOfPositive 97 = .ok (.iinc 11 1, 3) := by decide +kernel
theorem dX0_rootOfPositive_100 : decode cX0_rootOfPositive 100 = .ok (.goto (-63), 3) := by decide +kernel
theorem dX0_rootOfPositive_103 : decode cX0_rootOfPositive 103 = .ok (.lload 7, 2) := by decide +kernel
theorem dX0_rootOfPositive_105 : decode cX0_rootOfPositive 105 = .ok (.lconst 1, 1) := by decide +kernel
theorem dX0_rootOfPositive_106 : decode cX0_rootOfPositive 106 = .ok (.land, 1) := by decide +kernel
theorem dX0_rootOfPositive_107 : decode cX0_rootOfPositive 107 = .ok (.lstore 11, 2) := by decide +kernel
theorem dX0_rootOfPositive_109 : decode cX0_rootOfPositive 109 = .ok (.lload 11, 2) := by decide +kernel
theorem dX0_rootOfPositive_111 : decode cX0_rootOfPositive 111 = .ok (.lconst 0, 1) := by decide +kernel
theorem dX0_rootOfPositive_112 : decode cX0_rootOfPositive 112 = .ok (.lcmp, 1) := by decide +kernel
theorem dX0_rootOfPositive_113 : decode cX0_rootOfPositive 113 = .ok (.ifCond .ne 10, 3) := by decide +kernel
theorem dX0_rootOfPositive_116 : decode cX0_rootOfPositive 116 = .ok (.lload 9, 2) := by decide +kernel
theorem dX0_rootOfPositive_118 : decode cX0_rootOfPositive 118 = .ok (.lconst 0, 1) := by decide +kernel
theorem dX0_rootOfPositive_119 : decode cX0_rootOfPositive 119 = .ok (.lcmp, 1) := by decide +kernel
theorem dX0_rootOfPositive_120 : decode cX0_rootOfPositive 120 = .ok (.ifCond .eq 8, 3) := by decide +kernel
theorem dX0_rootOfPositive_123 : decode cX0_rootOfPositive 123 = .ok (.aload_n 0, 1) := by decide +kernel
theorem dX0_rootOfPositive_124 : decode cX0_rootOfPositive 124 = .ok (.iconst 2, 1) := by decide +kernel
theorem dX0_rootOfPositive_125 : decode cX0_rootOfPositive 125 = .ok (.invokevirtual 103, 3) := by decide +kernel
theorem dX0_rootOfPositive_128 : decode cX0_rootOfPositive 128 = .ok (.lload 7, 2) := by decide +kernel
theorem dX0_rootOfPositive_130 : decode cX0_rootOfPositive 130 = .ok (.iconst 1, 1) := by decide +kernel
theorem dX0_rootOfPositive_131 : decode cX0_rootOfPositive 131 = .ok (.lshr, 1) := by decide +kernel
theorem dX0_rootOfPositive_132 : decode cX0_rootOfPositive 132 = .ok (.lload 11, 2) := by decide +kernel
theorem dX0_rootOfPositive_134 : decode cX0_rootOfPositive 134 = .ok (.ladd, 1) := by decide +kernel
theorem dX0_rootOfPositive_135 : decode cX0_rootOfPositive 135 = .ok (.iload 4, 2) := by decide +kernel
theorem dX0_rootOfPositive_137 : decode cX0_rootOfPositive 137 = .ok (.bipush 26, 2) := by decide +kernel
theorem dX0_rootOfPositive_139 : decode cX0_rootOfPositive 139 = .ok (.isub, 1) := by decide +kernel
theorem dX0_rootOfPositive_140 : decode cX0_rootOfPositive 140 = .ok (.invokestatic 113, 3) := by decide +kernel
theorem dX0_rootOfPositive_143 : decode cX0_rootOfPositive 143 = .ok (.lreturn, 1) := by decide +kernel
set_option maxRecDepth 20000 in
theorem ggX0_madeWhole_X0_isNan : GoodIn wsX0_madeWhole wsX0_isNan := goodIn_r _ [9, 10, 11] (by decide +kernel) (by decide +kernel)
set_option maxRecDepth 20000 in
theorem gX0_madeWhole_X0_isNan : GoodIn wsX0_madeWhole (va_wsS RX0 51 yX0_isNan wsX0_isNan) := goodIn_app (goodIn_of _ (by decide +kernel)) ggX0_madeWhole_X0_isNan
set_option maxRecDepth 20000 in
theorem ggX0_madeWhole_X0_isZero : GoodIn wsX0_madeWhole wsX0_isZero := goodIn_r _ [14, 10] (by decide +kernel) (by decide +kernel)
set_option maxRecDepth 20000 in
theorem gX0_madeWhole_X0_isZero : GoodIn wsX0_madeWhole (va_wsS RX0 43 yX0_isZero wsX0_isZero) := goodIn_app (goodIn_of _ (by decide +kernel)) ggX0_madeWhole_X0_isZero
set_option maxRecDepth 20000 in
theorem ggX0_madeWhole_X0_isInfinity : GoodIn wsX0_madeWhole wsX0_isInfinity := goodIn_r _ [17, 10, 11] (by decide +kernel) (by decide +kernel)
set_option maxRecDepth 20000 in
theorem gX0_madeWhole_X0_isInfinity : GoodIn wsX0_madeWhole (va_wsS RX0 48 yX0_isInfinity wsX0_isInfinity) := goodIn_app (goodIn_of _ (by decide +kernel)) ggX0_madeWhole_X0_isInfinity
set_option maxRecDepth 20000 in
theorem ggX0_madeWhole_X0_power : GoodIn wsX0_madeWhole wsX0_power := goodIn_r _ [20, 21, 22, 4, 23, 24, 25, 8, 26, 10] (by decide +kernel) (by decide +kernel)
set_option maxRecDepth 20000 in
theorem gX0_madeWhole_X0_power : GoodIn wsX0_madeWhole (va_wsS RX0 95 yX0_power wsX0_power) := goodIn_app (goodIn_of _ (by decide +kernel)) ggX0_madeWhole_X0_power
set_option maxRecDepth 20000 in
theorem ggX0_madeWhole_X0_signOf : GoodIn wsX0_madeWhole wsX0_signOf := goodIn_r _ [29, 30] (by decide +kernel) (by decide +kernel)
set_option maxRecDepth 20000 in
theorem gX0_madeWhole_X0_signOf : GoodIn wsX0_madeWhole (va_wsS RX0 116 yX0_signOf wsX0_signOf) := goodIn_app (goodIn_of _ (by decide +kernel)) ggX0_madeWhole_X0_signOf
set_option maxRecDepth 20000 in
theorem ggX0_madeWhole_X0_significand : GoodIn wsX0_madeWhole wsX0_significand := goodIn_r _ [33, 34, 35, 24, 25, 8, 26, 10] (by decide +kernel) (by decide +kernel)
set_option maxRecDepth 20000 in
theorem gX0_madeWhole_X0_significand : GoodIn wsX0_madeWhole (va_wsS RX0 84 yX0_significand wsX0_significand) := goodIn_app (goodIn_of _ (by decide +kernel)) ggX0_madeWhole_X0_significand
set_option maxRecDepth 20000 in
theorem ggX0_madeWhole_X0_wholeAmount : GoodIn wsX0_madeWhole wsX0_wholeAmount := goodIn_r _ [38, 39, 40, 8, 41] (by decide +kernel) (by decide +kernel)
set_option maxRecDepth 20000 in
theorem gX0_madeWhole_X0_wholeAmount : GoodIn wsX0_madeWhole (va_wsS RX0 119 yX0_wholeAmount wsX0_wholeAmount) := goodIn_app (goodIn_of _ (by decide +kernel)) ggX0_madeWhole_X0_wholeAmount
set_option maxRecDepth 20000 in
theorem ggX0_madeWhole_X0_pattern : GoodIn wsX0_madeWhole wsX0_pattern := goodIn_r _ [44, 2, 3, 4, 5, 45, 46, 47, 48, 49, 50, 51, 52, 53] (by decide +kernel) (by decide +kernel)
set_option maxRecDepth 20000 in
theorem gX0_madeWhole_X0_pattern : GoodIn wsX0_madeWhole (va_wsS RX0 113 yX0_pattern wsX0_pattern) := goodIn_app (goodIn_of _ (by decide +kernel)) ggX0_madeWhole_X0_pattern
set_option maxRecDepth 20000 in
theorem ggX0_madeWhole_X0_raise : GoodIn wsX0_madeWhole wsX0_raise := goodIn_r _ [57, 58, 59, 60, 61] (by decide +kernel) (by decide +kernel)
set_option maxRecDepth 20000 in
theorem gX0_madeWhole_X0_raise : GoodIn wsX0_madeWhole (wsV RX0 103 RX0 yX0_raise wsX0_raise) := goodIn_app (goodIn_of _ (by decide +kernel)) ggX0_madeWhole_X0_raise
theorem dX0_madeWhole_0 : decode cX0_madeWhole 0 = .ok (.lload_n 1, 1) := by decide +kernel
theorem dX0_madeWhole_1 : decode cX0_madeWhole 1 = .ok (.invokestatic 51, 3) := by decide +kernel
theorem dX0_madeWhole_4 : decode cX0_madeWhole 4 = .ok (.ifCond .eq 7, 3) := by decide +kernel
theorem dX0_madeWhole_7 : decode cX0_madeWhole 7 = .ok (.ldc2_w 101, 3) := by decide +kernel
theorem dX0_madeWhole_10 : decode cX0_madeWhole 10 = .ok (.lreturn, 1) := by decide +kernel
theorem dX0_madeWhole_11 : decode cX0_madeWhole 11 = .ok (.lload_n 1, 1) := by decide +kernel
theorem dX0_madeWhole_12 : decode cX0_madeWhole 12 = .ok (.invokestatic 43, 3) := by decide +kernel
theorem dX0_madeWhole_15 : decode cX0_madeWhole 15 = .ok (.ifCond .ne 17, 3) := by decide +kernel
theorem dX0_madeWhole_18 : decode cX0_madeWhole 18 = .ok (.lload_n 1, 1) := by decide +kernel
theorem dX0_madeWhole_19 : decode cX0_madeWhole 19 = .ok (.invokestatic 48, 3) := by decide +kernel
theorem dX0_madeWhole_22 : decode cX0_madeWhole 22 = .ok (.ifCond .ne 10, 3) := by decide +kernel
theorem dX0_madeWhole_25 : decode cX0_madeWhole 25 = .ok (.lload_n 1, 1) := by decide +kernel
theorem dX0_madeWhole_26 : decode cX0_madeWhole 26 = .ok (.invokestatic 95, 3) := by decide +kernel
theorem dX0_madeWhole_29 : decode cX0_madeWhole 29 = .ok (.ifCond .lt 5, 3) := by decide +kernel
theorem dX0_madeWhole_32 : decode cX0_madeWhole 32 = .ok (.lload_n 1, 1) := by decide +kernel
theorem dX0_madeWhole_33 : decode cX0_madeWhole 33 = .ok (.lreturn, 1) := by decide +kernel
theorem dX0_madeWhole_34 : decode cX0_madeWhole 34 = .ok (.lload_n 1, 1) := by decide +kernel
theorem dX0_madeWhole_35 : decode cX0_madeWhole 35 = .ok (.invokestatic 95, 3) := by decide +kernel
theorem dX0_madeWhole_38 : decode cX0_madeWhole 38 = .ok (.ineg, 1) := by decide +kernel
theorem dX0_madeWhole_39 : decode cX0_madeWhole 39 = .ok (.bipush 60, 2) := by decide +kernel
theorem dX0_madeWhole_41 : decode cX0_madeWhole 41 = .ok (.invokestatic 98, 3) := by decide +kernel
theorem dX0_madeWhole_44 : decode cX0_madeWhole 44 = .ok (.istore 4, 2) := by decide +kernel
theorem dX0_madeWhole_46 : decode cX0_madeWhole 46 = .ok (.lload_n 1, 1) := by decide +kernel
theorem dX0_madeWhole_47 : decode cX0_madeWhole 47 = .ok (.invokestatic 116, 3) := by decide +kernel
theorem dX0_madeWhole_50 : decode cX0_madeWhole 50 = .ok (.lload_n 1, 1) := by decide +kernel
theorem dX0_madeWhole_51 : decode cX0_madeWhole 51 = .ok (.invokestatic 84, 3) := by decide +kernel
theorem dX0_madeWhole_54 : decode cX0_madeWhole 54 = .ok (.iload 4, 2) := by decide +kernel
theorem dX0_madeWhole_56 : decode cX0_madeWhole 56 = .ok (.lload_n 1, 1) := by decide +kernel
theorem dX0_madeWhole_57 : decode cX0_madeWhole 57 = .ok (.lconst 0, 1) := by decide +kernel
theorem dX0_madeWhole_58 : decode cX0_madeWhole 58 = .ok (.lcmp, 1) := by decide +kernel
theorem dX0_madeWhole_59 : decode cX0_madeWhole 59 = .ok (.ifCond .ge 7, 3) := by decide +kernel
theorem dX0_madeWhole_62 : decode cX0_madeWhole 62 = .ok (.iconst 1, 1) := by decide +kernel
theorem dX0_madeWhole_63 : decode cX0_madeWhole 63 = .ok (.goto 4, 3) := by decide +kernel
theorem dX0_madeWhole_66 : decode cX0_madeWhole 66 = .ok (.iconst 0, 1) := by decide +kernel
theorem dX0_madeWhole_67 : decode cX0_madeWhole 67 = .ok (.iload_n 3, 1) := by decide +kernel
theorem dX0_madeWhole_68 : decode cX0_madeWhole 68 = .ok (.invokestatic 119, 3) := by decide +kernel
theorem dX0_madeWhole_71 : decode cX0_madeWhole 71 = .ok (.iconst 0, 1) := by decide +kernel
theorem dX0_madeWhole_72 : decode cX0_madeWhole 72 = .ok (.invokestatic 113, 3) := by decide +kernel
theorem dX0_madeWhole_75 : decode cX0_madeWhole 75 = .ok (.lor, 1) := by decide +kernel
theorem dX0_madeWhole_76 : decode cX0_madeWhole 76 = .ok (.lstore 5, 2) := by decide +kernel
theorem dX0_madeWhole_78 : decode cX0_madeWhole 78 = .ok (.iload_n 3, 1) := by decide +kernel
theorem dX0_madeWhole_79 : decode cX0_madeWhole 79 = .ok (.ifCond .ne 15, 3) := by decide +kernel
theorem dX0_madeWhole_82 : decode cX0_madeWhole 82 = .ok (.lload 5, 2) := by decide +kernel
theorem dX0_madeWhole_84 : decode cX0_madeWhole 84 = .ok (.lload_n 1, 1) := by decide +kernel
theorem dX0_madeWhole_85 : decode cX0_madeWhole 85 = .ok (.lcmp, 1) := by decide +kernel
theorem dX0_madeWhole_86 : decode cX0_madeWhole 86 = .ok (.ifCond .eq 8, 3) := by decide +kernel
theorem dX0_madeWhole_89 : decode cX0_madeWhole 89 = .ok (.aload_n 0, 1) := by decide +kernel
theorem dX0_madeWhole_90 : decode cX0_madeWhole 90 = .ok (.iconst 2, 1) := by decide +kernel
theorem dX0_madeWhole_91 : decode cX0_madeWhole 91 = .ok (.invokevirtual 103, 3) := by decide +kernel
theorem dX0_madeWhole_94 : decode cX0_madeWhole 94 = .ok (.lload 5, 2) := by decide +kernel
theorem dX0_madeWhole_96 : decode cX0_madeWhole 96 = .ok (.lreturn, 1) := by decide +kernel
set_option maxRecDepth 20000 in
theorem ggX0_wholeAmount_X0_nearestShifted : GoodIn wsX0_wholeAmount wsX0_nearestShifted := goodIn_r _ [4] (by decide +kernel) (by decide +kernel)
set_option maxRecDepth 20000 in
theorem gX0_wholeAmount_X0_nearestShifted : GoodIn wsX0_wholeAmount (va_wsS RX0 123 yX0_nearestShifted wsX0_nearestShifted) := goodIn_app (goodIn_of _ (by decide +kernel)) ggX0_wholeAmount_X0_nearestShifted
theorem dX0_wholeAmount_0 : decode cX0_wholeAmount 0 = .ok (.iload 4, 2) := by decide +kernel
theorem dX0_wholeAmount_2 : decode cX0_wholeAmount 2 = .ok (.ifCond .ne 9, 3) := by decide +kernel
theorem dX0_wholeAmount_5 : decode cX0_wholeAmount 5 = .ok (.lload_n 0, 1) := by decide +kernel
theorem dX0_wholeAmount_6 : decode cX0_wholeAmount 6 = .ok (.iload_n 2, 1) := by decide +kernel
theorem dX0_wholeAmount_7 : decode cX0_wholeAmount 7 = .ok (.invokestatic 123, 3) := by decide +kernel
theorem dX0_wholeAmount_10 : decode cX0_wholeAmount 10 = .ok (.lreturn, 1) := by decide +kernel
theorem dX0_wholeAmount_11 : decode cX0_wholeAmount 11 = .ok (.lload_n 0, 1) := by decide +kernel
theorem dX0_wholeAmount_12 : decode cX0_wholeAmount 12 = .ok (.iload_n 2, 1) := by decide +kernel
theorem dX0_wholeAmount_13 : decode cX0_wholeAmount 13 = .ok (.lshr, 1) := by decide +kernel
theorem dX0_wholeAmount_14 : decode cX0_wholeAmount 14 = .ok (.lstore 5, 2) := by decide +kernel
theorem dX0_wholeAmount_16 : decode cX0_wholeAmount 16 = .ok (.iload 4, 2) := by decide +kernel
theorem dX0_wholeAmount_18 : decode cX0_wholeAmount 18 = .ok (.iconst 1, 1) := by decide +kernel
theorem dX0_wholeAmount_19 : decode cX0_wholeAmount 19 = .ok (.if_icmp .ne 7, 3) := by decide +kernel
theorem dX0_wholeAmount_22 : decode cX0_wholeAmount 22 = .ok (.iload_n 3, 1) := by decide +kernel
theorem dX0_wholeAmount_23 : decode cX0_wholeAmount 23 = .ok (.ifCond .ne 13, 3) := by decide +kernel
theorem dX0_wholeAmount_26 : decode cX0_wholeAmount 26 = .ok (.iload 4, 2) := by decide +kernel
theorem dX0_wholeAmount_28 : decode cX0_wholeAmount 28 = .ok (.iconst 2, 1) := by decide +kernel
theorem dX0_wholeAmount_29 : decode cX0_wholeAmount 29 = .ok (.if_icmp .ne 11, 3) := by decide +kernel
theorem dX0_wholeAmount_32 : decode cX0_wholeAmount 32 = .ok (.iload_n 3, 1) := by decide +kernel
theorem dX0_wholeAmount_33 : decode cX0_wholeAmount 33 = .ok (.ifCond .ne 7, 3) := by decide +kernel
theorem dX0_wholeAmount_36 : decode cX0_wholeAmount 36 = .ok (.iconst 1, 1) := by decide +kernel
theorem dX0_wholeAmount_37 : decode cX0_wholeAmount 37 = .ok (.goto 4, 3) := by decide +kernel
theorem dX0_wholeAmount_40 : decode cX0_wholeAmount 40 = .ok (.iconst 0, 1) := by decide +kernel
theorem dX0_wholeAmount_41 : decode cX0_wholeAmount 41 = .ok (.istore 7, 2) := by decide +kernel
theorem dX0_wholeAmount_43 : decode cX0_wholeAmount 43 = .ok (.iload 7, 2) := by decide +kernel
theorem dX0_wholeAmount_45 : decode cX0_wholeAmount 45 = .ok (.ifCond .eq 19, 3) := by decide +kernel
theorem dX0_wholeAmount_48 : decode cX0_wholeAmount 48 = .ok (.lload 5, 2) := by decide +kernel
theorem dX0_wholeAmount_50 : decode cX0_wholeAmount 50 = .ok (.iload_n 2, 1) := by decide +kernel
theorem dX0_wholeAmount_51 : decode cX0_wholeAmount 51 = .ok (.lshl, 1) := by decide +kernel
theorem dX0_wholeAmount_52 : decode cX0_wholeAmount 52 = .ok (.lload_n 0, 1) := by decide +kernel
theorem dX0_wholeAmount_53 : decode cX0_wholeAmount 53 = .ok (.lcmp, 1) := by decide +kernel
theorem dX0_wholeAmount_54 : decode cX0_wholeAmount 54 = .ok (.ifCond .eq 10, 3) := by decide +kernel
theorem dX0_wholeAmount_57 : decode cX0_wholeAmount 57 = .ok (.lload 5, 2) := by decide +kernel
theorem dX0_wholeAmount_59 : decode cX0_wholeAmount 59 = .ok (.lconst 1, 1) := by decide +kernel
theorem dX0_wholeAmount_60 : decode cX0_wholeAmount 60 = .ok (.ladd, 1) := by decide +kernel
theorem dX0_wholeAmount_61 : decode cX0_wholeAmount 61 = .ok (.goto 5, 3) := by decide +kernel
theorem dX0_wholeAmount_64 : decode cX0_wholeAmount 64 = .ok (.lload 5, 2) := by decide +kernel
theorem dX0_wholeAmount_66 : decode cX0_wholeAmount 66 = .ok (.lreturn, 1) := by decide +kernel
set_option maxRecDepth 20000 in
theorem ggX0_remainder_X0_isNan : GoodIn wsX0_remainder wsX0_isNan := goodIn_r _ [6, 7, 8] (by decide +kernel) (by decide +kernel)
set_option maxRecDepth 20000 in
theorem gX0_remainder_X0_isNan : GoodIn wsX0_remainder (va_wsS RX0 51 yX0_isNan wsX0_isNan) := goodIn_app (goodIn_of _ (by decide +kernel)) ggX0_remainder_X0_isNan
set_option maxRecDepth 20000 in
theorem ggX0_remainder_X0_isInfinity : GoodIn wsX0_remainder wsX0_isInfinity := goodIn_r _ [11, 7, 8] (by decide +kernel) (by decide +kernel)
set_option maxRecDepth 20000 in
theorem gX0_remainder_X0_isInfinity : GoodIn wsX0_remainder (va_wsS RX0 48 yX0_isInfinity wsX0_isInfinity) := goodIn_app (goodIn_of _ (by decide +kernel)) ggX0_remainder_X0_isInfinity
set_option maxRecDepth 20000 in
theorem ggX0_remainder_X0_isZero : GoodIn wsX0_remainder wsX0_isZero := goodIn_r _ [14, 7] (by decide +kernel) (by decide +kernel)
set_option maxRecDepth 20000 in
theorem gX0_remainder_X0_isZero : GoodIn wsX0_remainder (va_wsS RX0 43 yX0_isZero wsX0_isZero) := goodIn_app (goodIn_of _ (by decide +kernel)) ggX0_remainder_X0_isZero
set_option maxRecDepth 20000 in
theorem ggX0_remainder_X0_raise : GoodIn wsX0_remainder wsX0_raise := goodIn_r _ [18, 19, 59, 60, 61] (by decide +kernel) (by decide +kernel)
set_option maxRecDepth 20000 in
theorem gX0_remainder_X0_raise : GoodIn wsX0_remainder (wsV RX0 103 RX0 yX0_raise wsX0_raise) := goodIn_app (goodIn_of _ (by decide +kernel)) ggX0_remainder_X0_raise
set_option maxRecDepth 20000 in
theorem ggX0_remainder_X0_power : GoodIn wsX0_remainder wsX0_power := goodIn_r _ [22, 23, 24, 25, 26, 27, 28, 5, 29, 7] (by decide +kernel) (by decide +kernel)
set_option maxRecDepth 20000 in
theorem gX0_remainder_X0_power : GoodIn wsX0_remainder (va_wsS RX0 95 yX0_power wsX0_power) := goodIn_app (goodIn_of _ (by decide +kernel)) ggX0_remainder_X0_power
set_option maxRecDepth 20000 in
theorem ggX0_remainder_X0_remainderOfFinite : GoodIn wsX0_remainder wsX0_remainderOfFinite := goodIn_r _ [33, 23, 24, 25, 26, 34, 35, 36, 37, 38, 1, 39, 40, 5, 41, 42, 43, 27, 28, 29, 7, 20, 21, 22, 44, 45, 46, 47, 48, 49, 50, 51, 52, 53, 54, 55, 56, 57, 58, 59, 60, 61] (by decide +kernel) (by decide +kernel)
set_option maxRecDepth 20000 in
theorem gX0_remainder_X0_remainderOfFinite : GoodIn wsX0_remainder (wsV RX0 126 RX0 yX0_remainderOfFinite wsX0_remainderOfFinite) := goodIn_app (goodIn_of _ (by decide +kernel)) ggX0_remainder_X0_remainderOfFinite
theorem dX0_remainder_0 : decode cX0_remainder 0 = .ok (.aload_n 0, 1) := by decide +kernel
theorem dX0_remainder_1 : decode cX0_remainder 1 = .ok (.iconst 0, 1) := by decide +kernel
theorem dX0_remainder_2 : decode cX0_remainder 2 = .ok (.putfield 17, 3) := by decide +kernel
theorem dX0_remainder_5 : decode cX0_remainder 5 = .ok (.lload_n 1, 1) := by decide +kernel
theorem dX0_remainder_6 : decode cX0_remainder 6 = .ok (.invokestatic 51, 3) := by decide +kernel
theorem dX0_remainder_9 : decode cX0_remainder 9 = .ok (.ifCond .ne 10, 3) := by decide +kernel
theorem dX0_remainder_12 : decode cX0_remainder 12 = .ok (.lload_n 3, 1) := by decide +kernel
theorem dX0_remainder_13 : decode cX0_remainder 13 = .ok (.invokestatic 51, 3) := by decide +kernel
theorem dX0_remainder_16 : decode cX0_remainder 16 = .ok (.ifCond .eq 7, 3) := by decide +kernel
theorem dX0_remainder_19 : decode cX0_remainder 19 = .ok (.ldc2_w 101, 3) := by decide +kernel
theorem dX0_remainder_22 : decode cX0_remainder 22 = .ok (.lreturn, 1) := by decide +kernel
theorem dX0_remainder_23 : decode cX0_remainder 23 = .ok (.lload_n 1, 1) := by decide +kernel
theorem dX0_remainder_24 : decode cX0_remainder 24 = .ok (.invokestatic 48, 3) := by decide +kernel
theorem dX0_remainder_27 : decode cX0_remainder 27 = .ok (.ifCond .ne 10, 3) := by decide +kernel
theorem dX0_remainder_30 : decode cX0_remainder 30 = .ok (.lload_n 3, 1) := by decide +kernel
theorem dX0_remainder_31 : decode cX0_remainder 31 = .ok (.invokestatic 43, 3) := by decide +kernel
theorem dX0_remainder_34 : decode cX0_remainder 34 = .ok (.ifCond .eq 12, 3) := by decide +kernel
theorem dX0_remainder_37 : decode cX0_remainder 37 = .ok (.aload_n 0, 1) := by decide +kernel
theorem dX0_remainder_38 : decode cX0_remainder 38 = .ok (.iconst 1, 1) := by decide +kernel
theorem dX0_remainder_39 : decode cX0_remainder 39 = .ok (.invokevirtual 103, 3) := by decide +kernel
theorem dX0_remainder_42 : decode cX0_remainder 42 = .ok (.ldc2_w 101, 3) := by decide +kernel
theorem dX0_remainder_45 : decode cX0_remainder 45 = .ok (.lreturn, 1) := by decide +kernel
theorem dX0_remainder_46 : decode cX0_remainder 46 = .ok (.lload_n 3, 1) := by decide +kernel
theorem dX0_remainder_47 : decode cX0_remainder 47 = .ok (.invokestatic 48, 3) := by decide +kernel
theorem dX0_remainder_50 : decode cX0_remainder 50 = .ok (.ifCond .ne 10, 3) := by decide +kernel
theorem dX0_remainder_53 : decode cX0_remainder 53 = .ok (.lload_n 1, 1) := by decide +kernel
theorem dX0_remainder_54 : decode cX0_remainder 54 = .ok (.invokestatic 43, 3) := by decide +kernel
theorem dX0_remainder_57 : decode cX0_remainder 57 = .ok (.ifCond .eq 5, 3) := by decide +kernel
theorem dX0_remainder_60 : decode cX0_remainder 60 = .ok (.lload_n 1, 1) := by decide +kernel
theorem dX0_remainder_61 : decode cX0_remainder 61 = .ok (.lreturn, 1) := by decide +kernel
theorem dX0_remainder_62 : decode cX0_remainder 62 = .ok (.lload_n 1, 1) := by decide +kernel
theorem dX0_remainder_63 : decode cX0_remainder 63 = .ok (.invokestatic 95, 3) := by decide +kernel
theorem dX0_remainder_66 : decode cX0_remainder 66 = .ok (.lload_n 3, 1) := by decide +kernel
theorem dX0_remainder_67 : decode cX0_remainder 67 = .ok (.invokestatic 95, 3) := by decide +kernel
theorem dX0_remainder_70 : decode cX0_remainder 70 = .ok (.isub, 1) := by decide +kernel
theorem dX0_remainder_71 : decode cX0_remainder 71 = .ok (.istore 6, 2) := by decide +kernel
theorem dX0_remainder_73 : decode cX0_remainder 73 = .ok (.iload 6, 2) := by decide +kernel
theorem dX0_remainder_75 : decode cX0_remainder 75 = .ok (.iconst (-1), 1) := by decide +kernel
theorem dX0_remainder_76 : decode cX0_remainder 76 = .ok (.if_icmp .ge 5, 3) := by decide +kernel
theorem dX0_remainder_79 : decode cX0_remainder 79 = .ok (.lload_n 1, 1) := by decide +kernel
theorem dX0_remainder_80 : decode cX0_remainder 80 = .ok (.lreturn, 1) := by decide +kernel
theorem dX0_remainder_81 : decode cX0_remainder 81 = .ok (.aload_n 0, 1) := by decide +kernel
theorem dX0_remainder_82 : decode cX0_remainder 82 = .ok (.lload_n 1, 1) := by decide +kernel
theorem dX0_remainder_83 : decode cX0_remainder 83 = .ok (.lload_n 3, 1) := by decide +kernel
theorem dX0_remainder_84 : decode cX0_remainder 84 = .ok (.iload 6, 2) := by decide +kernel
theorem dX0_remainder_86 : decode cX0_remainder 86 = .ok (.iload 5, 2) := by decide +kernel
theorem dX0_remainder_88 : decode cX0_remainder 88 = .ok (.invokevirtual 126, 3) := by decide +kernel
theorem dX0_remainder_91 : decode cX0_remainder 91 = .ok (.lreturn, 1) := by decide +kernel
set_option maxRecDepth 20000 in
theorem ggX0_remainderOfFinite_X0_significand : GoodIn wsX0_remainderOfFinite wsX0_significand := goodIn_r _ [14, 15, 16, 17, 18, 13, 19, 20] (by decide +kernel) (by decide +kernel)
set_option maxRecDepth 20000 in
theorem gX0_remainderOfFinite_X0_significand : GoodIn wsX0_remainderOfFinite (va_wsS RX0 84 yX0_significand wsX0_significand) := goodIn_app (goodIn_of _ (by decide +kernel)) ggX0_remainderOfFinite_X0_significand
set_option maxRecDepth 20000 in
theorem ggX0_remainderOfFinite_X0_power : GoodIn wsX0_remainderOfFinite wsX0_power := goodIn_r _ [23, 1, 2, 3, 4, 17, 18, 13, 19, 20] (by decide +kernel) (by decide +kernel)
set_option maxRecDepth 20000 in
theorem gX0_remainderOfFinite_X0_power : GoodIn wsX0_remainderOfFinite (va_wsS RX0 95 yX0_power wsX0_power) := goodIn_app (goodIn_of _ (by decide +kernel)) ggX0_remainderOfFinite_X0_power
set_option maxRecDepth 20000 in
theorem ggX0_remainderOfFinite_X0_signOf : GoodIn wsX0_remainderOfFinite wsX0_signOf := goodIn_r _ [26, 8] (by decide +kernel) (by decide +kernel)
set_option maxRecDepth 20000 in
theorem gX0_remainderOfFinite_X0_signOf : GoodIn wsX0_remainderOfFinite (va_wsS RX0 116 yX0_signOf wsX0_signOf) := goodIn_app (goodIn_of _ (by decide +kernel)) ggX0_remainderOfFinite_X0_signOf
set_option maxRecDepth 20000 in
theorem ggX0_remainderOfFinite_X0_pattern : GoodIn wsX0_remainderOfFinite wsX0_pattern := goodIn_r _ [29, 5, 6, 3, 7, 30, 31, 32, 33, 34, 35, 36, 37, 38] (by decide +kernel) (by decide +kernel)
set_option maxRecDepth 20000 in
theorem gX0_remainderOfFinite_X0_pattern : GoodIn wsX0_remainderOfFinite (va_wsS RX0 113 yX0_pattern wsX0_pattern) := goodIn_app (goodIn_of _ (by decide +kernel)) ggX0_remainderOfFinite_X0_pattern
theorem dX0_remainderOfFinite_0 : decode cX0_remainderOfFinite 0 = .ok (.lload_n 3, 1) := by decide +kernel
theorem dX0_remainderOfFinite_1 : decode cX0_remainderOfFinite 1 = .ok (.invokestatic 84, 3) := by decide +kernel
theorem dX0_remainderOfFinite_4 : decode cX0_remainderOfFinite 4 = .ok (.iload 5, 2) := by decide +kernel
theorem dX0_remainderOfFinite_6 : decode cX0_remainderOfFinite 6 = .ok (.ineg, 1) := by decide +kernel
theorem dX0_remainderOfFinite_7 : decode cX0_remainderOfFinite 7 = .ok (.iconst 0, 1) := by decide +kernel
theorem dX0_remainderOfFinite_8 : decode cX0_remainderOfFinite 8 = .ok (.invokestatic 78, 3) := by decide +kernel
theorem dX0_remainderOfFinite_11 : decode cX0_remainderOfFinite 11 = .ok (.lshl, 1) := by decide +kernel
theorem dX0_remainderOfFinite_12 : decode cX0_remainderOfFinite 12 = .ok (.lstore 7, 2) := by decide +kernel
theorem dX0_remainderOfFinite_14 : decode cX0_remainderOfFinite 14 = .ok (.lload_n 1, 1) := by decide +kernel
theorem dX0_remainderOfFinite_15 : decode cX0_remainderOfFinite 15 = .ok (.invokestatic 95, 3) := by decide +kernel
theorem dX0_remainderOfFinite_18 : decode cX0_remainderOfFinite 18 = .ok (.lload_n 3, 1) := by decide +kernel
theorem dX0_remainderOfFinite_19 : decode cX0_remainderOfFinite 19 = .ok (.invokestatic 95, 3) := by decide +kernel
theorem dX0_remainderOfFinite_22 : decode cX0_remainderOfFinite 22 = .ok (.invokestatic 98, 3) := by decide +kernel
theorem dX0_remainderOfFinite_25 : decode cX0_remainderOfFinite 25 = .ok (.istore 9, 2) := by decide +kernel
theorem dX0_remainderOfFinite_27 : decode cX0_remainderOfFinite 27 = .ok (.lload_n 1, 1) := by decide +kernel
theorem dX0_remainderOfFinite_28 : decode cX0_remainderOfFinite 28 = .ok (.invokestatic 84, 3) := by decide +kernel
theorem dX0_remainderOfFinite_31 : decode cX0_remainderOfFinite 31 = .ok (.lload 7, 2) := by decide +kernel
theorem dX0_remainderOfFinite_33 : decode cX0_remainderOfFinite 33 = .ok (.ldiv, 1) := by decide +kernel
theorem dX0_remainderOfFinite_34 : decode cX0_remainderOfFinite 34 = .ok (.lstore 10, 2) := by decide +kernel
theorem dX0_remainderOfFinite_36 : decode cX0_remainderOfFinite 36 = .ok (.lload_n 1, 1) := by decide +kernel
theorem dX0_remainderOfFinite_37 : decode cX0_remainderOfFinite 37 = .ok (.invokestatic 84, 3) := by decide +kernel
theorem dX0_remainderOfFinite_40 : decode cX0_remainderOfFinite 40 = .ok (.lload 7, 2) := by decide +kernel
theorem dX0_remainderOfFinite_42 : decode cX0_remainderOfFinite 42 = .ok (.lrem, 1) := by decide +kernel
theorem dX0_remainderOfFinite_43 : decode cX0_remainderOfFinite 43 = .ok (.lstore 12, 2) := by decide +kernel
theorem dX0_remainderOfFinite_45 : decode cX0_remainderOfFinite 45 = .ok (.iload 5, 2) := by decide +kernel
theorem dX0_remainderOfFinite_47 : decode cX0_remainderOfFinite 47 = .ok (.istore 14, 2) := by decide +kernel
theorem dX0_remainderOfFinite_49 : decode cX0_remainderOfFinite 49 = .ok (.iload 14, 2) := by decide +kernel
theorem dX0_remainderOfFinite_51 : decode cX0_remainderOfFinite 51 = .ok (.ifCond .le 45, 3) := by decide +kernel
theorem dX0_remainderOfFinite_54 : decode cX0_remainderOfFinite 54 = .ok (.iload 14, 2) := by decide +kernel
theorem dX0_remainderOfFinite_56 : decode cX0_remainderOfFinite 56 = .ok (.bipush 10, 2) := by decide +kernel
theorem dX0_remainderOfFinite_58 : decode cX0_remainderOfFinite 58 = .ok (.invokestatic 98, 3) := by decide +kernel
theorem dX0_remainderOfFinite_61 : decode cX0_remainderOfFinite 61 = .ok (.istore 15, 2) := by decide +kernel
theorem dX0_remainderOfFinite_63 : decode cX0_remainderOfFinite 63 = .ok (.lload 12, 2) := by decide +kernel
theorem dX0_remainderOfFinite_65 : decode cX0_remainderOfFinite 65 = .ok (.iload 15, 2) := by decide +kernel
theorem dX0_remainderOfFinite_67 : decode cX0_remainderOfFinite 67 = .ok (.lshl, 1) := by decide +kernel
theorem dX0_remainderOfFinite_68 : decode cX0_remainderOfFinite 68 = .ok (.lstore 16, 2) := by decide +kernel
theorem dX0_remainderOfFinite_70 : decode cX0_remainderOfFinite 70 = .ok (.lload 10, 2) := by decide +kernel
theorem dX0_remainderOfFinite_72 : decode cX0_remainderOfFinite 72 = .ok (.iload 15, 2) := by decide +kernel
theorem dX0_remainderOfFinite_74 : decode cX0_remainderOfFinite 74 = .ok (.lshl, 1) := by decide +kernel
theorem dX0_remainderOfFinite_75 : decode cX0_remainderOfFinite 75 = .ok (.lload 16, 2) := by decide +kernel
theorem dX0_remainderOfFinite_77 : decode cX0_remainderOfFinite 77 = .ok (.lload 7, 2) := by decide +kernel
theorem dX0_remainderOfFinite_79 : decode cX0_remainderOfFinite 79 = .ok (.ldiv, 1) := by decide +kernel
theorem dX0_remainderOfFinite_80 : decode cX0_remainderOfFinite 80 = .ok (.ladd, 1) := by decide +kernel
theorem dX0_remainderOfFinite_81 : decode cX0_remainderOfFinite 81 = .ok (.lstore 10, 2) := by decide +kernel
theorem dX0_remainderOfFinite_83 : decode cX0_remainderOfFinite 83 = .ok (.lload 16, 2) := by decide +kernel
theorem dX0_remainderOfFinite_85 : decode cX0_remainderOfFinite 85 = .ok (.lload 7, 2) := by decide +kernel
theorem dX0_remainderOfFinite_87 : decode cX0_remainderOfFinite 87 = .ok (.lrem, 1) := by decide +kernel
theorem dX0_remainderOfFinite_88 : decode cX0_remainderOfFinite 88 = .ok (.lstore 12, 2) := by decide +kernel
theorem dX0_remainderOfFinite_90 : decode cX0_remainderOfFinite 90 = .ok (.iinc 14 (-10), 3) := by decide +kernel
theorem dX0_remainderOfFinite_93 : decode cX0_remainderOfFinite 93 = .ok (.goto (-44), 3) := by decide +kernel
theorem dX0_remainderOfFinite_96 : decode cX0_remainderOfFinite 96 = .ok (.lload_n 1, 1) := by decide +kernel
theorem dX0_remainderOfFinite_97 : decode cX0_remainderOfFinite 97 = .ok (.invokestatic 116, 3) := by decide +kernel
theorem dX0_remainderOfFinite_100 : decode cX0_remainderOfFinite 100 = .ok (.lstore 14, 2) := by decide +kernel
theorem dX0_remainderOfFinite_102 : decode cX0_remainderOfFinite 102 = .ok (.lload 12, 2) := by decide +kernel
theorem dX0_remainderOfFinite_104 : decode cX0_remainderOfFinite 104 = .ok (.iconst 1, 1) := by decide +kernel
theorem dX0_remainderOfFinite_105 : decode cX0_remainderOfFinite 105 = .ok (.lshl, 1) := by decide +kernel
theorem dX0_remainderOfFinite_106 : decode cX0_remainderOfFinite 106 = .ok (.lstore 16, 2) := by decide +kernel
theorem dX0_remainderOfFinite_108 : decode cX0_remainderOfFinite 108 = .ok (.iload 6, 2) := by decide +kernel
theorem dX0_remainderOfFinite_110 : decode cX0_remainderOfFinite 110 = .ok (.ifCond .eq 49, 3) := by decide +kernel
theorem dX0_remainderOfFinite_113 : decode cX0_remainderOfFinite 113 = .ok (.lload 16, 2) := by decide +kernel
theorem dX0_remainderOfFinite_115 : decode cX0_remainderOfFinite 115 = .ok (.lload 7, 2) := by decide +kernel
theorem dX0_remainderOfFinite_117 : decode cX0_remainderOfFinite 117 = .ok (.lcmp, 1) := by decide +kernel
theorem dX0_remainderOfFinite_118 : decode cX0_remainderOfFinite 118 = .ok (.ifCond .gt 20, 3) := by decide +kernel
theorem dX0_remainderOfFinite_121 : decode cX0_remainderOfFinite 121 = .ok (.lload 16, 2) := by decide +kernel
theorem dX0_remainderOfFinite_123 : decode cX0_remainderOfFinite 123 = .ok (.lload 7, 2) := by decide +kernel
theorem dX0_remainderOfFinite_125 : decode cX0_remainderOfFinite 125 = .ok (.lcmp, 1) := by decide +kernel
theorem dX0_remainderOfFinite_126 : decode cX0_remainderOfFinite 126 = .ok (.ifCond .ne 33, 3) := by decide +kernel
theorem dX0_remainderOfFinite_129 : decode cX0_remainderOfFinite 129 = .ok (.lload 10, 2) := by decide +kernel
theorem dX0_remainderOfFinite_131 : decode cX0_remainderOfFinite 131 = .ok (.lconst 1, 1) := by decide +kernel
theorem dX0_remainderOfFinite_132 : decode cX0_remainderOfFinite 132 = .ok (.land, 1) := by decide +kernel
theorem dX0_remainderOfFinite_133 : decode cX0_remainderOfFinite 133 = .ok (.lconst 1, 1) := by decide +kernel
theorem dX0_remainderOfFinite_134 : decode cX0_remainderOfFinite 134 = .ok (.lcmp, 1) := by decide +kernel
theorem dX0_remainderOfFinite_135 : decode cX0_remainderOfFinite 135 = .ok (.ifCond .ne 24, 3) := by decide +kernel
theorem dX0_remainderOfFinite_138 : decode cX0_remainderOfFinite 138 = .ok (.lload 10, 2) := by decide +kernel
theorem dX0_remainderOfFinite_140 : decode cX0_remainderOfFinite 140 = .ok (.lconst 1, 1) := by decide +kernel
theorem dX0_remainderOfFinite_141 : decode cX0_remainderOfFinite 141 = .ok (.ladd, 1) := by decide +kernel
theorem dX0_remainderOfFinite_142 : decode cX0_remainderOfFinite 142 = .ok (.lstore 10, 2) := by decide +kernel
theorem dX0_remainderOfFinite_144 : decode cX0_remainderOfFinite 144 = .ok (.lload 7, 2) := by decide +kernel
theorem dX0_remainderOfFinite_146 : decode cX0_remainderOfFinite 146 = .ok (.lload 12, 2) := by decide +kernel
theorem dX0_remainderOfFinite_148 : decode cX0_remainderOfFinite 148 = .ok (.lsub, 1) := by decide +kernel
theorem dX0_remainderOfFinite_149 : decode cX0_remainderOfFinite 149 = .ok (.lstore 12, 2) := by decide +kernel
theorem dX0_remainderOfFinite_151 : decode cX0_remainderOfFinite 151 = .ok (.lload 14, 2) := by decide +kernel
theorem dX0_remainderOfFinite_153 : decode cX0_remainderOfFinite 153 = .ok (.ldc2_w 69, 3) := by decide +kernel
theorem dX0_remainderOfFinite_156 : decode cX0_remainderOfFinite 156 = .ok (.lxor, 1) := by decide +kernel
theorem dX0_remainderOfFinite_157 : decode cX0_remainderOfFinite 157 = .ok (.lstore 14, 2) := by decide +kernel
theorem dX0_remainderOfFinite_159 : decode cX0_remainderOfFinite 159 = .ok (.aload_n 0, 1) := by decide +kernel
theorem dX0_remainderOfFinite_160 : decode cX0_remainderOfFinite 160 = .ok (.lload 10, 2) := by decide +kernel
theorem dX0_remainderOfFinite_162 : decode cX0_remainderOfFinite 162 = .ok (.ldc2_w 130, 3) := by decide +kernel
theorem dX0_remainderOfFinite_165 : decode cX0_remainderOfFinite 165 = .ok (.land, 1) := by decide +kernel
theorem dX0_remainderOfFinite_166 : decode cX0_remainderOfFinite 166 = .ok (.l2i, 1) := by decide +kernel
theorem dX0_remainderOfFinite_167 : decode cX0_remainderOfFinite 167 = .ok (.putfield 17, 3) := by decide +kernel
theorem dX0_remainderOfFinite_170 : decode cX0_remainderOfFinite 170 = .ok (.lload 14, 2) := by decide +kernel
theorem dX0_remainderOfFinite_172 : decode cX0_remainderOfFinite 172 = .ok (.lload 12, 2) := by decide +kernel
theorem dX0_remainderOfFinite_174 : decode cX0_remainderOfFinite 174 = .ok (.iload 9, 2) := by decide +kernel
theorem dX0_remainderOfFinite_176 : decode cX0_remainderOfFinite 176 = .ok (.invokestatic 113, 3) := by decide +kernel
theorem dX0_remainderOfFinite_179 : decode cX0_remainderOfFinite 179 = .ok (.lor, 1) := by decide +kernel
theorem dX0_remainderOfFinite_180 : decode cX0_remainderOfFinite 180 = .ok (.lreturn, 1) := by decide +kernel
theorem dX0_place_0 : decode cX0_place 0 = .ok (.lload_n 0, 1) := by decide +kernel
theorem dX0_place_1 : decode cX0_place 1 = .ok (.lconst 0, 1) := by decide +kernel
theorem dX0_place_2 : decode cX0_place 2 = .ok (.lcmp, 1) := by decide +kernel
theorem dX0_place_3 : decode cX0_place 3 = .ok (.ifCond .ge 12, 3) := by decide +kernel
theorem dX0_place_6 : decode cX0_place 6 = .ok (.lload_n 0, 1) := by decide +kernel
theorem dX0_place_7 : decode cX0_place 7 = .ok (.ldc2_w 65, 3) := by decide +kernel
theorem dX0_place_10 : decode cX0_place 10 = .ok (.land, 1) := by decide +kernel
theorem dX0_place_11 : decode cX0_place 11 = .ok (.lneg, 1) := by decide +kernel
theorem dX0_place_12 : decode cX0_place 12 = .ok (.goto 4, 3) := by decide +kernel
theorem dX0_place_15 : decode cX0_place 15 = .ok (.lload_n 0, 1) := by decide +kernel
theorem dX0_place_16 : decode cX0_place 16 = .ok (.lreturn, 1) := by decide +kernel
set_option maxRecDepth 20000 in
theorem ggX0_nextTowards_X0_isNan : GoodIn wsX0_nextTowards wsX0_isNan := goodIn_r _ [6, 7, 8] (by decide +kernel) (by decide +kernel)
set_option maxRecDepth 20000 in
theorem gX0_nextTowards_X0_isNan : GoodIn wsX0_nextTowards (va_wsS RX0 51 yX0_isNan wsX0_isNan) := goodIn_app (goodIn_of _ (by decide +kernel)) ggX0_nextTowards_X0_isNan
set_option maxRecDepth 20000 in
theorem ggX0_nextTowards_X0_place : GoodIn wsX0_nextTowards wsX0_place := goodIn_r _ [11, 7] (by decide +kernel) (by decide +kernel)
set_option maxRecDepth 20000 in
theorem gX0_nextTowards_X0_place : GoodIn wsX0_nextTowards (va_wsS RX0 59 yX0_place wsX0_place) := goodIn_app (goodIn_of _ (by decide +kernel)) ggX0_nextTowards_X0_place
set_option maxRecDepth 20000 in
theorem ggX0_nextTowards_X0_signOf : GoodIn wsX0_nextTowards wsX0_signOf := goodIn_r _ [14, 2] (by decide +kernel) (by decide +kernel)
set_option maxRecDepth 20000 in
theorem gX0_nextTowards_X0_signOf : GoodIn wsX0_nextTowards (va_wsS RX0 116 yX0_signOf wsX0_signOf) := goodIn_app (goodIn_of _ (by decide +kernel)) ggX0_nextTowards_X0_signOf
theorem dX0_nextTowards_0 : decode cX0_nextTowards 0 = .ok (.lload_n 0, 1) := by decide +kernel
theorem dX0_nextTowards_1 : decode cX0_nextTowards 1 = .ok (.invokestatic 51, 3) := by decide +kernel
theorem dX0_nextTowards_4 : decode cX0_nextTowards 4 = .ok (.ifCond .ne 10, 3) := by decide +kernel
theorem dX0_nextTowards_7 : decode cX0_nextTowards 7 = .ok (.lload_n 2, 1) := by decide +kernel
theorem dX0_nextTowards_8 : decode cX0_nextTowards 8 = .ok (.invokestatic 51, 3) := by decide +kernel
theorem dX0_nextTowards_11 : decode cX0_nextTowards 11 = .ok (.ifCond .eq 7, 3) := by decide +kernel
theorem dX0_nextTowards_14 : decode cX0_nextTowards 14 = .ok (.ldc2_w 101, 3) := by decide +kernel
theorem dX0_nextTowards_17 : decode cX0_nextTowards 17 = .ok (.lreturn, 1) := by decide +kernel
theorem dX0_nextTowards_18 : decode cX0_nextTowards 18 = .ok (.lload_n 0, 1) := by decide +kernel
theorem dX0_nextTowards_19 : decode cX0_nextTowards 19 = .ok (.invokestatic 59, 3) := by decide +kernel
theorem dX0_nextTowards_22 : decode cX0_nextTowards 22 = .ok (.lload_n 2, 1) := by decide +kernel
theorem dX0_nextTowards_23 : decode cX0_nextTowards 23 = .ok (.invokestatic 59, 3) := by decide +kernel
theorem dX0_nextTowards_26 : decode cX0_nextTowards 26 = .ok (.lcmp, 1) := by decide +kernel
theorem dX0_nextTowards_27 : decode cX0_nextTowards 27 = .ok (.ifCond .ne 5, 3) := by decide +kernel
theorem dX0_nextTowards_30 : decode cX0_nextTowards 30 = .ok (.lload_n 0, 1) := by decide +kernel
theorem dX0_nextTowards_31 : decode cX0_nextTowards 31 = .ok (.lreturn, 1) := by decide +kernel
theorem dX0_nextTowards_32 : decode cX0_nextTowards 32 = .ok (.lload_n 0, 1) := by decide +kernel
theorem dX0_nextTowards_33 : decode cX0_nextTowards 33 = .ok (.invokestatic 59, 3) := by decide +kernel
theorem dX0_nextTowards_36 : decode cX0_nextTowards 36 = .ok (.lload_n 2, 1) := by decide +kernel
theorem dX0_nextTowards_37 : decode cX0_nextTowards 37 = .ok (.invokestatic 59, 3) := by decide +kernel
theorem dX0_nextTowards_40 : decode cX0_nextTowards 40 = .ok (.lcmp, 1) := by decide +kernel
theorem dX0_nextTowards_41 : decode cX0_nextTowards 41 = .ok (.ifCond .ge 12, 3) := by decide +kernel
theorem dX0_nextTowards_44 : decode cX0_nextTowards 44 = .ok (.lload_n 0, 1) := by decide +kernel
theorem dX0_nextTowards_45 : decode cX0_nextTowards 45 = .ok (.invokestatic 59, 3) := by decide +kernel
theorem dX0_nextTowards_48 : decode cX0_nextTowards 48 = .ok (.lconst 1, 1) := by decide +kernel
theorem dX0_nextTowards_49 : decode cX0_nextTowards 49 = .ok (.ladd, 1) := by decide +kernel
theorem dX0_nextTowards_50 : decode cX0_nextTowards 50 = .ok (.goto 9, 3) := by decide +kernel
theorem dX0_nextTowards_53 : decode cX0_nextTowards 53 = .ok (.lload_n 0, 1) := by decide +kernel
theorem dX0_nextTowards_54 : decode cX0_nextTowards 54 = .ok (.invokestatic 59, 3) := by decide +kernel
theorem dX0_nextTowards_57 : decode cX0_nextTowards 57 = .ok (.lconst 1, 1) := by decide +kernel
theorem dX0_nextTowards_58 : decode cX0_nextTowards 58 = .ok (.lsub, 1) := by decide +kernel
theorem dX0_nextTowards_59 : decode cX0_nextTowards 59 = .ok (.lstore 4, 2) := by decide +kernel
theorem dX0_nextTowards_61 : decode cX0_nextTowards 61 = .ok (.lload 4, 2) := by decide +kernel
theorem dX0_nextTowards_63 : decode cX0_nextTowards 63 = .ok (.lconst 0, 1) := by decide +kernel
theorem dX0_nextTowards_64 : decode cX0_nextTowards 64 = .ok (.lcmp, 1) := by decide +kernel
theorem dX0_nextTowards_65 : decode cX0_nextTowards 65 = .ok (.ifCond .ne 8, 3) := by decide +kernel
theorem dX0_nextTowards_68 : decode cX0_nextTowards 68 = .ok (.lload_n 0, 1) := by decide +kernel
theorem dX0_nextTowards_69 : decode cX0_nextTowards 69 = .ok (.invokestatic 116, 3) := by decide +kernel
theorem dX0_nextTowards_72 : decode cX0_nextTowards 72 = .ok (.lreturn, 1) := by decide +kernel
theorem dX0_nextTowards_73 : decode cX0_nextTowards 73 = .ok (.lload 4, 2) := by decide +kernel
theorem dX0_nextTowards_75 : decode cX0_nextTowards 75 = .ok (.lconst 0, 1) := by decide +kernel
theorem dX0_nextTowards_76 : decode cX0_nextTowards 76 = .ok (.lcmp, 1) := by decide +kernel
theorem dX0_nextTowards_77 : decode cX0_nextTowards 77 = .ok (.ifCond .ge 13, 3) := by decide +kernel
theorem dX0_nextTowards_80 : decode cX0_nextTowards 80 = .ok (.ldc2_w 69, 3) := by decide +kernel
theorem dX0_nextTowards_83 : decode cX0_nextTowards 83 = .ok (.lload 4, 2) := by decide +kernel
theorem dX0_nextTowards_85 : decode cX0_nextTowards 85 = .ok (.lneg, 1) := by decide +kernel
theorem dX0_nextTowards_86 : decode cX0_nextTowards 86 = .ok (.lor, 1) := by decide +kernel
theorem dX0_nextTowards_87 : decode cX0_nextTowards 87 = .ok (.goto 5, 3) := by decide +kernel
theorem dX0_nextTowards_90 : decode cX0_nextTowards 90 = .ok (.lload 4, 2) := by decide +kernel
theorem dX0_nextTowards_92 : decode cX0_nextTowards 92 = .ok (.lreturn, 1) := by decide +kernel
set_option maxRecDepth 20000 in
theorem ggX0_timesPowerOfTwo_X0_isNan : GoodIn wsX0_timesPowerOfTwo wsX0_isNan := goodIn_r _ [13, 14, 3] (by decide +kernel) (by decide +kernel)
set_option maxRecDepth 20000 in
theorem gX0_timesPowerOfTwo_X0_isNan : GoodIn wsX0_timesPowerOfTwo (va_wsS RX0 51 yX0_isNan wsX0_isNan) := goodIn_app (goodIn_of _ (by decide +kernel)) ggX0_timesPowerOfTwo_X0_isNan
set_option maxRecDepth 20000 in
theorem ggX0_timesPowerOfTwo_X0_isZero : GoodIn wsX0_timesPowerOfTwo wsX0_isZero := goodIn_r _ [17, 14] (by decide +kernel) (by decide +kernel)
set_option maxRecDepth 20000 in
theorem gX0_timesPowerOfTwo_X0_isZero : GoodIn wsX0_timesPowerOfTwo (va_wsS RX0 43 yX0_isZero wsX0_isZero) := goodIn_app (goodIn_of _ (by decide +kernel)) ggX0_timesPowerOfTwo_X0_isZero
set_option maxRecDepth 20000 in
theorem ggX0_timesPowerOfTwo_X0_isInfinity : GoodIn wsX0_timesPowerOfTwo wsX0_isInfinity := goodIn_r _ [20, 14, 3] (by decide +kernel) (by decide +kernel)
set_option maxRecDepth 20000 in
theorem gX0_timesPowerOfTwo_X0_isInfinity : GoodIn wsX0_timesPowerOfTwo (va_wsS RX0 48 yX0_isInfinity wsX0_isInfinity) := goodIn_app (goodIn_of _ (by decide +kernel)) ggX0_timesPowerOfTwo_X0_isInfinity
set_option maxRecDepth 20000 in
theorem ggX0_timesPowerOfTwo_X0_fullPower : GoodIn wsX0_timesPowerOfTwo wsX0_fullPower := goodIn_r _ [23, 24, 25, 12, 26, 27, 28, 8, 29, 30, 31, 32, 14, 33, 34, 35, 36, 37, 38, 39, 40, 41, 42, 43, 44, 45, 46, 47, 48, 49] (by decide +kernel) (by decide +kernel)
set_option maxRecDepth 20000 in
theorem gX0_timesPowerOfTwo_X0_fullPower : GoodIn wsX0_timesPowerOfTwo (va_wsS RX0 55 yX0_fullPower wsX0_fullPower) := goodIn_app (goodIn_of _ (by decide +kernel)) ggX0_timesPowerOfTwo_X0_fullPower
set_option maxRecDepth 20000 in
theorem ggX0_timesPowerOfTwo_X0_raise : GoodIn wsX0_timesPowerOfTwo wsX0_raise := goodIn_r _ [53, 54, 75, 76, 77] (by decide +kernel) (by decide +kernel)
set_option maxRecDepth 20000 in
theorem gX0_timesPowerOfTwo_X0_raise : GoodIn wsX0_timesPowerOfTwo (wsV RX0 103 RX0 yX0_raise wsX0_raise) := goodIn_app (goodIn_of _ (by decide +kernel)) ggX0_timesPowerOfTwo_X0_raise
set_option maxRecDepth 20000 in
theorem ggX0_timesPowerOfTwo_X0_signOf : GoodIn wsX0_timesPowerOfTwo wsX0_signOf := goodIn_r _ [57, 58] (by decide +kernel) (by decide +kernel)
set_option maxRecDepth 20000 in
theorem gX0_timesPowerOfTwo_X0_signOf : GoodIn wsX0_timesPowerOfTwo (va_wsS RX0 116 yX0_signOf wsX0_signOf) := goodIn_app (goodIn_of _ (by decide +kernel)) ggX0_timesPowerOfTwo_X0_signOf
set_option maxRecDepth 20000 in
theorem ggX0_timesPowerOfTwo_X0_fullSignificand : GoodIn wsX0_timesPowerOfTwo wsX0_fullSignificand := goodIn_r _ [61, 36, 37, 12, 38, 39, 40, 30, 31, 32, 14, 33, 34, 35, 41, 42, 43, 44, 45, 46, 47, 48, 49] (by decide +kernel) (by decide +kernel)
set_option maxRecDepth 20000 in
theorem gX0_timesPowerOfTwo_X0_fullSignificand : GoodIn wsX0_timesPowerOfTwo (va_wsS RX0 110 yX0_fullSignificand wsX0_fullSignificand) := goodIn_app (goodIn_of _ (by decide +kernel)) ggX0_timesPowerOfTwo_X0_fullSignificand
set_option maxRecDepth 20000 in
theorem ggX0_timesPowerOfTwo_X0_pattern : GoodIn wsX0_timesPowerOfTwo wsX0_pattern := goodIn_r _ [64, 65, 66, 8, 67, 41, 42, 43, 44, 45, 46, 47, 48, 49] (by decide +kernel) (by decide +kernel)
set_option maxRecDepth 20000 in
theorem gX0_timesPowerOfTwo_X0_pattern : GoodIn wsX0_timesPowerOfTwo (va_wsS RX0 113 yX0_pattern wsX0_pattern) := goodIn_app (goodIn_of _ (by decide +kernel)) ggX0_timesPowerOfTwo_X0_pattern
set_option maxRecDepth 20000 in
theorem ggX0_timesPowerOfTwo_X0_roundedToLeastPower : GoodIn wsX0_timesPowerOfTwo wsX0_roundedToLeastPower := goodIn_r _ [71, 40, 72, 73, 12, 74, 50, 51, 52, 53, 54, 62, 63, 64, 65, 66, 8, 67, 41, 42, 43, 44, 45, 46, 47, 48, 49, 75, 76, 77] (by decide +kernel) (by decide +kernel)
set_option maxRecDepth 20000 in
theorem gX0_timesPowerOfTwo_X0_roundedToLeastPower : GoodIn wsX0_timesPowerOfTwo (wsV RX0 140 RX0 yX0_roundedToLeastPower wsX0_roundedToLeastPower) := goodIn_app (goodIn_of _ (by decide +kernel)) ggX0_timesPowerOfTwo_X0_roundedToLeastPower
theorem dX0_timesPowerOfTwo_0 : decode cX0_timesPowerOfTwo 0 = .ok (.lload_n 1, 1) := by decide +kernel
theorem dX0_timesPowerOfTwo_1 : decode cX0_timesPowerOfTwo 1 = .ok (.invokestatic 51, 3) := by decide +kernel
theorem dX0_timesPowerOfTwo_4 : decode cX0_timesPowerOfTwo 4 = .ok (.ifCond .eq 7, 3) := by decide +kernel
theorem dX0_timesPowerOfTwo_7 : decode cX0_timesPowerOfTwo 7 = .ok (.ldc2_w 101, 3) := by decide +kernel
theorem dX0_timesPowerOfTwo_10 : decode cX0_timesPowerOfTwo 10 = .ok (.lreturn, 1) := by decide +kernel
theorem dX0_timesPowerOfTwo_11 : decode cX0_timesPowerOfTwo 11 = .ok (.lload_n 1, 1) := by decide +kernel
theorem dX0_timesPowerOfTwo_12 : decode cX0_timesPowerOfTwo 12 = .ok (.invokestatic 43, 3) := by decide +kernel
theorem dX0_timesPowerOfTwo_15 : decode cX0_timesPowerOfTwo 15 = .ok (.ifCond .ne 10, 3) := by decide +kernel
theorem dX0_timesPowerOfTwo_18 : decode cX0_timesPowerOfTwo 18 = .ok (.lload_n 1, 1) := by decide +kernel
theorem dX0_timesPowerOfTwo_19 : decode cX0_timesPowerOfTwo 19 = .ok (.invokestatic 48, 3) := by decide +kernel
theorem dX0_timesPowerOfTwo_22 : decode cX0_timesPowerOfTwo 22 = .ok (.ifCond .eq 5, 3) := by decide +kernel
theorem dX0_timesPowerOfTwo_25 : decode cX0_timesPowerOfTwo 25 = .ok (.lload_n 1, 1) := by decide +kernel
theorem dX0_timesPowerOfTwo_26 : decode cX0_timesPowerOfTwo 26 = .ok (.lreturn, 1) := by decide +kernel
theorem dX0_timesPowerOfTwo_27 : decode cX0_timesPowerOfTwo 27 = .ok (.lload_n 1, 1) := by decide +kernel
theorem dX0_timesPowerOfTwo_28 : decode cX0_timesPowerOfTwo 28 = .ok (.invokestatic 55, 3) := by decide +kernel
theorem dX0_timesPowerOfTwo_31 : decode cX0_timesPowerOfTwo 31 = .ok (.i2l, 1) := by decide +kernel
theorem dX0_timesPowerOfTwo_32 : decode cX0_timesPowerOfTwo 32 = .ok (.iload_n 3, 1) := by decide +kernel
theorem dX0_timesPowerOfTwo_33 : decode cX0_timesPowerOfTwo 33 = .ok (.i2l, 1) := by decide +kernel
theorem dX0_timesPowerOfTwo_34 : decode cX0_timesPowerOfTwo 34 = .ok (.ladd, 1) := by decide +kernel
theorem dX0_timesPowerOfTwo_35 : decode cX0_timesPowerOfTwo 35 = .ok (.lstore 4, 2) := by decide +kernel
theorem dX0_timesPowerOfTwo_37 : decode cX0_timesPowerOfTwo 37 = .ok (.lload 4, 2) := by decide +kernel
theorem dX0_timesPowerOfTwo_39 : decode cX0_timesPowerOfTwo 39 = .ok (.ldc2_w 132, 3) := by decide +kernel
theorem dX0_timesPowerOfTwo_42 : decode cX0_timesPowerOfTwo 42 = .ok (.lcmp, 1) := by decide +kernel
theorem dX0_timesPowerOfTwo_43 : decode cX0_timesPowerOfTwo 43 = .ok (.ifCond .le 18, 3) := by decide +kernel
theorem dX0_timesPowerOfTwo_46 : decode cX0_timesPowerOfTwo 46 = .ok (.aload_n 0, 1) := by decide +kernel
theorem dX0_timesPowerOfTwo_47 : decode cX0_timesPowerOfTwo 47 = .ok (.bipush 6, 2) := by decide +kernel
theorem dX0_timesPowerOfTwo_49 : decode cX0_timesPowerOfTwo 49 = .ok (.invokevirtual 103, 3) := by decide +kernel
theorem dX0_timesPowerOfTwo_52 : decode cX0_timesPowerOfTwo 52 = .ok (.lload_n 1, 1) := by decide +kernel
theorem dX0_timesPowerOfTwo_53 : decode cX0_timesPowerOfTwo 53 = .ok (.invokestatic 116, 3) := by decide +kernel
theorem dX0_timesPowerOfTwo_56 : decode cX0_timesPowerOfTwo 56 = .ok (.ldc2_w 67, 3) := by decide +kernel
theorem dX0_timesPowerOfTwo_59 : decode cX0_timesPowerOfTwo 59 = .ok (.lor, 1) := by decide +kernel
theorem dX0_timesPowerOfTwo_60 : decode cX0_timesPowerOfTwo 60 = .ok (.lreturn, 1) := by decide +kernel
theorem dX0_timesPowerOfTwo_61 : decode cX0_timesPowerOfTwo 61 = .ok (.lload 4, 2) := by decide +kernel
theorem dX0_timesPowerOfTwo_63 : decode cX0_timesPowerOfTwo 63 = .ok (.ldc2_w 134, 3) := by decide +kernel
theorem dX0_timesPowerOfTwo_66 : decode cX0_timesPowerOfTwo 66 = .ok (.lcmp, 1) := by decide +kernel
theorem dX0_timesPowerOfTwo_67 : decode cX0_timesPowerOfTwo 67 = .ok (.ifCond .lt 19, 3) := by decide +kernel
theorem dX0_timesPowerOfTwo_70 : decode cX0_timesPowerOfTwo 70 = .ok (.lload_n 1, 1) := by decide +kernel
theorem dX0_timesPowerOfTwo_71 : decode cX0_timesPowerOfTwo 71 = .ok (.invokestatic 116, 3) := by decide +kernel
theorem dX0_timesPowerOfTwo_74 : decode cX0_timesPowerOfTwo 74 = .ok (.lload_n 1, 1) := by decide +kernel
theorem dX0_timesPowerOfTwo_75 : decode cX0_timesPowerOfTwo 75 = .ok (.invokestatic 110, 3) := by decide +kernel
theorem dX0_timesPowerOfTwo_78 : decode cX0_timesPowerOfTwo 78 = .ok (.lload 4, 2) := by decide +kernel
theorem dX0_timesPowerOfTwo_80 : decode cX0_timesPowerOfTwo 80 = .ok (.l2i, 1) := by decide +kernel
theorem dX0_timesPowerOfTwo_81 : decode cX0_timesPowerOfTwo 81 = .ok (.invokestatic 113, 3) := by decide +kernel
theorem dX0_timesPowerOfTwo_84 : decode cX0_timesPowerOfTwo 84 = .ok (.lor, 1) := by decide +kernel
theorem dX0_timesPowerOfTwo_85 : decode cX0_timesPowerOfTwo 85 = .ok (.lreturn, 1) := by decide +kernel
theorem dX0_timesPowerOfTwo_86 : decode cX0_timesPowerOfTwo 86 = .ok (.ldc2_w 134, 3) := by decide +kernel
theorem dX0_timesPowerOfTwo_89 : decode cX0_timesPowerOfTwo 89 = .ok (.lload 4, 2) := by decide +kernel
theorem dX0_timesPowerOfTwo_91 : decode cX0_timesPowerOfTwo 91 = .ok (.lsub, 1) := by decide +kernel
theorem dX0_timesPowerOfTwo_92 : decode cX0_timesPowerOfTwo 92 = .ok (.ldc2_w 136, 3) := by decide +kernel
theorem dX0_timesPowerOfTwo_95 : decode cX0_timesPowerOfTwo 95 = .ok (.invokestatic 138, 3) := by decide +kernel
theorem dX0_timesPowerOfTwo_98 : decode cX0_timesPowerOfTwo 98 = .ok (.l2i, 1) := by decide +kernel
theorem dX0_timesPowerOfTwo_99 : decode cX0_timesPowerOfTwo 99 = .ok (.istore 6, 2) := by decide +kernel
theorem dX0_timesPowerOfTwo_101 : decode cX0_timesPowerOfTwo 101 = .ok (.lload_n 1, 1) := by decide +kernel
theorem dX0_timesPowerOfTwo_102 : decode cX0_timesPowerOfTwo 102 = .ok (.invokestatic 116, 3) := by decide +kernel
theorem dX0_timesPowerOfTwo_105 : decode cX0_timesPowerOfTwo 105 = .ok (.aload_n 0, 1) := by decide +kernel
theorem dX0_timesPowerOfTwo_106 : decode cX0_timesPowerOfTwo 106 = .ok (.lload_n 1, 1) := by decide +kernel
theorem dX0_timesPowerOfTwo_107 : decode cX0_timesPowerOfTwo 107 = .ok (.invokestatic 110, 3) := by decide +kernel
theorem dX0_timesPowerOfTwo_110 : decode cX0_timesPowerOfTwo 110 = .ok (.iload 6, 2) := by decide +kernel
theorem dX0_timesPowerOfTwo_112 : decode cX0_timesPowerOfTwo 112 = .ok (.invokevirtual 140, 3) := by decide +kernel
theorem dX0_timesPowerOfTwo_115 : decode cX0_timesPowerOfTwo 115 = .ok (.lor, 1) := by decide +kernel
theorem dX0_timesPowerOfTwo_116 : decode cX0_timesPowerOfTwo 116 = .ok (.lreturn, 1) := by decide +kernel
set_option maxRecDepth 20000 in
theorem ggX0_roundedToLeastPower_X0_nearestShifted : GoodIn wsX0_roundedToLeastPower wsX0_nearestShifted := goodIn_r _ [5] (by decide +kernel) (by decide +kernel)
set_option maxRecDepth 20000 in
theorem gX0_roundedToLeastPower_X0_nearestShifted : GoodIn wsX0_roundedToLeastPower (va_wsS RX0 123 yX0_nearestShifted wsX0_nearestShifted) := goodIn_app (goodIn_of _ (by decide +kernel)) ggX0_roundedToLeastPower_X0_nearestShifted
set_option maxRecDepth 20000 in
theorem ggX0_roundedToLeastPower_X0_raise : GoodIn wsX0_roundedToLeastPower wsX0_raise := goodIn_r _ [9, 10, 27, 28, 29] (by decide +kernel) (by decide +kernel)
set_option maxRecDepth 20000 in
theorem gX0_roundedToLeastPower_X0_raise : GoodIn wsX0_roundedToLeastPower (wsV RX0 103 RX0 yX0_raise wsX0_raise) := goodIn_app (goodIn_of _ (by decide +kernel)) ggX0_roundedToLeastPower_X0_raise
set_option maxRecDepth 20000 in
theorem ggX0_roundedToLeastPower_X0_pattern : GoodIn wsX0_roundedToLeastPower wsX0_pattern := goodIn_r _ [13, 14, 15, 16, 17, 18, 19, 20, 21, 22, 23, 24, 25, 26] (by decide +kernel) (by decide +kernel)
set_option maxRecDepth 20000 in
theorem gX0_roundedToLeastPower_X0_pattern : GoodIn wsX0_roundedToLeastPower (va_wsS RX0 113 yX0_pattern wsX0_pattern) := goodIn_app (goodIn_of _ (by decide +kernel)) ggX0_roundedToLeastPower_X0_pattern
theorem dX0_roundedToLeastPower_0 : decode cX0_roundedToLeastPower 0 = .ok (.lload_n 1, 1) := by decide +kernel
theorem dX0_roundedToLeastPower_1 : decode cX0_roundedToLeastPower 1 = .ok (.iload_n 3, 1) := by decide +kernel
theorem dX0_roundedToLeastPower_2 : decode cX0_roundedToLeastPower 2 = .ok (.invokestatic 123, 3) := by decide +kernel
theorem dX0_roundedToLeastPower_5 : decode cX0_roundedToLeastPower 5 = .ok (.lstore 4, 2) := by decide +kernel
theorem dX0_roundedToLeastPower_7 : decode cX0_roundedToLeastPower 7 = .ok (.lload 4, 2) := by decide +kernel
theorem dX0_roundedToLeastPower_9 : decode cX0_roundedToLeastPower 9 = .ok (.iload_n 3, 1) := by decide +kernel
theorem dX0_roundedToLeastPower_10 : decode cX0_roundedToLeastPower 10 = .ok (.lshl, 1) := by decide +kernel
theorem dX0_roundedToLeastPower_11 : decode cX0_roundedToLeastPower 11 = .ok (.lload_n 1, 1) := by decide +kernel
theorem dX0_roundedToLeastPower_12 : decode cX0_roundedToLeastPower 12 = .ok (.lcmp, 1) := by decide +kernel
theorem dX0_roundedToLeastPower_13 : decode cX0_roundedToLeastPower 13 = .ok (.ifCond .eq 22, 3) := by decide +kernel
theorem dX0_roundedToLeastPower_16 : decode cX0_roundedToLeastPower 16 = .ok (.aload_n 0, 1) := by decide +kernel
theorem dX0_roundedToLeastPower_17 : decode cX0_roundedToLeastPower 17 = .ok (.lload 4, 2) := by decide +kernel
theorem dX0_roundedToLeastPower_19 : decode cX0_roundedToLeastPower 19 = .ok (.ldc2_w 71, 3) := by decide +kernel
theorem dX0_roundedToLeastPower_22 : decode cX0_roundedToLeastPower 22 = .ok (.lcmp, 1) := by decide +kernel
theorem dX0_roundedToLeastPower_23 : decode cX0_roundedToLeastPower 23 = .ok (.ifCond .ge 8, 3) := by decide +kernel
theorem dX0_roundedToLeastPower_26 : decode cX0_roundedToLeastPower 26 = .ok (.bipush 10, 2) := by decide +kernel
theorem dX0_roundedToLeastPower_28 : decode cX0_roundedToLeastPower 28 = .ok (.goto 4, 3) := by decide +kernel
theorem dX0_roundedToLeastPower_31 : decode cX0_roundedToLeastPower 31 = .ok (.iconst 2, 1) := by decide +kernel
theorem dX0_roundedToLeastPower_32 : decode cX0_roundedToLeastPower 32 = .ok (.invokevirtual 103, 3) := by decide +kernel
theorem dX0_roundedToLeastPower_35 : decode cX0_roundedToLeastPower 35 = .ok (.lload 4, 2) := by decide +kernel
theorem dX0_roundedToLeastPower_37 : decode cX0_roundedToLeastPower 37 = .ok (.sipush (-1074), 3) := by decide +kernel
theorem dX0_roundedToLeastPower_40 : decode cX0_roundedToLeastPower 40 = .ok (.invokestatic 113, 3) := by decide +kernel
theorem dX0_roundedToLeastPower_43 : decode cX0_roundedToLeastPower 43 = .ok (.lreturn, 1) := by decide +kernel
theorem dJ6_numberOfLeadingZeros_0f7a4_0 : decode cJ6_numberOfLeadingZeros_0f7a4 0 = .ok (.iload_n 0, 1) := by decide +kernel
theorem dJ6_numberOfLeadingZeros_0f7a4_1 : decode cJ6_numberOfLeadingZeros_0f7a4 1 = .ok (.ifCond .gt 14, 3) := by decide +kernel
theorem dJ6_numberOfLeadingZeros_0f7a4_4 : decode cJ6_numberOfLeadingZeros_0f7a4 4 = .ok (.iload_n 0, 1) := by decide +kernel
theorem dJ6_numberOfLeadingZeros_0f7a4_5 : decode cJ6_numberOfLeadingZeros_0f7a4 5 = .ok (.ifCond .ne 8, 3) := by decide +kernel
theorem dJ6_numberOfLeadingZeros_0f7a4_8 : decode cJ6_numberOfLeadingZeros_0f7a4 8 = .ok (.bipush 32, 2) := by decide +kernel
theorem dJ6_numberOfLeadingZeros_0f7a4_10 : decode cJ6_numberOfLeadingZeros_0f7a4 10 = .ok (.goto 4, 3) := by decide +kernel
theorem dJ6_numberOfLeadingZeros_0f7a4_13 : decode cJ6_numberOfLeadingZeros_0f7a4 13 = .ok (.iconst 0, 1) := by decide +kernel
theorem dJ6_numberOfLeadingZeros_0f7a4_14 : decode cJ6_numberOfLeadingZeros_0f7a4 14 = .ok (.ireturn, 1) := by decide +kernel
theorem dJ6_numberOfLeadingZeros_0f7a4_15 : decode cJ6_numberOfLeadingZeros_0f7a4 15 = .ok (.bipush 31, 2) := by decide +kernel
theorem dJ6_numberOfLeadingZeros_0f7a4_17 : decode cJ6_numberOfLeadingZeros_0f7a4 17 = .ok (.istore_n 1, 1) := by decide +kernel
theorem dJ6_numberOfLeadingZeros_0f7a4_18 : decode cJ6_numberOfLeadingZeros_0f7a4 18 = .ok (.iload_n 0, 1) := by decide +kernel
theorem dJ6_numberOfLeadingZeros_0f7a4_19 : decode cJ6_numberOfLeadingZeros_0f7a4 19 = .ok (.ldc_w 264, 3) := by decide +kernel
theorem dJ6_numberOfLeadingZeros_0f7a4_22 : decode cJ6_numberOfLeadingZeros_0f7a4 22 = .ok (.if_icmp .lt 11, 3) := by decide +kernel
theorem dJ6_numberOfLeadingZeros_0f7a4_25 : decode cJ6_numberOfLeadingZeros_0f7a4 25 = .ok (.iinc 1 (-16), 3) := by decide +kernel
theorem dJ6_numberOfLeadingZeros_0f7a4_28 : decode cJ6_numberOfLeadingZeros_0f7a4 28 = .ok (.iload_n 0, 1) := by decide +kernel
theorem dJ6_numberOfLeadingZeros_0f7a4_29 : decode cJ6_numberOfLeadingZeros_0f7a4 29 = .ok (.bipush 16, 2) := by decide +kernel
theorem dJ6_numberOfLeadingZeros_0f7a4_31 : decode cJ6_numberOfLeadingZeros_0f7a4 31 = .ok (.iushr, 1) := by decide +kernel
theorem dJ6_numberOfLeadingZeros_0f7a4_32 : decode cJ6_numberOfLeadingZeros_0f7a4 32 = .ok (.istore_n 0, 1) := by decide +kernel
theorem dJ6_numberOfLeadingZeros_0f7a4_33 : decode cJ6_numberOfLeadingZeros_0f7a4 33 = .ok (.iload_n 0, 1) := by decide +kernel
theorem dJ6_numberOfLeadingZeros_0f7a4_34 : decode cJ6_numberOfLeadingZeros_0f7a4 34 = .ok (.sipush 256, 3) := by decide +kernel
theorem dJ6_numberOfLeadingZeros_0f7a4_37 : decode cJ6_numberOfLeadingZeros_0f7a4 37 = .ok (.if_icmp .lt 11, 3) := by decide +kernel
theorem dJ6_numberOfLeadingZeros_0f7a4_40 : decode cJ6_numberOfLeadingZeros_0f7a4 40 = .ok (.iinc 1 (-8), 3) := by decide +kernel
theorem dJ6_numberOfLeadingZeros_0f7a4_43 : decode cJ6_numberOfLeadingZeros_0f7a4 43 = .ok (.iload_n 0, 1) := by decide +kernel
theorem dJ6_numberOfLeadingZeros_0f7a4_44 : decode cJ6_numberOfLeadingZeros_0f7a4 44 = .ok (.bipush 8, 2) := by decide +kernel
theorem dJ6_numberOfLeadingZeros_0f7a4_46 : decode cJ6_numberOfLeadingZeros_0f7a4 46 = .ok (.iushr, 1) := by decide +kernel
theorem dJ6_numberOfLeadingZeros_0f7a4_47 : decode cJ6_numberOfLeadingZeros_0f7a4 47 = .ok (.istore_n 0, 1) := by decide +kernel
theorem dJ6_numberOfLeadingZeros_0f7a4_48 : decode cJ6_numberOfLeadingZeros_0f7a4 48 = .ok (.iload_n 0, 1) := by decide +kernel
theorem dJ6_numberOfLeadingZeros_0f7a4_49 : decode cJ6_numberOfLeadingZeros_0f7a4 49 = .ok (.bipush 16, 2) := by decide +kernel
theorem dJ6_numberOfLeadingZeros_0f7a4_51 : decode cJ6_numberOfLeadingZeros_0f7a4 51 = .ok (.if_icmp .lt 10, 3) := by decide +kernel
theorem dJ6_numberOfLeadingZeros_0f7a4_54 : decode cJ6_numberOfLeadingZeros_0f7a4 54 = .ok (.iinc 1 (-4), 3) := by decide +kernel
theorem dJ6_numberOfLeadingZeros_0f7a4_57 : decode cJ6_numberOfLeadingZeros_0f7a4 57 = .ok (.iload_n 0, 1) := by decide +kernel
theorem dJ6_numberOfLeadingZeros_0f7a4_58 : decode cJ6_numberOfLeadingZeros_0f7a4 58 = .ok (.iconst 4, 1) := by decide +kernel
theorem dJ6_numberOfLeadingZeros_0f7a4_59 : decode cJ6_numberOfLeadingZeros_0f7a4 59 = .ok (.iushr, 1) := by decide +kernel
theorem dJ6_numberOfLeadingZeros_0f7a4_60 : decode cJ6_numberOfLeadingZeros_0f7a4 60 = .ok (.istore_n 0, 1) := by decide +kernel
theorem dJ6_numberOfLeadingZeros_0f7a4_61 : decode cJ6_numberOfLeadingZeros_0f7a4 61 = .ok (.iload_n 0, 1) := by decide +kernel
theorem dJ6_numberOfLeadingZeros_0f7a4_62 : decode cJ6_numberOfLeadingZeros_0f7a4 62 = .ok (.iconst 4, 1) := by decide +kernel
theorem dJ6_numberOfLeadingZeros_0f7a4_63 : decode cJ6_numberOfLeadingZeros_0f7a4 63 = .ok (.if_icmp .lt 10, 3) := by decide +kernel
theorem dJ6_numberOfLeadingZeros_0f7a4_66 : decode cJ6_numberOfLeadingZeros_0f7a4 66 = .ok (.iinc 1 (-2), 3) := by decide +kernel
theorem dJ6_numberOfLeadingZeros_0f7a4_69 : decode cJ6_numberOfLeadingZeros_0f7a4 69 = .ok (.iload_n 0, 1) := by decide +kernel
theorem dJ6_numberOfLeadingZeros_0f7a4_70 : decode cJ6_numberOfLeadingZeros_0f7a4 70 = .ok (.iconst 2, 1) := by decide +kernel
theorem dJ6_numberOfLeadingZeros_0f7a4_71 : decode cJ6_numberOfLeadingZeros_0f7a4 71 = .ok (.iushr, 1) := by decide +kernel
theorem dJ6_numberOfLeadingZeros_0f7a4_72 : decode cJ6_numberOfLeadingZeros_0f7a4 72 = .ok (.istore_n 0, 1) := by decide +kernel
theorem dJ6_numberOfLeadingZeros_0f7a4_73 : decode cJ6_numberOfLeadingZeros_0f7a4 73 = .ok (.iload_n 1, 1) := by decide +kernel
theorem dJ6_numberOfLeadingZeros_0f7a4_74 : decode cJ6_numberOfLeadingZeros_0f7a4 74 = .ok (.iload_n 0, 1) := by decide +kernel
theorem dJ6_numberOfLeadingZeros_0f7a4_75 : decode cJ6_numberOfLeadingZeros_0f7a4 75 = .ok (.iconst 1, 1) := by decide +kernel
theorem dJ6_numberOfLeadingZeros_0f7a4_76 : decode cJ6_numberOfLeadingZeros_0f7a4 76 = .ok (.iushr, 1) := by decide +kernel
theorem dJ6_numberOfLeadingZeros_0f7a4_77 : decode cJ6_numberOfLeadingZeros_0f7a4 77 = .ok (.isub, 1) := by decide +kernel
theorem dJ6_numberOfLeadingZeros_0f7a4_78 : decode cJ6_numberOfLeadingZeros_0f7a4 78 = .ok (.ireturn, 1) := by decide +kernel
set_option maxRecDepth 20000 in
theorem ggJ13_numberOfLeadingZeros_95d88_J6_numberOfLeadingZeros_0f7a4 : GoodIn wsJ13_numberOfLeadingZeros_95d88 wsJ6_numberOfLeadingZeros_0f7a4 := goodIn_r _ [4, 5] (by decide +kernel) (by decide +kernel)
set_option maxRecDepth 20000 in
theorem gJ13_numberOfLeadingZeros_95d88_J6_numberOfLeadingZeros_0f7a4 : GoodIn wsJ13_numberOfLeadingZeros_95d88 (va_wsS RJ13 308 yJ6_numberOfLeadingZeros_0f7a4 wsJ6_numberOfLeadingZeros_0f7a4) := goodIn_app (goodIn_of _ (by decide +kernel)) ggJ13_numberOfLeadingZeros_95d88_J6_numberOfLeadingZeros_0f7a4
theorem dJ13_numberOfLeadingZeros_95d88_0 : decode cJ13_numberOfLeadingZeros_95d88 0 = .ok (.lload_n 0, 1) := by decide +kernel
theorem dJ13_numberOfLeadingZeros_95d88_1 : decode cJ13_numberOfLeadingZeros_95d88 1 = .ok (.bipush 32, 2) := by decide +kernel
theorem dJ13_numberOfLeadingZeros_95d88_3 : decode cJ13_numberOfLeadingZeros_95d88 3 = .ok (.lushr, 1) := by decide +kernel
theorem dJ13_numberOfLeadingZeros_95d88_4 : decode cJ13_numberOfLeadingZeros_95d88 4 = .ok (.l2i, 1) := by decide +kernel
theorem dJ13_numberOfLeadingZeros_95d88_5 : decode cJ13_numberOfLeadingZeros_95d88 5 = .ok (.istore_n 2, 1) := by decide +kernel
theorem dJ13_numberOfLeadingZeros_95d88_6 : decode cJ13_numberOfLeadingZeros_95d88 6 = .ok (.iload_n 2, 1) := by decide +kernel
theorem dJ13_numberOfLeadingZeros_95d88_7 : decode cJ13_numberOfLeadingZeros_95d88 7 = .ok (.ifCond .ne 14, 3) := by decide +kernel
theorem dJ13_numberOfLeadingZeros_95d88_10 : decode cJ13_numberOfLeadingZeros_95d88 10 = .ok (.bipush 32, 2) := by decide +kernel
theorem dJ13_numberOfLeadingZeros_95d88_12 : decode cJ13_numberOfLeadingZeros_95d88 12 = .ok (.lload_n 0, 1) := by decide +kernel
theorem dJ13_numberOfLeadingZeros_95d88_13 : decode cJ13_numberOfLeadingZeros_95d88 13 = .ok (.l2i, 1) := by decide +kernel
theorem dJ13_numberOfLeadingZeros_95d88_14 : decode cJ13_numberOfLeadingZeros_95d88 14 = .ok (.invokestatic 308, 3) := by decide +kernel
theorem dJ13_numberOfLeadingZeros_95d88_17 : decode cJ13_numberOfLeadingZeros_95d88 17 = .ok (.iadd, 1) := by decide +kernel
theorem dJ13_numberOfLeadingZeros_95d88_18 : decode cJ13_numberOfLeadingZeros_95d88 18 = .ok (.goto 7, 3) := by decide +kernel
theorem dJ13_numberOfLeadingZeros_95d88_21 : decode cJ13_numberOfLeadingZeros_95d88 21 = .ok (.iload_n 2, 1) := by decide +kernel
theorem dJ13_numberOfLeadingZeros_95d88_22 : decode cJ13_numberOfLeadingZeros_95d88 22 = .ok (.invokestatic 308, 3) := by decide +kernel
theorem dJ13_numberOfLeadingZeros_95d88_25 : decode cJ13_numberOfLeadingZeros_95d88 25 = .ok (.ireturn, 1) := by decide +kernel
theorem dJ9_max_7cf53_0 : decode cJ9_max_7cf53 0 = .ok (.iload_n 0, 1) := by decide +kernel
theorem dJ9_max_7cf53_1 : decode cJ9_max_7cf53 1 = .ok (.iload_n 1, 1) := by decide +kernel
theorem dJ9_max_7cf53_2 : decode cJ9_max_7cf53 2 = .ok (.if_icmp .lt 7, 3) := by decide +kernel
theorem dJ9_max_7cf53_5 : decode cJ9_max_7cf53 5 = .ok (.iload_n 0, 1) := by decide +kernel
theorem dJ9_max_7cf53_6 : decode cJ9_max_7cf53 6 = .ok (.goto 4, 3) := by decide +kernel
theorem dJ9_max_7cf53_9 : decode cJ9_max_7cf53 9 = .ok (.iload_n 1, 1) := by decide +kernel
theorem dJ9_max_7cf53_10 : decode cJ9_max_7cf53 10 = .ok (.ireturn, 1) := by decide +kernel
theorem dJ9_min_7cf53_0 : decode cJ9_min_7cf53 0 = .ok (.iload_n 0, 1) := by decide +kernel
theorem dJ9_min_7cf53_1 : decode cJ9_min_7cf53 1 = .ok (.iload_n 1, 1) := by decide +kernel
theorem dJ9_min_7cf53_2 : decode cJ9_min_7cf53 2 = .ok (.if_icmp .gt 7, 3) := by decide +kernel
theorem dJ9_min_7cf53_5 : decode cJ9_min_7cf53 5 = .ok (.iload_n 0, 1) := by decide +kernel
theorem dJ9_min_7cf53_6 : decode cJ9_min_7cf53 6 = .ok (.goto 4, 3) := by decide +kernel
theorem dJ9_min_7cf53_9 : decode cJ9_min_7cf53 9 = .ok (.iload_n 1, 1) := by decide +kernel
theorem dJ9_min_7cf53_10 : decode cJ9_min_7cf53 10 = .ok (.ireturn, 1) := by decide +kernel
theorem dJ9_min_f86c9_0 : decode cJ9_min_f86c9 0 = .ok (.lload_n 0, 1) := by decide +kernel
theorem dJ9_min_f86c9_1 : decode cJ9_min_f86c9 1 = .ok (.lload_n 2, 1) := by decide +kernel
theorem dJ9_min_f86c9_2 : decode cJ9_min_f86c9 2 = .ok (.lcmp, 1) := by decide +kernel
theorem dJ9_min_f86c9_3 : decode cJ9_min_f86c9 3 = .ok (.ifCond .gt 7, 3) := by decide +kernel
theorem dJ9_min_f86c9_6 : decode cJ9_min_f86c9 6 = .ok (.lload_n 0, 1) := by decide +kernel
theorem dJ9_min_f86c9_7 : decode cJ9_min_f86c9 7 = .ok (.goto 4, 3) := by decide +kernel
theorem dJ9_min_f86c9_10 : decode cJ9_min_f86c9 10 = .ok (.lload_n 2, 1) := by decide +kernel
theorem dJ9_min_f86c9_11 : decode cJ9_min_f86c9 11 = .ok (.lreturn, 1) := by decide +kernel
theorem dL_law_0 : decode cL_law 0 = .ok (.new 7, 3) := by decide +kernel
theorem dL_law_3 : decode cL_law 3 = .ok (.dup, 1) := by decide +kernel
theorem dL_law_4 : decode cL_law 4 = .ok (.invokespecial 9, 3) := by decide +kernel
theorem dL_law_7 : decode cL_law 7 = .ok (.astore_n 1, 1) := by decide +kernel
theorem dL_law_8 : decode cL_law 8 = .ok (.new 10, 3) := by decide +kernel
theorem dL_law_11 : decode cL_law 11 = .ok (.dup, 1) := by decide +kernel
theorem dL_law_12 : decode cL_law 12 = .ok (.invokespecial 12, 3) := by decide +kernel
theorem dL_law_15 : decode cL_law 15 = .ok (.astore_n 2, 1) := by decide +kernel
theorem dL_law_16 : decode cL_law 16 = .ok (.iconst 0, 1) := by decide +kernel
theorem dL_law_17 : decode cL_law 17 = .ok (.istore_n 3, 1) := by decide +kernel
theorem dL_law_18 : decode cL_law 18 = .ok (.iload_n 3, 1) := by decide +kernel
theorem dL_law_19 : decode cL_law 19 = .ok (.aload_n 0, 1) := by decide +kernel
theorem dL_law_20 : decode cL_law 20 = .ok (.arraylength, 1) := by decide +kernel
theorem dL_law_21 : decode cL_law 21 = .ok (.iconst 5, 1) := by decide +kernel
theorem dL_law_22 : decode cL_law 22 = .ok (.isub, 1) := by decide +kernel
theorem dL_law_23 : decode cL_law 23 = .ok (.if_icmp .gt 517, 3) := by decide +kernel
theorem dL_law_26 : decode cL_law 26 = .ok (.aload_n 0, 1) := by decide +kernel
theorem dL_law_27 : decode cL_law 27 = .ok (.iload_n 3, 1) := by decide +kernel
theorem dL_law_28 : decode cL_law 28 = .ok (.iaload, 1) := by decide +kernel
theorem dL_law_29 : decode cL_law 29 = .ok (.bipush 15, 2) := by decide +kernel
theorem dL_law_31 : decode cL_law 31 = .ok (.iand, 1) := by decide +kernel
theorem dL_law_32 : decode cL_law 32 = .ok (.tableswitch 502 0 12 #[68, 131, 155, 188, 231, 300, 313, 356, 399, 422, 455, 478, 491], 68) := by decide +kernel
theorem dL_law_100 : decode cL_law 100 = .ok (.aload_n 1, 1) := by decide +kernel
theorem dL_law_101 : decode cL_law 101 = .ok (.aload_n 0, 1) := by decide +kernel
theorem dL_law_102 : decode cL_law 102 = .ok (.iload_n 3, 1) := by decide +kernel
theorem dL_law_103 : decode cL_law 103 = .ok (.iconst 1, 1) := by decide +kernel
theorem dL_law_104 : decode cL_law 104 = .ok (.iadd, 1) := by decide +kernel
theorem dL_law_105 : decode cL_law 105 = .ok (.iaload, 1) := by decide +kernel
theorem dL_law_106 : decode cL_law 106 = .ok (.aload_n 0, 1) := by decide +kernel
theorem dL_law_107 : decode cL_law 107 = .ok (.iload_n 3, 1) := by decide +kernel
theorem dL_law_108 : decode cL_law 108 = .ok (.iconst 2, 1) := by decide +kernel
theorem dL_law_109 : decode cL_law 109 = .ok (.iadd, 1) := by decide +kernel
theorem dL_law_110 : decode cL_law 110 = .ok (.iaload, 1) := by decide +kernel
theorem dL_law_111 : decode cL_law 111 = .ok (.i2l, 1) := by decide +kernel
theorem dL_law_112 : decode cL_law 112 = .ok (.bipush 32, 2) := by decide +kernel
theorem dL_law_114 : decode cL_law 114 = .ok (.lshl, 1) := by decide +kernel
theorem dL_law_115 : decode cL_law 115 = .ok (.aload_n 0, 1) := by decide +kernel
theorem dL_law_116 : decode cL_law 116 = .ok (.iload_n 3, 1) := by decide +kernel
theorem dL_law_117 : decode cL_law 117 = .ok (.iconst 3, 1) := by decide +kernel
theorem dL_law_118 : decode cL_law 118 = .ok (.iadd, 1) := by decide +kernel
theorem dL_law_119 : decode cL_law 119 = .ok (.iaload, 1) := by decide +kernel
theorem dL_law_120 : decode cL_law 120 = .ok (.i2l, 1) := by decide +kernel
theorem dL_law_121 : decode cL_law 121 = .ok (.ldc2_w 13, 3) := by decide +kernel
theorem dL_law_124 : decode cL_law 124 = .ok (.land, 1) := by decide +kernel
theorem dL_law_125 : decode cL_law 125 = .ok (.lor, 1) := by decide +kernel
theorem dL_law_126 : decode cL_law 126 = .ok (.invokevirtual 15, 3) := by decide +kernel
theorem dL_law_129 : decode cL_law 129 = .ok (.aload_n 2, 1) := by decide +kernel
theorem dL_law_130 : decode cL_law 130 = .ok (.aload_n 0, 1) := by decide +kernel
theorem dL_law_131 : decode cL_law 131 = .ok (.iload_n 3, 1) := by decide +kernel
theorem dL_law_132 : decode cL_law 132 = .ok (.iconst 1, 1) := by decide +kernel
theorem dL_law_133 : decode cL_law 133 = .ok (.iadd, 1) := by decide +kernel
theorem dL_law_134 : decode cL_law 134 = .ok (.iaload, 1) := by decide +kernel
theorem dL_law_135 : decode cL_law 135 = .ok (.aload_n 0, 1) := by decide +kernel
theorem dL_law_136 : decode cL_law 136 = .ok (.iload_n 3, 1) := by decide +kernel
theorem dL_law_137 : decode cL_law 137 = .ok (.iconst 2, 1) := by decide +kernel
theorem dL_law_138 : decode cL_law 138 = .ok (.iadd, 1) := by decide +kernel
theorem dL_law_139 : decode cL_law 139 = .ok (.iaload, 1) := by decide +kernel
theorem dL_law_140 : decode cL_law 140 = .ok (.i2l, 1) := by decide +kernel
theorem dL_law_141 : decode cL_law 141 = .ok (.bipush 32, 2) := by decide +kernel
theorem dL_law_143 : decode cL_law 143 = .ok (.lshl, 1) := by decide +kernel
theorem dL_law_144 : decode cL_law 144 = .ok (.aload_n 0, 1) := by decide +kernel
theorem dL_law_145 : decode cL_law 145 = .ok (.iload_n 3, 1) := by decide +kernel
theorem dL_law_146 : decode cL_law 146 = .ok (.iconst 3, 1) := by decide +kernel
theorem dL_law_147 : decode cL_law 147 = .ok (.iadd, 1) := by decide +kernel
theorem dL_law_148 : decode cL_law 148 = .ok (.iaload, 1) := by decide +kernel
theorem dL_law_149 : decode cL_law 149 = .ok (.i2l, 1) := by decide +kernel
theorem dL_law_150 : decode cL_law 150 = .ok (.ldc2_w 13, 3) := by decide +kernel
theorem dL_law_153 : decode cL_law 153 = .ok (.land, 1) := by decide +kernel
theorem dL_law_154 : decode cL_law 154 = .ok (.lor, 1) := by decide +kernel
theorem dL_law_155 : decode cL_law 155 = .ok (.invokevirtual 19, 3) := by decide +kernel
theorem dL_law_158 : decode cL_law 158 = .ok (.if_icmp .eq 376, 3) := by decide +kernel
theorem dL_law_161 : decode cL_law 161 = .ok (.iconst 0, 1) := by decide +kernel
theorem dL_law_162 : decode cL_law 162 = .ok (.ireturn, 1) := by decide +kernel
theorem dL_law_163 : decode cL_law 163 = .ok (.aload_n 1, 1) := by decide +kernel
theorem dL_law_164 : decode cL_law 164 = .ok (.aload_n 0, 1) := by decide +kernel
theorem dL_law_165 : decode cL_law 165 = .ok (.iload_n 3, 1) := by decide +kernel
theorem dL_law_166 : decode cL_law 166 = .ok (.iconst 1, 1) := by decide +kernel
theorem dL_law_167 : decode cL_law 167 = .ok (.iadd, 1) := by decide +kernel
theorem dL_law_168 : decode cL_law 168 = .ok (.iaload, 1) := by decide +kernel
theorem dL_law_169 : decode cL_law 169 = .ok (.invokevirtual 20, 3) := by decide +kernel
theorem dL_law_172 : decode cL_law 172 = .ok (.aload_n 2, 1) := by decide +kernel
theorem dL_law_173 : decode cL_law 173 = .ok (.aload_n 0, 1) := by decide +kernel
theorem dL_law_174 : decode cL_law 174 = .ok (.iload_n 3, 1) := by decide +kernel
theorem dL_law_175 : decode cL_law 175 = .ok (.iconst 1, 1) := by decide +kernel
theorem dL_law_176 : decode cL_law 176 = .ok (.iadd, 1) := by decide +kernel
theorem dL_law_177 : decode cL_law 177 = .ok (.iaload, 1) := by decide +kernel
theorem dL_law_178 : decode cL_law 178 = .ok (.invokevirtual 24, 3) := by decide +kernel
theorem dL_law_181 : decode cL_law 181 = .ok (.lcmp, 1) := by decide +kernel
theorem dL_law_182 : decode cL_law 182 = .ok (.ifCond .eq 352, 3) := by decide +kernel
theorem dL_law_185 : decode cL_law 185 = .ok (.iconst 0, 1) := by decide +kernel
theorem dL_law_186 : decode cL_law 186 = .ok (.ireturn, 1) := by decide +kernel
theorem dL_law_187 : decode cL_law 187 = .ok (.aload_n 1, 1) := by decide +kernel
theorem dL_law_188 : decode cL_law 188 = .ok (.aload_n 0, 1) := by decide +kernel
theorem dL_law_189 : decode cL_law 189 = .ok (.iload_n 3, 1) := by decide +kernel
theorem dL_law_190 : decode cL_law 190 = .ok (.iconst 1, 1) := by decide +kernel
theorem dL_law_191 : decode cL_law 191 = .ok (.iadd, 1) := by decide +kernel
theorem dL_law_192 : decode cL_law 192 = .ok (.iaload, 1) := by decide +kernel
theorem dL_law_193 : decode cL_law 193 = .ok (.aload_n 0, 1) := by decide +kernel
theorem dL_law_194 : decode cL_law 194 = .ok (.iload_n 3, 1) := by decide +kernel
theorem dL_law_195 : decode cL_law 195 = .ok (.iconst 2, 1) := by decide +kernel
theorem dL_law_196 : decode cL_law 196 = .ok (.iadd, 1) := by decide +kernel
theorem dL_law_197 : decode cL_law 197 = .ok (.iaload, 1) := by decide +kernel
theorem dL_law_198 : decode cL_law 198 = .ok (.invokevirtual 25, 3) := by decide +kernel
theorem dL_law_201 : decode cL_law 201 = .ok (.aload_n 2, 1) := by decide +kernel
theorem dL_law_202 : decode cL_law 202 = .ok (.aload_n 0, 1) := by decide +kernel
theorem dL_law_203 : decode cL_law 203 = .ok (.iload_n 3, 1) := by decide +kernel
theorem dL_law_204 : decode cL_law 204 = .ok (.iconst 1, 1) := by decide +kernel
theorem dL_law_205 : decode cL_law 205 = .ok (.iadd, 1) := by decide +kernel
theorem dL_law_206 : decode cL_law 206 = .ok (.iaload, 1) := by decide +kernel
theorem dL_law_207 : decode cL_law 207 = .ok (.aload_n 0, 1) := by decide +kernel
theorem dL_law_208 : decode cL_law 208 = .ok (.iload_n 3, 1) := by decide +kernel
theorem dL_law_209 : decode cL_law 209 = .ok (.iconst 2, 1) := by decide +kernel
theorem dL_law_210 : decode cL_law 210 = .ok (.iadd, 1) := by decide +kernel
theorem dL_law_211 : decode cL_law 211 = .ok (.iaload, 1) := by decide +kernel
theorem dL_law_212 : decode cL_law 212 = .ok (.invokevirtual 29, 3) := by decide +kernel
theorem dL_law_215 : decode cL_law 215 = .ok (.if_icmp .eq 319, 3) := by decide +kernel
theorem dL_law_218 : decode cL_law 218 = .ok (.iconst 0, 1) := by decide +kernel
theorem dL_law_219 : decode cL_law 219 = .ok (.ireturn, 1) := by decide +kernel
theorem dL_law_220 : decode cL_law 220 = .ok (.aload_n 1, 1) := by decide +kernel
theorem dL_law_221 : decode cL_law 221 = .ok (.aload_n 0, 1) := by decide +kernel
theorem dL_law_222 : decode cL_law 222 = .ok (.iload_n 3, 1) := by decide +kernel
theorem dL_law_223 : decode cL_law 223 = .ok (.iconst 1, 1) := by decide +kernel
theorem dL_law_224 : decode cL_law 224 = .ok (.iadd, 1) := by decide +kernel
theorem dL_law_225 : decode cL_law 225 = .ok (.iaload, 1) := by decide +kernel
theorem dL_law_226 : decode cL_law 226 = .ok (.aload_n 0, 1) := by decide +kernel
theorem dL_law_227 : decode cL_law 227 = .ok (.iload_n 3, 1) := by decide +kernel
theorem dL_law_228 : decode cL_law 228 = .ok (.iconst 2, 1) := by decide +kernel
theorem dL_law_229 : decode cL_law 229 = .ok (.iadd, 1) := by decide +kernel
theorem dL_law_230 : decode cL_law 230 = .ok (.iaload, 1) := by decide +kernel
theorem dL_law_231 : decode cL_law 231 = .ok (.aload_n 0, 1) := by decide +kernel
theorem dL_law_232 : decode cL_law 232 = .ok (.iload_n 3, 1) := by decide +kernel
theorem dL_law_233 : decode cL_law 233 = .ok (.iconst 3, 1) := by decide +kernel
theorem dL_law_234 : decode cL_law 234 = .ok (.iadd, 1) := by decide +kernel
theorem dL_law_235 : decode cL_law 235 = .ok (.iaload, 1) := by decide +kernel
theorem dL_law_236 : decode cL_law 236 = .ok (.invokevirtual 30, 3) := by decide +kernel
theorem dL_law_239 : decode cL_law 239 = .ok (.aload_n 2, 1) := by decide +kernel
theorem dL_law_240 : decode cL_law 240 = .ok (.aload_n 0, 1) := by decide +kernel
theorem dL_law_241 : decode cL_law 241 = .ok (.iload_n 3, 1) := by decide +kernel
theorem dL_law_242 : decode cL_law 242 = .ok (.iconst 1, 1) := by decide +kernel
theorem dL_law_243 : decode cL_law 243 = .ok (.iadd, 1) := by decide +kernel
theorem dL_law_244 : decode cL_law 244 = .ok (.iaload, 1) := by decide +kernel
theorem dL_law_245 : decode cL_law 245 = .ok (.aload_n 0, 1) := by decide +kernel
theorem dL_law_246 : decode cL_law 246 = .ok (.iload_n 3, 1) := by decide +kernel
theorem dL_law_247 : decode cL_law 247 = .ok (.iconst 2, 1) := by decide +kernel
theorem dL_law_248 : decode cL_law 248 = .ok (.iadd, 1) := by decide +kernel
theorem dL_law_249 : decode cL_law 249 = .ok (.iaload, 1) := by decide +kernel
theorem dL_law_250 : decode cL_law 250 = .ok (.aload_n 0, 1) := by decide +kernel
theorem dL_law_251 : decode cL_law 251 = .ok (.iload_n 3, 1) := by decide +kernel
theorem dL_law_252 : decode cL_law 252 = .ok (.iconst 3, 1) := by decide +kernel
theorem dL_law_253 : decode cL_law 253 = .ok (.iadd, 1) := by decide +kernel
theorem dL_law_254 : decode cL_law 254 = .ok (.iaload, 1) := by decide +kernel
theorem dL_law_255 : decode cL_law 255 = .ok (.invokevirtual 34, 3) := by decide +kernel
theorem dL_law_258 : decode cL_law 258 = .ok (.if_icmp .eq 276, 3) := by decide +kernel
theorem dL_law_261 : decode cL_law 261 = .ok (.iconst 0, 1) := by decide +kernel
theorem dL_law_262 : decode cL_law 262 = .ok (.ireturn, 1) := by decide +kernel
theorem dL_law_263 : decode cL_law 263 = .ok (.aload_n 1, 1) := by decide +kernel
theorem dL_law_264 : decode cL_law 264 = .ok (.aload_n 0, 1) := by decide +kernel
theorem dL_law_265 : decode cL_law 265 = .ok (.iload_n 3, 1) := by decide +kernel
theorem dL_law_266 : decode cL_law 266 = .ok (.iconst 1, 1) := by decide +kernel
theorem dL_law_267 : decode cL_law 267 = .ok (.iadd, 1) := by decide +kernel
theorem dL_law_268 : decode cL_law 268 = .ok (.iaload, 1) := by decide +kernel
theorem dL_law_269 : decode cL_law 269 = .ok (.aload_n 0, 1) := by decide +kernel
theorem dL_law_270 : decode cL_law 270 = .ok (.iload_n 3, 1) := by decide +kernel
theorem dL_law_271 : decode cL_law 271 = .ok (.iconst 2, 1) := by decide +kernel
theorem dL_law_272 : decode cL_law 272 = .ok (.iadd, 1) := by decide +kernel
theorem dL_law_273 : decode cL_law 273 = .ok (.iaload, 1) := by decide +kernel
theorem dL_law_274 : decode cL_law 274 = .ok (.aload_n 0, 1) := by decide +kernel
theorem dL_law_275 : decode cL_law 275 = .ok (.iload_n 3, 1) := by decide +kernel
theorem dL_law_276 : decode cL_law 276 = .ok (.iconst 3, 1) := by decide +kernel
theorem dL_law_277 : decode cL_law 277 = .ok (.iadd, 1) := by decide +kernel
theorem dL_law_278 : decode cL_law 278 = .ok (.iaload, 1) := by decide +kernel
theorem dL_law_279 : decode cL_law 279 = .ok (.aload_n 0, 1) := by decide +kernel
theorem dL_law_280 : decode cL_law 280 = .ok (.iload_n 3, 1) := by decide +kernel
theorem dL_law_281 : decode cL_law 281 = .ok (.iconst 4, 1) := by decide +kernel
theorem dL_law_282 : decode cL_law 282 = .ok (.iadd, 1) := by decide +kernel
theorem dL_law_283 : decode cL_law 283 = .ok (.iaload, 1) := by decide +kernel
theorem dL_law_284 : decode cL_law 284 = .ok (.ifCond .eq 7, 3) := by decide +kernel
theorem dL_law_287 : decode cL_law 287 = .ok (.iconst 1, 1) := by decide +kernel
theorem dL_law_288 : decode cL_law 288 = .ok (.goto 4, 3) := by decide +kernel
theorem dL_law_291 : decode cL_law 291 = .ok (.iconst 0, 1) := by decide +kernel
theorem dL_law_292 : decode cL_law 292 = .ok (.invokevirtual 35, 3) := by decide +kernel
theorem dL_law_295 : decode cL_law 295 = .ok (.aload_n 2, 1) := by decide +kernel
theorem dL_law_296 : decode cL_law 296 = .ok (.aload_n 0, 1) := by decide +kernel
theorem dL_law_297 : decode cL_law 297 = .ok (.iload_n 3, 1) := by decide +kernel
theorem dL_law_298 : decode cL_law 298 = .ok (.iconst 1, 1) := by decide +kernel
theorem dL_law_299 : decode cL_law 299 = .ok (.iadd, 1) := by decide +kernel
theorem dL_law_300 : decode cL_law 300 = .ok (.iaload, 1) := by decide +kernel
theorem dL_law_301 : decode cL_law 301 = .ok (.aload_n 0, 1) := by decide +kernel
theorem dL_law_302 : decode cL_law 302 = .ok (.iload_n 3, 1) := by decide +kernel
theorem dL_law_303 : decode cL_law 303 = .ok (.iconst 2, 1) := by decide +kernel
theorem dL_law_304 : decode cL_law 304 = .ok (.iadd, 1) := by decide +kernel
theorem dL_law_305 : decode cL_law 305 = .ok (.iaload, 1) := by decide +kernel
theorem dL_law_306 : decode cL_law 306 = .ok (.aload_n 0, 1) := by decide +kernel
theorem dL_law_307 : decode cL_law 307 = .ok (.iload_n 3, 1) := by decide +kernel
theorem dL_law_308 : decode cL_law 308 = .ok (.iconst 3, 1) := by decide +kernel
theorem dL_law_309 : decode cL_law 309 = .ok (.iadd, 1) := by decide +kernel
theorem dL_law_310 : decode cL_law 310 = .ok (.iaload, 1) := by decide +kernel
theorem dL_law_311 : decode cL_law 311 = .ok (.aload_n 0, 1) := by decide +kernel
theorem dL_law_312 : decode cL_law 312 = .ok (.iload_n 3, 1) := by decide +kernel
theorem dL_law_313 : decode cL_law 313 = .ok (.iconst 4, 1) := by decide +kernel
theorem dL_law_314 : decode cL_law 314 = .ok (.iadd, 1) := by decide +kernel
theorem dL_law_315 : decode cL_law 315 = .ok (.iaload, 1) := by decide +kernel
theorem dL_law_316 : decode cL_law 316 = .ok (.ifCond .eq 7, 3) := by decide +kernel
theorem dL_law_319 : decode cL_law 319 = .ok (.iconst 1, 1) := by decide +kernel
theorem dL_law_320 : decode cL_law 320 = .ok (.goto 4, 3) := by decide +kernel
theorem dL_law_323 : decode cL_law 323 = .ok (.iconst 0, 1) := by decide +kernel
theorem dL_law_324 : decode cL_law 324 = .ok (.invokevirtual 39, 3) := by decide +kernel
theorem dL_law_327 : decode cL_law 327 = .ok (.if_icmp .eq 207, 3) := by decide +kernel
theorem dL_law_330 : decode cL_law 330 = .ok (.iconst 0, 1) := by decide +kernel
theorem dL_law_331 : decode cL_law 331 = .ok (.ireturn, 1) := by decide +kernel
theorem dL_law_332 : decode cL_law 332 = .ok (.aload_n 1, 1) := by decide +kernel
theorem dL_law_333 : decode cL_law 333 = .ok (.invokevirtual 40, 3) := by decide +kernel
theorem dL_law_336 : decode cL_law 336 = .ok (.aload_n 2, 1) := by decide +kernel
theorem dL_law_337 : decode cL_law 337 = .ok (.invokevirtual 44, 3) := by decide +kernel
theorem dL_law_340 : decode cL_law 340 = .ok (.if_icmp .eq 194, 3) := by decide +kernel
theorem dL_law_343 : decode cL_law 343 = .ok (.iconst 0, 1) := by decide +kernel
theorem dL_law_344 : decode cL_law 344 = .ok (.ireturn, 1) := by decide +kernel
theorem dL_law_345 : decode cL_law 345 = .ok (.aload_n 1, 1) := by decide +kernel
theorem dL_law_346 : decode cL_law 346 = .ok (.aload_n 0, 1) := by decide +kernel
theorem dL_law_347 : decode cL_law 347 = .ok (.iload_n 3, 1) := by decide +kernel
theorem dL_law_348 : decode cL_law 348 = .ok (.iconst 1, 1) := by decide +kernel
theorem dL_law_349 : decode cL_law 349 = .ok (.iadd, 1) := by decide +kernel
theorem dL_law_350 : decode cL_law 350 = .ok (.iaload, 1) := by decide +kernel
theorem dL_law_351 : decode cL_law 351 = .ok (.aload_n 0, 1) := by decide +kernel
theorem dL_law_352 : decode cL_law 352 = .ok (.iload_n 3, 1) := by decide +kernel
theorem dL_law_353 : decode cL_law 353 = .ok (.iconst 2, 1) := by decide +kernel
theorem dL_law_354 : decode cL_law 354 = .ok (.iadd, 1) := by decide +kernel
theorem dL_law_355 : decode cL_law 355 = .ok (.iaload, 1) := by decide +kernel
theorem dL_law_356 : decode cL_law 356 = .ok (.aload_n 0, 1) := by decide +kernel
theorem dL_law_357 : decode cL_law 357 = .ok (.iload_n 3, 1) := by decide +kernel
theorem dL_law_358 : decode cL_law 358 = .ok (.iconst 3, 1) := by decide +kernel
theorem dL_law_359 : decode cL_law 359 = .ok (.iadd, 1) := by decide +kernel
theorem dL_law_360 : decode cL_law 360 = .ok (.iaload, 1) := by decide +kernel
theorem dL_law_361 : decode cL_law 361 = .ok (.invokevirtual 45, 3) := by decide +kernel
theorem dL_law_364 : decode cL_law 364 = .ok (.aload_n 2, 1) := by decide +kernel
theorem dL_law_365 : decode cL_law 365 = .ok (.aload_n 0, 1) := by decide +kernel
theorem dL_law_366 : decode cL_law 366 = .ok (.iload_n 3, 1) := by decide +kernel
theorem dL_law_367 : decode cL_law 367 = .ok (.iconst 1, 1) := by decide +kernel
theorem dL_law_368 : decode cL_law 368 = .ok (.iadd, 1) := by decide +kernel
theorem dL_law_369 : decode cL_law 369 = .ok (.iaload, 1) := by decide +kernel
theorem dL_law_370 : decode cL_law 370 = .ok (.aload_n 0, 1) := by decide +kernel
theorem dL_law_371 : decode cL_law 371 = .ok (.iload_n 3, 1) := by decide +kernel
theorem dL_law_372 : decode cL_law 372 = .ok (.iconst 2, 1) := by decide +kernel
theorem dL_law_373 : decode cL_law 373 = .ok (.iadd, 1) := by decide +kernel
theorem dL_law_374 : decode cL_law 374 = .ok (.iaload, 1) := by decide +kernel
theorem dL_law_375 : decode cL_law 375 = .ok (.aload_n 0, 1) := by decide +kernel
theorem dL_law_376 : decode cL_law 376 = .ok (.iload_n 3, 1) := by decide +kernel
theorem dL_law_377 : decode cL_law 377 = .ok (.iconst 3, 1) := by decide +kernel
theorem dL_law_378 : decode cL_law 378 = .ok (.iadd, 1) := by decide +kernel
theorem dL_law_379 : decode cL_law 379 = .ok (.iaload, 1) := by decide +kernel
theorem dL_law_380 : decode cL_law 380 = .ok (.invokevirtual 48, 3) := by decide +kernel
theorem dL_law_383 : decode cL_law 383 = .ok (.if_icmp .eq 151, 3) := by decide +kernel
theorem dL_law_386 : decode cL_law 386 = .ok (.iconst 0, 1) := by decide +kernel
theorem dL_law_387 : decode cL_law 387 = .ok (.ireturn, 1) := by decide +kernel
theorem dL_law_388 : decode cL_law 388 = .ok (.aload_n 1, 1) := by decide +kernel
theorem dL_law_389 : decode cL_law 389 = .ok (.aload_n 0, 1) := by decide +kernel
theorem dL_law_390 : decode cL_law 390 = .ok (.iload_n 3, 1) := by decide +kernel
theorem dL_law_391 : decode cL_law 391 = .ok (.iconst 1, 1) := by decide +kernel
theorem dL_law_392 : decode cL_law 392 = .ok (.iadd, 1) := by decide +kernel
theorem dL_law_393 : decode cL_law 393 = .ok (.iaload, 1) := by decide +kernel
theorem dL_law_394 : decode cL_law 394 = .ok (.aload_n 0, 1) := by decide +kernel
theorem dL_law_395 : decode cL_law 395 = .ok (.iload_n 3, 1) := by decide +kernel
theorem dL_law_396 : decode cL_law 396 = .ok (.iconst 2, 1) := by decide +kernel
theorem dL_law_397 : decode cL_law 397 = .ok (.iadd, 1) := by decide +kernel
theorem dL_law_398 : decode cL_law 398 = .ok (.iaload, 1) := by decide +kernel
theorem dL_law_399 : decode cL_law 399 = .ok (.aload_n 0, 1) := by decide +kernel
theorem dL_law_400 : decode cL_law 400 = .ok (.iload_n 3, 1) := by decide +kernel
theorem dL_law_401 : decode cL_law 401 = .ok (.iconst 3, 1) := by decide +kernel
theorem dL_law_402 : decode cL_law 402 = .ok (.iadd, 1) := by decide +kernel
theorem dL_law_403 : decode cL_law 403 = .ok (.iaload, 1) := by decide +kernel
theorem dL_law_404 : decode cL_law 404 = .ok (.invokevirtual 49, 3) := by decide +kernel
theorem dL_law_407 : decode cL_law 407 = .ok (.aload_n 2, 1) := by decide +kernel
theorem dL_law_408 : decode cL_law 408 = .ok (.aload_n 0, 1) := by decide +kernel
theorem dL_law_409 : decode cL_law 409 = .ok (.iload_n 3, 1) := by decide +kernel
theorem dL_law_410 : decode cL_law 410 = .ok (.iconst 1, 1) := by decide +kernel
theorem dL_law_411 : decode cL_law 411 = .ok (.iadd, 1) := by decide +kernel
theorem dL_law_412 : decode cL_law 412 = .ok (.iaload, 1) := by decide +kernel
theorem dL_law_413 : decode cL_law 413 = .ok (.aload_n 0, 1) := by decide +kernel
theorem dL_law_414 : decode cL_law 414 = .ok (.iload_n 3, 1) := by decide +kernel
theorem dL_law_415 : decode cL_law 415 = .ok (.iconst 2, 1) := by decide +kernel
theorem dL_law_416 : decode cL_law 416 = .ok (.iadd, 1) := by decide +kernel
theorem dL_law_417 : decode cL_law 417 = .ok (.iaload, 1) := by decide +kernel
theorem dL_law_418 : decode cL_law 418 = .ok (.aload_n 0, 1) := by decide +kernel
theorem dL_law_419 : decode cL_law 419 = .ok (.iload_n 3, 1) := by decide +kernel
theorem dL_law_420 : decode cL_law 420 = .ok (.iconst 3, 1) := by decide +kernel
theorem dL_law_421 : decode cL_law 421 = .ok (.iadd, 1) := by decide +kernel
theorem dL_law_422 : decode cL_law 422 = .ok (.iaload, 1) := by decide +kernel
theorem dL_law_423 : decode cL_law 423 = .ok (.invokevirtual 52, 3) := by decide +kernel
theorem dL_law_426 : decode cL_law 426 = .ok (.if_icmp .eq 108, 3) := by decide +kernel
theorem dL_law_429 : decode cL_law 429 = .ok (.iconst 0, 1) := by decide +kernel
theorem dL_law_430 : decode cL_law 430 = .ok (.ireturn, 1) := by decide +kernel
theorem dL_law_431 : decode cL_law 431 = .ok (.aload_n 1, 1) := by decide +kernel
theorem dL_law_432 : decode cL_law 432 = .ok (.aload_n 0, 1) := by decide +kernel
theorem dL_law_433 : decode cL_law 433 = .ok (.iload_n 3, 1) := by decide +kernel
theorem dL_law_434 : decode cL_law 434 = .ok (.iconst 1, 1) := by decide +kernel
theorem dL_law_435 : decode cL_law 435 = .ok (.iadd, 1) := by decide +kernel
theorem dL_law_436 : decode cL_law 436 = .ok (.iaload, 1) := by decide +kernel
theorem dL_law_437 : decode cL_law 437 = .ok (.invokevirtual 53, 3) := by decide +kernel
theorem dL_law_440 : decode cL_law 440 = .ok (.aload_n 2, 1) := by decide +kernel
theorem dL_law_441 : decode cL_law 441 = .ok (.aload_n 0, 1) := by decide +kernel
theorem dL_law_442 : decode cL_law 442 = .ok (.iload_n 3, 1) := by decide +kernel
theorem dL_law_443 : decode cL_law 443 = .ok (.iconst 1, 1) := by decide +kernel
theorem dL_law_444 : decode cL_law 444 = .ok (.iadd, 1) := by decide +kernel
theorem dL_law_445 : decode cL_law 445 = .ok (.iaload, 1) := by decide +kernel
theorem dL_law_446 : decode cL_law 446 = .ok (.invokevirtual 57, 3) := by decide +kernel
theorem dL_law_449 : decode cL_law 449 = .ok (.if_icmp .eq 85, 3) := by decide +kernel
theorem dL_law_452 : decode cL_law 452 = .ok (.iconst 0, 1) := by decide +kernel
theorem dL_law_453 : decode cL_law 453 = .ok (.ireturn, 1) := by decide +kernel
theorem dL_law_454 : decode cL_law 454 = .ok (.aload_n 1, 1) := by decide +kernel
theorem dL_law_455 : decode cL_law 455 = .ok (.aload_n 0, 1) := by decide +kernel
theorem dL_law_456 : decode cL_law 456 = .ok (.iload_n 3, 1) := by decide +kernel
theorem dL_law_457 : decode cL_law 457 = .ok (.iconst 1, 1) := by decide +kernel
theorem dL_law_458 : decode cL_law 458 = .ok (.iadd, 1) := by decide +kernel
theorem dL_law_459 : decode cL_law 459 = .ok (.iaload, 1) := by decide +kernel
theorem dL_law_460 : decode cL_law 460 = .ok (.aload_n 0, 1) := by decide +kernel
theorem dL_law_461 : decode cL_law 461 = .ok (.iload_n 3, 1) := by decide +kernel
theorem dL_law_462 : decode cL_law 462 = .ok (.iconst 2, 1) := by decide +kernel
theorem dL_law_463 : decode cL_law 463 = .ok (.iadd, 1) := by decide +kernel
theorem dL_law_464 : decode cL_law 464 = .ok (.iaload, 1) := by decide +kernel
theorem dL_law_465 : decode cL_law 465 = .ok (.invokevirtual 58, 3) := by decide +kernel
theorem dL_law_468 : decode cL_law 468 = .ok (.aload_n 2, 1) := by decide +kernel
theorem dL_law_469 : decode cL_law 469 = .ok (.aload_n 0, 1) := by decide +kernel
theorem dL_law_470 : decode cL_law 470 = .ok (.iload_n 3, 1) := by decide +kernel
theorem dL_law_471 : decode cL_law 471 = .ok (.iconst 1, 1) := by decide +kernel
theorem dL_law_472 : decode cL_law 472 = .ok (.iadd, 1) := by decide +kernel
theorem dL_law_473 : decode cL_law 473 = .ok (.iaload, 1) := by decide +kernel
theorem dL_law_474 : decode cL_law 474 = .ok (.aload_n 0, 1) := by decide +kernel
theorem dL_law_475 : decode cL_law 475 = .ok (.iload_n 3, 1) := by decide +kernel
theorem dL_law_476 : decode cL_law 476 = .ok (.iconst 2, 1) := by decide +kernel
theorem dL_law_477 : decode cL_law 477 = .ok (.iadd, 1) := by decide +kernel
theorem dL_law_478 : decode cL_law 478 = .ok (.iaload, 1) := by decide +kernel
theorem dL_law_479 : decode cL_law 479 = .ok (.invokevirtual 62, 3) := by decide +kernel
theorem dL_law_482 : decode cL_law 482 = .ok (.if_icmp .eq 52, 3) := by decide +kernel
theorem dL_law_485 : decode cL_law 485 = .ok (.iconst 0, 1) := by decide +kernel
theorem dL_law_486 : decode cL_law 486 = .ok (.ireturn, 1) := by decide +kernel
theorem dL_law_487 : decode cL_law 487 = .ok (.aload_n 1, 1) := by decide +kernel
theorem dL_law_488 : decode cL_law 488 = .ok (.aload_n 0, 1) := by decide +kernel
theorem dL_law_489 : decode cL_law 489 = .ok (.iload_n 3, 1) := by decide +kernel
theorem dL_law_490 : decode cL_law 490 = .ok (.iconst 1, 1) := by decide +kernel
theorem dL_law_491 : decode cL_law 491 = .ok (.iadd, 1) := by decide +kernel
theorem dL_law_492 : decode cL_law 492 = .ok (.iaload, 1) := by decide +kernel
theorem dL_law_493 : decode cL_law 493 = .ok (.invokevirtual 63, 3) := by decide +kernel
theorem dL_law_496 : decode cL_law 496 = .ok (.aload_n 2, 1) := by decide +kernel
theorem dL_law_497 : decode cL_law 497 = .ok (.aload_n 0, 1) := by decide +kernel
theorem dL_law_498 : decode cL_law 498 = .ok (.iload_n 3, 1) := by decide +kernel
theorem dL_law_499 : decode cL_law 499 = .ok (.iconst 1, 1) := by decide +kernel
theorem dL_law_500 : decode cL_law 500 = .ok (.iadd, 1) := by decide +kernel
theorem dL_law_501 : decode cL_law 501 = .ok (.iaload, 1) := by decide +kernel
theorem dL_law_502 : decode cL_law 502 = .ok (.invokevirtual 66, 3) := by decide +kernel
theorem dL_law_505 : decode cL_law 505 = .ok (.if_icmp .eq 29, 3) := by decide +kernel
theorem dL_law_508 : decode cL_law 508 = .ok (.iconst 0, 1) := by decide +kernel
theorem dL_law_509 : decode cL_law 509 = .ok (.ireturn, 1) := by decide +kernel
theorem dL_law_510 : decode cL_law 510 = .ok (.aload_n 1, 1) := by decide +kernel
theorem dL_law_511 : decode cL_law 511 = .ok (.invokevirtual 67, 3) := by decide +kernel
theorem dL_law_514 : decode cL_law 514 = .ok (.aload_n 2, 1) := by decide +kernel
theorem dL_law_515 : decode cL_law 515 = .ok (.invokevirtual 70, 3) := by decide +kernel
theorem dL_law_518 : decode cL_law 518 = .ok (.if_icmp .eq 16, 3) := by decide +kernel
theorem dL_law_521 : decode cL_law 521 = .ok (.iconst 0, 1) := by decide +kernel
theorem dL_law_522 : decode cL_law 522 = .ok (.ireturn, 1) := by decide +kernel
theorem dL_law_523 : decode cL_law 523 = .ok (.aload_n 1, 1) := by decide +kernel
theorem dL_law_524 : decode cL_law 524 = .ok (.invokevirtual 71, 3) := by decide +kernel
theorem dL_law_527 : decode cL_law 527 = .ok (.aload_n 2, 1) := by decide +kernel
theorem dL_law_528 : decode cL_law 528 = .ok (.invokevirtual 74, 3) := by decide +kernel
theorem dL_law_531 : decode cL_law 531 = .ok (.goto 3, 3) := by decide +kernel
theorem dL_law_534 : decode cL_law 534 = .ok (.iinc 3 5, 3) := by decide +kernel
theorem dL_law_537 : decode cL_law 537 = .ok (.goto (-519), 3) := by decide +kernel
theorem dL_law_540 : decode cL_law 540 = .ok (.iconst 1, 1) := by decide +kernel
theorem dL_law_541 : decode cL_law 541 = .ok (.ireturn, 1) := by decide +kernel
abbrev vwCl : List vw_C := [(RX0, TX0, 3), (RX1, TX1, 5)]
end
section
/-! my own names of the reference: codes, words, decode rows -/
abbrev cX1_init : ByteArray := prog_3_method_1_code
def yX1_init : MethodName := ⟨RX1, "<init>", "()V"⟩
abbrev cX1_isRegister : ByteArray := prog_3_method_2_code
def yX1_isRegister : MethodName := ⟨RX1, "isRegister", "(I)Z"⟩
abbrev cX1_negative : ByteArray := prog_3_method_3_code
def yX1_negative : MethodName := ⟨RX1, "negative", "(J)Z"⟩
abbrev cX1_plain : ByteArray := prog_3_method_4_code
def yX1_plain : MethodName := ⟨RX1, "plain", "(J)J"⟩
abbrev cX1_signed : ByteArray := prog_3_method_5_code
def yX1_signed : MethodName := ⟨RX1, "signed", "(JZ)J"⟩
abbrev cX1_isNan : ByteArray := prog_3_method_6_code
def yX1_isNan : MethodName := ⟨RX1, "isNan", "(J)Z"⟩
abbrev cX1_isInfinite : ByteArray := prog_3_method_7_code
def yX1_isInfinite : MethodName := ⟨RX1, "isInfinite", "(J)Z"⟩
abbrev cX1_isZero : ByteArray := prog_3_method_8_code
def yX1_isZero : MethodName := ⟨RX1, "isZero", "(J)Z"⟩
abbrev cX1_number : ByteArray := prog_3_method_9_code
def yX1_number : MethodName := ⟨RX1, "number", "(J)J"⟩
abbrev cX1_power : ByteArray := prog_3_method_10_code
def yX1_power : MethodName := ⟨RX1, "power", "(J)I"⟩
abbrev cX1_exact : ByteArray := prog_3_method_11_code
def yX1_exact : MethodName := ⟨RX1, "exact", "(JI)J"⟩
abbrev cX1_load : ByteArray := prog_3_method_12_code
def yX1_load : MethodName := ⟨RX1, "load", "(IJ)Z"⟩
abbrev cX1_bits : ByteArray := prog_3_method_13_code
def yX1_bits : MethodName := ⟨RX1, "bits", "(I)J"⟩
abbrev cX1_multiply : ByteArray := prog_3_method_14_code
def yX1_multiply : MethodName := ⟨RX1, "multiply", "(JJ)V"⟩
abbrev cX1_squareFits : ByteArray := prog_3_method_15_code
def yX1_squareFits : MethodName := ⟨RX1, "squareFits", "(JJJ)Z"⟩
abbrev cX1_root : ByteArray := prog_3_method_16_code
def yX1_root : MethodName := ⟨RX1, "root", "(J)J"⟩
abbrev cX1_sqrt : ByteArray := prog_3_method_17_code
def yX1_sqrt : MethodName := ⟨RX1, "sqrt", "(II)Z"⟩
abbrev cX1_cut : ByteArray := prog_3_method_18_code
def yX1_cut : MethodName := ⟨RX1, "cut", "(JIZZ)J"⟩
abbrev cX1_whole : ByteArray := prog_3_method_19_code
def yX1_whole : MethodName := ⟨RX1, "whole", "(III)Z"⟩
abbrev cX1_rest : ByteArray := prog_3_method_20_code
def yX1_rest : MethodName := ⟨RX1, "rest", "(JJZ)J"⟩
abbrev cX1_left : ByteArray := prog_3_method_21_code
def yX1_left : MethodName := ⟨RX1, "left", "(IIIZ)Z"⟩
abbrev cX1_quotient : ByteArray := prog_3_method_22_code
def yX1_quotient : MethodName := ⟨RX1, "quotient", "()I"⟩
abbrev cX1_place : ByteArray := prog_3_method_23_code
def yX1_place : MethodName := ⟨RX1, "place", "(J)J"⟩
abbrev cX1_neighbour : ByteArray := prog_3_method_24_code
def yX1_neighbour : MethodName := ⟨RX1, "neighbour", "(III)Z"⟩
abbrev cX1_rounded : ByteArray := prog_3_method_25_code
def yX1_rounded : MethodName := ⟨RX1, "rounded", "(JJ)J"⟩
abbrev cX1_scale : ByteArray := prog_3_method_26_code
def yX1_scale : MethodName := ⟨RX1, "scale", "(III)Z"⟩
abbrev cX1_exponent : ByteArray := prog_3_method_27_code
def yX1_exponent : MethodName := ⟨RX1, "exponent", "(I)I"⟩
abbrev cX1_compare : ByteArray := prog_3_method_28_code
def yX1_compare : MethodName := ⟨RX1, "compare", "(II)I"⟩
abbrev cX1_sort : ByteArray := prog_3_method_29_code
def yX1_sort : MethodName := ⟨RX1, "sort", "(I)I"⟩
abbrev cX1_flags : ByteArray := prog_3_method_30_code
def yX1_flags : MethodName := ⟨RX1, "flags", "()I"⟩
abbrev cX1_clear : ByteArray := prog_3_method_31_code
def yX1_clear : MethodName := ⟨RX1, "clear", "()V"⟩
def wsX1_init : List Cond := .code yX1_init cX1_init 1 none :: ([.methodLink RX1 1 objectInit, .instanceMethod objectInit, .code objectInit ⟨#[0xb1]⟩ 1 none, .arrayClass .long, .fieldLink RX1 7 "BinaryFunctionsModel" "register" "[J"] ++ wsX10)
def wsX1_isRegister : List Cond := .code yX1_isRegister cX1_isRegister 1 (some .boolean) :: ([])
def wsX1_negative : List Cond := .code yX1_negative cX1_negative 2 (some .boolean) :: ([])
def wsX1_plain : List Cond := .code yX1_plain cX1_plain 2 (some .long) :: ([.constantLong RX1 13 (9223372036854775807)])
def wsX1_signed : List Cond := .code yX1_signed cX1_signed 3 (some .long) :: ([.constantLong RX1 15 (-9223372036854775808)])
def wsX1_isNan : List Cond := .code yX1_isNan cX1_isNan 2 (some .boolean) :: ([.methodLink RX1 17 yX1_plain, .static yX1_plain, .initialized RX1, .code yX1_plain cX1_plain 2 (some .long), .constantLong RX1 13 (9223372036854775807), .constantLong RX1 21 (9218868437227405312)])
def wsX1_isInfinite : List Cond := .code yX1_isInfinite cX1_isInfinite 2 (some .boolean) :: ([.methodLink RX1 17 yX1_plain, .static yX1_plain, .initialized RX1, .code yX1_plain cX1_plain 2 (some .long), .constantLong RX1 13 (9223372036854775807), .constantLong RX1 21 (9218868437227405312)])
def wsX1_isZero : List Cond := .code yX1_isZero cX1_isZero 2 (some .boolean) :: ([.methodLink RX1 17 yX1_plain, .static yX1_plain, .initialized RX1, .code yX1_plain cX1_plain 2 (some .long), .constantLong RX1 13 (9223372036854775807)])
def wsX1_number : List Cond := .code yX1_number cX1_number 4 (some .long) :: ([.constantLong RX1 23 (4503599627370495), .methodLink RX1 17 yX1_plain, .static yX1_plain, .initialized RX1, .code yX1_plain cX1_plain 2 (some .long), .constantLong RX1 13 (9223372036854775807), .constantLong RX1 25 (4503599627370496)])
def wsX1_power : List Cond := .code yX1_power cX1_power 3 (some .int) :: ([.methodLink RX1 17 yX1_plain, .static yX1_plain, .initialized RX1, .code yX1_plain cX1_plain 2 (some .long), .constantLong RX1 13 (9223372036854775807)])
def wsX1_exact : List Cond := .code yX1_exact cX1_exact 7 (some .long) :: ([.constantLong RX1 27 (9007199254740992), .constantLong RX1 25 (4503599627370496)])
def wsX1_load : List Cond := .code yX1_load cX1_load 4 (some .boolean) :: ([.methodLink RX1 29 yX1_isRegister, .static yX1_isRegister, .initialized RX1, .code yX1_isRegister cX1_isRegister 1 (some .boolean), .fieldLink RX1 7 "BinaryFunctionsModel" "register" "[J"] ++ wsX10)
def wsX1_bits : List Cond := .code yX1_bits cX1_bits 2 (some .long) :: ([.methodLink RX1 29 yX1_isRegister, .static yX1_isRegister, .initialized RX1, .code yX1_isRegister cX1_isRegister 1 (some .boolean), .fieldLink RX1 7 "BinaryFunctionsModel" "register" "[J"] ++ wsX10)
def wsX1_multiply : List Cond := .code yX1_multiply cX1_multiply 17 none :: ([.constantLong RX1 33 (134217727), .constantLong RX1 35 (18014398509481983), .fieldLink RX1 37 "BinaryFunctionsModel" "low" "J", .fieldLink RX1 41 "BinaryFunctionsModel" "high" "J"] ++ wsX10)
def wsX1_squareFits : List Cond := .code yX1_squareFits cX1_squareFits 7 (some .boolean) :: ([.methodLink RX1 44 yX1_multiply, .instanceMethod yX1_multiply, .selects RX1 yX1_multiply yX1_multiply, .initialized RX1, .code yX1_multiply cX1_multiply 17 none, .constantLong RX1 33 (134217727), .constantLong RX1 35 (18014398509481983), .fieldLink RX1 37 "BinaryFunctionsModel" "low" "J", .fieldLink RX1 41 "BinaryFunctionsModel" "high" "J"] ++ wsX10)
def wsX1_root_r1 : List Cond := [.methodLink RX1 48 yX1_number, .static yX1_number, .initialized RX1, .code yX1_number cX1_number 4 (some .long), .constantLong RX1 23 (4503599627370495), .methodLink RX1 17 yX1_plain, .static yX1_plain, .code yX1_plain cX1_plain 2 (some .long), .constantLong RX1 13 (9223372036854775807), .constantLong RX1 25 (4503599627370496), .methodLink RX1 51 yX1_power, .static yX1_power, .code yX1_power cX1_power 3 (some .int), .constantLong RX1 55 (3), .constantLong RX1 27 (9007199254740992), .methodLink RX1 57 yX1_squareFits, .instanceMethod yX1_squareFits, .selects RX1 yX1_squareFits yX1_squareFits, .code yX1_squareFits cX1_squareFits 7 (some .boolean), .methodLink RX1 44 yX1_multiply, .instanceMethod yX1_multiply, .selects RX1 yX1_multiply yX1_multiply, .code yX1_multiply cX1_multiply 17 none, .constantLong RX1 33 (134217727)]
def wsX1_root_r2 : List Cond := [.constantLong RX1 35 (18014398509481983), .fieldLink RX1 37 "BinaryFunctionsModel" "low" "J", .fieldLink RX1 41 "BinaryFunctionsModel" "high" "J", .fieldLink RX1 61 "BinaryFunctionsModel" "flag" "I", .constantLong RX1 65 (2), .methodLink RX1 67 yX1_exact, .static yX1_exact, .code yX1_exact cX1_exact 7 (some .long)]
def wsX1_root : List Cond := .code yX1_root cX1_root 20 (some .long) :: ((wsX1_root_r1 ++ wsX1_root_r2) ++ wsX10)
def wsX1_sqrt_r1 : List Cond := [.methodLink RX1 29 yX1_isRegister, .static yX1_isRegister, .initialized RX1, .code yX1_isRegister cX1_isRegister 1 (some .boolean), .fieldLink RX1 7 "BinaryFunctionsModel" "register" "[J", .methodLink RX1 71 yX1_isNan, .static yX1_isNan, .code yX1_isNan cX1_isNan 2 (some .boolean), .methodLink RX1 17 yX1_plain, .static yX1_plain, .code yX1_plain cX1_plain 2 (some .long), .constantLong RX1 13 (9223372036854775807), .constantLong RX1 21 (9218868437227405312), .constantLong RX1 75 (9221120237041090560), .methodLink RX1 77 yX1_isZero, .static yX1_isZero, .code yX1_isZero cX1_isZero 2 (some .boolean), .methodLink RX1 80 yX1_negative, .static yX1_negative, .code yX1_negative cX1_negative 2 (some .boolean), .fieldLink RX1 61 "BinaryFunctionsModel" "flag" "I", .methodLink RX1 83 yX1_root, .instanceMethod yX1_root, .selects RX1 yX1_root yX1_root]
def wsX1_sqrt_r2 : List Cond := [.code yX1_root cX1_root 20 (some .long), .methodLink RX1 48 yX1_number, .static yX1_number, .code yX1_number cX1_number 4 (some .long), .constantLong RX1 23 (4503599627370495), .constantLong RX1 25 (4503599627370496), .methodLink RX1 51 yX1_power, .static yX1_power, .code yX1_power cX1_power 3 (some .int), .constantLong RX1 55 (3), .constantLong RX1 27 (9007199254740992), .methodLink RX1 57 yX1_squareFits, .instanceMethod yX1_squareFits, .selects RX1 yX1_squareFits yX1_squareFits, .code yX1_squareFits cX1_squareFits 7 (some .boolean), .methodLink RX1 44 yX1_multiply, .instanceMethod yX1_multiply, .selects RX1 yX1_multiply yX1_multiply, .code yX1_multiply cX1_multiply 17 none, .constantLong RX1 33 (134217727), .constantLong RX1 35 (18014398509481983), .fieldLink RX1 37 "BinaryFunctionsModel" "low" "J", .fieldLink RX1 41 "BinaryFunctionsModel" "high" "J", .constantLong RX1 65 (2)]
def wsX1_sqrt_r3 : List Cond := [.methodLink RX1 67 yX1_exact, .static yX1_exact, .code yX1_exact cX1_exact 7 (some .long)]
def wsX1_sqrt : List Cond := .code yX1_sqrt cX1_sqrt 5 (some .boolean) :: ((wsX1_sqrt_r1 ++ (wsX1_sqrt_r2 ++ wsX1_sqrt_r3)) ++ wsX10)
def wsX1_cut : List Cond := .code yX1_cut cX1_cut 12 (some .long) :: ([.constantLong RX1 65 (2)])
def wsX1_whole_r1 : List Cond := [.methodLink RX1 29 yX1_isRegister, .static yX1_isRegister, .initialized RX1, .code yX1_isRegister cX1_isRegister 1 (some .boolean), .fieldLink RX1 7 "BinaryFunctionsModel" "register" "[J", .methodLink RX1 71 yX1_isNan, .static yX1_isNan, .code yX1_isNan cX1_isNan 2 (some .boolean), .methodLink RX1 17 yX1_plain, .static yX1_plain, .code yX1_plain cX1_plain 2 (some .long), .constantLong RX1 13 (9223372036854775807), .constantLong RX1 21 (9218868437227405312), .constantLong RX1 75 (9221120237041090560), .methodLink RX1 86 yX1_isInfinite, .static yX1_isInfinite, .code yX1_isInfinite cX1_isInfinite 2 (some .boolean), .methodLink RX1 51 yX1_power, .static yX1_power, .code yX1_power cX1_power 3 (some .int), .methodLink RX1 48 yX1_number, .static yX1_number, .code yX1_number cX1_number 4 (some .long), .constantLong RX1 23 (4503599627370495)]
def wsX1_whole_r2 : List Cond := [.constantLong RX1 25 (4503599627370496), .methodLink RX1 80 yX1_negative, .static yX1_negative, .code yX1_negative cX1_negative 2 (some .boolean), .methodLink RX1 89 yX1_cut, .static yX1_cut, .code yX1_cut cX1_cut 12 (some .long), .constantLong RX1 65 (2), .methodLink RX1 67 yX1_exact, .static yX1_exact, .code yX1_exact cX1_exact 7 (some .long), .constantLong RX1 27 (9007199254740992), .fieldLink RX1 61 "BinaryFunctionsModel" "flag" "I", .methodLink RX1 93 yX1_signed, .static yX1_signed, .code yX1_signed cX1_signed 3 (some .long), .constantLong RX1 15 (-9223372036854775808)]
def wsX1_whole : List Cond := .code yX1_whole cX1_whole 10 (some .boolean) :: ((wsX1_whole_r1 ++ wsX1_whole_r2) ++ wsX10)
def wsX1_rest_r1 : List Cond := [.methodLink RX1 48 yX1_number, .static yX1_number, .initialized RX1, .code yX1_number cX1_number 4 (some .long), .constantLong RX1 23 (4503599627370495), .methodLink RX1 17 yX1_plain, .static yX1_plain, .code yX1_plain cX1_plain 2 (some .long), .constantLong RX1 13 (9223372036854775807), .constantLong RX1 25 (4503599627370496), .methodLink RX1 51 yX1_power, .static yX1_power, .code yX1_power cX1_power 3 (some .int), .fieldLink RX1 97 "BinaryFunctionsModel" "quotient" "I", .constantLong RX1 100 (8), .constantLong RX1 65 (2), .methodLink RX1 67 yX1_exact, .static yX1_exact, .code yX1_exact cX1_exact 7 (some .long), .constantLong RX1 27 (9007199254740992), .methodLink RX1 80 yX1_negative, .static yX1_negative, .code yX1_negative cX1_negative 2 (some .boolean), .methodLink RX1 93 yX1_signed]
def wsX1_rest_r2 : List Cond := [.static yX1_signed, .code yX1_signed cX1_signed 3 (some .long), .constantLong RX1 15 (-9223372036854775808)]
def wsX1_rest : List Cond := .code yX1_rest cX1_rest 21 (some .long) :: ((wsX1_rest_r1 ++ wsX1_rest_r2) ++ wsX10)
def wsX1_left_r1 : List Cond := [.methodLink RX1 29 yX1_isRegister, .static yX1_isRegister, .initialized RX1, .code yX1_isRegister cX1_isRegister 1 (some .boolean), .fieldLink RX1 7 "BinaryFunctionsModel" "register" "[J", .fieldLink RX1 97 "BinaryFunctionsModel" "quotient" "I", .methodLink RX1 71 yX1_isNan, .static yX1_isNan, .code yX1_isNan cX1_isNan 2 (some .boolean), .methodLink RX1 17 yX1_plain, .static yX1_plain, .code yX1_plain cX1_plain 2 (some .long), .constantLong RX1 13 (9223372036854775807), .constantLong RX1 21 (9218868437227405312), .constantLong RX1 75 (9221120237041090560), .methodLink RX1 86 yX1_isInfinite, .static yX1_isInfinite, .code yX1_isInfinite cX1_isInfinite 2 (some .boolean), .methodLink RX1 77 yX1_isZero, .static yX1_isZero, .code yX1_isZero cX1_isZero 2 (some .boolean), .fieldLink RX1 61 "BinaryFunctionsModel" "flag" "I", .methodLink RX1 102 yX1_rest, .instanceMethod yX1_rest]
def wsX1_left_r2 : List Cond := [.selects RX1 yX1_rest yX1_rest, .code yX1_rest cX1_rest 21 (some .long), .methodLink RX1 48 yX1_number, .static yX1_number, .code yX1_number cX1_number 4 (some .long), .constantLong RX1 23 (4503599627370495), .constantLong RX1 25 (4503599627370496), .methodLink RX1 51 yX1_power, .static yX1_power, .code yX1_power cX1_power 3 (some .int), .constantLong RX1 100 (8), .constantLong RX1 65 (2), .methodLink RX1 67 yX1_exact, .static yX1_exact, .code yX1_exact cX1_exact 7 (some .long), .constantLong RX1 27 (9007199254740992), .methodLink RX1 80 yX1_negative, .static yX1_negative, .code yX1_negative cX1_negative 2 (some .boolean), .methodLink RX1 93 yX1_signed, .static yX1_signed, .code yX1_signed cX1_signed 3 (some .long), .constantLong RX1 15 (-9223372036854775808)]
def wsX1_left : List Cond := .code yX1_left cX1_left 9 (some .boolean) :: ((wsX1_left_r1 ++ wsX1_left_r2) ++ wsX10)
def wsX1_quotient : List Cond := .code yX1_quotient cX1_quotient 1 (some .int) :: ([.fieldLink RX1 97 "BinaryFunctionsModel" "quotient" "I"] ++ wsX10)
def wsX1_place : List Cond := .code yX1_place cX1_place 2 (some .long) :: ([.methodLink RX1 80 yX1_negative, .static yX1_negative, .initialized RX1, .code yX1_negative cX1_negative 2 (some .boolean), .methodLink RX1 17 yX1_plain, .static yX1_plain, .code yX1_plain cX1_plain 2 (some .long), .constantLong RX1 13 (9223372036854775807)])
def wsX1_neighbour : List Cond := .code yX1_neighbour cX1_neighbour 14 (some .boolean) :: ([.methodLink RX1 29 yX1_isRegister, .static yX1_isRegister, .initialized RX1, .code yX1_isRegister cX1_isRegister 1 (some .boolean), .fieldLink RX1 7 "BinaryFunctionsModel" "register" "[J", .methodLink RX1 71 yX1_isNan, .static yX1_isNan, .code yX1_isNan cX1_isNan 2 (some .boolean), .methodLink RX1 17 yX1_plain, .static yX1_plain, .code yX1_plain cX1_plain 2 (some .long), .constantLong RX1 13 (9223372036854775807), .constantLong RX1 21 (9218868437227405312), .constantLong RX1 75 (9221120237041090560), .methodLink RX1 106 yX1_place, .static yX1_place, .code yX1_place cX1_place 2 (some .long), .methodLink RX1 80 yX1_negative, .static yX1_negative, .code yX1_negative cX1_negative 2 (some .boolean), .methodLink RX1 93 yX1_signed, .static yX1_signed, .code yX1_signed cX1_signed 3 (some .long), .constantLong RX1 15 (-9223372036854775808)] ++ wsX10)
def wsX1_rounded : List Cond := .code yX1_rounded cX1_rounded 14 (some .long) :: ([.constantLong RX1 25 (4503599627370496), .constantLong RX1 109 (971), .fieldLink RX1 61 "BinaryFunctionsModel" "flag" "I", .constantLong RX1 21 (9218868437227405312), .constantLong RX1 111 (-1074), .methodLink RX1 67 yX1_exact, .static yX1_exact, .initialized RX1, .code yX1_exact cX1_exact 7 (some .long), .constantLong RX1 27 (9007199254740992), .constantLong RX1 113 (54), .methodLink RX1 89 yX1_cut, .static yX1_cut, .code yX1_cut cX1_cut 12 (some .long), .constantLong RX1 65 (2)] ++ wsX10)
def wsX1_scale_r1 : List Cond := [.methodLink RX1 29 yX1_isRegister, .static yX1_isRegister, .initialized RX1, .code yX1_isRegister cX1_isRegister 1 (some .boolean), .fieldLink RX1 7 "BinaryFunctionsModel" "register" "[J", .methodLink RX1 71 yX1_isNan, .static yX1_isNan, .code yX1_isNan cX1_isNan 2 (some .boolean), .methodLink RX1 17 yX1_plain, .static yX1_plain, .code yX1_plain cX1_plain 2 (some .long), .constantLong RX1 13 (9223372036854775807), .constantLong RX1 21 (9218868437227405312), .constantLong RX1 75 (9221120237041090560), .methodLink RX1 86 yX1_isInfinite, .static yX1_isInfinite, .code yX1_isInfinite cX1_isInfinite 2 (some .boolean), .methodLink RX1 77 yX1_isZero, .static yX1_isZero, .code yX1_isZero cX1_isZero 2 (some .boolean), .methodLink RX1 48 yX1_number, .static yX1_number, .code yX1_number cX1_number 4 (some .long), .constantLong RX1 23 (4503599627370495)]
def wsX1_scale_r2 : List Cond := [.constantLong RX1 25 (4503599627370496), .methodLink RX1 51 yX1_power, .static yX1_power, .code yX1_power cX1_power 3 (some .int), .methodLink RX1 115 yX1_rounded, .instanceMethod yX1_rounded, .selects RX1 yX1_rounded yX1_rounded, .code yX1_rounded cX1_rounded 14 (some .long), .constantLong RX1 109 (971), .fieldLink RX1 61 "BinaryFunctionsModel" "flag" "I", .constantLong RX1 111 (-1074), .methodLink RX1 67 yX1_exact, .static yX1_exact, .code yX1_exact cX1_exact 7 (some .long), .constantLong RX1 27 (9007199254740992), .constantLong RX1 113 (54), .methodLink RX1 89 yX1_cut, .static yX1_cut, .code yX1_cut cX1_cut 12 (some .long), .constantLong RX1 65 (2), .methodLink RX1 80 yX1_negative, .static yX1_negative, .code yX1_negative cX1_negative 2 (some .boolean), .methodLink RX1 93 yX1_signed]
def wsX1_scale_r3 : List Cond := [.static yX1_signed, .code yX1_signed cX1_signed 3 (some .long), .constantLong RX1 15 (-9223372036854775808)]
def wsX1_scale : List Cond := .code yX1_scale cX1_scale 6 (some .boolean) :: ((wsX1_scale_r1 ++ (wsX1_scale_r2 ++ wsX1_scale_r3)) ++ wsX10)
def wsX1_exponent : List Cond := .code yX1_exponent cX1_exponent 7 (some .int) :: ([.methodLink RX1 29 yX1_isRegister, .static yX1_isRegister, .initialized RX1, .code yX1_isRegister cX1_isRegister 1 (some .boolean), .fieldLink RX1 7 "BinaryFunctionsModel" "register" "[J", .methodLink RX1 77 yX1_isZero, .static yX1_isZero, .code yX1_isZero cX1_isZero 2 (some .boolean), .methodLink RX1 17 yX1_plain, .static yX1_plain, .code yX1_plain cX1_plain 2 (some .long), .constantLong RX1 13 (9223372036854775807), .constant RX1 119 (-2147483648), .constantLong RX1 21 (9218868437227405312), .constant RX1 120 (2147483647), .methodLink RX1 51 yX1_power, .static yX1_power, .code yX1_power cX1_power 3 (some .int), .methodLink RX1 48 yX1_number, .static yX1_number, .code yX1_number cX1_number 4 (some .long), .constantLong RX1 23 (4503599627370495), .constantLong RX1 25 (4503599627370496)] ++ wsX10)
def wsX1_compare : List Cond := .code yX1_compare cX1_compare 7 (some .int) :: ([.methodLink RX1 29 yX1_isRegister, .static yX1_isRegister, .initialized RX1, .code yX1_isRegister cX1_isRegister 1 (some .boolean), .fieldLink RX1 7 "BinaryFunctionsModel" "register" "[J", .methodLink RX1 71 yX1_isNan, .static yX1_isNan, .code yX1_isNan cX1_isNan 2 (some .boolean), .methodLink RX1 17 yX1_plain, .static yX1_plain, .code yX1_plain cX1_plain 2 (some .long), .constantLong RX1 13 (9223372036854775807), .constantLong RX1 21 (9218868437227405312), .methodLink RX1 106 yX1_place, .static yX1_place, .code yX1_place cX1_place 2 (some .long), .methodLink RX1 80 yX1_negative, .static yX1_negative, .code yX1_negative cX1_negative 2 (some .boolean)] ++ wsX10)
def wsX1_sort : List Cond := .code yX1_sort cX1_sort 5 (some .int) :: ([.methodLink RX1 29 yX1_isRegister, .static yX1_isRegister, .initialized RX1, .code yX1_isRegister cX1_isRegister 1 (some .boolean), .fieldLink RX1 7 "BinaryFunctionsModel" "register" "[J", .methodLink RX1 77 yX1_isZero, .static yX1_isZero, .code yX1_isZero cX1_isZero 2 (some .boolean), .methodLink RX1 17 yX1_plain, .static yX1_plain, .code yX1_plain cX1_plain 2 (some .long), .constantLong RX1 13 (9223372036854775807), .methodLink RX1 71 yX1_isNan, .static yX1_isNan, .code yX1_isNan cX1_isNan 2 (some .boolean), .constantLong RX1 21 (9218868437227405312), .methodLink RX1 86 yX1_isInfinite, .static yX1_isInfinite, .code yX1_isInfinite cX1_isInfinite 2 (some .boolean), .constantLong RX1 25 (4503599627370496), .methodLink RX1 80 yX1_negative, .static yX1_negative, .code yX1_negative cX1_negative 2 (some .boolean)] ++ wsX10)
def wsX1_flags : List Cond := .code yX1_flags cX1_flags 1 (some .int) :: ([.fieldLink RX1 61 "BinaryFunctionsModel" "flag" "I"] ++ wsX10)
def wsX1_clear : List Cond := .code yX1_clear cX1_clear 1 none :: ([.fieldLink RX1 61 "BinaryFunctionsModel" "flag" "I"] ++ wsX10)
theorem dX1_init_0 : decode cX1_init 0 = .ok (.aload_n 0, 1) := by decide +kernel
theorem dX1_init_1 : decode cX1_init 1 = .ok (.invokespecial 1, 3) := by decide +kernel
theorem dX1_init_4 : decode cX1_init 4 = .ok (.aload_n 0, 1) := by decide +kernel
theorem dX1_init_5 : decode cX1_init 5 = .ok (.bipush 8, 2) := by decide +kernel
theorem dX1_init_7 : decode cX1_init 7 = .ok (.newarray .long, 2) := by decide +kernel
theorem dX1_init_9 : decode cX1_init 9 = .ok (.putfield 7, 3) := by decide +kernel
theorem dX1_init_12 : decode cX1_init 12 = .ok (.return_, 1) := by decide +kernel
theorem dX1_isRegister_0 : decode cX1_isRegister 0 = .ok (.iload_n 0, 1) := by decide +kernel
theorem dX1_isRegister_1 : decode cX1_isRegister 1 = .ok (.ifCond .lt 13, 3) := by decide +kernel
theorem dX1_isRegister_4 : decode cX1_isRegister 4 = .ok (.iload_n 0, 1) := by decide +kernel
theorem dX1_isRegister_5 : decode cX1_isRegister 5 = .ok (.bipush 7, 2) := by decide +kernel
theorem dX1_isRegister_7 : decode cX1_isRegister 7 = .ok (.if_icmp .gt 7, 3) := by decide +kernel
theorem dX1_isRegister_10 : decode cX1_isRegister 10 = .ok (.iconst 1, 1) := by decide +kernel
theorem dX1_isRegister_11 : decode cX1_isRegister 11 = .ok (.goto 4, 3) := by decide +kernel
theorem dX1_isRegister_14 : decode cX1_isRegister 14 = .ok (.iconst 0, 1) := by decide +kernel
theorem dX1_isRegister_15 : decode cX1_isRegister 15 = .ok (.ireturn, 1) := by decide +kernel
theorem dX1_negative_0 : decode cX1_negative 0 = .ok (.lload_n 0, 1) := by decide +kernel
theorem dX1_negative_1 : decode cX1_negative 1 = .ok (.lconst 0, 1) := by decide +kernel
theorem dX1_negative_2 : decode cX1_negative 2 = .ok (.lcmp, 1) := by decide +kernel
theorem dX1_negative_3 : decode cX1_negative 3 = .ok (.ifCond .ge 7, 3) := by decide +kernel
theorem dX1_negative_6 : decode cX1_negative 6 = .ok (.iconst 1, 1) := by decide +kernel
theorem dX1_negative_7 : decode cX1_negative 7 = .ok (.goto 4, 3) := by decide +kernel
theorem dX1_negative_10 : decode cX1_negative 10 = .ok (.iconst 0, 1) := by decide +kernel
theorem dX1_negative_11 : decode cX1_negative 11 = .ok (.ireturn, 1) := by decide +kernel
theorem dX1_plain_0 : decode cX1_plain 0 = .ok (.lload_n 0, 1) := by decide +kernel
theorem dX1_plain_1 : decode cX1_plain 1 = .ok (.ldc2_w 13, 3) := by decide +kernel
theorem dX1_plain_4 : decode cX1_plain 4 = .ok (.land, 1) := by decide +kernel
theorem dX1_plain_5 : decode cX1_plain 5 = .ok (.lreturn, 1) := by decide +kernel
theorem dX1_signed_0 : decode cX1_signed 0 = .ok (.iload_n 2, 1) := by decide +kernel
theorem dX1_signed_1 : decode cX1_signed 1 = .ok (.ifCond .eq 11, 3) := by decide +kernel
theorem dX1_signed_4 : decode cX1_signed 4 = .ok (.lload_n 0, 1) := by decide +kernel
theorem dX1_signed_5 : decode cX1_signed 5 = .ok (.ldc2_w 15, 3) := by decide +kernel
theorem dX1_signed_8 : decode cX1_signed 8 = .ok (.lor, 1) := by decide +kernel
theorem dX1_signed_9 : decode cX1_signed 9 = .ok (.goto 4, 3) := by decide +kernel
theorem dX1_signed_12 : decode cX1_signed 12 = .ok (.lload_n 0, 1) := by decide +kernel
theorem dX1_signed_13 : decode cX1_signed 13 = .ok (.lreturn, 1) := by decide +kernel
theorem dX1_isNan_0 : decode cX1_isNan 0 = .ok (.lload_n 0, 1) := by decide +kernel
theorem dX1_isNan_1 : decode cX1_isNan 1 = .ok (.invokestatic 17, 3) := by decide +kernel
theorem dX1_isNan_4 : decode cX1_isNan 4 = .ok (.ldc2_w 21, 3) := by decide +kernel
theorem dX1_isNan_7 : decode cX1_isNan 7 = .ok (.lcmp, 1) := by decide +kernel
theorem dX1_isNan_8 : decode cX1_isNan 8 = .ok (.ifCond .le 7, 3) := by decide +kernel
theorem dX1_isNan_11 : decode cX1_isNan 11 = .ok (.iconst 1, 1) := by decide +kernel
theorem dX1_isNan_12 : decode cX1_isNan 12 = .ok (.goto 4, 3) := by decide +kernel
theorem dX1_isNan_15 : decode cX1_isNan 15 = .ok (.iconst 0, 1) := by decide +kernel
theorem dX1_isNan_16 : decode cX1_isNan 16 = .ok (.ireturn, 1) := by decide +kernel
set_option maxRecDepth 20000 in
theorem ggX1_isNan_X1_plain : GoodIn wsX1_isNan wsX1_plain := goodIn_r _ [4, 5] (by decide +kernel) (by decide +kernel)
set_option maxRecDepth 20000 in
theorem gX1_isNan_X1_plain : GoodIn wsX1_isNan (va_wsS RX1 17 yX1_plain wsX1_plain) := goodIn_app (goodIn_of _ (by decide +kernel)) ggX1_isNan_X1_plain
theorem dX1_isInfinite_0 : decode cX1_isInfinite 0 = .ok (.lload_n 0, 1) := by decide +kernel
theorem dX1_isInfinite_1 : decode cX1_isInfinite 1 = .ok (.invokestatic 17, 3) := by decide +kernel
theorem dX1_isInfinite_4 : decode cX1_isInfinite 4 = .ok (.ldc2_w 21, 3) := by decide +kernel
theorem dX1_isInfinite_7 : decode cX1_isInfinite 7 = .ok (.lcmp, 1) := by decide +kernel
theorem dX1_isInfinite_8 : decode cX1_isInfinite 8 = .ok (.ifCond .ne 7, 3) := by decide +kernel
theorem dX1_isInfinite_11 : decode cX1_isInfinite 11 = .ok (.iconst 1, 1) := by decide +kernel
theorem dX1_isInfinite_12 : decode cX1_isInfinite 12 = .ok (.goto 4, 3) := by decide +kernel
theorem dX1_isInfinite_15 : decode cX1_isInfinite 15 = .ok (.iconst 0, 1) := by decide +kernel
theorem dX1_isInfinite_16 : decode cX1_isInfinite 16 = .ok (.ireturn, 1) := by decide +kernel
set_option maxRecDepth 20000 in
theorem ggX1_isInfinite_X1_plain : GoodIn wsX1_isInfinite wsX1_plain := goodIn_r _ [4, 5] (by decide +kernel) (by decide +kernel)
set_option maxRecDepth 20000 in
theorem gX1_isInfinite_X1_plain : GoodIn wsX1_isInfinite (va_wsS RX1 17 yX1_plain wsX1_plain) := goodIn_app (goodIn_of _ (by decide +kernel)) ggX1_isInfinite_X1_plain
theorem dX1_isZero_0 : decode cX1_isZero 0 = .ok (.lload_n 0, 1) := by decide +kernel
theorem dX1_isZero_1 : decode cX1_isZero 1 = .ok (.invokestatic 17, 3) := by decide +kernel
theorem dX1_isZero_4 : decode cX1_isZero 4 = .ok (.lconst 0, 1) := by decide +kernel
theorem dX1_isZero_5 : decode cX1_isZero 5 = .ok (.lcmp, 1) := by decide +kernel
theorem dX1_isZero_6 : decode cX1_isZero 6 = .ok (.ifCond .ne 7, 3) := by decide +kernel
theorem dX1_isZero_9 : decode cX1_isZero 9 = .ok (.iconst 1, 1) := by decide +kernel
theorem dX1_isZero_10 : decode cX1_isZero 10 = .ok (.goto 4, 3) := by decide +kernel
theorem dX1_isZero_13 : decode cX1_isZero 13 = .ok (.iconst 0, 1) := by decide +kernel
theorem dX1_isZero_14 : decode cX1_isZero 14 = .ok (.ireturn, 1) := by decide +kernel
set_option maxRecDepth 20000 in
theorem ggX1_isZero_X1_plain : GoodIn wsX1_isZero wsX1_plain := goodIn_r _ [4, 5] (by decide +kernel) (by decide +kernel)
set_option maxRecDepth 20000 in
theorem gX1_isZero_X1_plain : GoodIn wsX1_isZero (va_wsS RX1 17 yX1_plain wsX1_plain) := goodIn_app (goodIn_of _ (by decide +kernel)) ggX1_isZero_X1_plain
theorem dX1_number_0 : decode cX1_number 0 = .ok (.lload_n 0, 1) := by decide +kernel
theorem dX1_number_1 : decode cX1_number 1 = .ok (.ldc2_w 23, 3) := by decide +kernel
theorem dX1_number_4 : decode cX1_number 4 = .ok (.land, 1) := by decide +kernel
theorem dX1_number_5 : decode cX1_number 5 = .ok (.lstore_n 2, 1) := by decide +kernel
theorem dX1_number_6 : decode cX1_number 6 = .ok (.lload_n 0, 1) := by decide +kernel
theorem dX1_number_7 : decode cX1_number 7 = .ok (.invokestatic 17, 3) := by decide +kernel
theorem dX1_number_10 : decode cX1_number 10 = .ok (.ldc2_w 25, 3) := by decide +kernel
theorem dX1_number_13 : decode cX1_number 13 = .ok (.lcmp, 1) := by decide +kernel
theorem dX1_number_14 : decode cX1_number 14 = .ok (.ifCond .ge 7, 3) := by decide +kernel
theorem dX1_number_17 : decode cX1_number 17 = .ok (.lload_n 2, 1) := by decide +kernel
theorem dX1_number_18 : decode cX1_number 18 = .ok (.goto 8, 3) := by decide +kernel
theorem dX1_number_21 : decode cX1_number 21 = .ok (.lload_n 2, 1) := by decide +kernel
theorem dX1_number_22 : decode cX1_number 22 = .ok (.ldc2_w 25, 3) := by decide +kernel
theorem dX1_number_25 : decode cX1_number 25 = .ok (.ladd, 1) := by decide +kernel
theorem dX1_number_26 : decode cX1_number 26 = .ok (.lreturn, 1) := by decide +kernel
set_option maxRecDepth 20000 in
theorem ggX1_number_X1_plain : GoodIn wsX1_number wsX1_plain := goodIn_r _ [5, 6] (by decide +kernel) (by decide +kernel)
set_option maxRecDepth 20000 in
theorem gX1_number_X1_plain : GoodIn wsX1_number (va_wsS RX1 17 yX1_plain wsX1_plain) := goodIn_app (goodIn_of _ (by decide +kernel)) ggX1_number_X1_plain
theorem dX1_power_0 : decode cX1_power 0 = .ok (.lload_n 0, 1) := by decide +kernel
theorem dX1_power_1 : decode cX1_power 1 = .ok (.invokestatic 17, 3) := by decide +kernel
theorem dX1_power_4 : decode cX1_power 4 = .ok (.bipush 52, 2) := by decide +kernel
theorem dX1_power_6 : decode cX1_power 6 = .ok (.lshr, 1) := by decide +kernel
theorem dX1_power_7 : decode cX1_power 7 = .ok (.l2i, 1) := by decide +kernel
theorem dX1_power_8 : decode cX1_power 8 = .ok (.istore_n 2, 1) := by decide +kernel
theorem dX1_power_9 : decode cX1_power 9 = .ok (.iload_n 2, 1) := by decide +kernel
theorem dX1_power_10 : decode cX1_power 10 = .ok (.ifCond .ne 9, 3) := by decide +kernel
theorem dX1_power_13 : decode cX1_power 13 = .ok (.sipush (-1074), 3) := by decide +kernel
theorem dX1_power_16 : decode cX1_power 16 = .ok (.goto 8, 3) := by decide +kernel
theorem dX1_power_19 : decode cX1_power 19 = .ok (.iload_n 2, 1) := by decide +kernel
theorem dX1_power_20 : decode cX1_power 20 = .ok (.sipush 1075, 3) := by decide +kernel
theorem dX1_power_23 : decode cX1_power 23 = .ok (.isub, 1) := by decide +kernel
theorem dX1_power_24 : decode cX1_power 24 = .ok (.ireturn, 1) := by decide +kernel
set_option maxRecDepth 20000 in
theorem ggX1_power_X1_plain : GoodIn wsX1_power wsX1_plain := goodIn_r _ [4, 5] (by decide +kernel) (by decide +kernel)
set_option maxRecDepth 20000 in
theorem gX1_power_X1_plain : GoodIn wsX1_power (va_wsS RX1 17 yX1_plain wsX1_plain) := goodIn_app (goodIn_of _ (by decide +kernel)) ggX1_power_X1_plain
theorem dX1_exact_0 : decode cX1_exact 0 = .ok (.lload_n 0, 1) := by decide +kernel
theorem dX1_exact_1 : decode cX1_exact 1 = .ok (.lstore_n 3, 1) := by decide +kernel
theorem dX1_exact_2 : decode cX1_exact 2 = .ok (.iload_n 2, 1) := by decide +kernel
theorem dX1_exact_3 : decode cX1_exact 3 = .ok (.istore 5, 2) := by decide +kernel
theorem dX1_exact_5 : decode cX1_exact 5 = .ok (.lload_n 3, 1) := by decide +kernel
theorem dX1_exact_6 : decode cX1_exact 6 = .ok (.lconst 0, 1) := by decide +kernel
theorem dX1_exact_7 : decode cX1_exact 7 = .ok (.lcmp, 1) := by decide +kernel
theorem dX1_exact_8 : decode cX1_exact 8 = .ok (.ifCond .ne 5, 3) := by decide +kernel
theorem dX1_exact_11 : decode cX1_exact 11 = .ok (.lconst 0, 1) := by decide +kernel
theorem dX1_exact_12 : decode cX1_exact 12 = .ok (.lreturn, 1) := by decide +kernel
theorem dX1_exact_13 : decode cX1_exact 13 = .ok (.iconst 0, 1) := by decide +kernel
theorem dX1_exact_14 : decode cX1_exact 14 = .ok (.istore 6, 2) := by decide +kernel
theorem dX1_exact_16 : decode cX1_exact 16 = .ok (.iload 6, 2) := by decide +kernel
theorem dX1_exact_18 : decode cX1_exact 18 = .ok (.sipush 2200, 3) := by decide +kernel
theorem dX1_exact_21 : decode cX1_exact 21 = .ok (.if_icmp .ge 32, 3) := by decide +kernel
theorem dX1_exact_24 : decode cX1_exact 24 = .ok (.lload_n 3, 1) := by decide +kernel
theorem dX1_exact_25 : decode cX1_exact 25 = .ok (.ldc2_w 27, 3) := by decide +kernel
theorem dX1_exact_28 : decode cX1_exact 28 = .ok (.lcmp, 1) := by decide +kernel
theorem dX1_exact_29 : decode cX1_exact 29 = .ok (.ifCond .ge 11, 3) := by decide +kernel
theorem dX1_exact_32 : decode cX1_exact 32 = .ok (.iload 5, 2) := by decide +kernel
theorem dX1_exact_34 : decode cX1_exact 34 = .ok (.sipush (-1074), 3) := by decide +kernel
theorem dX1_exact_37 : decode cX1_exact 37 = .ok (.if_icmp .ge 16, 3) := by decide +kernel
theorem dX1_exact_40 : decode cX1_exact 40 = .ok (.lload_n 3, 1) := by decide +kernel
theorem dX1_exact_41 : decode cX1_exact 41 = .ok (.iconst 1, 1) := by decide +kernel
theorem dX1_exact_42 : decode cX1_exact 42 = .ok (.lshr, 1) := by decide +kernel
theorem dX1_exact_43 : decode cX1_exact 43 = .ok (.lstore_n 3, 1) := by decide +kernel
theorem dX1_exact_44 : decode cX1_exact 44 = .ok (.iinc 5 1, 3) := by decide +kernel
theorem dX1_exact_47 : decode cX1_exact 47 = .ok (.iinc 6 1, 3) := by decide +kernel
theorem dX1_exact_50 : decode cX1_exact 50 = .ok (.goto (-34), 3) := by decide +kernel
theorem dX1_exact_53 : decode cX1_exact 53 = .ok (.iconst 0, 1) := by decide +kernel
theorem dX1_exact_54 : decode cX1_exact 54 = .ok (.istore 6, 2) := by decide +kernel
theorem dX1_exact_56 : decode cX1_exact 56 = .ok (.iload 6, 2) := by decide +kernel
theorem dX1_exact_58 : decode cX1_exact 58 = .ok (.sipush 2200, 3) := by decide +kernel
theorem dX1_exact_61 : decode cX1_exact 61 = .ok (.if_icmp .ge 32, 3) := by decide +kernel
theorem dX1_exact_64 : decode cX1_exact 64 = .ok (.lload_n 3, 1) := by decide +kernel
theorem dX1_exact_65 : decode cX1_exact 65 = .ok (.ldc2_w 25, 3) := by decide +kernel
theorem dX1_exact_68 : decode cX1_exact 68 = .ok (.lcmp, 1) := by decide +kernel
theorem dX1_exact_69 : decode cX1_exact 69 = .ok (.ifCond .ge 24, 3) := by decide +kernel
theorem dX1_exact_72 : decode cX1_exact 72 = .ok (.iload 5, 2) := by decide +kernel
theorem dX1_exact_74 : decode cX1_exact 74 = .ok (.sipush (-1074), 3) := by decide +kernel
theorem dX1_exact_77 : decode cX1_exact 77 = .ok (.if_icmp .le 16, 3) := by decide +kernel
theorem dX1_exact_80 : decode cX1_exact 80 = .ok (.lload_n 3, 1) := by decide +kernel
theorem dX1_exact_81 : decode cX1_exact 81 = .ok (.iconst 1, 1) := by decide +kernel
theorem dX1_exact_82 : decode cX1_exact 82 = .ok (.lshl, 1) := by decide +kernel
theorem dX1_exact_83 : decode cX1_exact 83 = .ok (.lstore_n 3, 1) := by decide +kernel
theorem dX1_exact_84 : decode cX1_exact 84 = .ok (.iinc 5 (-1), 3) := by decide +kernel
theorem dX1_exact_87 : decode cX1_exact 87 = .ok (.iinc 6 1, 3) := by decide +kernel
theorem dX1_exact_90 : decode cX1_exact 90 = .ok (.goto (-34), 3) := by decide +kernel
theorem dX1_exact_93 : decode cX1_exact 93 = .ok (.lload_n 3, 1) := by decide +kernel
theorem dX1_exact_94 : decode cX1_exact 94 = .ok (.ldc2_w 25, 3) := by decide +kernel
theorem dX1_exact_97 : decode cX1_exact 97 = .ok (.lcmp, 1) := by decide +kernel
theorem dX1_exact_98 : decode cX1_exact 98 = .ok (.ifCond .ge 7, 3) := by decide +kernel
theorem dX1_exact_101 : decode cX1_exact 101 = .ok (.lload_n 3, 1) := by decide +kernel
theorem dX1_exact_102 : decode cX1_exact 102 = .ok (.goto 19, 3) := by decide +kernel
theorem dX1_exact_105 : decode cX1_exact 105 = .ok (.lload_n 3, 1) := by decide +kernel
theorem dX1_exact_106 : decode cX1_exact 106 = .ok (.ldc2_w 25, 3) := by decide +kernel
theorem dX1_exact_109 : decode cX1_exact 109 = .ok (.lsub, 1) := by decide +kernel
theorem dX1_exact_110 : decode cX1_exact 110 = .ok (.iload 5, 2) := by decide +kernel
theorem dX1_exact_112 : decode cX1_exact 112 = .ok (.sipush 1075, 3) := by decide +kernel
theorem dX1_exact_115 : decode cX1_exact 115 = .ok (.iadd, 1) := by decide +kernel
theorem dX1_exact_116 : decode cX1_exact 116 = .ok (.i2l, 1) := by decide +kernel
theorem dX1_exact_117 : decode cX1_exact 117 = .ok (.bipush 52, 2) := by decide +kernel
theorem dX1_exact_119 : decode cX1_exact 119 = .ok (.lshl, 1) := by decide +kernel
theorem dX1_exact_120 : decode cX1_exact 120 = .ok (.ladd, 1) := by decide +kernel
theorem dX1_exact_121 : decode cX1_exact 121 = .ok (.lreturn, 1) := by decide +kernel
theorem dX1_load_0 : decode cX1_load 0 = .ok (.iload_n 1, 1) := by decide +kernel
theorem dX1_load_1 : decode cX1_load 1 = .ok (.invokestatic 29, 3) := by decide +kernel
theorem dX1_load_4 : decode cX1_load 4 = .ok (.ifCond .ne 5, 3) := by decide +kernel
theorem dX1_load_7 : decode cX1_load 7 = .ok (.iconst 0, 1) := by decide +kernel
theorem dX1_load_8 : decode cX1_load 8 = .ok (.ireturn, 1) := by decide +kernel
theorem dX1_load_9 : decode cX1_load 9 = .ok (.aload_n 0, 1) := by decide +kernel
theorem dX1_load_10 : decode cX1_load 10 = .ok (.getfield 7, 3) := by decide +kernel
theorem dX1_load_13 : decode cX1_load 13 = .ok (.iload_n 1, 1) := by decide +kernel
theorem dX1_load_14 : decode cX1_load 14 = .ok (.lload_n 2, 1) := by decide +kernel
theorem dX1_load_15 : decode cX1_load 15 = .ok (.lastore, 1) := by decide +kernel
theorem dX1_load_16 : decode cX1_load 16 = .ok (.iconst 1, 1) := by decide +kernel
theorem dX1_load_17 : decode cX1_load 17 = .ok (.ireturn, 1) := by decide +kernel
set_option maxRecDepth 20000 in
theorem ggX1_load_X1_isRegister : GoodIn wsX1_load wsX1_isRegister := goodIn_r _ [4] (by decide +kernel) (by decide +kernel)
set_option maxRecDepth 20000 in
theorem gX1_load_X1_isRegister : GoodIn wsX1_load (va_wsS RX1 29 yX1_isRegister wsX1_isRegister) := goodIn_app (goodIn_of _ (by decide +kernel)) ggX1_load_X1_isRegister
theorem dX1_bits_0 : decode cX1_bits 0 = .ok (.iload_n 1, 1) := by decide +kernel
theorem dX1_bits_1 : decode cX1_bits 1 = .ok (.invokestatic 29, 3) := by decide +kernel
theorem dX1_bits_4 : decode cX1_bits 4 = .ok (.ifCond .eq 12, 3) := by decide +kernel
theorem dX1_bits_7 : decode cX1_bits 7 = .ok (.aload_n 0, 1) := by decide +kernel
theorem dX1_bits_8 : decode cX1_bits 8 = .ok (.getfield 7, 3) := by decide +kernel
theorem dX1_bits_11 : decode cX1_bits 11 = .ok (.iload_n 1, 1) := by decide +kernel
theorem dX1_bits_12 : decode cX1_bits 12 = .ok (.laload, 1) := by decide +kernel
theorem dX1_bits_13 : decode cX1_bits 13 = .ok (.goto 4, 3) := by decide +kernel
theorem dX1_bits_16 : decode cX1_bits 16 = .ok (.lconst 0, 1) := by decide +kernel
theorem dX1_bits_17 : decode cX1_bits 17 = .ok (.lreturn, 1) := by decide +kernel
set_option maxRecDepth 20000 in
theorem ggX1_bits_X1_isRegister : GoodIn wsX1_bits wsX1_isRegister := goodIn_r _ [4] (by decide +kernel) (by decide +kernel)
set_option maxRecDepth 20000 in
theorem gX1_bits_X1_isRegister : GoodIn wsX1_bits (va_wsS RX1 29 yX1_isRegister wsX1_isRegister) := goodIn_app (goodIn_of _ (by decide +kernel)) ggX1_bits_X1_isRegister
theorem dX1_multiply_0 : decode cX1_multiply 0 = .ok (.lload_n 1, 1) := by decide +kernel
theorem dX1_multiply_1 : decode cX1_multiply 1 = .ok (.bipush 27, 2) := by decide +kernel
theorem dX1_multiply_3 : decode cX1_multiply 3 = .ok (.lshr, 1) := by decide +kernel
theorem dX1_multiply_4 : decode cX1_multiply 4 = .ok (.lstore 5, 2) := by decide +kernel
theorem dX1_multiply_6 : decode cX1_multiply 6 = .ok (.lload_n 1, 1) := by decide +kernel
theorem dX1_multiply_7 : decode cX1_multiply 7 = .ok (.ldc2_w 33, 3) := by decide +kernel
theorem dX1_multiply_10 : decode cX1_multiply 10 = .ok (.land, 1) := by decide +kernel
theorem dX1_multiply_11 : decode cX1_multiply 11 = .ok (.lstore 7, 2) := by decide +kernel
theorem dX1_multiply_13 : decode cX1_multiply 13 = .ok (.lload_n 3, 1) := by decide +kernel
theorem dX1_multiply_14 : decode cX1_multiply 14 = .ok (.bipush 27, 2) := by decide +kernel
theorem dX1_multiply_16 : decode cX1_multiply 16 = .ok (.lshr, 1) := by decide +kernel
theorem dX1_multiply_17 : decode cX1_multiply 17 = .ok (.lstore 9, 2) := by decide +kernel
theorem dX1_multiply_19 : decode cX1_multiply 19 = .ok (.lload_n 3, 1) := by decide +kernel
theorem dX1_multiply_20 : decode cX1_multiply 20 = .ok (.ldc2_w 33, 3) := by decide +kernel
theorem dX1_multiply_23 : decode cX1_multiply 23 = .ok (.land, 1) := by decide +kernel
theorem dX1_multiply_24 : decode cX1_multiply 24 = .ok (.lstore 11, 2) := by decide +kernel
theorem dX1_multiply_26 : decode cX1_multiply 26 = .ok (.lload 5, 2) := by decide +kernel
theorem dX1_multiply_28 : decode cX1_multiply 28 = .ok (.lload 11, 2) := by decide +kernel
theorem dX1_multiply_30 : decode cX1_multiply 30 = .ok (.lmul, 1) := by decide +kernel
theorem dX1_multiply_31 : decode cX1_multiply 31 = .ok (.lload 7, 2) := by decide +kernel
theorem dX1_multiply_33 : decode cX1_multiply 33 = .ok (.lload 9, 2) := by decide +kernel
theorem dX1_multiply_35 : decode cX1_multiply 35 = .ok (.lmul, 1) := by decide +kernel
theorem dX1_multiply_36 : decode cX1_multiply 36 = .ok (.ladd, 1) := by decide +kernel
theorem dX1_multiply_37 : decode cX1_multiply 37 = .ok (.lstore 13, 2) := by decide +kernel
theorem dX1_multiply_39 : decode cX1_multiply 39 = .ok (.lload 7, 2) := by decide +kernel
theorem dX1_multiply_41 : decode cX1_multiply 41 = .ok (.lload 11, 2) := by decide +kernel
theorem dX1_multiply_43 : decode cX1_multiply 43 = .ok (.lmul, 1) := by decide +kernel
theorem dX1_multiply_44 : decode cX1_multiply 44 = .ok (.lload 13, 2) := by decide +kernel
theorem dX1_multiply_46 : decode cX1_multiply 46 = .ok (.ldc2_w 33, 3) := by decide +kernel
theorem dX1_multiply_49 : decode cX1_multiply 49 = .ok (.land, 1) := by decide +kernel
theorem dX1_multiply_50 : decode cX1_multiply 50 = .ok (.bipush 27, 2) := by decide +kernel
theorem dX1_multiply_52 : decode cX1_multiply 52 = .ok (.lshl, 1) := by decide +kernel
theorem dX1_multiply_53 : decode cX1_multiply 53 = .ok (.ladd, 1) := by decide +kernel
theorem dX1_multiply_54 : decode cX1_multiply 54 = .ok (.lstore 15, 2) := by decide +kernel
theorem dX1_multiply_56 : decode cX1_multiply 56 = .ok (.aload_n 0, 1) := by decide +kernel
theorem dX1_multiply_57 : decode cX1_multiply 57 = .ok (.lload 15, 2) := by decide +kernel
theorem dX1_multiply_59 : decode cX1_multiply 59 = .ok (.ldc2_w 35, 3) := by decide +kernel
theorem dX1_multiply_62 : decode cX1_multiply 62 = .ok (.land, 1) := by decide +kernel
theorem dX1_multiply_63 : decode cX1_multiply 63 = .ok (.putfield 37, 3) := by decide +kernel
theorem dX1_multiply_66 : decode cX1_multiply 66 = .ok (.aload_n 0, 1) := by decide +kernel
theorem dX1_multiply_67 : decode cX1_multiply 67 = .ok (.lload 5, 2) := by decide +kernel
theorem dX1_multiply_69 : decode cX1_multiply 69 = .ok (.lload 9, 2) := by decide +kernel
theorem dX1_multiply_71 : decode cX1_multiply 71 = .ok (.lmul, 1) := by decide +kernel
theorem dX1_multiply_72 : decode cX1_multiply 72 = .ok (.lload 13, 2) := by decide +kernel
theorem dX1_multiply_74 : decode cX1_multiply 74 = .ok (.bipush 27, 2) := by decide +kernel
theorem dX1_multiply_76 : decode cX1_multiply 76 = .ok (.lshr, 1) := by decide +kernel
theorem dX1_multiply_77 : decode cX1_multiply 77 = .ok (.ladd, 1) := by decide +kernel
theorem dX1_multiply_78 : decode cX1_multiply 78 = .ok (.lload 15, 2) := by decide +kernel
theorem dX1_multiply_80 : decode cX1_multiply 80 = .ok (.bipush 54, 2) := by decide +kernel
theorem dX1_multiply_82 : decode cX1_multiply 82 = .ok (.lshr, 1) := by decide +kernel
theorem dX1_multiply_83 : decode cX1_multiply 83 = .ok (.ladd, 1) := by decide +kernel
theorem dX1_multiply_84 : decode cX1_multiply 84 = .ok (.putfield 41, 3) := by decide +kernel
theorem dX1_multiply_87 : decode cX1_multiply 87 = .ok (.return_, 1) := by decide +kernel
theorem dX1_squareFits_0 : decode cX1_squareFits 0 = .ok (.aload_n 0, 1) := by decide +kernel
theorem dX1_squareFits_1 : decode cX1_squareFits 1 = .ok (.lload_n 1, 1) := by decide +kernel
theorem dX1_squareFits_2 : decode cX1_squareFits 2 = .ok (.lload_n 1, 1) := by decide +kernel
theorem dX1_squareFits_3 : decode cX1_squareFits 3 = .ok (.invokevirtual 44, 3) := by decide +kernel
theorem dX1_squareFits_6 : decode cX1_squareFits 6 = .ok (.aload_n 0, 1) := by decide +kernel
theorem dX1_squareFits_7 : decode cX1_squareFits 7 = .ok (.getfield 41, 3) := by decide +kernel
theorem dX1_squareFits_10 : decode cX1_squareFits 10 = .ok (.lload_n 3, 1) := by decide +kernel
theorem dX1_squareFits_11 : decode cX1_squareFits 11 = .ok (.lcmp, 1) := by decide +kernel
theorem dX1_squareFits_12 : decode cX1_squareFits 12 = .ok (.ifCond .lt 22, 3) := by decide +kernel
theorem dX1_squareFits_15 : decode cX1_squareFits 15 = .ok (.aload_n 0, 1) := by decide +kernel
theorem dX1_squareFits_16 : decode cX1_squareFits 16 = .ok (.getfield 41, 3) := by decide +kernel
theorem dX1_squareFits_19 : decode cX1_squareFits 19 = .ok (.lload_n 3, 1) := by decide +kernel
theorem dX1_squareFits_20 : decode cX1_squareFits 20 = .ok (.lcmp, 1) := by decide +kernel
theorem dX1_squareFits_21 : decode cX1_squareFits 21 = .ok (.ifCond .ne 17, 3) := by decide +kernel
theorem dX1_squareFits_24 : decode cX1_squareFits 24 = .ok (.aload_n 0, 1) := by decide +kernel
theorem dX1_squareFits_25 : decode cX1_squareFits 25 = .ok (.getfield 37, 3) := by decide +kernel
theorem dX1_squareFits_28 : decode cX1_squareFits 28 = .ok (.lload 5, 2) := by decide +kernel
theorem dX1_squareFits_30 : decode cX1_squareFits 30 = .ok (.lcmp, 1) := by decide +kernel
theorem dX1_squareFits_31 : decode cX1_squareFits 31 = .ok (.ifCond .gt 7, 3) := by decide +kernel
theorem dX1_squareFits_34 : decode cX1_squareFits 34 = .ok (.iconst 1, 1) := by decide +kernel
theorem dX1_squareFits_35 : decode cX1_squareFits 35 = .ok (.goto 4, 3) := by decide +kernel
theorem dX1_squareFits_38 : decode cX1_squareFits 38 = .ok (.iconst 0, 1) := by decide +kernel
theorem dX1_squareFits_39 : decode cX1_squareFits 39 = .ok (.ireturn, 1) := by decide +kernel
set_option maxRecDepth 20000 in
theorem ggX1_squareFits_X1_multiply : GoodIn wsX1_squareFits wsX1_multiply := goodIn_r _ [5, 6, 7, 8, 9, 10, 11, 12, 13, 14] (by decide +kernel) (by decide +kernel)
set_option maxRecDepth 20000 in
theorem gX1_squareFits_X1_multiply : GoodIn wsX1_squareFits (wsV RX1 44 RX1 yX1_multiply wsX1_multiply) := goodIn_app (goodIn_of _ (by decide +kernel)) ggX1_squareFits_X1_multiply
theorem dX1_root_0 : decode cX1_root 0 = .ok (.lload_n 1, 1) := by decide +kernel
theorem dX1_root_1 : decode cX1_root 1 = .ok (.invokestatic 48, 3) := by decide +kernel
theorem dX1_root_4 : decode cX1_root 4 = .ok (.lstore_n 3, 1) := by decide +kernel
theorem dX1_root_5 : decode cX1_root 5 = .ok (.lload_n 1, 1) := by decide +kernel
theorem dX1_root_6 : decode cX1_root 6 = .ok (.invokestatic 51, 3) := by decide +kernel
theorem dX1_root_9 : decode cX1_root 9 = .ok (.istore 5, 2) := by decide +kernel
theorem dX1_root_11 : decode cX1_root 11 = .ok (.iconst 0, 1) := by decide +kernel
theorem dX1_root_12 : decode cX1_root 12 = .ok (.istore 6, 2) := by decide +kernel
theorem dX1_root_14 : decode cX1_root 14 = .ok (.iload 6, 2) := by decide +kernel
theorem dX1_root_16 : decode cX1_root 16 = .ok (.bipush 60, 2) := by decide +kernel
theorem dX1_root_18 : decode cX1_root 18 = .ok (.if_icmp .ge 31, 3) := by decide +kernel
theorem dX1_root_21 : decode cX1_root 21 = .ok (.lload_n 3, 1) := by decide +kernel
theorem dX1_root_22 : decode cX1_root 22 = .ok (.ldc2_w 25, 3) := by decide +kernel
theorem dX1_root_25 : decode cX1_root 25 = .ok (.lcmp, 1) := by decide +kernel
theorem dX1_root_26 : decode cX1_root 26 = .ok (.ifCond .lt 10, 3) := by decide +kernel
theorem dX1_root_29 : decode cX1_root 29 = .ok (.iload 5, 2) := by decide +kernel
theorem dX1_root_31 : decode cX1_root 31 = .ok (.iconst 2, 1) := by decide +kernel
theorem dX1_root_32 : decode cX1_root 32 = .ok (.irem, 1) := by decide +kernel
theorem dX1_root_33 : decode cX1_root 33 = .ok (.ifCond .eq 16, 3) := by decide +kernel
theorem dX1_root_36 : decode cX1_root 36 = .ok (.lload_n 3, 1) := by decide +kernel
theorem dX1_root_37 : decode cX1_root 37 = .ok (.iconst 1, 1) := by decide +kernel
theorem dX1_root_38 : decode cX1_root 38 = .ok (.lshl, 1) := by decide +kernel
theorem dX1_root_39 : decode cX1_root 39 = .ok (.lstore_n 3, 1) := by decide +kernel
theorem dX1_root_40 : decode cX1_root 40 = .ok (.iinc 5 (-1), 3) := by decide +kernel
theorem dX1_root_43 : decode cX1_root 43 = .ok (.iinc 6 1, 3) := by decide +kernel
theorem dX1_root_46 : decode cX1_root 46 = .ok (.goto (-32), 3) := by decide +kernel
theorem dX1_root_49 : decode cX1_root 49 = .ok (.lload_n 3, 1) := by decide +kernel
theorem dX1_root_50 : decode cX1_root 50 = .ok (.iconst 2, 1) := by decide +kernel
theorem dX1_root_51 : decode cX1_root 51 = .ok (.lshr, 1) := by decide +kernel
theorem dX1_root_52 : decode cX1_root 52 = .ok (.lstore 6, 2) := by decide +kernel
theorem dX1_root_54 : decode cX1_root 54 = .ok (.lload_n 3, 1) := by decide +kernel
theorem dX1_root_55 : decode cX1_root 55 = .ok (.ldc2_w 55, 3) := by decide +kernel
theorem dX1_root_58 : decode cX1_root 58 = .ok (.land, 1) := by decide +kernel
theorem dX1_root_59 : decode cX1_root 59 = .ok (.bipush 52, 2) := by decide +kernel
theorem dX1_root_61 : decode cX1_root 61 = .ok (.lshl, 1) := by decide +kernel
theorem dX1_root_62 : decode cX1_root 62 = .ok (.lstore 8, 2) := by decide +kernel
theorem dX1_root_64 : decode cX1_root 64 = .ok (.ldc2_w 25, 3) := by decide +kernel
theorem dX1_root_67 : decode cX1_root 67 = .ok (.lstore 10, 2) := by decide +kernel
theorem dX1_root_69 : decode cX1_root 69 = .ok (.ldc2_w 27, 3) := by decide +kernel
theorem dX1_root_72 : decode cX1_root 72 = .ok (.lstore 12, 2) := by decide +kernel
theorem dX1_root_74 : decode cX1_root 74 = .ok (.iconst 0, 1) := by decide +kernel
theorem dX1_root_75 : decode cX1_root 75 = .ok (.istore 14, 2) := by decide +kernel
theorem dX1_root_77 : decode cX1_root 77 = .ok (.iload 14, 2) := by decide +kernel
theorem dX1_root_79 : decode cX1_root 79 = .ok (.bipush 60, 2) := by decide +kernel
theorem dX1_root_81 : decode cX1_root 81 = .ok (.if_icmp .ge 52, 3) := by decide +kernel
theorem dX1_root_84 : decode cX1_root 84 = .ok (.lload 12, 2) := by decide +kernel
theorem dX1_root_86 : decode cX1_root 86 = .ok (.lload 10, 2) := by decide +kernel
theorem dX1_root_88 : decode cX1_root 88 = .ok (.lsub, 1) := by decide +kernel
theorem dX1_root_89 : decode cX1_root 89 = .ok (.lconst 1, 1) := by decide +kernel
theorem dX1_root_90 : decode cX1_root 90 = .ok (.lcmp, 1) := by decide +kernel
theorem dX1_root_91 : decode cX1_root 91 = .ok (.ifCond .le 42, 3) := by decide +kernel
theorem dX1_root_94 : decode cX1_root 94 = .ok (.lload 10, 2) := by decide +kernel
theorem dX1_root_96 : decode cX1_root 96 = .ok (.lload 12, 2) := by decide +kernel
theorem dX1_root_98 : decode cX1_root 98 = .ok (.ladd, 1) := by decide +kernel
theorem dX1_root_99 : decode cX1_root 99 = .ok (.iconst 1, 1) := by decide +kernel
theorem dX1_root_100 : decode cX1_root 100 = .ok (.lshr, 1) := by decide +kernel
theorem dX1_root_101 : decode cX1_root 101 = .ok (.lstore 15, 2) := by decide +kernel
theorem dX1_root_103 : decode cX1_root 103 = .ok (.aload_n 0, 1) := by decide +kernel
theorem dX1_root_104 : decode cX1_root 104 = .ok (.lload 15, 2) := by decide +kernel
theorem dX1_root_106 : decode cX1_root 106 = .ok (.lload 6, 2) := by decide +kernel
theorem dX1_root_108 : decode cX1_root 108 = .ok (.lload 8, 2) := by decide +kernel
theorem dX1_root_110 : decode cX1_root 110 = .ok (.invokevirtual 57, 3) := by decide +kernel
theorem dX1_root_113 : decode cX1_root 113 = .ok (.ifCond .eq 10, 3) := by decide +kernel
theorem dX1_root_116 : decode cX1_root 116 = .ok (.lload 15, 2) := by decide +kernel
theorem dX1_root_118 : decode cX1_root 118 = .ok (.lstore 10, 2) := by decide +kernel
theorem dX1_root_120 : decode cX1_root 120 = .ok (.goto 7, 3) := by decide +kernel
theorem dX1_root_123 : decode cX1_root 123 = .ok (.lload 15, 2) := by decide +kernel
theorem dX1_root_125 : decode cX1_root 125 = .ok (.lstore 12, 2) := by decide +kernel
theorem dX1_root_127 : decode cX1_root 127 = .ok (.iinc 14 1, 3) := by decide +kernel
theorem dX1_root_130 : decode cX1_root 130 = .ok (.goto (-53), 3) := by decide +kernel
theorem dX1_root_133 : decode cX1_root 133 = .ok (.aload_n 0, 1) := by decide +kernel
theorem dX1_root_134 : decode cX1_root 134 = .ok (.lload 10, 2) := by decide +kernel
theorem dX1_root_136 : decode cX1_root 136 = .ok (.lload 10, 2) := by decide +kernel
theorem dX1_root_138 : decode cX1_root 138 = .ok (.invokevirtual 44, 3) := by decide +kernel
theorem dX1_root_141 : decode cX1_root 141 = .ok (.aload_n 0, 1) := by decide +kernel
theorem dX1_root_142 : decode cX1_root 142 = .ok (.getfield 41, 3) := by decide +kernel
theorem dX1_root_145 : decode cX1_root 145 = .ok (.lload 6, 2) := by decide +kernel
theorem dX1_root_147 : decode cX1_root 147 = .ok (.lcmp, 1) := by decide +kernel
theorem dX1_root_148 : decode cX1_root 148 = .ok (.ifCond .ne 17, 3) := by decide +kernel
theorem dX1_root_151 : decode cX1_root 151 = .ok (.aload_n 0, 1) := by decide +kernel
theorem dX1_root_152 : decode cX1_root 152 = .ok (.getfield 37, 3) := by decide +kernel
theorem dX1_root_155 : decode cX1_root 155 = .ok (.lload 8, 2) := by decide +kernel
theorem dX1_root_157 : decode cX1_root 157 = .ok (.lcmp, 1) := by decide +kernel
theorem dX1_root_158 : decode cX1_root 158 = .ok (.ifCond .ne 7, 3) := by decide +kernel
theorem dX1_root_161 : decode cX1_root 161 = .ok (.iconst 1, 1) := by decide +kernel
theorem dX1_root_162 : decode cX1_root 162 = .ok (.goto 4, 3) := by decide +kernel
theorem dX1_root_165 : decode cX1_root 165 = .ok (.iconst 0, 1) := by decide +kernel
theorem dX1_root_166 : decode cX1_root 166 = .ok (.istore 14, 2) := by decide +kernel
theorem dX1_root_168 : decode cX1_root 168 = .ok (.aload_n 0, 1) := by decide +kernel
theorem dX1_root_169 : decode cX1_root 169 = .ok (.iload 14, 2) := by decide +kernel
theorem dX1_root_171 : decode cX1_root 171 = .ok (.ifCond .eq 10, 3) := by decide +kernel
theorem dX1_root_174 : decode cX1_root 174 = .ok (.aload_n 0, 1) := by decide +kernel
theorem dX1_root_175 : decode cX1_root 175 = .ok (.getfield 61, 3) := by decide +kernel
theorem dX1_root_178 : decode cX1_root 178 = .ok (.goto 9, 3) := by decide +kernel
theorem dX1_root_181 : decode cX1_root 181 = .ok (.aload_n 0, 1) := by decide +kernel
theorem dX1_root_182 : decode cX1_root 182 = .ok (.getfield 61, 3) := by decide +kernel
theorem dX1_root_185 : decode cX1_root 185 = .ok (.iconst 2, 1) := by decide +kernel
theorem dX1_root_186 : decode cX1_root 186 = .ok (.ior, 1) := by decide +kernel
theorem dX1_root_187 : decode cX1_root 187 = .ok (.putfield 61, 3) := by decide +kernel
theorem dX1_root_190 : decode cX1_root 190 = .ok (.lload_n 3, 1) := by decide +kernel
theorem dX1_root_191 : decode cX1_root 191 = .ok (.lstore 15, 2) := by decide +kernel
theorem dX1_root_193 : decode cX1_root 193 = .ok (.lconst 0, 1) := by decide +kernel
theorem dX1_root_194 : decode cX1_root 194 = .ok (.lstore 17, 2) := by decide +kernel
theorem dX1_root_196 : decode cX1_root 196 = .ok (.aload_n 0, 1) := by decide +kernel
theorem dX1_root_197 : decode cX1_root 197 = .ok (.ldc2_w 65, 3) := by decide +kernel
theorem dX1_root_200 : decode cX1_root 200 = .ok (.lload 10, 2) := by decide +kernel
theorem dX1_root_202 : decode cX1_root 202 = .ok (.lmul, 1) := by decide +kernel
theorem dX1_root_203 : decode cX1_root 203 = .ok (.lconst 1, 1) := by decide +kernel
theorem dX1_root_204 : decode cX1_root 204 = .ok (.ladd, 1) := by decide +kernel
theorem dX1_root_205 : decode cX1_root 205 = .ok (.lload 15, 2) := by decide +kernel
theorem dX1_root_207 : decode cX1_root 207 = .ok (.lload 17, 2) := by decide +kernel
theorem dX1_root_209 : decode cX1_root 209 = .ok (.invokevirtual 57, 3) := by decide +kernel
theorem dX1_root_212 : decode cX1_root 212 = .ok (.istore 19, 2) := by decide +kernel
theorem dX1_root_214 : decode cX1_root 214 = .ok (.iload 19, 2) := by decide +kernel
theorem dX1_root_216 : decode cX1_root 216 = .ok (.ifCond .eq 10, 3) := by decide +kernel
theorem dX1_root_219 : decode cX1_root 219 = .ok (.lload 10, 2) := by decide +kernel
theorem dX1_root_221 : decode cX1_root 221 = .ok (.lconst 1, 1) := by decide +kernel
theorem dX1_root_222 : decode cX1_root 222 = .ok (.ladd, 1) := by decide +kernel
theorem dX1_root_223 : decode cX1_root 223 = .ok (.goto 5, 3) := by decide +kernel
theorem dX1_root_226 : decode cX1_root 226 = .ok (.lload 10, 2) := by decide +kernel
theorem dX1_root_228 : decode cX1_root 228 = .ok (.iload 5, 2) := by decide +kernel
theorem dX1_root_230 : decode cX1_root 230 = .ok (.iconst 2, 1) := by decide +kernel
theorem dX1_root_231 : decode cX1_root 231 = .ok (.idiv, 1) := by decide +kernel
theorem dX1_root_232 : decode cX1_root 232 = .ok (.bipush 26, 2) := by decide +kernel
theorem dX1_root_234 : decode cX1_root 234 = .ok (.isub, 1) := by decide +kernel
theorem dX1_root_235 : decode cX1_root 235 = .ok (.invokestatic 67, 3) := by decide +kernel
theorem dX1_root_238 : decode cX1_root 238 = .ok (.lreturn, 1) := by decide +kernel
set_option maxRecDepth 20000 in
theorem ggX1_root_X1_number : GoodIn wsX1_root wsX1_number := goodIn_r _ [4, 5, 6, 7, 3, 8, 9, 10] (by decide +kernel) (by decide +kernel)
set_option maxRecDepth 20000 in
theorem gX1_root_X1_number : GoodIn wsX1_root (va_wsS RX1 48 yX1_number wsX1_number) := goodIn_app (goodIn_of _ (by decide +kernel)) ggX1_root_X1_number
set_option maxRecDepth 20000 in
theorem ggX1_root_X1_power : GoodIn wsX1_root wsX1_power := goodIn_r _ [13, 6, 7, 3, 8, 9] (by decide +kernel) (by decide +kernel)
set_option maxRecDepth 20000 in
theorem gX1_root_X1_power : GoodIn wsX1_root (va_wsS RX1 51 yX1_power wsX1_power) := goodIn_app (goodIn_of _ (by decide +kernel)) ggX1_root_X1_power
set_option maxRecDepth 20000 in
theorem ggX1_root_X1_squareFits : GoodIn wsX1_root wsX1_squareFits := goodIn_r _ [19, 20, 21, 22, 3, 23, 24, 25, 26, 27, 33, 34, 35, 36, 37] (by decide +kernel) (by decide +kernel)
set_option maxRecDepth 20000 in
theorem gX1_root_X1_squareFits : GoodIn wsX1_root (wsV RX1 57 RX1 yX1_squareFits wsX1_squareFits) := goodIn_app (goodIn_of _ (by decide +kernel)) ggX1_root_X1_squareFits
set_option maxRecDepth 20000 in
theorem ggX1_root_X1_multiply : GoodIn wsX1_root wsX1_multiply := goodIn_r _ [23, 24, 25, 26, 27, 33, 34, 35, 36, 37] (by decide +kernel) (by decide +kernel)
set_option maxRecDepth 20000 in
theorem gX1_root_X1_multiply : GoodIn wsX1_root (wsV RX1 44 RX1 yX1_multiply wsX1_multiply) := goodIn_app (goodIn_of _ (by decide +kernel)) ggX1_root_X1_multiply
set_option maxRecDepth 20000 in
theorem ggX1_root_X1_exact : GoodIn wsX1_root wsX1_exact := goodIn_r _ [32, 15, 10] (by decide +kernel) (by decide +kernel)
set_option maxRecDepth 20000 in
theorem gX1_root_X1_exact : GoodIn wsX1_root (va_wsS RX1 67 yX1_exact wsX1_exact) := goodIn_app (goodIn_of _ (by decide +kernel)) ggX1_root_X1_exact
theorem dX1_sqrt_0 : decode cX1_sqrt 0 = .ok (.iload_n 1, 1) := by decide +kernel
theorem dX1_sqrt_1 : decode cX1_sqrt 1 = .ok (.invokestatic 29, 3) := by decide +kernel
theorem dX1_sqrt_4 : decode cX1_sqrt 4 = .ok (.ifCond .eq 10, 3) := by decide +kernel
theorem dX1_sqrt_7 : decode cX1_sqrt 7 = .ok (.iload_n 2, 1) := by decide +kernel
theorem dX1_sqrt_8 : decode cX1_sqrt 8 = .ok (.invokestatic 29, 3) := by decide +kernel
theorem dX1_sqrt_11 : decode cX1_sqrt 11 = .ok (.ifCond .ne 5, 3) := by decide +kernel
theorem dX1_sqrt_14 : decode cX1_sqrt 14 = .ok (.iconst 0, 1) := by decide +kernel
theorem dX1_sqrt_15 : decode cX1_sqrt 15 = .ok (.ireturn, 1) := by decide +kernel
theorem dX1_sqrt_16 : decode cX1_sqrt 16 = .ok (.aload_n 0, 1) := by decide +kernel
theorem dX1_sqrt_17 : decode cX1_sqrt 17 = .ok (.getfield 7, 3) := by decide +kernel
theorem dX1_sqrt_20 : decode cX1_sqrt 20 = .ok (.iload_n 2, 1) := by decide +kernel
theorem dX1_sqrt_21 : decode cX1_sqrt 21 = .ok (.laload, 1) := by decide +kernel
theorem dX1_sqrt_22 : decode cX1_sqrt 22 = .ok (.lstore_n 3, 1) := by decide +kernel
theorem dX1_sqrt_23 : decode cX1_sqrt 23 = .ok (.lload_n 3, 1) := by decide +kernel
theorem dX1_sqrt_24 : decode cX1_sqrt 24 = .ok (.invokestatic 71, 3) := by decide +kernel
theorem dX1_sqrt_27 : decode cX1_sqrt 27 = .ok (.ifCond .eq 15, 3) := by decide +kernel
theorem dX1_sqrt_30 : decode cX1_sqrt 30 = .ok (.aload_n 0, 1) := by decide +kernel
theorem dX1_sqrt_31 : decode cX1_sqrt 31 = .ok (.getfield 7, 3) := by decide +kernel
theorem dX1_sqrt_34 : decode cX1_sqrt 34 = .ok (.iload_n 1, 1) := by decide +kernel
theorem dX1_sqrt_35 : decode cX1_sqrt 35 = .ok (.ldc2_w 75, 3) := by decide +kernel
theorem dX1_sqrt_38 : decode cX1_sqrt 38 = .ok (.lastore, 1) := by decide +kernel
theorem dX1_sqrt_39 : decode cX1_sqrt 39 = .ok (.goto 68, 3) := by decide +kernel
theorem dX1_sqrt_42 : decode cX1_sqrt 42 = .ok (.lload_n 3, 1) := by decide +kernel
theorem dX1_sqrt_43 : decode cX1_sqrt 43 = .ok (.invokestatic 77, 3) := by decide +kernel
theorem dX1_sqrt_46 : decode cX1_sqrt 46 = .ok (.ifCond .ne 11, 3) := by decide +kernel
theorem dX1_sqrt_49 : decode cX1_sqrt 49 = .ok (.lload_n 3, 1) := by decide +kernel
theorem dX1_sqrt_50 : decode cX1_sqrt 50 = .ok (.ldc2_w 21, 3) := by decide +kernel
theorem dX1_sqrt_53 : decode cX1_sqrt 53 = .ok (.lcmp, 1) := by decide +kernel
theorem dX1_sqrt_54 : decode cX1_sqrt 54 = .ok (.ifCond .ne 13, 3) := by decide +kernel
theorem dX1_sqrt_57 : decode cX1_sqrt 57 = .ok (.aload_n 0, 1) := by decide +kernel
theorem dX1_sqrt_58 : decode cX1_sqrt 58 = .ok (.getfield 7, 3) := by decide +kernel
theorem dX1_sqrt_61 : decode cX1_sqrt 61 = .ok (.iload_n 1, 1) := by decide +kernel
theorem dX1_sqrt_62 : decode cX1_sqrt 62 = .ok (.lload_n 3, 1) := by decide +kernel
theorem dX1_sqrt_63 : decode cX1_sqrt 63 = .ok (.lastore, 1) := by decide +kernel
theorem dX1_sqrt_64 : decode cX1_sqrt 64 = .ok (.goto 43, 3) := by decide +kernel
theorem dX1_sqrt_67 : decode cX1_sqrt 67 = .ok (.lload_n 3, 1) := by decide +kernel
theorem dX1_sqrt_68 : decode cX1_sqrt 68 = .ok (.invokestatic 80, 3) := by decide +kernel
theorem dX1_sqrt_71 : decode cX1_sqrt 71 = .ok (.ifCond .eq 25, 3) := by decide +kernel
theorem dX1_sqrt_74 : decode cX1_sqrt 74 = .ok (.aload_n 0, 1) := by decide +kernel
theorem dX1_sqrt_75 : decode cX1_sqrt 75 = .ok (.getfield 7, 3) := by decide +kernel
theorem dX1_sqrt_78 : decode cX1_sqrt 78 = .ok (.iload_n 1, 1) := by decide +kernel
theorem dX1_sqrt_79 : decode cX1_sqrt 79 = .ok (.ldc2_w 75, 3) := by decide +kernel
theorem dX1_sqrt_82 : decode cX1_sqrt 82 = .ok (.lastore, 1) := by decide +kernel
theorem dX1_sqrt_83 : decode cX1_sqrt 83 = .ok (.aload_n 0, 1) := by decide +kernel
theorem dX1_sqrt_84 : decode cX1_sqrt 84 = .ok (.aload_n 0, 1) := by decide +kernel
theorem dX1_sqrt_85 : decode cX1_sqrt 85 = .ok (.getfield 61, 3) := by decide +kernel
theorem dX1_sqrt_88 : decode cX1_sqrt 88 = .ok (.iconst 1, 1) := by decide +kernel
theorem dX1_sqrt_89 : decode cX1_sqrt 89 = .ok (.ior, 1) := by decide +kernel
theorem dX1_sqrt_90 : decode cX1_sqrt 90 = .ok (.putfield 61, 3) := by decide +kernel
theorem dX1_sqrt_93 : decode cX1_sqrt 93 = .ok (.goto 14, 3) := by decide +kernel
theorem dX1_sqrt_96 : decode cX1_sqrt 96 = .ok (.aload_n 0, 1) := by decide +kernel
theorem dX1_sqrt_97 : decode cX1_sqrt 97 = .ok (.getfield 7, 3) := by decide +kernel
theorem dX1_sqrt_100 : decode cX1_sqrt 100 = .ok (.iload_n 1, 1) := by decide +kernel
theorem dX1_sqrt_101 : decode cX1_sqrt 101 = .ok (.aload_n 0, 1) := by decide +kernel
theorem dX1_sqrt_102 : decode cX1_sqrt 102 = .ok (.lload_n 3, 1) := by decide +kernel
theorem dX1_sqrt_103 : decode cX1_sqrt 103 = .ok (.invokevirtual 83, 3) := by decide +kernel
theorem dX1_sqrt_106 : decode cX1_sqrt 106 = .ok (.lastore, 1) := by decide +kernel
theorem dX1_sqrt_107 : decode cX1_sqrt 107 = .ok (.iconst 1, 1) := by decide +kernel
theorem dX1_sqrt_108 : decode cX1_sqrt 108 = .ok (.ireturn, 1) := by decide +kernel
set_option maxRecDepth 20000 in
theorem ggX1_sqrt_X1_isRegister : GoodIn wsX1_sqrt wsX1_isRegister := goodIn_r _ [4] (by decide +kernel) (by decide +kernel)
set_option maxRecDepth 20000 in
theorem gX1_sqrt_X1_isRegister : GoodIn wsX1_sqrt (va_wsS RX1 29 yX1_isRegister wsX1_isRegister) := goodIn_app (goodIn_of _ (by decide +kernel)) ggX1_sqrt_X1_isRegister
set_option maxRecDepth 20000 in
theorem ggX1_sqrt_X1_isNan : GoodIn wsX1_sqrt wsX1_isNan := goodIn_r _ [8, 9, 10, 3, 11, 12, 13] (by decide +kernel) (by decide +kernel)
set_option maxRecDepth 20000 in
theorem gX1_sqrt_X1_isNan : GoodIn wsX1_sqrt (va_wsS RX1 71 yX1_isNan wsX1_isNan) := goodIn_app (goodIn_of _ (by decide +kernel)) ggX1_sqrt_X1_isNan
set_option maxRecDepth 20000 in
theorem ggX1_sqrt_X1_isZero : GoodIn wsX1_sqrt wsX1_isZero := goodIn_r _ [17, 9, 10, 3, 11, 12] (by decide +kernel) (by decide +kernel)
set_option maxRecDepth 20000 in
theorem gX1_sqrt_X1_isZero : GoodIn wsX1_sqrt (va_wsS RX1 77 yX1_isZero wsX1_isZero) := goodIn_app (goodIn_of _ (by decide +kernel)) ggX1_sqrt_X1_isZero
set_option maxRecDepth 20000 in
theorem ggX1_sqrt_X1_negative : GoodIn wsX1_sqrt wsX1_negative := goodIn_r _ [20] (by decide +kernel) (by decide +kernel)
set_option maxRecDepth 20000 in
theorem gX1_sqrt_X1_negative : GoodIn wsX1_sqrt (va_wsS RX1 80 yX1_negative wsX1_negative) := goodIn_app (goodIn_of _ (by decide +kernel)) ggX1_sqrt_X1_negative
set_option maxRecDepth 20000 in
theorem ggX1_sqrt_X1_root : GoodIn wsX1_sqrt wsX1_root := goodIn_r _ [25, 26, 27, 3, 28, 29, 9, 10, 11, 12, 30, 31, 32, 33, 34, 35, 36, 37, 38, 39, 40, 41, 42, 43, 44, 45, 46, 47, 21, 48, 49, 50, 51, 52, 53, 54, 55, 56] (by decide +kernel) (by decide +kernel)
set_option maxRecDepth 20000 in
theorem gX1_sqrt_X1_root : GoodIn wsX1_sqrt (wsV RX1 83 RX1 yX1_root wsX1_root) := goodIn_app (goodIn_of _ (by decide +kernel)) ggX1_sqrt_X1_root
theorem dX1_cut_0 : decode cX1_cut 0 = .ok (.iload_n 2, 1) := by decide +kernel
theorem dX1_cut_1 : decode cX1_cut 1 = .ok (.bipush 54, 2) := by decide +kernel
theorem dX1_cut_3 : decode cX1_cut 3 = .ok (.if_icmp .le 7, 3) := by decide +kernel
theorem dX1_cut_6 : decode cX1_cut 6 = .ok (.lconst 0, 1) := by decide +kernel
theorem dX1_cut_7 : decode cX1_cut 7 = .ok (.goto 6, 3) := by decide +kernel
theorem dX1_cut_10 : decode cX1_cut 10 = .ok (.lload_n 0, 1) := by decide +kernel
theorem dX1_cut_11 : decode cX1_cut 11 = .ok (.iload_n 2, 1) := by decide +kernel
theorem dX1_cut_12 : decode cX1_cut 12 = .ok (.lshr, 1) := by decide +kernel
theorem dX1_cut_13 : decode cX1_cut 13 = .ok (.lstore 5, 2) := by decide +kernel
theorem dX1_cut_15 : decode cX1_cut 15 = .ok (.iload_n 2, 1) := by decide +kernel
theorem dX1_cut_16 : decode cX1_cut 16 = .ok (.bipush 54, 2) := by decide +kernel
theorem dX1_cut_18 : decode cX1_cut 18 = .ok (.if_icmp .le 17, 3) := by decide +kernel
theorem dX1_cut_21 : decode cX1_cut 21 = .ok (.lload_n 0, 1) := by decide +kernel
theorem dX1_cut_22 : decode cX1_cut 22 = .ok (.lconst 0, 1) := by decide +kernel
theorem dX1_cut_23 : decode cX1_cut 23 = .ok (.lcmp, 1) := by decide +kernel
theorem dX1_cut_24 : decode cX1_cut 24 = .ok (.ifCond .le 7, 3) := by decide +kernel
theorem dX1_cut_27 : decode cX1_cut 27 = .ok (.iconst 1, 1) := by decide +kernel
theorem dX1_cut_28 : decode cX1_cut 28 = .ok (.goto 21, 3) := by decide +kernel
theorem dX1_cut_31 : decode cX1_cut 31 = .ok (.iconst 0, 1) := by decide +kernel
theorem dX1_cut_32 : decode cX1_cut 32 = .ok (.goto 17, 3) := by decide +kernel
theorem dX1_cut_35 : decode cX1_cut 35 = .ok (.lload 5, 2) := by decide +kernel
theorem dX1_cut_37 : decode cX1_cut 37 = .ok (.iload_n 2, 1) := by decide +kernel
theorem dX1_cut_38 : decode cX1_cut 38 = .ok (.lshl, 1) := by decide +kernel
theorem dX1_cut_39 : decode cX1_cut 39 = .ok (.lload_n 0, 1) := by decide +kernel
theorem dX1_cut_40 : decode cX1_cut 40 = .ok (.lcmp, 1) := by decide +kernel
theorem dX1_cut_41 : decode cX1_cut 41 = .ok (.ifCond .eq 7, 3) := by decide +kernel
theorem dX1_cut_44 : decode cX1_cut 44 = .ok (.iconst 1, 1) := by decide +kernel
theorem dX1_cut_45 : decode cX1_cut 45 = .ok (.goto 4, 3) := by decide +kernel
theorem dX1_cut_48 : decode cX1_cut 48 = .ok (.iconst 0, 1) := by decide +kernel
theorem dX1_cut_49 : decode cX1_cut 49 = .ok (.istore 7, 2) := by decide +kernel
theorem dX1_cut_51 : decode cX1_cut 51 = .ok (.iload_n 3, 1) := by decide +kernel
theorem dX1_cut_52 : decode cX1_cut 52 = .ok (.ifCond .ne 23, 3) := by decide +kernel
theorem dX1_cut_55 : decode cX1_cut 55 = .ok (.iload 7, 2) := by decide +kernel
theorem dX1_cut_57 : decode cX1_cut 57 = .ok (.ifCond .eq 15, 3) := by decide +kernel
theorem dX1_cut_60 : decode cX1_cut 60 = .ok (.iload 4, 2) := by decide +kernel
theorem dX1_cut_62 : decode cX1_cut 62 = .ok (.ifCond .eq 10, 3) := by decide +kernel
theorem dX1_cut_65 : decode cX1_cut 65 = .ok (.lload 5, 2) := by decide +kernel
theorem dX1_cut_67 : decode cX1_cut 67 = .ok (.lconst 1, 1) := by decide +kernel
theorem dX1_cut_68 : decode cX1_cut 68 = .ok (.ladd, 1) := by decide +kernel
theorem dX1_cut_69 : decode cX1_cut 69 = .ok (.goto 5, 3) := by decide +kernel
theorem dX1_cut_72 : decode cX1_cut 72 = .ok (.lload 5, 2) := by decide +kernel
theorem dX1_cut_74 : decode cX1_cut 74 = .ok (.lreturn, 1) := by decide +kernel
theorem dX1_cut_75 : decode cX1_cut 75 = .ok (.iload_n 2, 1) := by decide +kernel
theorem dX1_cut_76 : decode cX1_cut 76 = .ok (.bipush 54, 2) := by decide +kernel
theorem dX1_cut_78 : decode cX1_cut 78 = .ok (.if_icmp .le 5, 3) := by decide +kernel
theorem dX1_cut_81 : decode cX1_cut 81 = .ok (.lconst 0, 1) := by decide +kernel
theorem dX1_cut_82 : decode cX1_cut 82 = .ok (.lreturn, 1) := by decide +kernel
theorem dX1_cut_83 : decode cX1_cut 83 = .ok (.lload_n 0, 1) := by decide +kernel
theorem dX1_cut_84 : decode cX1_cut 84 = .ok (.lload 5, 2) := by decide +kernel
theorem dX1_cut_86 : decode cX1_cut 86 = .ok (.iload_n 2, 1) := by decide +kernel
theorem dX1_cut_87 : decode cX1_cut 87 = .ok (.lshl, 1) := by decide +kernel
theorem dX1_cut_88 : decode cX1_cut 88 = .ok (.lsub, 1) := by decide +kernel
theorem dX1_cut_89 : decode cX1_cut 89 = .ok (.lstore 8, 2) := by decide +kernel
theorem dX1_cut_91 : decode cX1_cut 91 = .ok (.lconst 1, 1) := by decide +kernel
theorem dX1_cut_92 : decode cX1_cut 92 = .ok (.iload_n 2, 1) := by decide +kernel
theorem dX1_cut_93 : decode cX1_cut 93 = .ok (.iconst 1, 1) := by decide +kernel
theorem dX1_cut_94 : decode cX1_cut 94 = .ok (.isub, 1) := by decide +kernel
theorem dX1_cut_95 : decode cX1_cut 95 = .ok (.lshl, 1) := by decide +kernel
theorem dX1_cut_96 : decode cX1_cut 96 = .ok (.lstore 10, 2) := by decide +kernel
theorem dX1_cut_98 : decode cX1_cut 98 = .ok (.lload 8, 2) := by decide +kernel
theorem dX1_cut_100 : decode cX1_cut 100 = .ok (.lload 10, 2) := by decide +kernel
theorem dX1_cut_102 : decode cX1_cut 102 = .ok (.lcmp, 1) := by decide +kernel
theorem dX1_cut_103 : decode cX1_cut 103 = .ok (.ifCond .gt 22, 3) := by decide +kernel
theorem dX1_cut_106 : decode cX1_cut 106 = .ok (.lload 8, 2) := by decide +kernel
theorem dX1_cut_108 : decode cX1_cut 108 = .ok (.lload 10, 2) := by decide +kernel
theorem dX1_cut_110 : decode cX1_cut 110 = .ok (.lcmp, 1) := by decide +kernel
theorem dX1_cut_111 : decode cX1_cut 111 = .ok (.ifCond .ne 21, 3) := by decide +kernel
theorem dX1_cut_114 : decode cX1_cut 114 = .ok (.lload 5, 2) := by decide +kernel
theorem dX1_cut_116 : decode cX1_cut 116 = .ok (.ldc2_w 65, 3) := by decide +kernel
theorem dX1_cut_119 : decode cX1_cut 119 = .ok (.lrem, 1) := by decide +kernel
theorem dX1_cut_120 : decode cX1_cut 120 = .ok (.lconst 1, 1) := by decide +kernel
theorem dX1_cut_121 : decode cX1_cut 121 = .ok (.lcmp, 1) := by decide +kernel
theorem dX1_cut_122 : decode cX1_cut 122 = .ok (.ifCond .ne 10, 3) := by decide +kernel
theorem dX1_cut_125 : decode cX1_cut 125 = .ok (.lload 5, 2) := by decide +kernel
theorem dX1_cut_127 : decode cX1_cut 127 = .ok (.lconst 1, 1) := by decide +kernel
theorem dX1_cut_128 : decode cX1_cut 128 = .ok (.ladd, 1) := by decide +kernel
theorem dX1_cut_129 : decode cX1_cut 129 = .ok (.goto 5, 3) := by decide +kernel
theorem dX1_cut_132 : decode cX1_cut 132 = .ok (.lload 5, 2) := by decide +kernel
theorem dX1_cut_134 : decode cX1_cut 134 = .ok (.lreturn, 1) := by decide +kernel
theorem dX1_whole_0 : decode cX1_whole 0 = .ok (.iload_n 1, 1) := by decide +kernel
theorem dX1_whole_1 : decode cX1_whole 1 = .ok (.invokestatic 29, 3) := by decide +kernel
theorem dX1_whole_4 : decode cX1_whole 4 = .ok (.ifCond .eq 19, 3) := by decide +kernel
theorem dX1_whole_7 : decode cX1_whole 7 = .ok (.iload_n 2, 1) := by decide +kernel
theorem dX1_whole_8 : decode cX1_whole 8 = .ok (.invokestatic 29, 3) := by decide +kernel
theorem dX1_whole_11 : decode cX1_whole 11 = .ok (.ifCond .eq 12, 3) := by decide +kernel
theorem dX1_whole_14 : decode cX1_whole 14 = .ok (.iload_n 3, 1) := by decide +kernel
theorem dX1_whole_15 : decode cX1_whole 15 = .ok (.ifCond .lt 8, 3) := by decide +kernel
theorem dX1_whole_18 : decode cX1_whole 18 = .ok (.iload_n 3, 1) := by decide +kernel
theorem dX1_whole_19 : decode cX1_whole 19 = .ok (.iconst 3, 1) := by decide +kernel
theorem dX1_whole_20 : decode cX1_whole 20 = .ok (.if_icmp .le 5, 3) := by decide +kernel
theorem dX1_whole_23 : decode cX1_whole 23 = .ok (.iconst 0, 1) := by decide +kernel
theorem dX1_whole_24 : decode cX1_whole 24 = .ok (.ireturn, 1) := by decide +kernel
theorem dX1_whole_25 : decode cX1_whole 25 = .ok (.aload_n 0, 1) := by decide +kernel
theorem dX1_whole_26 : decode cX1_whole 26 = .ok (.getfield 7, 3) := by decide +kernel
theorem dX1_whole_29 : decode cX1_whole 29 = .ok (.iload_n 2, 1) := by decide +kernel
theorem dX1_whole_30 : decode cX1_whole 30 = .ok (.laload, 1) := by decide +kernel
theorem dX1_whole_31 : decode cX1_whole 31 = .ok (.lstore 4, 2) := by decide +kernel
theorem dX1_whole_33 : decode cX1_whole 33 = .ok (.lload 4, 2) := by decide +kernel
theorem dX1_whole_35 : decode cX1_whole 35 = .ok (.invokestatic 71, 3) := by decide +kernel
theorem dX1_whole_38 : decode cX1_whole 38 = .ok (.ifCond .eq 14, 3) := by decide +kernel
theorem dX1_whole_41 : decode cX1_whole 41 = .ok (.aload_n 0, 1) := by decide +kernel
theorem dX1_whole_42 : decode cX1_whole 42 = .ok (.getfield 7, 3) := by decide +kernel
theorem dX1_whole_45 : decode cX1_whole 45 = .ok (.iload_n 1, 1) := by decide +kernel
theorem dX1_whole_46 : decode cX1_whole 46 = .ok (.ldc2_w 75, 3) := by decide +kernel
theorem dX1_whole_49 : decode cX1_whole 49 = .ok (.lastore, 1) := by decide +kernel
theorem dX1_whole_50 : decode cX1_whole 50 = .ok (.iconst 1, 1) := by decide +kernel
theorem dX1_whole_51 : decode cX1_whole 51 = .ok (.ireturn, 1) := by decide +kernel
theorem dX1_whole_52 : decode cX1_whole 52 = .ok (.lload 4, 2) := by decide +kernel
theorem dX1_whole_54 : decode cX1_whole 54 = .ok (.invokestatic 86, 3) := by decide +kernel
theorem dX1_whole_57 : decode cX1_whole 57 = .ok (.ifCond .ne 11, 3) := by decide +kernel
theorem dX1_whole_60 : decode cX1_whole 60 = .ok (.lload 4, 2) := by decide +kernel
theorem dX1_whole_62 : decode cX1_whole 62 = .ok (.invokestatic 51, 3) := by decide +kernel
theorem dX1_whole_65 : decode cX1_whole 65 = .ok (.ifCond .lt 13, 3) := by decide +kernel
theorem dX1_whole_68 : decode cX1_whole 68 = .ok (.aload_n 0, 1) := by decide +kernel
theorem dX1_whole_69 : decode cX1_whole 69 = .ok (.getfield 7, 3) := by decide +kernel
theorem dX1_whole_72 : decode cX1_whole 72 = .ok (.iload_n 1, 1) := by decide +kernel
theorem dX1_whole_73 : decode cX1_whole 73 = .ok (.lload 4, 2) := by decide +kernel
theorem dX1_whole_75 : decode cX1_whole 75 = .ok (.lastore, 1) := by decide +kernel
theorem dX1_whole_76 : decode cX1_whole 76 = .ok (.iconst 1, 1) := by decide +kernel
theorem dX1_whole_77 : decode cX1_whole 77 = .ok (.ireturn, 1) := by decide +kernel
theorem dX1_whole_78 : decode cX1_whole 78 = .ok (.lload 4, 2) := by decide +kernel
theorem dX1_whole_80 : decode cX1_whole 80 = .ok (.invokestatic 48, 3) := by decide +kernel
theorem dX1_whole_83 : decode cX1_whole 83 = .ok (.lload 4, 2) := by decide +kernel
theorem dX1_whole_85 : decode cX1_whole 85 = .ok (.invokestatic 51, 3) := by decide +kernel
theorem dX1_whole_88 : decode cX1_whole 88 = .ok (.ineg, 1) := by decide +kernel
theorem dX1_whole_89 : decode cX1_whole 89 = .ok (.iload_n 3, 1) := by decide +kernel
theorem dX1_whole_90 : decode cX1_whole 90 = .ok (.ifCond .ne 7, 3) := by decide +kernel
theorem dX1_whole_93 : decode cX1_whole 93 = .ok (.iconst 1, 1) := by decide +kernel
theorem dX1_whole_94 : decode cX1_whole 94 = .ok (.goto 4, 3) := by decide +kernel
theorem dX1_whole_97 : decode cX1_whole 97 = .ok (.iconst 0, 1) := by decide +kernel
theorem dX1_whole_98 : decode cX1_whole 98 = .ok (.iload_n 3, 1) := by decide +kernel
theorem dX1_whole_99 : decode cX1_whole 99 = .ok (.iconst 1, 1) := by decide +kernel
theorem dX1_whole_100 : decode cX1_whole 100 = .ok (.if_icmp .ne 11, 3) := by decide +kernel
theorem dX1_whole_103 : decode cX1_whole 103 = .ok (.lload 4, 2) := by decide +kernel
theorem dX1_whole_105 : decode cX1_whole 105 = .ok (.invokestatic 80, 3) := by decide +kernel
theorem dX1_whole_108 : decode cX1_whole 108 = .ok (.ifCond .ne 16, 3) := by decide +kernel
theorem dX1_whole_111 : decode cX1_whole 111 = .ok (.iload_n 3, 1) := by decide +kernel
theorem dX1_whole_112 : decode cX1_whole 112 = .ok (.iconst 2, 1) := by decide +kernel
theorem dX1_whole_113 : decode cX1_whole 113 = .ok (.if_icmp .ne 15, 3) := by decide +kernel
theorem dX1_whole_116 : decode cX1_whole 116 = .ok (.lload 4, 2) := by decide +kernel
theorem dX1_whole_118 : decode cX1_whole 118 = .ok (.invokestatic 80, 3) := by decide +kernel
theorem dX1_whole_121 : decode cX1_whole 121 = .ok (.ifCond .ne 7, 3) := by decide +kernel
theorem dX1_whole_124 : decode cX1_whole 124 = .ok (.iconst 1, 1) := by decide +kernel
theorem dX1_whole_125 : decode cX1_whole 125 = .ok (.goto 4, 3) := by decide +kernel
theorem dX1_whole_128 : decode cX1_whole 128 = .ok (.iconst 0, 1) := by decide +kernel
theorem dX1_whole_129 : decode cX1_whole 129 = .ok (.invokestatic 89, 3) := by decide +kernel
theorem dX1_whole_132 : decode cX1_whole 132 = .ok (.lstore 6, 2) := by decide +kernel
theorem dX1_whole_134 : decode cX1_whole 134 = .ok (.lload 6, 2) := by decide +kernel
theorem dX1_whole_136 : decode cX1_whole 136 = .ok (.iconst 0, 1) := by decide +kernel
theorem dX1_whole_137 : decode cX1_whole 137 = .ok (.invokestatic 67, 3) := by decide +kernel
theorem dX1_whole_140 : decode cX1_whole 140 = .ok (.lstore 8, 2) := by decide +kernel
theorem dX1_whole_142 : decode cX1_whole 142 = .ok (.aload_n 0, 1) := by decide +kernel
theorem dX1_whole_143 : decode cX1_whole 143 = .ok (.iload_n 3, 1) := by decide +kernel
theorem dX1_whole_144 : decode cX1_whole 144 = .ok (.ifCond .ne 23, 3) := by decide +kernel
theorem dX1_whole_147 : decode cX1_whole 147 = .ok (.lload 8, 2) := by decide +kernel
theorem dX1_whole_149 : decode cX1_whole 149 = .ok (.lload 4, 2) := by decide +kernel
theorem dX1_whole_151 : decode cX1_whole 151 = .ok (.invokestatic 17, 3) := by decide +kernel
theorem dX1_whole_154 : decode cX1_whole 154 = .ok (.lcmp, 1) := by decide +kernel
theorem dX1_whole_155 : decode cX1_whole 155 = .ok (.ifCond .eq 12, 3) := by decide +kernel
theorem dX1_whole_158 : decode cX1_whole 158 = .ok (.aload_n 0, 1) := by decide +kernel
theorem dX1_whole_159 : decode cX1_whole 159 = .ok (.getfield 61, 3) := by decide +kernel
theorem dX1_whole_162 : decode cX1_whole 162 = .ok (.iconst 2, 1) := by decide +kernel
theorem dX1_whole_163 : decode cX1_whole 163 = .ok (.ior, 1) := by decide +kernel
theorem dX1_whole_164 : decode cX1_whole 164 = .ok (.goto 7, 3) := by decide +kernel
theorem dX1_whole_167 : decode cX1_whole 167 = .ok (.aload_n 0, 1) := by decide +kernel
theorem dX1_whole_168 : decode cX1_whole 168 = .ok (.getfield 61, 3) := by decide +kernel
theorem dX1_whole_171 : decode cX1_whole 171 = .ok (.putfield 61, 3) := by decide +kernel
theorem dX1_whole_174 : decode cX1_whole 174 = .ok (.aload_n 0, 1) := by decide +kernel
theorem dX1_whole_175 : decode cX1_whole 175 = .ok (.getfield 7, 3) := by decide +kernel
theorem dX1_whole_178 : decode cX1_whole 178 = .ok (.iload_n 1, 1) := by decide +kernel
theorem dX1_whole_179 : decode cX1_whole 179 = .ok (.lload 8, 2) := by decide +kernel
theorem dX1_whole_181 : decode cX1_whole 181 = .ok (.lload 4, 2) := by decide +kernel
theorem dX1_whole_183 : decode cX1_whole 183 = .ok (.invokestatic 80, 3) := by decide +kernel
theorem dX1_whole_186 : decode cX1_whole 186 = .ok (.invokestatic 93, 3) := by decide +kernel
theorem dX1_whole_189 : decode cX1_whole 189 = .ok (.lastore, 1) := by decide +kernel
theorem dX1_whole_190 : decode cX1_whole 190 = .ok (.iconst 1, 1) := by decide +kernel
theorem dX1_whole_191 : decode cX1_whole 191 = .ok (.ireturn, 1) := by decide +kernel
set_option maxRecDepth 20000 in
theorem ggX1_whole_X1_isRegister : GoodIn wsX1_whole wsX1_isRegister := goodIn_r _ [4] (by decide +kernel) (by decide +kernel)
set_option maxRecDepth 20000 in
theorem gX1_whole_X1_isRegister : GoodIn wsX1_whole (va_wsS RX1 29 yX1_isRegister wsX1_isRegister) := goodIn_app (goodIn_of _ (by decide +kernel)) ggX1_whole_X1_isRegister
set_option maxRecDepth 20000 in
theorem ggX1_whole_X1_isNan : GoodIn wsX1_whole wsX1_isNan := goodIn_r _ [8, 9, 10, 3, 11, 12, 13] (by decide +kernel) (by decide +kernel)
set_option maxRecDepth 20000 in
theorem gX1_whole_X1_isNan : GoodIn wsX1_whole (va_wsS RX1 71 yX1_isNan wsX1_isNan) := goodIn_app (goodIn_of _ (by decide +kernel)) ggX1_whole_X1_isNan
set_option maxRecDepth 20000 in
theorem ggX1_whole_X1_isInfinite : GoodIn wsX1_whole wsX1_isInfinite := goodIn_r _ [17, 9, 10, 3, 11, 12, 13] (by decide +kernel) (by decide +kernel)
set_option maxRecDepth 20000 in
theorem gX1_whole_X1_isInfinite : GoodIn wsX1_whole (va_wsS RX1 86 yX1_isInfinite wsX1_isInfinite) := goodIn_app (goodIn_of _ (by decide +kernel)) ggX1_whole_X1_isInfinite
set_option maxRecDepth 20000 in
theorem ggX1_whole_X1_power : GoodIn wsX1_whole wsX1_power := goodIn_r _ [20, 9, 10, 3, 11, 12] (by decide +kernel) (by decide +kernel)
set_option maxRecDepth 20000 in
theorem gX1_whole_X1_power : GoodIn wsX1_whole (va_wsS RX1 51 yX1_power wsX1_power) := goodIn_app (goodIn_of _ (by decide +kernel)) ggX1_whole_X1_power
set_option maxRecDepth 20000 in
theorem ggX1_whole_X1_number : GoodIn wsX1_whole wsX1_number := goodIn_r _ [23, 24, 9, 10, 3, 11, 12, 25] (by decide +kernel) (by decide +kernel)
set_option maxRecDepth 20000 in
theorem gX1_whole_X1_number : GoodIn wsX1_whole (va_wsS RX1 48 yX1_number wsX1_number) := goodIn_app (goodIn_of _ (by decide +kernel)) ggX1_whole_X1_number
set_option maxRecDepth 20000 in
theorem ggX1_whole_X1_negative : GoodIn wsX1_whole wsX1_negative := goodIn_r _ [28] (by decide +kernel) (by decide +kernel)
set_option maxRecDepth 20000 in
theorem gX1_whole_X1_negative : GoodIn wsX1_whole (va_wsS RX1 80 yX1_negative wsX1_negative) := goodIn_app (goodIn_of _ (by decide +kernel)) ggX1_whole_X1_negative
set_option maxRecDepth 20000 in
theorem ggX1_whole_X1_cut : GoodIn wsX1_whole wsX1_cut := goodIn_r _ [31, 32] (by decide +kernel) (by decide +kernel)
set_option maxRecDepth 20000 in
theorem gX1_whole_X1_cut : GoodIn wsX1_whole (va_wsS RX1 89 yX1_cut wsX1_cut) := goodIn_app (goodIn_of _ (by decide +kernel)) ggX1_whole_X1_cut
set_option maxRecDepth 20000 in
theorem ggX1_whole_X1_exact : GoodIn wsX1_whole wsX1_exact := goodIn_r _ [35, 36, 25] (by decide +kernel) (by decide +kernel)
set_option maxRecDepth 20000 in
theorem gX1_whole_X1_exact : GoodIn wsX1_whole (va_wsS RX1 67 yX1_exact wsX1_exact) := goodIn_app (goodIn_of _ (by decide +kernel)) ggX1_whole_X1_exact
set_option maxRecDepth 20000 in
theorem ggX1_whole_X1_plain : GoodIn wsX1_whole wsX1_plain := goodIn_r _ [11, 12] (by decide +kernel) (by decide +kernel)
set_option maxRecDepth 20000 in
theorem gX1_whole_X1_plain : GoodIn wsX1_whole (va_wsS RX1 17 yX1_plain wsX1_plain) := goodIn_app (goodIn_of _ (by decide +kernel)) ggX1_whole_X1_plain
set_option maxRecDepth 20000 in
theorem ggX1_whole_X1_signed : GoodIn wsX1_whole wsX1_signed := goodIn_r _ [40, 41] (by decide +kernel) (by decide +kernel)
set_option maxRecDepth 20000 in
theorem gX1_whole_X1_signed : GoodIn wsX1_whole (va_wsS RX1 93 yX1_signed wsX1_signed) := goodIn_app (goodIn_of _ (by decide +kernel)) ggX1_whole_X1_signed
theorem dX1_rest_0 : decode cX1_rest 0 = .ok (.lload_n 1, 1) := by decide +kernel
theorem dX1_rest_1 : decode cX1_rest 1 = .ok (.invokestatic 48, 3) := by decide +kernel
theorem dX1_rest_4 : decode cX1_rest 4 = .ok (.lstore 6, 2) := by decide +kernel
theorem dX1_rest_6 : decode cX1_rest 6 = .ok (.lload_n 3, 1) := by decide +kernel
theorem dX1_rest_7 : decode cX1_rest 7 = .ok (.invokestatic 48, 3) := by decide +kernel
theorem dX1_rest_10 : decode cX1_rest 10 = .ok (.lstore 8, 2) := by decide +kernel
theorem dX1_rest_12 : decode cX1_rest 12 = .ok (.lload_n 1, 1) := by decide +kernel
theorem dX1_rest_13 : decode cX1_rest 13 = .ok (.invokestatic 51, 3) := by decide +kernel
theorem dX1_rest_16 : decode cX1_rest 16 = .ok (.lload_n 3, 1) := by decide +kernel
theorem dX1_rest_17 : decode cX1_rest 17 = .ok (.invokestatic 51, 3) := by decide +kernel
theorem dX1_rest_20 : decode cX1_rest 20 = .ok (.isub, 1) := by decide +kernel
theorem dX1_rest_21 : decode cX1_rest 21 = .ok (.istore 10, 2) := by decide +kernel
theorem dX1_rest_23 : decode cX1_rest 23 = .ok (.iload 10, 2) := by decide +kernel
theorem dX1_rest_25 : decode cX1_rest 25 = .ok (.ifCond .ge 10, 3) := by decide +kernel
theorem dX1_rest_28 : decode cX1_rest 28 = .ok (.lload_n 1, 1) := by decide +kernel
theorem dX1_rest_29 : decode cX1_rest 29 = .ok (.invokestatic 51, 3) := by decide +kernel
theorem dX1_rest_32 : decode cX1_rest 32 = .ok (.goto 7, 3) := by decide +kernel
theorem dX1_rest_35 : decode cX1_rest 35 = .ok (.lload_n 3, 1) := by decide +kernel
theorem dX1_rest_36 : decode cX1_rest 36 = .ok (.invokestatic 51, 3) := by decide +kernel
theorem dX1_rest_39 : decode cX1_rest 39 = .ok (.istore 11, 2) := by decide +kernel
theorem dX1_rest_41 : decode cX1_rest 41 = .ok (.iload 10, 2) := by decide +kernel
theorem dX1_rest_43 : decode cX1_rest 43 = .ok (.bipush (-62), 2) := by decide +kernel
theorem dX1_rest_45 : decode cX1_rest 45 = .ok (.if_icmp .lt 21, 3) := by decide +kernel
theorem dX1_rest_48 : decode cX1_rest 48 = .ok (.iload 10, 2) := by decide +kernel
theorem dX1_rest_50 : decode cX1_rest 50 = .ok (.ifCond .ge 23, 3) := by decide +kernel
theorem dX1_rest_53 : decode cX1_rest 53 = .ok (.lload 8, 2) := by decide +kernel
theorem dX1_rest_55 : decode cX1_rest 55 = .ok (.lconst 1, 1) := by decide +kernel
theorem dX1_rest_56 : decode cX1_rest 56 = .ok (.bipush 62, 2) := by decide +kernel
theorem dX1_rest_58 : decode cX1_rest 58 = .ok (.iload 10, 2) := by decide +kernel
theorem dX1_rest_60 : decode cX1_rest 60 = .ok (.iadd, 1) := by decide +kernel
theorem dX1_rest_61 : decode cX1_rest 61 = .ok (.lshl, 1) := by decide +kernel
theorem dX1_rest_62 : decode cX1_rest 62 = .ok (.lcmp, 1) := by decide +kernel
theorem dX1_rest_63 : decode cX1_rest 63 = .ok (.ifCond .le 10, 3) := by decide +kernel
theorem dX1_rest_66 : decode cX1_rest 66 = .ok (.aload_n 0, 1) := by decide +kernel
theorem dX1_rest_67 : decode cX1_rest 67 = .ok (.iconst 0, 1) := by decide +kernel
theorem dX1_rest_68 : decode cX1_rest 68 = .ok (.putfield 97, 3) := by decide +kernel
theorem dX1_rest_71 : decode cX1_rest 71 = .ok (.lload_n 1, 1) := by decide +kernel
theorem dX1_rest_72 : decode cX1_rest 72 = .ok (.lreturn, 1) := by decide +kernel
theorem dX1_rest_73 : decode cX1_rest 73 = .ok (.iload 10, 2) := by decide +kernel
theorem dX1_rest_75 : decode cX1_rest 75 = .ok (.ifCond .ge 12, 3) := by decide +kernel
theorem dX1_rest_78 : decode cX1_rest 78 = .ok (.lload 8, 2) := by decide +kernel
theorem dX1_rest_80 : decode cX1_rest 80 = .ok (.iload 10, 2) := by decide +kernel
theorem dX1_rest_82 : decode cX1_rest 82 = .ok (.ineg, 1) := by decide +kernel
theorem dX1_rest_83 : decode cX1_rest 83 = .ok (.lshl, 1) := by decide +kernel
theorem dX1_rest_84 : decode cX1_rest 84 = .ok (.goto 5, 3) := by decide +kernel
theorem dX1_rest_87 : decode cX1_rest 87 = .ok (.lload 8, 2) := by decide +kernel
theorem dX1_rest_89 : decode cX1_rest 89 = .ok (.lstore 12, 2) := by decide +kernel
theorem dX1_rest_91 : decode cX1_rest 91 = .ok (.lload 6, 2) := by decide +kernel
theorem dX1_rest_93 : decode cX1_rest 93 = .ok (.lload 12, 2) := by decide +kernel
theorem dX1_rest_95 : decode cX1_rest 95 = .ok (.ldiv, 1) := by decide +kernel
theorem dX1_rest_96 : decode cX1_rest 96 = .ok (.ldc2_w 100, 3) := by decide +kernel
theorem dX1_rest_99 : decode cX1_rest 99 = .ok (.lrem, 1) := by decide +kernel
theorem dX1_rest_100 : decode cX1_rest 100 = .ok (.lstore 14, 2) := by decide +kernel
theorem dX1_rest_102 : decode cX1_rest 102 = .ok (.lload 6, 2) := by decide +kernel
theorem dX1_rest_104 : decode cX1_rest 104 = .ok (.lload 12, 2) := by decide +kernel
theorem dX1_rest_106 : decode cX1_rest 106 = .ok (.lrem, 1) := by decide +kernel
theorem dX1_rest_107 : decode cX1_rest 107 = .ok (.lstore 16, 2) := by decide +kernel
theorem dX1_rest_109 : decode cX1_rest 109 = .ok (.iconst 0, 1) := by decide +kernel
theorem dX1_rest_110 : decode cX1_rest 110 = .ok (.istore 18, 2) := by decide +kernel
theorem dX1_rest_112 : decode cX1_rest 112 = .ok (.iload 18, 2) := by decide +kernel
theorem dX1_rest_114 : decode cX1_rest 114 = .ok (.iload 10, 2) := by decide +kernel
theorem dX1_rest_116 : decode cX1_rest 116 = .ok (.if_icmp .ge 52, 3) := by decide +kernel
theorem dX1_rest_119 : decode cX1_rest 119 = .ok (.lload 16, 2) := by decide +kernel
theorem dX1_rest_121 : decode cX1_rest 121 = .ok (.iconst 1, 1) := by decide +kernel
theorem dX1_rest_122 : decode cX1_rest 122 = .ok (.lshl, 1) := by decide +kernel
theorem dX1_rest_123 : decode cX1_rest 123 = .ok (.lstore 16, 2) := by decide +kernel
theorem dX1_rest_125 : decode cX1_rest 125 = .ok (.lload 14, 2) := by decide +kernel
theorem dX1_rest_127 : decode cX1_rest 127 = .ok (.ldc2_w 65, 3) := by decide +kernel
theorem dX1_rest_130 : decode cX1_rest 130 = .ok (.lmul, 1) := by decide +kernel
theorem dX1_rest_131 : decode cX1_rest 131 = .ok (.ldc2_w 100, 3) := by decide +kernel
theorem dX1_rest_134 : decode cX1_rest 134 = .ok (.lrem, 1) := by decide +kernel
theorem dX1_rest_135 : decode cX1_rest 135 = .ok (.lstore 14, 2) := by decide +kernel
theorem dX1_rest_137 : decode cX1_rest 137 = .ok (.lload 16, 2) := by decide +kernel
theorem dX1_rest_139 : decode cX1_rest 139 = .ok (.lload 12, 2) := by decide +kernel
theorem dX1_rest_141 : decode cX1_rest 141 = .ok (.lcmp, 1) := by decide +kernel
theorem dX1_rest_142 : decode cX1_rest 142 = .ok (.ifCond .lt 20, 3) := by decide +kernel
theorem dX1_rest_145 : decode cX1_rest 145 = .ok (.lload 16, 2) := by decide +kernel
theorem dX1_rest_147 : decode cX1_rest 147 = .ok (.lload 12, 2) := by decide +kernel
theorem dX1_rest_149 : decode cX1_rest 149 = .ok (.lsub, 1) := by decide +kernel
theorem dX1_rest_150 : decode cX1_rest 150 = .ok (.lstore 16, 2) := by decide +kernel
theorem dX1_rest_152 : decode cX1_rest 152 = .ok (.lload 14, 2) := by decide +kernel
theorem dX1_rest_154 : decode cX1_rest 154 = .ok (.lconst 1, 1) := by decide +kernel
theorem dX1_rest_155 : decode cX1_rest 155 = .ok (.ladd, 1) := by decide +kernel
theorem dX1_rest_156 : decode cX1_rest 156 = .ok (.ldc2_w 100, 3) := by decide +kernel
theorem dX1_rest_159 : decode cX1_rest 159 = .ok (.lrem, 1) := by decide +kernel
theorem dX1_rest_160 : decode cX1_rest 160 = .ok (.lstore 14, 2) := by decide +kernel
theorem dX1_rest_162 : decode cX1_rest 162 = .ok (.iinc 18 1, 3) := by decide +kernel
theorem dX1_rest_165 : decode cX1_rest 165 = .ok (.goto (-53), 3) := by decide +kernel
theorem dX1_rest_168 : decode cX1_rest 168 = .ok (.iload 5, 2) := by decide +kernel
theorem dX1_rest_170 : decode cX1_rest 170 = .ok (.ifCond .eq 40, 3) := by decide +kernel
theorem dX1_rest_173 : decode cX1_rest 173 = .ok (.lload 16, 2) := by decide +kernel
theorem dX1_rest_175 : decode cX1_rest 175 = .ok (.lload 12, 2) := by decide +kernel
theorem dX1_rest_177 : decode cX1_rest 177 = .ok (.lload 16, 2) := by decide +kernel
theorem dX1_rest_179 : decode cX1_rest 179 = .ok (.lsub, 1) := by decide +kernel
theorem dX1_rest_180 : decode cX1_rest 180 = .ok (.lcmp, 1) := by decide +kernel
theorem dX1_rest_181 : decode cX1_rest 181 = .ok (.ifCond .gt 25, 3) := by decide +kernel
theorem dX1_rest_184 : decode cX1_rest 184 = .ok (.lload 16, 2) := by decide +kernel
theorem dX1_rest_186 : decode cX1_rest 186 = .ok (.lload 12, 2) := by decide +kernel
theorem dX1_rest_188 : decode cX1_rest 188 = .ok (.lload 16, 2) := by decide +kernel
theorem dX1_rest_190 : decode cX1_rest 190 = .ok (.lsub, 1) := by decide +kernel
theorem dX1_rest_191 : decode cX1_rest 191 = .ok (.lcmp, 1) := by decide +kernel
theorem dX1_rest_192 : decode cX1_rest 192 = .ok (.ifCond .ne 18, 3) := by decide +kernel
theorem dX1_rest_195 : decode cX1_rest 195 = .ok (.lload 14, 2) := by decide +kernel
theorem dX1_rest_197 : decode cX1_rest 197 = .ok (.ldc2_w 65, 3) := by decide +kernel
theorem dX1_rest_200 : decode cX1_rest 200 = .ok (.lrem, 1) := by decide +kernel
theorem dX1_rest_201 : decode cX1_rest 201 = .ok (.lconst 1, 1) := by decide +kernel
theorem dX1_rest_202 : decode cX1_rest 202 = .ok (.lcmp, 1) := by decide +kernel
theorem dX1_rest_203 : decode cX1_rest 203 = .ok (.ifCond .ne 7, 3) := by decide +kernel
theorem dX1_rest_206 : decode cX1_rest 206 = .ok (.iconst 1, 1) := by decide +kernel
theorem dX1_rest_207 : decode cX1_rest 207 = .ok (.goto 4, 3) := by decide +kernel
theorem dX1_rest_210 : decode cX1_rest 210 = .ok (.iconst 0, 1) := by decide +kernel
theorem dX1_rest_211 : decode cX1_rest 211 = .ok (.istore 18, 2) := by decide +kernel
theorem dX1_rest_213 : decode cX1_rest 213 = .ok (.aload_n 0, 1) := by decide +kernel
theorem dX1_rest_214 : decode cX1_rest 214 = .ok (.iload 18, 2) := by decide +kernel
theorem dX1_rest_216 : decode cX1_rest 216 = .ok (.ifCond .eq 14, 3) := by decide +kernel
theorem dX1_rest_219 : decode cX1_rest 219 = .ok (.lload 14, 2) := by decide +kernel
theorem dX1_rest_221 : decode cX1_rest 221 = .ok (.lconst 1, 1) := by decide +kernel
theorem dX1_rest_222 : decode cX1_rest 222 = .ok (.ladd, 1) := by decide +kernel
theorem dX1_rest_223 : decode cX1_rest 223 = .ok (.ldc2_w 100, 3) := by decide +kernel
theorem dX1_rest_226 : decode cX1_rest 226 = .ok (.lrem, 1) := by decide +kernel
theorem dX1_rest_227 : decode cX1_rest 227 = .ok (.goto 5, 3) := by decide +kernel
theorem dX1_rest_230 : decode cX1_rest 230 = .ok (.lload 14, 2) := by decide +kernel
theorem dX1_rest_232 : decode cX1_rest 232 = .ok (.l2i, 1) := by decide +kernel
theorem dX1_rest_233 : decode cX1_rest 233 = .ok (.putfield 97, 3) := by decide +kernel
theorem dX1_rest_236 : decode cX1_rest 236 = .ok (.iload 18, 2) := by decide +kernel
theorem dX1_rest_238 : decode cX1_rest 238 = .ok (.ifCond .eq 11, 3) := by decide +kernel
theorem dX1_rest_241 : decode cX1_rest 241 = .ok (.lload 12, 2) := by decide +kernel
theorem dX1_rest_243 : decode cX1_rest 243 = .ok (.lload 16, 2) := by decide +kernel
theorem dX1_rest_245 : decode cX1_rest 245 = .ok (.lsub, 1) := by decide +kernel
theorem dX1_rest_246 : decode cX1_rest 246 = .ok (.goto 5, 3) := by decide +kernel
theorem dX1_rest_249 : decode cX1_rest 249 = .ok (.lload 16, 2) := by decide +kernel
theorem dX1_rest_251 : decode cX1_rest 251 = .ok (.lstore 19, 2) := by decide +kernel
theorem dX1_rest_253 : decode cX1_rest 253 = .ok (.lload 19, 2) := by decide +kernel
theorem dX1_rest_255 : decode cX1_rest 255 = .ok (.iload 11, 2) := by decide +kernel
theorem dX1_rest_257 : decode cX1_rest 257 = .ok (.invokestatic 67, 3) := by decide +kernel
theorem dX1_rest_260 : decode cX1_rest 260 = .ok (.lload 19, 2) := by decide +kernel
theorem dX1_rest_262 : decode cX1_rest 262 = .ok (.lconst 0, 1) := by decide +kernel
theorem dX1_rest_263 : decode cX1_rest 263 = .ok (.lcmp, 1) := by decide +kernel
theorem dX1_rest_264 : decode cX1_rest 264 = .ok (.ifCond .ne 10, 3) := by decide +kernel
theorem dX1_rest_267 : decode cX1_rest 267 = .ok (.lload_n 1, 1) := by decide +kernel
theorem dX1_rest_268 : decode cX1_rest 268 = .ok (.invokestatic 80, 3) := by decide +kernel
theorem dX1_rest_271 : decode cX1_rest 271 = .ok (.goto 17, 3) := by decide +kernel
theorem dX1_rest_274 : decode cX1_rest 274 = .ok (.lload_n 1, 1) := by decide +kernel
theorem dX1_rest_275 : decode cX1_rest 275 = .ok (.invokestatic 80, 3) := by decide +kernel
theorem dX1_rest_278 : decode cX1_rest 278 = .ok (.iload 18, 2) := by decide +kernel
theorem dX1_rest_280 : decode cX1_rest 280 = .ok (.if_icmp .eq 7, 3) := by decide +kernel
theorem dX1_rest_283 : decode cX1_rest 283 = .ok (.iconst 1, 1) := by decide +kernel
theorem dX1_rest_284 : decode cX1_rest 284 = .ok (.goto 4, 3) := by decide +kernel
theorem dX1_rest_287 : decode cX1_rest 287 = .ok (.iconst 0, 1) := by decide +kernel
theorem dX1_rest_288 : decode cX1_rest 288 = .ok (.invokestatic 93, 3) := by decide +kernel
theorem dX1_rest_291 : decode cX1_rest 291 = .ok (.lreturn, 1) := by decide +kernel
set_option maxRecDepth 20000 in
theorem ggX1_rest_X1_number : GoodIn wsX1_rest wsX1_number := goodIn_r _ [4, 5, 6, 7, 3, 8, 9, 10] (by decide +kernel) (by decide +kernel)
set_option maxRecDepth 20000 in
theorem gX1_rest_X1_number : GoodIn wsX1_rest (va_wsS RX1 48 yX1_number wsX1_number) := goodIn_app (goodIn_of _ (by decide +kernel)) ggX1_rest_X1_number
set_option maxRecDepth 20000 in
theorem ggX1_rest_X1_power : GoodIn wsX1_rest wsX1_power := goodIn_r _ [13, 6, 7, 3, 8, 9] (by decide +kernel) (by decide +kernel)
set_option maxRecDepth 20000 in
theorem gX1_rest_X1_power : GoodIn wsX1_rest (va_wsS RX1 51 yX1_power wsX1_power) := goodIn_app (goodIn_of _ (by decide +kernel)) ggX1_rest_X1_power
set_option maxRecDepth 20000 in
theorem ggX1_rest_X1_exact : GoodIn wsX1_rest wsX1_exact := goodIn_r _ [19, 20, 10] (by decide +kernel) (by decide +kernel)
set_option maxRecDepth 20000 in
theorem gX1_rest_X1_exact : GoodIn wsX1_rest (va_wsS RX1 67 yX1_exact wsX1_exact) := goodIn_app (goodIn_of _ (by decide +kernel)) ggX1_rest_X1_exact
set_option maxRecDepth 20000 in
theorem ggX1_rest_X1_negative : GoodIn wsX1_rest wsX1_negative := goodIn_r _ [23] (by decide +kernel) (by decide +kernel)
set_option maxRecDepth 20000 in
theorem gX1_rest_X1_negative : GoodIn wsX1_rest (va_wsS RX1 80 yX1_negative wsX1_negative) := goodIn_app (goodIn_of _ (by decide +kernel)) ggX1_rest_X1_negative
set_option maxRecDepth 20000 in
theorem ggX1_rest_X1_signed : GoodIn wsX1_rest wsX1_signed := goodIn_r _ [26, 27] (by decide +kernel) (by decide +kernel)
set_option maxRecDepth 20000 in
theorem gX1_rest_X1_signed : GoodIn wsX1_rest (va_wsS RX1 93 yX1_signed wsX1_signed) := goodIn_app (goodIn_of _ (by decide +kernel)) ggX1_rest_X1_signed
theorem dX1_left_0 : decode cX1_left 0 = .ok (.iload_n 1, 1) := by decide +kernel
theorem dX1_left_1 : decode cX1_left 1 = .ok (.invokestatic 29, 3) := by decide +kernel
theorem dX1_left_4 : decode cX1_left 4 = .ok (.ifCond .eq 17, 3) := by decide +kernel
theorem dX1_left_7 : decode cX1_left 7 = .ok (.iload_n 2, 1) := by decide +kernel
theorem dX1_left_8 : decode cX1_left 8 = .ok (.invokestatic 29, 3) := by decide +kernel
theorem dX1_left_11 : decode cX1_left 11 = .ok (.ifCond .eq 10, 3) := by decide +kernel
theorem dX1_left_14 : decode cX1_left 14 = .ok (.iload_n 3, 1) := by decide +kernel
theorem dX1_left_15 : decode cX1_left 15 = .ok (.invokestatic 29, 3) := by decide +kernel
theorem dX1_left_18 : decode cX1_left 18 = .ok (.ifCond .ne 5, 3) := by decide +kernel
theorem dX1_left_21 : decode cX1_left 21 = .ok (.iconst 0, 1) := by decide +kernel
theorem dX1_left_22 : decode cX1_left 22 = .ok (.ireturn, 1) := by decide +kernel
theorem dX1_left_23 : decode cX1_left 23 = .ok (.aload_n 0, 1) := by decide +kernel
theorem dX1_left_24 : decode cX1_left 24 = .ok (.getfield 7, 3) := by decide +kernel
theorem dX1_left_27 : decode cX1_left 27 = .ok (.iload_n 2, 1) := by decide +kernel
theorem dX1_left_28 : decode cX1_left 28 = .ok (.laload, 1) := by decide +kernel
theorem dX1_left_29 : decode cX1_left 29 = .ok (.lstore 5, 2) := by decide +kernel
theorem dX1_left_31 : decode cX1_left 31 = .ok (.aload_n 0, 1) := by decide +kernel
theorem dX1_left_32 : decode cX1_left 32 = .ok (.getfield 7, 3) := by decide +kernel
theorem dX1_left_35 : decode cX1_left 35 = .ok (.iload_n 3, 1) := by decide +kernel
theorem dX1_left_36 : decode cX1_left 36 = .ok (.laload, 1) := by decide +kernel
theorem dX1_left_37 : decode cX1_left 37 = .ok (.lstore 7, 2) := by decide +kernel
theorem dX1_left_39 : decode cX1_left 39 = .ok (.aload_n 0, 1) := by decide +kernel
theorem dX1_left_40 : decode cX1_left 40 = .ok (.iconst 0, 1) := by decide +kernel
theorem dX1_left_41 : decode cX1_left 41 = .ok (.putfield 97, 3) := by decide +kernel
theorem dX1_left_44 : decode cX1_left 44 = .ok (.lload 5, 2) := by decide +kernel
theorem dX1_left_46 : decode cX1_left 46 = .ok (.invokestatic 71, 3) := by decide +kernel
theorem dX1_left_49 : decode cX1_left 49 = .ok (.ifCond .ne 11, 3) := by decide +kernel
theorem dX1_left_52 : decode cX1_left 52 = .ok (.lload 7, 2) := by decide +kernel
theorem dX1_left_54 : decode cX1_left 54 = .ok (.invokestatic 71, 3) := by decide +kernel
theorem dX1_left_57 : decode cX1_left 57 = .ok (.ifCond .eq 15, 3) := by decide +kernel
theorem dX1_left_60 : decode cX1_left 60 = .ok (.aload_n 0, 1) := by decide +kernel
theorem dX1_left_61 : decode cX1_left 61 = .ok (.getfield 7, 3) := by decide +kernel
theorem dX1_left_64 : decode cX1_left 64 = .ok (.iload_n 1, 1) := by decide +kernel
theorem dX1_left_65 : decode cX1_left 65 = .ok (.ldc2_w 75, 3) := by decide +kernel
theorem dX1_left_68 : decode cX1_left 68 = .ok (.lastore, 1) := by decide +kernel
theorem dX1_left_69 : decode cX1_left 69 = .ok (.goto 84, 3) := by decide +kernel
theorem dX1_left_72 : decode cX1_left 72 = .ok (.lload 5, 2) := by decide +kernel
theorem dX1_left_74 : decode cX1_left 74 = .ok (.invokestatic 86, 3) := by decide +kernel
theorem dX1_left_77 : decode cX1_left 77 = .ok (.ifCond .ne 11, 3) := by decide +kernel
theorem dX1_left_80 : decode cX1_left 80 = .ok (.lload 7, 2) := by decide +kernel
theorem dX1_left_82 : decode cX1_left 82 = .ok (.invokestatic 77, 3) := by decide +kernel
theorem dX1_left_85 : decode cX1_left 85 = .ok (.ifCond .eq 25, 3) := by decide +kernel
theorem dX1_left_88 : decode cX1_left 88 = .ok (.aload_n 0, 1) := by decide +kernel
theorem dX1_left_89 : decode cX1_left 89 = .ok (.getfield 7, 3) := by decide +kernel
theorem dX1_left_92 : decode cX1_left 92 = .ok (.iload_n 1, 1) := by decide +kernel
theorem dX1_left_93 : decode cX1_left 93 = .ok (.ldc2_w 75, 3) := by decide +kernel
theorem dX1_left_96 : decode cX1_left 96 = .ok (.lastore, 1) := by decide +kernel
theorem dX1_left_97 : decode cX1_left 97 = .ok (.aload_n 0, 1) := by decide +kernel
theorem dX1_left_98 : decode cX1_left 98 = .ok (.aload_n 0, 1) := by decide +kernel
theorem dX1_left_99 : decode cX1_left 99 = .ok (.getfield 61, 3) := by decide +kernel
theorem dX1_left_102 : decode cX1_left 102 = .ok (.iconst 1, 1) := by decide +kernel
theorem dX1_left_103 : decode cX1_left 103 = .ok (.ior, 1) := by decide +kernel
theorem dX1_left_104 : decode cX1_left 104 = .ok (.putfield 61, 3) := by decide +kernel
theorem dX1_left_107 : decode cX1_left 107 = .ok (.goto 46, 3) := by decide +kernel
theorem dX1_left_110 : decode cX1_left 110 = .ok (.lload 7, 2) := by decide +kernel
theorem dX1_left_112 : decode cX1_left 112 = .ok (.invokestatic 86, 3) := by decide +kernel
theorem dX1_left_115 : decode cX1_left 115 = .ok (.ifCond .ne 11, 3) := by decide +kernel
theorem dX1_left_118 : decode cX1_left 118 = .ok (.lload 5, 2) := by decide +kernel
theorem dX1_left_120 : decode cX1_left 120 = .ok (.invokestatic 77, 3) := by decide +kernel
theorem dX1_left_123 : decode cX1_left 123 = .ok (.ifCond .eq 14, 3) := by decide +kernel
theorem dX1_left_126 : decode cX1_left 126 = .ok (.aload_n 0, 1) := by decide +kernel
theorem dX1_left_127 : decode cX1_left 127 = .ok (.getfield 7, 3) := by decide +kernel
theorem dX1_left_130 : decode cX1_left 130 = .ok (.iload_n 1, 1) := by decide +kernel
theorem dX1_left_131 : decode cX1_left 131 = .ok (.lload 5, 2) := by decide +kernel
theorem dX1_left_133 : decode cX1_left 133 = .ok (.lastore, 1) := by decide +kernel
theorem dX1_left_134 : decode cX1_left 134 = .ok (.goto 19, 3) := by decide +kernel
theorem dX1_left_137 : decode cX1_left 137 = .ok (.aload_n 0, 1) := by decide +kernel
theorem dX1_left_138 : decode cX1_left 138 = .ok (.getfield 7, 3) := by decide +kernel
theorem dX1_left_141 : decode cX1_left 141 = .ok (.iload_n 1, 1) := by decide +kernel
theorem dX1_left_142 : decode cX1_left 142 = .ok (.aload_n 0, 1) := by decide +kernel
theorem dX1_left_143 : decode cX1_left 143 = .ok (.lload 5, 2) := by decide +kernel
theorem dX1_left_145 : decode cX1_left 145 = .ok (.lload 7, 2) := by decide +kernel
theorem dX1_left_147 : decode cX1_left 147 = .ok (.iload 4, 2) := by decide +kernel
theorem dX1_left_149 : decode cX1_left 149 = .ok (.invokevirtual 102, 3) := by decide +kernel
theorem dX1_left_152 : decode cX1_left 152 = .ok (.lastore, 1) := by decide +kernel
theorem dX1_left_153 : decode cX1_left 153 = .ok (.iconst 1, 1) := by decide +kernel
theorem dX1_left_154 : decode cX1_left 154 = .ok (.ireturn, 1) := by decide +kernel
set_option maxRecDepth 20000 in
theorem ggX1_left_X1_isRegister : GoodIn wsX1_left wsX1_isRegister := goodIn_r _ [4] (by decide +kernel) (by decide +kernel)
set_option maxRecDepth 20000 in
theorem gX1_left_X1_isRegister : GoodIn wsX1_left (va_wsS RX1 29 yX1_isRegister wsX1_isRegister) := goodIn_app (goodIn_of _ (by decide +kernel)) ggX1_left_X1_isRegister
set_option maxRecDepth 20000 in
theorem ggX1_left_X1_isNan : GoodIn wsX1_left wsX1_isNan := goodIn_r _ [9, 10, 11, 3, 12, 13, 14] (by decide +kernel) (by decide +kernel)
set_option maxRecDepth 20000 in
theorem gX1_left_X1_isNan : GoodIn wsX1_left (va_wsS RX1 71 yX1_isNan wsX1_isNan) := goodIn_app (goodIn_of _ (by decide +kernel)) ggX1_left_X1_isNan
set_option maxRecDepth 20000 in
theorem ggX1_left_X1_isInfinite : GoodIn wsX1_left wsX1_isInfinite := goodIn_r _ [18, 10, 11, 3, 12, 13, 14] (by decide +kernel) (by decide +kernel)
set_option maxRecDepth 20000 in
theorem gX1_left_X1_isInfinite : GoodIn wsX1_left (va_wsS RX1 86 yX1_isInfinite wsX1_isInfinite) := goodIn_app (goodIn_of _ (by decide +kernel)) ggX1_left_X1_isInfinite
set_option maxRecDepth 20000 in
theorem ggX1_left_X1_isZero : GoodIn wsX1_left wsX1_isZero := goodIn_r _ [21, 10, 11, 3, 12, 13] (by decide +kernel) (by decide +kernel)
set_option maxRecDepth 20000 in
theorem gX1_left_X1_isZero : GoodIn wsX1_left (va_wsS RX1 77 yX1_isZero wsX1_isZero) := goodIn_app (goodIn_of _ (by decide +kernel)) ggX1_left_X1_isZero
set_option maxRecDepth 20000 in
theorem ggX1_left_X1_rest : GoodIn wsX1_left wsX1_rest := goodIn_r _ [26, 27, 28, 3, 29, 30, 10, 11, 12, 13, 31, 32, 33, 34, 6, 35, 36, 37, 38, 39, 40, 41, 42, 43, 44, 45, 46, 47, 48, 49, 50, 51, 52] (by decide +kernel) (by decide +kernel)
set_option maxRecDepth 20000 in
theorem gX1_left_X1_rest : GoodIn wsX1_left (wsV RX1 102 RX1 yX1_rest wsX1_rest) := goodIn_app (goodIn_of _ (by decide +kernel)) ggX1_left_X1_rest
theorem dX1_quotient_0 : decode cX1_quotient 0 = .ok (.aload_n 0, 1) := by decide +kernel
theorem dX1_quotient_1 : decode cX1_quotient 1 = .ok (.getfield 97, 3) := by decide +kernel
theorem dX1_quotient_4 : decode cX1_quotient 4 = .ok (.ireturn, 1) := by decide +kernel
theorem dX1_place_0 : decode cX1_place 0 = .ok (.lload_n 0, 1) := by decide +kernel
theorem dX1_place_1 : decode cX1_place 1 = .ok (.invokestatic 80, 3) := by decide +kernel
theorem dX1_place_4 : decode cX1_place 4 = .ok (.ifCond .eq 11, 3) := by decide +kernel
theorem dX1_place_7 : decode cX1_place 7 = .ok (.lload_n 0, 1) := by decide +kernel
theorem dX1_place_8 : decode cX1_place 8 = .ok (.invokestatic 17, 3) := by decide +kernel
theorem dX1_place_11 : decode cX1_place 11 = .ok (.lneg, 1) := by decide +kernel
theorem dX1_place_12 : decode cX1_place 12 = .ok (.goto 4, 3) := by decide +kernel
theorem dX1_place_15 : decode cX1_place 15 = .ok (.lload_n 0, 1) := by decide +kernel
theorem dX1_place_16 : decode cX1_place 16 = .ok (.lreturn, 1) := by decide +kernel
set_option maxRecDepth 20000 in
theorem ggX1_place_X1_negative : GoodIn wsX1_place wsX1_negative := goodIn_r _ [4] (by decide +kernel) (by decide +kernel)
set_option maxRecDepth 20000 in
theorem gX1_place_X1_negative : GoodIn wsX1_place (va_wsS RX1 80 yX1_negative wsX1_negative) := goodIn_app (goodIn_of _ (by decide +kernel)) ggX1_place_X1_negative
set_option maxRecDepth 20000 in
theorem ggX1_place_X1_plain : GoodIn wsX1_place wsX1_plain := goodIn_r _ [7, 8] (by decide +kernel) (by decide +kernel)
set_option maxRecDepth 20000 in
theorem gX1_place_X1_plain : GoodIn wsX1_place (va_wsS RX1 17 yX1_plain wsX1_plain) := goodIn_app (goodIn_of _ (by decide +kernel)) ggX1_place_X1_plain
theorem dX1_neighbour_0 : decode cX1_neighbour 0 = .ok (.iload_n 1, 1) := by decide +kernel
theorem dX1_neighbour_1 : decode cX1_neighbour 1 = .ok (.invokestatic 29, 3) := by decide +kernel
theorem dX1_neighbour_4 : decode cX1_neighbour 4 = .ok (.ifCond .eq 17, 3) := by decide +kernel
theorem dX1_neighbour_7 : decode cX1_neighbour 7 = .ok (.iload_n 2, 1) := by decide +kernel
theorem dX1_neighbour_8 : decode cX1_neighbour 8 = .ok (.invokestatic 29, 3) := by decide +kernel
theorem dX1_neighbour_11 : decode cX1_neighbour 11 = .ok (.ifCond .eq 10, 3) := by decide +kernel
theorem dX1_neighbour_14 : decode cX1_neighbour 14 = .ok (.iload_n 3, 1) := by decide +kernel
theorem dX1_neighbour_15 : decode cX1_neighbour 15 = .ok (.invokestatic 29, 3) := by decide +kernel
theorem dX1_neighbour_18 : decode cX1_neighbour 18 = .ok (.ifCond .ne 5, 3) := by decide +kernel
theorem dX1_neighbour_21 : decode cX1_neighbour 21 = .ok (.iconst 0, 1) := by decide +kernel
theorem dX1_neighbour_22 : decode cX1_neighbour 22 = .ok (.ireturn, 1) := by decide +kernel
theorem dX1_neighbour_23 : decode cX1_neighbour 23 = .ok (.aload_n 0, 1) := by decide +kernel
theorem dX1_neighbour_24 : decode cX1_neighbour 24 = .ok (.getfield 7, 3) := by decide +kernel
theorem dX1_neighbour_27 : decode cX1_neighbour 27 = .ok (.iload_n 2, 1) := by decide +kernel
theorem dX1_neighbour_28 : decode cX1_neighbour 28 = .ok (.laload, 1) := by decide +kernel
theorem dX1_neighbour_29 : decode cX1_neighbour 29 = .ok (.lstore 4, 2) := by decide +kernel
theorem dX1_neighbour_31 : decode cX1_neighbour 31 = .ok (.aload_n 0, 1) := by decide +kernel
theorem dX1_neighbour_32 : decode cX1_neighbour 32 = .ok (.getfield 7, 3) := by decide +kernel
theorem dX1_neighbour_35 : decode cX1_neighbour 35 = .ok (.iload_n 3, 1) := by decide +kernel
theorem dX1_neighbour_36 : decode cX1_neighbour 36 = .ok (.laload, 1) := by decide +kernel
theorem dX1_neighbour_37 : decode cX1_neighbour 37 = .ok (.lstore 6, 2) := by decide +kernel
theorem dX1_neighbour_39 : decode cX1_neighbour 39 = .ok (.lload 4, 2) := by decide +kernel
theorem dX1_neighbour_41 : decode cX1_neighbour 41 = .ok (.invokestatic 71, 3) := by decide +kernel
theorem dX1_neighbour_44 : decode cX1_neighbour 44 = .ok (.ifCond .ne 11, 3) := by decide +kernel
theorem dX1_neighbour_47 : decode cX1_neighbour 47 = .ok (.lload 6, 2) := by decide +kernel
theorem dX1_neighbour_49 : decode cX1_neighbour 49 = .ok (.invokestatic 71, 3) := by decide +kernel
theorem dX1_neighbour_52 : decode cX1_neighbour 52 = .ok (.ifCond .eq 14, 3) := by decide +kernel
theorem dX1_neighbour_55 : decode cX1_neighbour 55 = .ok (.aload_n 0, 1) := by decide +kernel
theorem dX1_neighbour_56 : decode cX1_neighbour 56 = .ok (.getfield 7, 3) := by decide +kernel
theorem dX1_neighbour_59 : decode cX1_neighbour 59 = .ok (.iload_n 1, 1) := by decide +kernel
theorem dX1_neighbour_60 : decode cX1_neighbour 60 = .ok (.ldc2_w 75, 3) := by decide +kernel
theorem dX1_neighbour_63 : decode cX1_neighbour 63 = .ok (.lastore, 1) := by decide +kernel
theorem dX1_neighbour_64 : decode cX1_neighbour 64 = .ok (.iconst 1, 1) := by decide +kernel
theorem dX1_neighbour_65 : decode cX1_neighbour 65 = .ok (.ireturn, 1) := by decide +kernel
theorem dX1_neighbour_66 : decode cX1_neighbour 66 = .ok (.lload 4, 2) := by decide +kernel
theorem dX1_neighbour_68 : decode cX1_neighbour 68 = .ok (.invokestatic 106, 3) := by decide +kernel
theorem dX1_neighbour_71 : decode cX1_neighbour 71 = .ok (.lstore 8, 2) := by decide +kernel
theorem dX1_neighbour_73 : decode cX1_neighbour 73 = .ok (.lload 6, 2) := by decide +kernel
theorem dX1_neighbour_75 : decode cX1_neighbour 75 = .ok (.invokestatic 106, 3) := by decide +kernel
theorem dX1_neighbour_78 : decode cX1_neighbour 78 = .ok (.lstore 10, 2) := by decide +kernel
theorem dX1_neighbour_80 : decode cX1_neighbour 80 = .ok (.lload 8, 2) := by decide +kernel
theorem dX1_neighbour_82 : decode cX1_neighbour 82 = .ok (.lload 10, 2) := by decide +kernel
theorem dX1_neighbour_84 : decode cX1_neighbour 84 = .ok (.lcmp, 1) := by decide +kernel
theorem dX1_neighbour_85 : decode cX1_neighbour 85 = .ok (.ifCond .ne 13, 3) := by decide +kernel
theorem dX1_neighbour_88 : decode cX1_neighbour 88 = .ok (.aload_n 0, 1) := by decide +kernel
theorem dX1_neighbour_89 : decode cX1_neighbour 89 = .ok (.getfield 7, 3) := by decide +kernel
theorem dX1_neighbour_92 : decode cX1_neighbour 92 = .ok (.iload_n 1, 1) := by decide +kernel
theorem dX1_neighbour_93 : decode cX1_neighbour 93 = .ok (.lload 4, 2) := by decide +kernel
theorem dX1_neighbour_95 : decode cX1_neighbour 95 = .ok (.lastore, 1) := by decide +kernel
theorem dX1_neighbour_96 : decode cX1_neighbour 96 = .ok (.iconst 1, 1) := by decide +kernel
theorem dX1_neighbour_97 : decode cX1_neighbour 97 = .ok (.ireturn, 1) := by decide +kernel
theorem dX1_neighbour_98 : decode cX1_neighbour 98 = .ok (.lload 8, 2) := by decide +kernel
theorem dX1_neighbour_100 : decode cX1_neighbour 100 = .ok (.lload 10, 2) := by decide +kernel
theorem dX1_neighbour_102 : decode cX1_neighbour 102 = .ok (.lcmp, 1) := by decide +kernel
theorem dX1_neighbour_103 : decode cX1_neighbour 103 = .ok (.ifCond .ge 10, 3) := by decide +kernel
theorem dX1_neighbour_106 : decode cX1_neighbour 106 = .ok (.lload 8, 2) := by decide +kernel
theorem dX1_neighbour_108 : decode cX1_neighbour 108 = .ok (.lconst 1, 1) := by decide +kernel
theorem dX1_neighbour_109 : decode cX1_neighbour 109 = .ok (.ladd, 1) := by decide +kernel
theorem dX1_neighbour_110 : decode cX1_neighbour 110 = .ok (.goto 7, 3) := by decide +kernel
theorem dX1_neighbour_113 : decode cX1_neighbour 113 = .ok (.lload 8, 2) := by decide +kernel
theorem dX1_neighbour_115 : decode cX1_neighbour 115 = .ok (.lconst 1, 1) := by decide +kernel
theorem dX1_neighbour_116 : decode cX1_neighbour 116 = .ok (.lsub, 1) := by decide +kernel
theorem dX1_neighbour_117 : decode cX1_neighbour 117 = .ok (.lstore 12, 2) := by decide +kernel
theorem dX1_neighbour_119 : decode cX1_neighbour 119 = .ok (.aload_n 0, 1) := by decide +kernel
theorem dX1_neighbour_120 : decode cX1_neighbour 120 = .ok (.getfield 7, 3) := by decide +kernel
theorem dX1_neighbour_123 : decode cX1_neighbour 123 = .ok (.iload_n 1, 1) := by decide +kernel
theorem dX1_neighbour_124 : decode cX1_neighbour 124 = .ok (.lload 12, 2) := by decide +kernel
theorem dX1_neighbour_126 : decode cX1_neighbour 126 = .ok (.lconst 0, 1) := by decide +kernel
theorem dX1_neighbour_127 : decode cX1_neighbour 127 = .ok (.lcmp, 1) := by decide +kernel
theorem dX1_neighbour_128 : decode cX1_neighbour 128 = .ok (.ifCond .ne 15, 3) := by decide +kernel
theorem dX1_neighbour_131 : decode cX1_neighbour 131 = .ok (.lconst 0, 1) := by decide +kernel
theorem dX1_neighbour_132 : decode cX1_neighbour 132 = .ok (.lload 4, 2) := by decide +kernel
theorem dX1_neighbour_134 : decode cX1_neighbour 134 = .ok (.invokestatic 80, 3) := by decide +kernel
theorem dX1_neighbour_137 : decode cX1_neighbour 137 = .ok (.invokestatic 93, 3) := by decide +kernel
theorem dX1_neighbour_140 : decode cX1_neighbour 140 = .ok (.goto 22, 3) := by decide +kernel
theorem dX1_neighbour_143 : decode cX1_neighbour 143 = .ok (.lload 12, 2) := by decide +kernel
theorem dX1_neighbour_145 : decode cX1_neighbour 145 = .ok (.lconst 0, 1) := by decide +kernel
theorem dX1_neighbour_146 : decode cX1_neighbour 146 = .ok (.lcmp, 1) := by decide +kernel
theorem dX1_neighbour_147 : decode cX1_neighbour 147 = .ok (.ifCond .ge 13, 3) := by decide +kernel
theorem dX1_neighbour_150 : decode cX1_neighbour 150 = .ok (.lload 12, 2) := by decide +kernel
theorem dX1_neighbour_152 : decode cX1_neighbour 152 = .ok (.lneg, 1) := by decide +kernel
theorem dX1_neighbour_153 : decode cX1_neighbour 153 = .ok (.iconst 1, 1) := by decide +kernel
theorem dX1_neighbour_154 : decode cX1_neighbour 154 = .ok (.invokestatic 93, 3) := by decide +kernel
theorem dX1_neighbour_157 : decode cX1_neighbour 157 = .ok (.goto 5, 3) := by decide +kernel
theorem dX1_neighbour_160 : decode cX1_neighbour 160 = .ok (.lload 12, 2) := by decide +kernel
theorem dX1_neighbour_162 : decode cX1_neighbour 162 = .ok (.lastore, 1) := by decide +kernel
theorem dX1_neighbour_163 : decode cX1_neighbour 163 = .ok (.iconst 1, 1) := by decide +kernel
theorem dX1_neighbour_164 : decode cX1_neighbour 164 = .ok (.ireturn, 1) := by decide +kernel
set_option maxRecDepth 20000 in
theorem ggX1_neighbour_X1_isRegister : GoodIn wsX1_neighbour wsX1_isRegister := goodIn_r _ [4] (by decide +kernel) (by decide +kernel)
set_option maxRecDepth 20000 in
theorem gX1_neighbour_X1_isRegister : GoodIn wsX1_neighbour (va_wsS RX1 29 yX1_isRegister wsX1_isRegister) := goodIn_app (goodIn_of _ (by decide +kernel)) ggX1_neighbour_X1_isRegister
set_option maxRecDepth 20000 in
theorem ggX1_neighbour_X1_isNan : GoodIn wsX1_neighbour wsX1_isNan := goodIn_r _ [8, 9, 10, 3, 11, 12, 13] (by decide +kernel) (by decide +kernel)
set_option maxRecDepth 20000 in
theorem gX1_neighbour_X1_isNan : GoodIn wsX1_neighbour (va_wsS RX1 71 yX1_isNan wsX1_isNan) := goodIn_app (goodIn_of _ (by decide +kernel)) ggX1_neighbour_X1_isNan
set_option maxRecDepth 20000 in
theorem ggX1_neighbour_X1_place : GoodIn wsX1_neighbour wsX1_place := goodIn_r _ [17, 18, 19, 3, 20, 9, 10, 11, 12] (by decide +kernel) (by decide +kernel)
set_option maxRecDepth 20000 in
theorem gX1_neighbour_X1_place : GoodIn wsX1_neighbour (va_wsS RX1 106 yX1_place wsX1_place) := goodIn_app (goodIn_of _ (by decide +kernel)) ggX1_neighbour_X1_place
set_option maxRecDepth 20000 in
theorem ggX1_neighbour_X1_negative : GoodIn wsX1_neighbour wsX1_negative := goodIn_r _ [20] (by decide +kernel) (by decide +kernel)
set_option maxRecDepth 20000 in
theorem gX1_neighbour_X1_negative : GoodIn wsX1_neighbour (va_wsS RX1 80 yX1_negative wsX1_negative) := goodIn_app (goodIn_of _ (by decide +kernel)) ggX1_neighbour_X1_negative
set_option maxRecDepth 20000 in
theorem ggX1_neighbour_X1_signed : GoodIn wsX1_neighbour wsX1_signed := goodIn_r _ [23, 24] (by decide +kernel) (by decide +kernel)
set_option maxRecDepth 20000 in
theorem gX1_neighbour_X1_signed : GoodIn wsX1_neighbour (va_wsS RX1 93 yX1_signed wsX1_signed) := goodIn_app (goodIn_of _ (by decide +kernel)) ggX1_neighbour_X1_signed
theorem dX1_rounded_0 : decode cX1_rounded 0 = .ok (.lload_n 1, 1) := by decide +kernel
theorem dX1_rounded_1 : decode cX1_rounded 1 = .ok (.lstore 5, 2) := by decide +kernel
theorem dX1_rounded_3 : decode cX1_rounded 3 = .ok (.lload_n 3, 1) := by decide +kernel
theorem dX1_rounded_4 : decode cX1_rounded 4 = .ok (.lstore 7, 2) := by decide +kernel
theorem dX1_rounded_6 : decode cX1_rounded 6 = .ok (.iconst 0, 1) := by decide +kernel
theorem dX1_rounded_7 : decode cX1_rounded 7 = .ok (.istore 9, 2) := by decide +kernel
theorem dX1_rounded_9 : decode cX1_rounded 9 = .ok (.iload 9, 2) := by decide +kernel
theorem dX1_rounded_11 : decode cX1_rounded 11 = .ok (.bipush 60, 2) := by decide +kernel
theorem dX1_rounded_13 : decode cX1_rounded 13 = .ok (.if_icmp .ge 30, 3) := by decide +kernel
theorem dX1_rounded_16 : decode cX1_rounded 16 = .ok (.lload 5, 2) := by decide +kernel
theorem dX1_rounded_18 : decode cX1_rounded 18 = .ok (.ldc2_w 25, 3) := by decide +kernel
theorem dX1_rounded_21 : decode cX1_rounded 21 = .ok (.lcmp, 1) := by decide +kernel
theorem dX1_rounded_22 : decode cX1_rounded 22 = .ok (.ifCond .ge 21, 3) := by decide +kernel
theorem dX1_rounded_25 : decode cX1_rounded 25 = .ok (.lload 5, 2) := by decide +kernel
theorem dX1_rounded_27 : decode cX1_rounded 27 = .ok (.iconst 1, 1) := by decide +kernel
theorem dX1_rounded_28 : decode cX1_rounded 28 = .ok (.lshl, 1) := by decide +kernel
theorem dX1_rounded_29 : decode cX1_rounded 29 = .ok (.lstore 5, 2) := by decide +kernel
theorem dX1_rounded_31 : decode cX1_rounded 31 = .ok (.lload 7, 2) := by decide +kernel
theorem dX1_rounded_33 : decode cX1_rounded 33 = .ok (.lconst 1, 1) := by decide +kernel
theorem dX1_rounded_34 : decode cX1_rounded 34 = .ok (.lsub, 1) := by decide +kernel
theorem dX1_rounded_35 : decode cX1_rounded 35 = .ok (.lstore 7, 2) := by decide +kernel
theorem dX1_rounded_37 : decode cX1_rounded 37 = .ok (.iinc 9 1, 3) := by decide +kernel
theorem dX1_rounded_40 : decode cX1_rounded 40 = .ok (.goto (-31), 3) := by decide +kernel
theorem dX1_rounded_43 : decode cX1_rounded 43 = .ok (.lload 7, 2) := by decide +kernel
theorem dX1_rounded_45 : decode cX1_rounded 45 = .ok (.ldc2_w 109, 3) := by decide +kernel
theorem dX1_rounded_48 : decode cX1_rounded 48 = .ok (.lcmp, 1) := by decide +kernel
theorem dX1_rounded_49 : decode cX1_rounded 49 = .ok (.ifCond .le 18, 3) := by decide +kernel
theorem dX1_rounded_52 : decode cX1_rounded 52 = .ok (.aload_n 0, 1) := by decide +kernel
theorem dX1_rounded_53 : decode cX1_rounded 53 = .ok (.aload_n 0, 1) := by decide +kernel
theorem dX1_rounded_54 : decode cX1_rounded 54 = .ok (.getfield 61, 3) := by decide +kernel
theorem dX1_rounded_57 : decode cX1_rounded 57 = .ok (.bipush 6, 2) := by decide +kernel
theorem dX1_rounded_59 : decode cX1_rounded 59 = .ok (.ior, 1) := by decide +kernel
theorem dX1_rounded_60 : decode cX1_rounded 60 = .ok (.putfield 61, 3) := by decide +kernel
theorem dX1_rounded_63 : decode cX1_rounded 63 = .ok (.ldc2_w 21, 3) := by decide +kernel
theorem dX1_rounded_66 : decode cX1_rounded 66 = .ok (.lreturn, 1) := by decide +kernel
theorem dX1_rounded_67 : decode cX1_rounded 67 = .ok (.lload 7, 2) := by decide +kernel
theorem dX1_rounded_69 : decode cX1_rounded 69 = .ok (.ldc2_w 111, 3) := by decide +kernel
theorem dX1_rounded_72 : decode cX1_rounded 72 = .ok (.lcmp, 1) := by decide +kernel
theorem dX1_rounded_73 : decode cX1_rounded 73 = .ok (.ifCond .lt 12, 3) := by decide +kernel
theorem dX1_rounded_76 : decode cX1_rounded 76 = .ok (.lload 5, 2) := by decide +kernel
theorem dX1_rounded_78 : decode cX1_rounded 78 = .ok (.lload 7, 2) := by decide +kernel
theorem dX1_rounded_80 : decode cX1_rounded 80 = .ok (.l2i, 1) := by decide +kernel
theorem dX1_rounded_81 : decode cX1_rounded 81 = .ok (.invokestatic 67, 3) := by decide +kernel
theorem dX1_rounded_84 : decode cX1_rounded 84 = .ok (.lreturn, 1) := by decide +kernel
theorem dX1_rounded_85 : decode cX1_rounded 85 = .ok (.ldc2_w 111, 3) := by decide +kernel
theorem dX1_rounded_88 : decode cX1_rounded 88 = .ok (.lload 7, 2) := by decide +kernel
theorem dX1_rounded_90 : decode cX1_rounded 90 = .ok (.lsub, 1) := by decide +kernel
theorem dX1_rounded_91 : decode cX1_rounded 91 = .ok (.lstore 9, 2) := by decide +kernel
theorem dX1_rounded_93 : decode cX1_rounded 93 = .ok (.lload 9, 2) := by decide +kernel
theorem dX1_rounded_95 : decode cX1_rounded 95 = .ok (.ldc2_w 113, 3) := by decide +kernel
theorem dX1_rounded_98 : decode cX1_rounded 98 = .ok (.lcmp, 1) := by decide +kernel
theorem dX1_rounded_99 : decode cX1_rounded 99 = .ok (.ifCond .le 7, 3) := by decide +kernel
theorem dX1_rounded_102 : decode cX1_rounded 102 = .ok (.lconst 0, 1) := by decide +kernel
theorem dX1_rounded_103 : decode cX1_rounded 103 = .ok (.goto 13, 3) := by decide +kernel
theorem dX1_rounded_106 : decode cX1_rounded 106 = .ok (.lload 5, 2) := by decide +kernel
theorem dX1_rounded_108 : decode cX1_rounded 108 = .ok (.lload 9, 2) := by decide +kernel
theorem dX1_rounded_110 : decode cX1_rounded 110 = .ok (.l2i, 1) := by decide +kernel
theorem dX1_rounded_111 : decode cX1_rounded 111 = .ok (.iconst 1, 1) := by decide +kernel
theorem dX1_rounded_112 : decode cX1_rounded 112 = .ok (.iconst 0, 1) := by decide +kernel
theorem dX1_rounded_113 : decode cX1_rounded 113 = .ok (.invokestatic 89, 3) := by decide +kernel
theorem dX1_rounded_116 : decode cX1_rounded 116 = .ok (.lstore 11, 2) := by decide +kernel
theorem dX1_rounded_118 : decode cX1_rounded 118 = .ok (.lload 9, 2) := by decide +kernel
theorem dX1_rounded_120 : decode cX1_rounded 120 = .ok (.ldc2_w 113, 3) := by decide +kernel
theorem dX1_rounded_123 : decode cX1_rounded 123 = .ok (.lcmp, 1) := by decide +kernel
theorem dX1_rounded_124 : decode cX1_rounded 124 = .ok (.ifCond .gt 19, 3) := by decide +kernel
theorem dX1_rounded_127 : decode cX1_rounded 127 = .ok (.lload 11, 2) := by decide +kernel
theorem dX1_rounded_129 : decode cX1_rounded 129 = .ok (.lload 9, 2) := by decide +kernel
theorem dX1_rounded_131 : decode cX1_rounded 131 = .ok (.l2i, 1) := by decide +kernel
theorem dX1_rounded_132 : decode cX1_rounded 132 = .ok (.lshl, 1) := by decide +kernel
theorem dX1_rounded_133 : decode cX1_rounded 133 = .ok (.lload 5, 2) := by decide +kernel
theorem dX1_rounded_135 : decode cX1_rounded 135 = .ok (.lcmp, 1) := by decide +kernel
theorem dX1_rounded_136 : decode cX1_rounded 136 = .ok (.ifCond .ne 7, 3) := by decide +kernel
theorem dX1_rounded_139 : decode cX1_rounded 139 = .ok (.iconst 1, 1) := by decide +kernel
theorem dX1_rounded_140 : decode cX1_rounded 140 = .ok (.goto 4, 3) := by decide +kernel
theorem dX1_rounded_143 : decode cX1_rounded 143 = .ok (.iconst 0, 1) := by decide +kernel
theorem dX1_rounded_144 : decode cX1_rounded 144 = .ok (.istore 13, 2) := by decide +kernel
theorem dX1_rounded_146 : decode cX1_rounded 146 = .ok (.iload 13, 2) := by decide +kernel
theorem dX1_rounded_148 : decode cX1_rounded 148 = .ok (.ifCond .ne 40, 3) := by decide +kernel
theorem dX1_rounded_151 : decode cX1_rounded 151 = .ok (.aload_n 0, 1) := by decide +kernel
theorem dX1_rounded_152 : decode cX1_rounded 152 = .ok (.aload_n 0, 1) := by decide +kernel
theorem dX1_rounded_153 : decode cX1_rounded 153 = .ok (.getfield 61, 3) := by decide +kernel
theorem dX1_rounded_156 : decode cX1_rounded 156 = .ok (.iconst 2, 1) := by decide +kernel
theorem dX1_rounded_157 : decode cX1_rounded 157 = .ok (.ior, 1) := by decide +kernel
theorem dX1_rounded_158 : decode cX1_rounded 158 = .ok (.putfield 61, 3) := by decide +kernel
theorem dX1_rounded_161 : decode cX1_rounded 161 = .ok (.aload_n 0, 1) := by decide +kernel
theorem dX1_rounded_162 : decode cX1_rounded 162 = .ok (.lload 11, 2) := by decide +kernel
theorem dX1_rounded_164 : decode cX1_rounded 164 = .ok (.ldc2_w 25, 3) := by decide +kernel
theorem dX1_rounded_167 : decode cX1_rounded 167 = .ok (.lcmp, 1) := by decide +kernel
theorem dX1_rounded_168 : decode cX1_rounded 168 = .ok (.ifCond .ge 13, 3) := by decide +kernel
theorem dX1_rounded_171 : decode cX1_rounded 171 = .ok (.aload_n 0, 1) := by decide +kernel
theorem dX1_rounded_172 : decode cX1_rounded 172 = .ok (.getfield 61, 3) := by decide +kernel
theorem dX1_rounded_175 : decode cX1_rounded 175 = .ok (.bipush 8, 2) := by decide +kernel
theorem dX1_rounded_177 : decode cX1_rounded 177 = .ok (.ior, 1) := by decide +kernel
theorem dX1_rounded_178 : decode cX1_rounded 178 = .ok (.goto 7, 3) := by decide +kernel
theorem dX1_rounded_181 : decode cX1_rounded 181 = .ok (.aload_n 0, 1) := by decide +kernel
theorem dX1_rounded_182 : decode cX1_rounded 182 = .ok (.getfield 61, 3) := by decide +kernel
theorem dX1_rounded_185 : decode cX1_rounded 185 = .ok (.putfield 61, 3) := by decide +kernel
theorem dX1_rounded_188 : decode cX1_rounded 188 = .ok (.lload 11, 2) := by decide +kernel
theorem dX1_rounded_190 : decode cX1_rounded 190 = .ok (.lreturn, 1) := by decide +kernel
set_option maxRecDepth 20000 in
theorem ggX1_rounded_X1_exact : GoodIn wsX1_rounded wsX1_exact := goodIn_r _ [9, 10, 1] (by decide +kernel) (by decide +kernel)
set_option maxRecDepth 20000 in
theorem gX1_rounded_X1_exact : GoodIn wsX1_rounded (va_wsS RX1 67 yX1_exact wsX1_exact) := goodIn_app (goodIn_of _ (by decide +kernel)) ggX1_rounded_X1_exact
set_option maxRecDepth 20000 in
theorem ggX1_rounded_X1_cut : GoodIn wsX1_rounded wsX1_cut := goodIn_r _ [14, 15] (by decide +kernel) (by decide +kernel)
set_option maxRecDepth 20000 in
theorem gX1_rounded_X1_cut : GoodIn wsX1_rounded (va_wsS RX1 89 yX1_cut wsX1_cut) := goodIn_app (goodIn_of _ (by decide +kernel)) ggX1_rounded_X1_cut
theorem dX1_scale_0 : decode cX1_scale 0 = .ok (.iload_n 1, 1) := by decide +kernel
theorem dX1_scale_1 : decode cX1_scale 1 = .ok (.invokestatic 29, 3) := by decide +kernel
theorem dX1_scale_4 : decode cX1_scale 4 = .ok (.ifCond .eq 10, 3) := by decide +kernel
theorem dX1_scale_7 : decode cX1_scale 7 = .ok (.iload_n 2, 1) := by decide +kernel
theorem dX1_scale_8 : decode cX1_scale 8 = .ok (.invokestatic 29, 3) := by decide +kernel
theorem dX1_scale_11 : decode cX1_scale 11 = .ok (.ifCond .ne 5, 3) := by decide +kernel
theorem dX1_scale_14 : decode cX1_scale 14 = .ok (.iconst 0, 1) := by decide +kernel
theorem dX1_scale_15 : decode cX1_scale 15 = .ok (.ireturn, 1) := by decide +kernel
theorem dX1_scale_16 : decode cX1_scale 16 = .ok (.aload_n 0, 1) := by decide +kernel
theorem dX1_scale_17 : decode cX1_scale 17 = .ok (.getfield 7, 3) := by decide +kernel
theorem dX1_scale_20 : decode cX1_scale 20 = .ok (.iload_n 2, 1) := by decide +kernel
theorem dX1_scale_21 : decode cX1_scale 21 = .ok (.laload, 1) := by decide +kernel
theorem dX1_scale_22 : decode cX1_scale 22 = .ok (.lstore 4, 2) := by decide +kernel
theorem dX1_scale_24 : decode cX1_scale 24 = .ok (.lload 4, 2) := by decide +kernel
theorem dX1_scale_26 : decode cX1_scale 26 = .ok (.invokestatic 71, 3) := by decide +kernel
theorem dX1_scale_29 : decode cX1_scale 29 = .ok (.ifCond .eq 15, 3) := by decide +kernel
theorem dX1_scale_32 : decode cX1_scale 32 = .ok (.aload_n 0, 1) := by decide +kernel
theorem dX1_scale_33 : decode cX1_scale 33 = .ok (.getfield 7, 3) := by decide +kernel
theorem dX1_scale_36 : decode cX1_scale 36 = .ok (.iload_n 1, 1) := by decide +kernel
theorem dX1_scale_37 : decode cX1_scale 37 = .ok (.ldc2_w 75, 3) := by decide +kernel
theorem dX1_scale_40 : decode cX1_scale 40 = .ok (.lastore, 1) := by decide +kernel
theorem dX1_scale_41 : decode cX1_scale 41 = .ok (.goto 62, 3) := by decide +kernel
theorem dX1_scale_44 : decode cX1_scale 44 = .ok (.lload 4, 2) := by decide +kernel
theorem dX1_scale_46 : decode cX1_scale 46 = .ok (.invokestatic 86, 3) := by decide +kernel
theorem dX1_scale_49 : decode cX1_scale 49 = .ok (.ifCond .ne 11, 3) := by decide +kernel
theorem dX1_scale_52 : decode cX1_scale 52 = .ok (.lload 4, 2) := by decide +kernel
theorem dX1_scale_54 : decode cX1_scale 54 = .ok (.invokestatic 77, 3) := by decide +kernel
theorem dX1_scale_57 : decode cX1_scale 57 = .ok (.ifCond .eq 14, 3) := by decide +kernel
theorem dX1_scale_60 : decode cX1_scale 60 = .ok (.aload_n 0, 1) := by decide +kernel
theorem dX1_scale_61 : decode cX1_scale 61 = .ok (.getfield 7, 3) := by decide +kernel
theorem dX1_scale_64 : decode cX1_scale 64 = .ok (.iload_n 1, 1) := by decide +kernel
theorem dX1_scale_65 : decode cX1_scale 65 = .ok (.lload 4, 2) := by decide +kernel
theorem dX1_scale_67 : decode cX1_scale 67 = .ok (.lastore, 1) := by decide +kernel
theorem dX1_scale_68 : decode cX1_scale 68 = .ok (.goto 35, 3) := by decide +kernel
theorem dX1_scale_71 : decode cX1_scale 71 = .ok (.aload_n 0, 1) := by decide +kernel
theorem dX1_scale_72 : decode cX1_scale 72 = .ok (.getfield 7, 3) := by decide +kernel
theorem dX1_scale_75 : decode cX1_scale 75 = .ok (.iload_n 1, 1) := by decide +kernel
theorem dX1_scale_76 : decode cX1_scale 76 = .ok (.aload_n 0, 1) := by decide +kernel
theorem dX1_scale_77 : decode cX1_scale 77 = .ok (.lload 4, 2) := by decide +kernel
theorem dX1_scale_79 : decode cX1_scale 79 = .ok (.invokestatic 48, 3) := by decide +kernel
theorem dX1_scale_82 : decode cX1_scale 82 = .ok (.lload 4, 2) := by decide +kernel
theorem dX1_scale_84 : decode cX1_scale 84 = .ok (.invokestatic 51, 3) := by decide +kernel
theorem dX1_scale_87 : decode cX1_scale 87 = .ok (.i2l, 1) := by decide +kernel
theorem dX1_scale_88 : decode cX1_scale 88 = .ok (.iload_n 3, 1) := by decide +kernel
theorem dX1_scale_89 : decode cX1_scale 89 = .ok (.i2l, 1) := by decide +kernel
theorem dX1_scale_90 : decode cX1_scale 90 = .ok (.ladd, 1) := by decide +kernel
theorem dX1_scale_91 : decode cX1_scale 91 = .ok (.invokevirtual 115, 3) := by decide +kernel
theorem dX1_scale_94 : decode cX1_scale 94 = .ok (.lload 4, 2) := by decide +kernel
theorem dX1_scale_96 : decode cX1_scale 96 = .ok (.invokestatic 80, 3) := by decide +kernel
theorem dX1_scale_99 : decode cX1_scale 99 = .ok (.invokestatic 93, 3) := by decide +kernel
theorem dX1_scale_102 : decode cX1_scale 102 = .ok (.lastore, 1) := by decide +kernel
theorem dX1_scale_103 : decode cX1_scale 103 = .ok (.iconst 1, 1) := by decide +kernel
theorem dX1_scale_104 : decode cX1_scale 104 = .ok (.ireturn, 1) := by decide +kernel
set_option maxRecDepth 20000 in
theorem ggX1_scale_X1_isRegister : GoodIn wsX1_scale wsX1_isRegister := goodIn_r _ [4] (by decide +kernel) (by decide +kernel)
set_option maxRecDepth 20000 in
theorem gX1_scale_X1_isRegister : GoodIn wsX1_scale (va_wsS RX1 29 yX1_isRegister wsX1_isRegister) := goodIn_app (goodIn_of _ (by decide +kernel)) ggX1_scale_X1_isRegister
set_option maxRecDepth 20000 in
theorem ggX1_scale_X1_isNan : GoodIn wsX1_scale wsX1_isNan := goodIn_r _ [8, 9, 10, 3, 11, 12, 13] (by decide +kernel) (by decide +kernel)
set_option maxRecDepth 20000 in
theorem gX1_scale_X1_isNan : GoodIn wsX1_scale (va_wsS RX1 71 yX1_isNan wsX1_isNan) := goodIn_app (goodIn_of _ (by decide +kernel)) ggX1_scale_X1_isNan
set_option maxRecDepth 20000 in
theorem ggX1_scale_X1_isInfinite : GoodIn wsX1_scale wsX1_isInfinite := goodIn_r _ [17, 9, 10, 3, 11, 12, 13] (by decide +kernel) (by decide +kernel)
set_option maxRecDepth 20000 in
theorem gX1_scale_X1_isInfinite : GoodIn wsX1_scale (va_wsS RX1 86 yX1_isInfinite wsX1_isInfinite) := goodIn_app (goodIn_of _ (by decide +kernel)) ggX1_scale_X1_isInfinite
set_option maxRecDepth 20000 in
theorem ggX1_scale_X1_isZero : GoodIn wsX1_scale wsX1_isZero := goodIn_r _ [20, 9, 10, 3, 11, 12] (by decide +kernel) (by decide +kernel)
set_option maxRecDepth 20000 in
theorem gX1_scale_X1_isZero : GoodIn wsX1_scale (va_wsS RX1 77 yX1_isZero wsX1_isZero) := goodIn_app (goodIn_of _ (by decide +kernel)) ggX1_scale_X1_isZero
set_option maxRecDepth 20000 in
theorem ggX1_scale_X1_number : GoodIn wsX1_scale wsX1_number := goodIn_r _ [23, 24, 9, 10, 3, 11, 12, 25] (by decide +kernel) (by decide +kernel)
set_option maxRecDepth 20000 in
theorem gX1_scale_X1_number : GoodIn wsX1_scale (va_wsS RX1 48 yX1_number wsX1_number) := goodIn_app (goodIn_of _ (by decide +kernel)) ggX1_scale_X1_number
set_option maxRecDepth 20000 in
theorem ggX1_scale_X1_power : GoodIn wsX1_scale wsX1_power := goodIn_r _ [28, 9, 10, 3, 11, 12] (by decide +kernel) (by decide +kernel)
set_option maxRecDepth 20000 in
theorem gX1_scale_X1_power : GoodIn wsX1_scale (va_wsS RX1 51 yX1_power wsX1_power) := goodIn_app (goodIn_of _ (by decide +kernel)) ggX1_scale_X1_power
set_option maxRecDepth 20000 in
theorem ggX1_scale_X1_rounded : GoodIn wsX1_scale wsX1_rounded := goodIn_r _ [32, 25, 33, 34, 13, 35, 36, 37, 3, 38, 39, 40, 41, 42, 43, 44, 52, 53, 54, 55, 56] (by decide +kernel) (by decide +kernel)
set_option maxRecDepth 20000 in
theorem gX1_scale_X1_rounded : GoodIn wsX1_scale (wsV RX1 115 RX1 yX1_rounded wsX1_rounded) := goodIn_app (goodIn_of _ (by decide +kernel)) ggX1_scale_X1_rounded
set_option maxRecDepth 20000 in
theorem ggX1_scale_X1_negative : GoodIn wsX1_scale wsX1_negative := goodIn_r _ [47] (by decide +kernel) (by decide +kernel)
set_option maxRecDepth 20000 in
theorem gX1_scale_X1_negative : GoodIn wsX1_scale (va_wsS RX1 80 yX1_negative wsX1_negative) := goodIn_app (goodIn_of _ (by decide +kernel)) ggX1_scale_X1_negative
set_option maxRecDepth 20000 in
theorem ggX1_scale_X1_signed : GoodIn wsX1_scale wsX1_signed := goodIn_r _ [50, 51] (by decide +kernel) (by decide +kernel)
set_option maxRecDepth 20000 in
theorem gX1_scale_X1_signed : GoodIn wsX1_scale (va_wsS RX1 93 yX1_signed wsX1_signed) := goodIn_app (goodIn_of _ (by decide +kernel)) ggX1_scale_X1_signed
theorem dX1_exponent_0 : decode cX1_exponent 0 = .ok (.iload_n 1, 1) := by decide +kernel
theorem dX1_exponent_1 : decode cX1_exponent 1 = .ok (.invokestatic 29, 3) := by decide +kernel
theorem dX1_exponent_4 : decode cX1_exponent 4 = .ok (.ifCond .ne 5, 3) := by decide +kernel
theorem dX1_exponent_7 : decode cX1_exponent 7 = .ok (.iconst 0, 1) := by decide +kernel
theorem dX1_exponent_8 : decode cX1_exponent 8 = .ok (.ireturn, 1) := by decide +kernel
theorem dX1_exponent_9 : decode cX1_exponent 9 = .ok (.aload_n 0, 1) := by decide +kernel
theorem dX1_exponent_10 : decode cX1_exponent 10 = .ok (.getfield 7, 3) := by decide +kernel
theorem dX1_exponent_13 : decode cX1_exponent 13 = .ok (.iload_n 1, 1) := by decide +kernel
theorem dX1_exponent_14 : decode cX1_exponent 14 = .ok (.laload, 1) := by decide +kernel
theorem dX1_exponent_15 : decode cX1_exponent 15 = .ok (.lstore_n 2, 1) := by decide +kernel
theorem dX1_exponent_16 : decode cX1_exponent 16 = .ok (.lload_n 2, 1) := by decide +kernel
theorem dX1_exponent_17 : decode cX1_exponent 17 = .ok (.invokestatic 77, 3) := by decide +kernel
theorem dX1_exponent_20 : decode cX1_exponent 20 = .ok (.ifCond .eq 6, 3) := by decide +kernel
theorem dX1_exponent_23 : decode cX1_exponent 23 = .ok (.ldc 119, 2) := by decide +kernel
theorem dX1_exponent_25 : decode cX1_exponent 25 = .ok (.ireturn, 1) := by decide +kernel
theorem dX1_exponent_26 : decode cX1_exponent 26 = .ok (.lload_n 2, 1) := by decide +kernel
theorem dX1_exponent_27 : decode cX1_exponent 27 = .ok (.invokestatic 17, 3) := by decide +kernel
theorem dX1_exponent_30 : decode cX1_exponent 30 = .ok (.ldc2_w 21, 3) := by decide +kernel
theorem dX1_exponent_33 : decode cX1_exponent 33 = .ok (.lcmp, 1) := by decide +kernel
theorem dX1_exponent_34 : decode cX1_exponent 34 = .ok (.ifCond .lt 6, 3) := by decide +kernel
theorem dX1_exponent_37 : decode cX1_exponent 37 = .ok (.ldc 120, 2) := by decide +kernel
theorem dX1_exponent_39 : decode cX1_exponent 39 = .ok (.ireturn, 1) := by decide +kernel
theorem dX1_exponent_40 : decode cX1_exponent 40 = .ok (.lload_n 2, 1) := by decide +kernel
theorem dX1_exponent_41 : decode cX1_exponent 41 = .ok (.invokestatic 51, 3) := by decide +kernel
theorem dX1_exponent_44 : decode cX1_exponent 44 = .ok (.istore 4, 2) := by decide +kernel
theorem dX1_exponent_46 : decode cX1_exponent 46 = .ok (.lload_n 2, 1) := by decide +kernel
theorem dX1_exponent_47 : decode cX1_exponent 47 = .ok (.invokestatic 48, 3) := by decide +kernel
theorem dX1_exponent_50 : decode cX1_exponent 50 = .ok (.lstore 5, 2) := by decide +kernel
theorem dX1_exponent_52 : decode cX1_exponent 52 = .ok (.lload 5, 2) := by decide +kernel
theorem dX1_exponent_54 : decode cX1_exponent 54 = .ok (.lconst 1, 1) := by decide +kernel
theorem dX1_exponent_55 : decode cX1_exponent 55 = .ok (.lcmp, 1) := by decide +kernel
theorem dX1_exponent_56 : decode cX1_exponent 56 = .ok (.ifCond .le 15, 3) := by decide +kernel
theorem dX1_exponent_59 : decode cX1_exponent 59 = .ok (.iinc 4 1, 3) := by decide +kernel
theorem dX1_exponent_62 : decode cX1_exponent 62 = .ok (.lload 5, 2) := by decide +kernel
theorem dX1_exponent_64 : decode cX1_exponent 64 = .ok (.iconst 1, 1) := by decide +kernel
theorem dX1_exponent_65 : decode cX1_exponent 65 = .ok (.lshr, 1) := by decide +kernel
theorem dX1_exponent_66 : decode cX1_exponent 66 = .ok (.lstore 5, 2) := by decide +kernel
theorem dX1_exponent_68 : decode cX1_exponent 68 = .ok (.goto (-16), 3) := by decide +kernel
theorem dX1_exponent_71 : decode cX1_exponent 71 = .ok (.iload 4, 2) := by decide +kernel
theorem dX1_exponent_73 : decode cX1_exponent 73 = .ok (.ireturn, 1) := by decide +kernel
set_option maxRecDepth 20000 in
theorem ggX1_exponent_X1_isRegister : GoodIn wsX1_exponent wsX1_isRegister := goodIn_r _ [4] (by decide +kernel) (by decide +kernel)
set_option maxRecDepth 20000 in
theorem gX1_exponent_X1_isRegister : GoodIn wsX1_exponent (va_wsS RX1 29 yX1_isRegister wsX1_isRegister) := goodIn_app (goodIn_of _ (by decide +kernel)) ggX1_exponent_X1_isRegister
set_option maxRecDepth 20000 in
theorem ggX1_exponent_X1_isZero : GoodIn wsX1_exponent wsX1_isZero := goodIn_r _ [8, 9, 10, 3, 11, 12] (by decide +kernel) (by decide +kernel)
set_option maxRecDepth 20000 in
theorem gX1_exponent_X1_isZero : GoodIn wsX1_exponent (va_wsS RX1 77 yX1_isZero wsX1_isZero) := goodIn_app (goodIn_of _ (by decide +kernel)) ggX1_exponent_X1_isZero
set_option maxRecDepth 20000 in
theorem ggX1_exponent_X1_plain : GoodIn wsX1_exponent wsX1_plain := goodIn_r _ [11, 12] (by decide +kernel) (by decide +kernel)
set_option maxRecDepth 20000 in
theorem gX1_exponent_X1_plain : GoodIn wsX1_exponent (va_wsS RX1 17 yX1_plain wsX1_plain) := goodIn_app (goodIn_of _ (by decide +kernel)) ggX1_exponent_X1_plain
set_option maxRecDepth 20000 in
theorem ggX1_exponent_X1_power : GoodIn wsX1_exponent wsX1_power := goodIn_r _ [18, 9, 10, 3, 11, 12] (by decide +kernel) (by decide +kernel)
set_option maxRecDepth 20000 in
theorem gX1_exponent_X1_power : GoodIn wsX1_exponent (va_wsS RX1 51 yX1_power wsX1_power) := goodIn_app (goodIn_of _ (by decide +kernel)) ggX1_exponent_X1_power
set_option maxRecDepth 20000 in
theorem ggX1_exponent_X1_number : GoodIn wsX1_exponent wsX1_number := goodIn_r _ [21, 22, 9, 10, 3, 11, 12, 23] (by decide +kernel) (by decide +kernel)
set_option maxRecDepth 20000 in
theorem gX1_exponent_X1_number : GoodIn wsX1_exponent (va_wsS RX1 48 yX1_number wsX1_number) := goodIn_app (goodIn_of _ (by decide +kernel)) ggX1_exponent_X1_number
theorem dX1_compare_0 : decode cX1_compare 0 = .ok (.iload_n 1, 1) := by decide +kernel
theorem dX1_compare_1 : decode cX1_compare 1 = .ok (.invokestatic 29, 3) := by decide +kernel
theorem dX1_compare_4 : decode cX1_compare 4 = .ok (.ifCond .eq 34, 3) := by decide +kernel
theorem dX1_compare_7 : decode cX1_compare 7 = .ok (.iload_n 2, 1) := by decide +kernel
theorem dX1_compare_8 : decode cX1_compare 8 = .ok (.invokestatic 29, 3) := by decide +kernel
theorem dX1_compare_11 : decode cX1_compare 11 = .ok (.ifCond .eq 27, 3) := by decide +kernel
theorem dX1_compare_14 : decode cX1_compare 14 = .ok (.aload_n 0, 1) := by decide +kernel
theorem dX1_compare_15 : decode cX1_compare 15 = .ok (.getfield 7, 3) := by decide +kernel
theorem dX1_compare_18 : decode cX1_compare 18 = .ok (.iload_n 1, 1) := by decide +kernel
theorem dX1_compare_19 : decode cX1_compare 19 = .ok (.laload, 1) := by decide +kernel
theorem dX1_compare_20 : decode cX1_compare 20 = .ok (.invokestatic 71, 3) := by decide +kernel
theorem dX1_compare_23 : decode cX1_compare 23 = .ok (.ifCond .ne 15, 3) := by decide +kernel
theorem dX1_compare_26 : decode cX1_compare 26 = .ok (.aload_n 0, 1) := by decide +kernel
theorem dX1_compare_27 : decode cX1_compare 27 = .ok (.getfield 7, 3) := by decide +kernel
theorem dX1_compare_30 : decode cX1_compare 30 = .ok (.iload_n 2, 1) := by decide +kernel
theorem dX1_compare_31 : decode cX1_compare 31 = .ok (.laload, 1) := by decide +kernel
theorem dX1_compare_32 : decode cX1_compare 32 = .ok (.invokestatic 71, 3) := by decide +kernel
theorem dX1_compare_35 : decode cX1_compare 35 = .ok (.ifCond .eq 5, 3) := by decide +kernel
theorem dX1_compare_38 : decode cX1_compare 38 = .ok (.iconst 2, 1) := by decide +kernel
theorem dX1_compare_39 : decode cX1_compare 39 = .ok (.ireturn, 1) := by decide +kernel
theorem dX1_compare_40 : decode cX1_compare 40 = .ok (.aload_n 0, 1) := by decide +kernel
theorem dX1_compare_41 : decode cX1_compare 41 = .ok (.getfield 7, 3) := by decide +kernel
theorem dX1_compare_44 : decode cX1_compare 44 = .ok (.iload_n 1, 1) := by decide +kernel
theorem dX1_compare_45 : decode cX1_compare 45 = .ok (.laload, 1) := by decide +kernel
theorem dX1_compare_46 : decode cX1_compare 46 = .ok (.invokestatic 106, 3) := by decide +kernel
theorem dX1_compare_49 : decode cX1_compare 49 = .ok (.lstore_n 3, 1) := by decide +kernel
theorem dX1_compare_50 : decode cX1_compare 50 = .ok (.aload_n 0, 1) := by decide +kernel
theorem dX1_compare_51 : decode cX1_compare 51 = .ok (.getfield 7, 3) := by decide +kernel
theorem dX1_compare_54 : decode cX1_compare 54 = .ok (.iload_n 2, 1) := by decide +kernel
theorem dX1_compare_55 : decode cX1_compare 55 = .ok (.laload, 1) := by decide +kernel
theorem dX1_compare_56 : decode cX1_compare 56 = .ok (.invokestatic 106, 3) := by decide +kernel
theorem dX1_compare_59 : decode cX1_compare 59 = .ok (.lstore 5, 2) := by decide +kernel
theorem dX1_compare_61 : decode cX1_compare 61 = .ok (.lload_n 3, 1) := by decide +kernel
theorem dX1_compare_62 : decode cX1_compare 62 = .ok (.lload 5, 2) := by decide +kernel
theorem dX1_compare_64 : decode cX1_compare 64 = .ok (.lcmp, 1) := by decide +kernel
theorem dX1_compare_65 : decode cX1_compare 65 = .ok (.ifCond .ge 7, 3) := by decide +kernel
theorem dX1_compare_68 : decode cX1_compare 68 = .ok (.iconst (-1), 1) := by decide +kernel
theorem dX1_compare_69 : decode cX1_compare 69 = .ok (.goto 15, 3) := by decide +kernel
theorem dX1_compare_72 : decode cX1_compare 72 = .ok (.lload_n 3, 1) := by decide +kernel
theorem dX1_compare_73 : decode cX1_compare 73 = .ok (.lload 5, 2) := by decide +kernel
theorem dX1_compare_75 : decode cX1_compare 75 = .ok (.lcmp, 1) := by decide +kernel
theorem dX1_compare_76 : decode cX1_compare 76 = .ok (.ifCond .le 7, 3) := by decide +kernel
theorem dX1_compare_79 : decode cX1_compare 79 = .ok (.iconst 1, 1) := by decide +kernel
theorem dX1_compare_80 : decode cX1_compare 80 = .ok (.goto 4, 3) := by decide +kernel
theorem dX1_compare_83 : decode cX1_compare 83 = .ok (.iconst 0, 1) := by decide +kernel
theorem dX1_compare_84 : decode cX1_compare 84 = .ok (.ireturn, 1) := by decide +kernel
set_option maxRecDepth 20000 in
theorem ggX1_compare_X1_isRegister : GoodIn wsX1_compare wsX1_isRegister := goodIn_r _ [4] (by decide +kernel) (by decide +kernel)
set_option maxRecDepth 20000 in
theorem gX1_compare_X1_isRegister : GoodIn wsX1_compare (va_wsS RX1 29 yX1_isRegister wsX1_isRegister) := goodIn_app (goodIn_of _ (by decide +kernel)) ggX1_compare_X1_isRegister
set_option maxRecDepth 20000 in
theorem ggX1_compare_X1_isNan : GoodIn wsX1_compare wsX1_isNan := goodIn_r _ [8, 9, 10, 3, 11, 12, 13] (by decide +kernel) (by decide +kernel)
set_option maxRecDepth 20000 in
theorem gX1_compare_X1_isNan : GoodIn wsX1_compare (va_wsS RX1 71 yX1_isNan wsX1_isNan) := goodIn_app (goodIn_of _ (by decide +kernel)) ggX1_compare_X1_isNan
set_option maxRecDepth 20000 in
theorem ggX1_compare_X1_place : GoodIn wsX1_compare wsX1_place := goodIn_r _ [16, 17, 18, 3, 19, 9, 10, 11, 12] (by decide +kernel) (by decide +kernel)
set_option maxRecDepth 20000 in
theorem gX1_compare_X1_place : GoodIn wsX1_compare (va_wsS RX1 106 yX1_place wsX1_place) := goodIn_app (goodIn_of _ (by decide +kernel)) ggX1_compare_X1_place
theorem dX1_sort_0 : decode cX1_sort 0 = .ok (.iload_n 1, 1) := by decide +kernel
theorem dX1_sort_1 : decode cX1_sort 1 = .ok (.invokestatic 29, 3) := by decide +kernel
theorem dX1_sort_4 : decode cX1_sort 4 = .ok (.ifCond .ne 5, 3) := by decide +kernel
theorem dX1_sort_7 : decode cX1_sort 7 = .ok (.iconst (-1), 1) := by decide +kernel
theorem dX1_sort_8 : decode cX1_sort 8 = .ok (.ireturn, 1) := by decide +kernel
theorem dX1_sort_9 : decode cX1_sort 9 = .ok (.aload_n 0, 1) := by decide +kernel
theorem dX1_sort_10 : decode cX1_sort 10 = .ok (.getfield 7, 3) := by decide +kernel
theorem dX1_sort_13 : decode cX1_sort 13 = .ok (.iload_n 1, 1) := by decide +kernel
theorem dX1_sort_14 : decode cX1_sort 14 = .ok (.laload, 1) := by decide +kernel
theorem dX1_sort_15 : decode cX1_sort 15 = .ok (.lstore_n 2, 1) := by decide +kernel
theorem dX1_sort_16 : decode cX1_sort 16 = .ok (.lload_n 2, 1) := by decide +kernel
theorem dX1_sort_17 : decode cX1_sort 17 = .ok (.invokestatic 77, 3) := by decide +kernel
theorem dX1_sort_20 : decode cX1_sort 20 = .ok (.ifCond .eq 7, 3) := by decide +kernel
theorem dX1_sort_23 : decode cX1_sort 23 = .ok (.iconst 0, 1) := by decide +kernel
theorem dX1_sort_24 : decode cX1_sort 24 = .ok (.goto 41, 3) := by decide +kernel
theorem dX1_sort_27 : decode cX1_sort 27 = .ok (.lload_n 2, 1) := by decide +kernel
theorem dX1_sort_28 : decode cX1_sort 28 = .ok (.invokestatic 71, 3) := by decide +kernel
theorem dX1_sort_31 : decode cX1_sort 31 = .ok (.ifCond .eq 7, 3) := by decide +kernel
theorem dX1_sort_34 : decode cX1_sort 34 = .ok (.iconst 4, 1) := by decide +kernel
theorem dX1_sort_35 : decode cX1_sort 35 = .ok (.goto 30, 3) := by decide +kernel
theorem dX1_sort_38 : decode cX1_sort 38 = .ok (.lload_n 2, 1) := by decide +kernel
theorem dX1_sort_39 : decode cX1_sort 39 = .ok (.invokestatic 86, 3) := by decide +kernel
theorem dX1_sort_42 : decode cX1_sort 42 = .ok (.ifCond .eq 7, 3) := by decide +kernel
theorem dX1_sort_45 : decode cX1_sort 45 = .ok (.iconst 3, 1) := by decide +kernel
theorem dX1_sort_46 : decode cX1_sort 46 = .ok (.goto 19, 3) := by decide +kernel
theorem dX1_sort_49 : decode cX1_sort 49 = .ok (.lload_n 2, 1) := by decide +kernel
theorem dX1_sort_50 : decode cX1_sort 50 = .ok (.invokestatic 17, 3) := by decide +kernel
theorem dX1_sort_53 : decode cX1_sort 53 = .ok (.ldc2_w 25, 3) := by decide +kernel
theorem dX1_sort_56 : decode cX1_sort 56 = .ok (.lcmp, 1) := by decide +kernel
theorem dX1_sort_57 : decode cX1_sort 57 = .ok (.ifCond .ge 7, 3) := by decide +kernel
theorem dX1_sort_60 : decode cX1_sort 60 = .ok (.iconst 1, 1) := by decide +kernel
theorem dX1_sort_61 : decode cX1_sort 61 = .ok (.goto 4, 3) := by decide +kernel
theorem dX1_sort_64 : decode cX1_sort 64 = .ok (.iconst 2, 1) := by decide +kernel
theorem dX1_sort_65 : decode cX1_sort 65 = .ok (.istore 4, 2) := by decide +kernel
theorem dX1_sort_67 : decode cX1_sort 67 = .ok (.lload_n 2, 1) := by decide +kernel
theorem dX1_sort_68 : decode cX1_sort 68 = .ok (.invokestatic 80, 3) := by decide +kernel
theorem dX1_sort_71 : decode cX1_sort 71 = .ok (.ifCond .eq 11, 3) := by decide +kernel
theorem dX1_sort_74 : decode cX1_sort 74 = .ok (.iload 4, 2) := by decide +kernel
theorem dX1_sort_76 : decode cX1_sort 76 = .ok (.bipush 8, 2) := by decide +kernel
theorem dX1_sort_78 : decode cX1_sort 78 = .ok (.iadd, 1) := by decide +kernel
theorem dX1_sort_79 : decode cX1_sort 79 = .ok (.goto 5, 3) := by decide +kernel
theorem dX1_sort_82 : decode cX1_sort 82 = .ok (.iload 4, 2) := by decide +kernel
theorem dX1_sort_84 : decode cX1_sort 84 = .ok (.ireturn, 1) := by decide +kernel
set_option maxRecDepth 20000 in
theorem ggX1_sort_X1_isRegister : GoodIn wsX1_sort wsX1_isRegister := goodIn_r _ [4] (by decide +kernel) (by decide +kernel)
set_option maxRecDepth 20000 in
theorem gX1_sort_X1_isRegister : GoodIn wsX1_sort (va_wsS RX1 29 yX1_isRegister wsX1_isRegister) := goodIn_app (goodIn_of _ (by decide +kernel)) ggX1_sort_X1_isRegister
set_option maxRecDepth 20000 in
theorem ggX1_sort_X1_isZero : GoodIn wsX1_sort wsX1_isZero := goodIn_r _ [8, 9, 10, 3, 11, 12] (by decide +kernel) (by decide +kernel)
set_option maxRecDepth 20000 in
theorem gX1_sort_X1_isZero : GoodIn wsX1_sort (va_wsS RX1 77 yX1_isZero wsX1_isZero) := goodIn_app (goodIn_of _ (by decide +kernel)) ggX1_sort_X1_isZero
set_option maxRecDepth 20000 in
theorem ggX1_sort_X1_isNan : GoodIn wsX1_sort wsX1_isNan := goodIn_r _ [15, 9, 10, 3, 11, 12, 16] (by decide +kernel) (by decide +kernel)
set_option maxRecDepth 20000 in
theorem gX1_sort_X1_isNan : GoodIn wsX1_sort (va_wsS RX1 71 yX1_isNan wsX1_isNan) := goodIn_app (goodIn_of _ (by decide +kernel)) ggX1_sort_X1_isNan
set_option maxRecDepth 20000 in
theorem ggX1_sort_X1_isInfinite : GoodIn wsX1_sort wsX1_isInfinite := goodIn_r _ [19, 9, 10, 3, 11, 12, 16] (by decide +kernel) (by decide +kernel)
set_option maxRecDepth 20000 in
theorem gX1_sort_X1_isInfinite : GoodIn wsX1_sort (va_wsS RX1 86 yX1_isInfinite wsX1_isInfinite) := goodIn_app (goodIn_of _ (by decide +kernel)) ggX1_sort_X1_isInfinite
set_option maxRecDepth 20000 in
theorem ggX1_sort_X1_plain : GoodIn wsX1_sort wsX1_plain := goodIn_r _ [11, 12] (by decide +kernel) (by decide +kernel)
set_option maxRecDepth 20000 in
theorem gX1_sort_X1_plain : GoodIn wsX1_sort (va_wsS RX1 17 yX1_plain wsX1_plain) := goodIn_app (goodIn_of _ (by decide +kernel)) ggX1_sort_X1_plain
set_option maxRecDepth 20000 in
theorem ggX1_sort_X1_negative : GoodIn wsX1_sort wsX1_negative := goodIn_r _ [23] (by decide +kernel) (by decide +kernel)
set_option maxRecDepth 20000 in
theorem gX1_sort_X1_negative : GoodIn wsX1_sort (va_wsS RX1 80 yX1_negative wsX1_negative) := goodIn_app (goodIn_of _ (by decide +kernel)) ggX1_sort_X1_negative
theorem dX1_flags_0 : decode cX1_flags 0 = .ok (.aload_n 0, 1) := by decide +kernel
theorem dX1_flags_1 : decode cX1_flags 1 = .ok (.getfield 61, 3) := by decide +kernel
theorem dX1_flags_4 : decode cX1_flags 4 = .ok (.ireturn, 1) := by decide +kernel
theorem dX1_clear_0 : decode cX1_clear 0 = .ok (.aload_n 0, 1) := by decide +kernel
theorem dX1_clear_1 : decode cX1_clear 1 = .ok (.iconst 0, 1) := by decide +kernel
theorem dX1_clear_2 : decode cX1_clear 2 = .ok (.putfield 61, 3) := by decide +kernel
theorem dX1_clear_5 : decode cX1_clear 5 = .ok (.return_, 1) := by decide +kernel
end
section
/-! rows of my own: loops as step functions; a comparison of longs with its branch; calls over a world -/
def bl_it {S A : Type} (st : S → S ⊕ A) : Nat → S → Option A
  | 0, _ => none
  | n + 1, s => match st s with
    | .inl s2 => bl_it st n s2
    | .inr a => some a
theorem bl_it_succ {S A : Type} (st : S → S ⊕ A) (n : Nat) (s : S) : bl_it st (n + 1) s = (match st s with | .inl s2 => bl_it st n s2 | .inr a => some a) := rfl
theorem bl_stepL {S A : Type} {st : S → S ⊕ A} {n : Nat} {s s2 : S} {a : A} (e : st s = .inl s2) (h : bl_it st (n + 1) s = some a) : bl_it st n s2 = some a := by rw [bl_it_succ, e] at h; exact h
theorem bl_stepR {S A : Type} {st : S → S ⊕ A} {n : Nat} {s : S} {a b : A} (e : st s = .inr b) (h : bl_it st (n + 1) s = some a) : b = a := by rw [bl_it_succ, e] at h; exact Option.some.inj h
theorem bl_more {S A : Type} (st : S → S ⊕ A) : ∀ (n k : Nat) (s : S) (a : A), bl_it st n s = some a → bl_it st (n + k) s = some a := by
  intro n
  induction n with
  | zero => intro k s a h; cases h
  | succ n ih =>
    intro k s a h
    rw [show n + 1 + k = (n + k) + 1 by omega, bl_it_succ]
    rw [bl_it_succ] at h
    cases hs : st s with
    | inl s2 => rw [hs] at h; exact ih k s2 a h
    | inr b => rw [hs] at h; exact h
theorem bl_det {S A : Type} (st : S → S ⊕ A) {n k : Nat} {s : S} {a b : A} (h1 : bl_it st n s = some a) (h2 : bl_it st k s = some b) : a = b := by
  have e1 := bl_more st n k s a h1
  have e2 := bl_more st k n s b h2
  rw [Nat.add_comm k n, e1] at e2
  exact Option.some.inj e2
/-- what the loop comes to (where it ends) -/
noncomputable def bl_run {S A : Type} (st : S → S ⊕ A) (d : A) (s : S) : A := (Classical.epsilon (α := Option A) (fun o => ∃ n, bl_it st n s = o ∧ o ≠ none)).getD d
theorem bl_run_eq {S A : Type} (st : S → S ⊕ A) (d : A) {n : Nat} {s : S} {a : A} (h : bl_it st n s = some a) : bl_run st d s = a := by
  have hex : ∃ o : Option A, ∃ n, bl_it st n s = o ∧ o ≠ none := ⟨some a, n, h, fun z => by cases z⟩
  obtain ⟨k, h1, h2⟩ := Classical.epsilon_spec hex
  unfold bl_run
  generalize Classical.epsilon (fun o : Option A => ∃ n, bl_it st n s = o ∧ o ≠ none) = o at h1 h2
  cases o with
  | none => exact absurd rfl h2
  | some b => exact bl_det st h1 h
theorem bl_ends {S A : Type} (st : S → S ⊕ A) (mu : S → Nat) (h : ∀ s s2, st s = .inl s2 → mu s2 < mu s) : ∀ (n : Nat) (s : S), mu s < n → ∃ a, bl_it st n s = some a := by
  intro n
  induction n with
  | zero => intro s h0; omega
  | succ n ih =>
    intro s h0
    rw [bl_it_succ]
    cases hs : st s with
    | inl s2 => exact ih s2 (by have := h s s2 hs; omega)
    | inr a => exact ⟨a, rfl⟩
theorem bl_some {S A : Type} (st : S → S ⊕ A) (d : A) (mu : S → Nat) (h : ∀ s s2, st s = .inl s2 → mu s2 < mu s) (s : S) : ∃ n, bl_it st n s = some (bl_run st d s) := by
  obtain ⟨a, ha⟩ := bl_ends st mu h (mu s + 1) s (by omega)
  exact ⟨mu s + 1, by rw [bl_run_eq st d ha]; exact ha⟩
theorem bl_inv {S A : Type} (st : S → S ⊕ A) (I : S → Prop) (P : A → Prop) (hl : ∀ s s2, I s → st s = .inl s2 → I s2) (hr : ∀ s a, I s → st s = .inr a → P a) : ∀ (n : Nat) (s : S) (a : A), I s → bl_it st n s = some a → P a := by
  intro n
  induction n with
  | zero => intro s a _ h; cases h
  | succ n ih =>
    intro s a hi h
    rw [bl_it_succ] at h
    cases hs : st s with
    | inl s2 => rw [hs] at h; exact ih s2 a (hl s s2 hi hs) h
    | inr b =>
      rw [hs] at h
      obtain rfl := Option.some.inj h
      exact hr s b hi hs
/-- the loop's outcome, by an invariant -/
theorem bl_out {S A : Type} (st : S → S ⊕ A) (d : A) (mu : S → Nat) (h : ∀ s s2, st s = .inl s2 → mu s2 < mu s) (I : S → Prop) (P : A → Prop) (hl : ∀ s s2, I s → st s = .inl s2 → I s2) (hr : ∀ s a, I s → st s = .inr a → P a) (s : S) (hs : I s) : P (bl_run st d s) := by
  obtain ⟨n, hn⟩ := bl_some st d mu h s
  exact bl_inv st I P hl hr n s _ hs hn
section BW
variable {p : Program} {l : Launch} {e : Env} {R : Room} {s : State} {m : MethodId} {args : Array Value} {below : List Frame} {meth : Method} {c : Code} {H : Heap} {locs : List Loc} {cells slots : Nat} {Q : State → Prop}
variable {cc : ByteArray} {pc : Nat} {ls : Array Slot} {rest : List Value}
theorem bw_lc_lt (hexec : p.tables.exec = Jvm.exec) (hb : c.code = cc) {x y : Int64} {off : Int} {tgt : Nat} (h1 : decode cc pc = .ok (.lcmp, 1)) (h2 : decode cc (pc + 1) = .ok (.ifCond .lt off, 3)) (ht : ((pc + 1 : Nat) : Int) + off = (tgt : Int)) (kt : x < y → W p l e R s m args below meth c H locs cells slots Q (F0 m tgt ls rest)) (kf : ¬ x < y → W p l e R s m args below meth c H locs cells slots Q (F0 m (pc + 1 + 3) ls rest)) : W p l e R s m args below meth c H locs cells slots Q (F0 m pc ls (.long y :: .long x :: rest)) :=
  W.lcmp hexec hb h1 (lv_if_lt hexec hb h2 ht (fun h => kt ((lg_cmp_lt x y).mp h)) (fun h => kf (fun z => h ((lg_cmp_lt x y).mpr z))))
theorem bw_lc_ge (hexec : p.tables.exec = Jvm.exec) (hb : c.code = cc) {x y : Int64} {off : Int} {tgt : Nat} (h1 : decode cc pc = .ok (.lcmp, 1)) (h2 : decode cc (pc + 1) = .ok (.ifCond .ge off, 3)) (ht : ((pc + 1 : Nat) : Int) + off = (tgt : Int)) (kt : y ≤ x → W p l e R s m args below meth c H locs cells slots Q (F0 m tgt ls rest)) (kf : ¬ y ≤ x → W p l e R s m args below meth c H locs cells slots Q (F0 m (pc + 1 + 3) ls rest)) : W p l e R s m args below meth c H locs cells slots Q (F0 m pc ls (.long y :: .long x :: rest)) :=
  W.lcmp hexec hb h1 (lv_if_ge hexec hb h2 ht (fun h => kt ((lg_cmp_ge x y).mp h)) (fun h => kf (fun z => h ((lg_cmp_ge x y).mpr z))))
theorem bw_lc_gt (hexec : p.tables.exec = Jvm.exec) (hb : c.code = cc) {x y : Int64} {off : Int} {tgt : Nat} (h1 : decode cc pc = .ok (.lcmp, 1)) (h2 : decode cc (pc + 1) = .ok (.ifCond .gt off, 3)) (ht : ((pc + 1 : Nat) : Int) + off = (tgt : Int)) (kt : y < x → W p l e R s m args below meth c H locs cells slots Q (F0 m tgt ls rest)) (kf : ¬ y < x → W p l e R s m args below meth c H locs cells slots Q (F0 m (pc + 1 + 3) ls rest)) : W p l e R s m args below meth c H locs cells slots Q (F0 m pc ls (.long y :: .long x :: rest)) :=
  W.lcmp hexec hb h1 (lv_if_gt hexec hb h2 ht (fun h => kt ((lg_cmp_gt x y).mp h)) (fun h => kf (fun z => h ((lg_cmp_gt x y).mpr z))))
theorem bw_lc_le (hexec : p.tables.exec = Jvm.exec) (hb : c.code = cc) {x y : Int64} {off : Int} {tgt : Nat} (h1 : decode cc pc = .ok (.lcmp, 1)) (h2 : decode cc (pc + 1) = .ok (.ifCond .le off, 3)) (ht : ((pc + 1 : Nat) : Int) + off = (tgt : Int)) (kt : x ≤ y → W p l e R s m args below meth c H locs cells slots Q (F0 m tgt ls rest)) (kf : ¬ x ≤ y → W p l e R s m args below meth c H locs cells slots Q (F0 m (pc + 1 + 3) ls rest)) : W p l e R s m args below meth c H locs cells slots Q (F0 m pc ls (.long y :: .long x :: rest)) :=
  W.lcmp hexec hb h1 (lv_if_le hexec hb h2 ht (fun h => kt ((lg_cmp_le x y).mp h)) (fun h => kf (fun z => h ((lg_cmp_le x y).mpr z))))
theorem bw_lc_eq (hexec : p.tables.exec = Jvm.exec) (hb : c.code = cc) {x y : Int64} {off : Int} {tgt : Nat} (h1 : decode cc pc = .ok (.lcmp, 1)) (h2 : decode cc (pc + 1) = .ok (.ifCond .eq off, 3)) (ht : ((pc + 1 : Nat) : Int) + off = (tgt : Int)) (kt : x = y → W p l e R s m args below meth c H locs cells slots Q (F0 m tgt ls rest)) (kf : ¬ x = y → W p l e R s m args below meth c H locs cells slots Q (F0 m (pc + 1 + 3) ls rest)) : W p l e R s m args below meth c H locs cells slots Q (F0 m pc ls (.long y :: .long x :: rest)) :=
  W.lcmp hexec hb h1 (lv_if_eq hexec hb h2 ht (fun h => kt ((lg_cmp_eq x y).mp h)) (fun h => kf (fun z => h ((lg_cmp_eq x y).mpr z))))
theorem bw_lc_ne (hexec : p.tables.exec = Jvm.exec) (hb : c.code = cc) {x y : Int64} {off : Int} {tgt : Nat} (h1 : decode cc pc = .ok (.lcmp, 1)) (h2 : decode cc (pc + 1) = .ok (.ifCond .ne off, 3)) (ht : ((pc + 1 : Nat) : Int) + off = (tgt : Int)) (kt : ¬ x = y → W p l e R s m args below meth c H locs cells slots Q (F0 m tgt ls rest)) (kf : x = y → W p l e R s m args below meth c H locs cells slots Q (F0 m (pc + 1 + 3) ls rest)) : W p l e R s m args below meth c H locs cells slots Q (F0 m pc ls (.long y :: .long x :: rest)) :=
  W.lcmp hexec hb h1 (lv_if_ne hexec hb h2 ht (fun h => kt (fun z => h ((lg_cmp_eq x y).mpr z))) (fun h => kf ((lg_cmp_eq x y).mp h)))
variable {y : MethodName} {bytes : ByteArray} {maxL nL index n : Nat} {ret : Option FieldType} {ws : List Cond} {rm : Room} {Ts : List Cond} {own C : String} {As st0 : List Value}
theorem bw_csi {v : Int32} (S : CallFix p m c cc nL s args Ts own) (hM : Met l y ws rm (va_Pc As (fun _ => True)) (vp_Si (fun r => r = v)) 0 0 (fun _ => False)) (cw : CallB R s args own index y bytes maxL ret ws rm 0 0 n ∧ (Cond.static y).before args s = true) (hn : As.length = n) (hsize : ls.size = nL) (hstack : st0 = As.reverse ++ rest) (hW : (rest.map fun v => v.category).sum ≤ 8) (hdg : decode cc pc = .ok (.invokestatic index, 3)) (hc : cells ≤ R.cells) (hs : slots ≤ R.slots)
    (kk : W p l e R s m args below meth c H locs cells slots Q (F0 m (pc + 3) ls (.int v :: rest))) : W p l e R s m args below meth c H locs cells slots Q (F0 m pc ls st0) :=
  vp_callSi (W.runS S hM cw ⟨fun a U g mk q => ⟨q.1, trivial⟩, fun U _ _ => ⟨rfl, trivial⟩⟩ rfl hn hsize hstack (lv_room hW) hdg ⟨hc, hs⟩) (fun r hr => by subst hr; exact kk)
theorem bw_csl {v : Int64} (S : CallFix p m c cc nL s args Ts own) (hM : Met l y ws rm (va_Pc As (fun _ => True)) (vp_Sl (fun r => r = v)) 0 0 (fun _ => False)) (cw : CallB R s args own index y bytes maxL ret ws rm 0 0 n ∧ (Cond.static y).before args s = true) (hn : As.length = n) (hsize : ls.size = nL) (hstack : st0 = As.reverse ++ rest) (hW : (rest.map fun v => v.category).sum ≤ 8) (hdg : decode cc pc = .ok (.invokestatic index, 3)) (hc : cells ≤ R.cells) (hs : slots ≤ R.slots)
    (kk : W p l e R s m args below meth c H locs cells slots Q (F0 m (pc + 3) ls (.long v :: rest))) : W p l e R s m args below meth c H locs cells slots Q (F0 m pc ls st0) :=
  vp_callSl (W.runS S hM cw ⟨fun a U g mk q => ⟨q.1, trivial⟩, fun U _ _ => ⟨rfl, trivial⟩⟩ rfl hn hsize hstack (lv_room hW) hdg ⟨hc, hs⟩) (fun r hr => by subst hr; exact kk)
end BW
theorem bw_P1 {D : va_G} {cl : List vw_C} {A : Nat → Prop} {ws : va_W} {q0 b : Nat} {e0 e1 : va_E} {H H1 : Heap} (hP : va_P D cl ws H) (hD : va_D A ws) (he : ws[q0]? = some (b, e0)) (hP1 : va_P D cl [(b, e1)] H1) (hk : ∀ q : Nat, q < H.size → ¬ va_A [(b, e0)] H.size q → H1[q]? = H[q]?) : va_P D cl (ws.set q0 (b, e1)) H1 := by
  intro j q hj
  rw [List.getElem?_set] at hj
  by_cases hq : q0 = j
  · rw [if_pos hq] at hj
    split at hj
    · cases hj; exact hP1 0 _ rfl
    · cases hj
  · rw [if_neg hq] at hj
    have hlt := (hP j q hj).lt
    refine (hP j q hj).kept (hk q.1 hlt (fun z => ?_))
    rcases z with ⟨k, e, h⟩ | h
    · cases k with
      | zero =>
        have h2 : b = q.1 := congrArg Prod.fst (Option.some.inj h)
        exact hq (hD.1 q0 j _ _ he hj h2)
      | succ k => cases h
    · omega
theorem bw_F1 {A0 : Nat → Prop} {ws : va_W} {q0 b : Nat} {e0 : va_E} {H0 H : Heap} {locs : List Loc} (hD : va_D A0 ws) (hS : va_S A0 H0 H locs) (hA : ∀ q, H0.size ≤ q → A0 q) (he : ws[q0]? = some (b, e0)) : ∀ q, va_A [(b, e0)] H.size q → A0 q := by
  intro q h
  rcases h with ⟨k, e, h⟩ | h
  · cases k with
    | zero =>
      have h2 : b = q := congrArg Prod.fst (Option.some.inj h)
      rw [← h2]; exact hD.2 q0 _ he
    | succ k => cases h
  · exact hA q (Nat.le_trans hS.1 h)
theorem bw_W1 {D : va_G} {cl : List vw_C} {ws : va_W} {q0 b : Nat} {e0 : va_E} {H : Heap} (hP : va_P D cl ws H) (he : ws[q0]? = some (b, e0)) : va_P D cl [(b, e0)] H := by
  intro k q hk
  cases k with
  | zero => cases hk; exact hP q0 _ he
  | succ k => cases hk
theorem bw_D1 {b : Nat} {e0 : va_E} : va_D (fun _ => True) [(b, e0)] := by
  refine ⟨fun i j p q hi hj _ => ?_, fun _ _ _ => trivial⟩
  cases i with
  | zero => cases j with
    | zero => rfl
    | succ j => cases hj
  | succ i => cases hi
/-- two cells of a world -/
theorem bw_P2 {D : va_G} {cl : List vw_C} {A : Nat → Prop} {ws : va_W} {q0 q1 b a : Nat} {e0 e1 f0 f1 : va_E} {H H1 : Heap} (hP : va_P D cl ws H) (hD : va_D A ws) (hne : q0 ≠ q1) (he : ws[q0]? = some (b, e0)) (hf : ws[q1]? = some (a, f0)) (hP1 : va_P D cl [(b, e1), (a, f1)] H1) (hk : ∀ q : Nat, q < H.size → ¬ va_A [(b, e0), (a, f0)] H.size q → H1[q]? = H[q]?) : va_P D cl ((ws.set q0 (b, e1)).set q1 (a, f1)) H1 := by
  intro j q hj
  rw [List.getElem?_set] at hj
  by_cases hq1 : q1 = j
  · rw [if_pos hq1] at hj
    split at hj
    · cases hj; exact hP1 1 _ rfl
    · cases hj
  rw [if_neg hq1, List.getElem?_set] at hj
  by_cases hq : q0 = j
  · rw [if_pos hq] at hj
    split at hj
    · cases hj; exact hP1 0 _ rfl
    · cases hj
  · rw [if_neg hq] at hj
    have hlt := (hP j q hj).lt
    refine (hP j q hj).kept (hk q.1 hlt (fun z => ?_))
    rcases z with ⟨k, e, h⟩ | h
    · cases k with
      | zero =>
        have h2 : b = q.1 := congrArg Prod.fst (Option.some.inj h)
        exact hq (hD.1 q0 j _ _ he hj h2)
      | succ k => cases k with
        | zero =>
          have h2 : a = q.1 := congrArg Prod.fst (Option.some.inj h)
          exact hq1 (hD.1 q1 j _ _ hf hj h2)
        | succ k => cases h
    · omega
theorem bw_F2 {A0 : Nat → Prop} {ws : va_W} {q0 q1 b a : Nat} {e0 f0 : va_E} {H0 H : Heap} {locs : List Loc} (hD : va_D A0 ws) (hS : va_S A0 H0 H locs) (hA : ∀ q, H0.size ≤ q → A0 q) (he : ws[q0]? = some (b, e0)) (hf : ws[q1]? = some (a, f0)) : ∀ q, va_A [(b, e0), (a, f0)] H.size q → A0 q := by
  intro q h
  rcases h with ⟨k, e, h⟩ | h
  · cases k with
    | zero =>
      have h2 : b = q := congrArg Prod.fst (Option.some.inj h)
      rw [← h2]; exact hD.2 q0 _ he
    | succ k => cases k with
      | zero =>
        have h2 : a = q := congrArg Prod.fst (Option.some.inj h)
        rw [← h2]; exact hD.2 q1 _ hf
      | succ k => cases h
  · exact hA q (Nat.le_trans hS.1 h)
theorem bw_W2 {D : va_G} {cl : List vw_C} {ws : va_W} {q0 q1 b a : Nat} {e0 f0 : va_E} {H : Heap} (hP : va_P D cl ws H) (he : ws[q0]? = some (b, e0)) (hf : ws[q1]? = some (a, f0)) : va_P D cl [(b, e0), (a, f0)] H := by
  intro k q hk
  cases k with
  | zero => cases hk; exact hP q0 _ he
  | succ k => cases k with
    | zero => cases hk; exact hP q1 _ hf
    | succ k => cases hk
theorem bw_D2 {A : Nat → Prop} {ws : va_W} {q0 q1 b a : Nat} {e0 f0 : va_E} (hD : va_D A ws) (hne : q0 ≠ q1) (he : ws[q0]? = some (b, e0)) (hf : ws[q1]? = some (a, f0)) : va_D (fun _ => True) [(b, e0), (a, f0)] := by
  have hba : b ≠ a := fun z => hne (hD.1 q0 q1 _ _ he hf z)
  refine ⟨fun i j p q hi hj hpq => ?_, fun _ _ _ => trivial⟩
  cases i with
  | zero => cases j with
    | zero => rfl
    | succ j => cases j with
      | zero => cases hi; cases hj; exact absurd hpq hba
      | succ j => cases hj
  | succ i => cases i with
    | zero => cases j with
      | zero => cases hi; cases hj; exact absurd hpq.symm hba
      | succ j => cases j with
        | zero => rfl
        | succ j => cases hj
    | succ i => cases hi
theorem bw_set2 {ws : va_W} {q0 q1 b a : Nat} {e1 f0 : va_E} (hne : q0 ≠ q1) (hf : ws[q1]? = some (a, f0)) : (ws.set q0 (b, e1))[q1]? = some (a, f0) := by
  rw [List.getElem?_set, if_neg hne]; exact hf
/-- a method over one cell: its start; its world behind it -/
abbrev bw_I1 (D : va_G) (cl : List vw_C) (sz b : Nat) (e0 : va_E) (U : State) : Prop := U.heap.size = sz ∧ va_P D cl [(b, e0)] U.heap ∧ va_K D cl [] U ∧ va_D (fun _ => True) [(b, e0)]
abbrev bw_O1 (D : va_G) (cl : List vw_C) (A : Nat → Prop) (b : Nat) (e1 : va_E) (t : State) : Prop := va_P D cl [(b, e1)] t.heap ∧ va_K D cl [] t ∧ va_D A [(b, e1)]
/-- a method over an object and its array of longs -/
abbrev bw_I2 (D : va_G) (cl : List vw_C) (sz b a : Nat) (cA : ClassId) (e0 f0 : va_E) (U : State) : Prop := U.heap.size = sz ∧ va_P D cl [(b, e0), (a, f0)] U.heap ∧ va_K D cl [(cA, .long)] U ∧ va_D (fun _ => True) [(b, e0), (a, f0)]
abbrev bw_O2 (D : va_G) (cl : List vw_C) (A : Nat → Prop) (b a : Nat) (cA : ClassId) (e1 f1 : va_E) (t : State) : Prop := va_P D cl [(b, e1), (a, f1)] t.heap ∧ va_K D cl [(cA, .long)] t ∧ va_D A [(b, e1), (a, f1)]
section BX
variable {p : Program} {l : Launch} {e : Env} {R : Room} {s : State} {m : MethodId} {args : Array Value} {below : List Frame} {meth : Method} {c : Code} {H : Heap} {locs : List Loc} {cells slots : Nat} {Q : State → Prop}
variable {cc : ByteArray} {pc : Nat} {ls : Array Slot} {rest : List Value} {y : MethodName} {bytes : ByteArray} {maxL nL index n : Nat} {ret : Option FieldType} {wsC : List Cond} {rm : Room} {Ts : List Cond} {own C : String} {As st0 : List Value}
variable {D : va_G} {cl : List vw_C} {A0 : Nat → Prop} {H0 : Heap} {ws : va_W} {tys : List (ClassId × FieldType)} {b a : Nat} {ci N : Nat} {T : u_T} {fs : List Value} {f0 : va_E} {cA : ClassId} {S : Type}
theorem bw_vi1 (q0 : Nat) {e1 : S → va_E} {F : Int32 × S} (X : CallFix p m c cc nL s args Ts own)
    (hM : Met l y wsC rm (va_Pc (.ref b :: As) (bw_I1 D cl H.size b (.inr (ci, fs)))) (va_Qi (fun r u => (r, u) = F) (fun u t => bw_O1 D cl (va_A [(b, (.inr (ci, fs)))] H.size) b (e1 u) t) (va_A [(b, (.inr (ci, fs)))] H.size)) 0 0 (va_A [(b, (.inr (ci, fs)))] H.size))
    (cw : CallW R s args own C index y bytes maxL ret wsC rm 0 0 n) (hK : va_K D cl tys s) (hP : va_P D cl ws H) (hD : va_D A0 ws) (hS : va_S A0 H0 H locs) (hA : ∀ q, H0.size ≤ q → A0 q) (he : ws[q0]? = some (b, (.inr (ci, fs)))) (hc : cl[ci]? = some (C, T, N))
    (hn : As.length = n) (hsize : ls.size = nL) (hstack : st0 = As.reverse ++ .ref b :: rest) (hW : (rest.map fun v => v.category).sum ≤ 8) (hdg : decode cc pc = .ok (.invokevirtual index, 3)) (hcl : cells ≤ R.cells) (hsl : slots ≤ R.slots)
    (kk : ∀ (H1 : Heap) (locs1 : List Loc), va_P D cl (ws.set q0 (b, e1 F.2)) H1 → va_D A0 (ws.set q0 (b, e1 F.2)) → va_S A0 H0 H1 locs1 → W p l e R s m args below meth c H1 locs1 cells slots Q (F0 m (pc + 3) ls (.int F.1 :: rest))) : W p l e R s m args below meth c H locs cells slots Q (F0 m pc ls st0) := by
  have hPc := bw_W1 hP he
  have hFc := bw_F1 hD hS hA he
  have hKc : va_K D cl [] s := hK.sub (tys' := []) [] rfl
  refine va_calli (va_runV X hM cw ⟨fun a U g mk q => by obtain ⟨q0, q1, qP, qK, qD⟩ := q; exact ⟨q0, q1, qP, va_K.moved (u := U) (U := U.calling g mk a) (Vm.Alike.refl U.vm) qK, qD⟩, va_recv hK hP hc he, fun U hU hW => ⟨rfl, by rw [hU], by rw [hU]; exact hPc, va_K.moved hW.alike hKc, bw_D1⟩⟩ rfl hn hsize hstack (lv_room hW) hdg ⟨hcl, hsl⟩) hS (fun q _ h => hFc q h) hFc (fun r u t H1 locs1 ht hvm hp hB hz hk hS1 => ?_)
  obtain ⟨hP1, hK1, hD1⟩ := hB
  rw [ht] at hP1
  have h1 : r = F.1 := congrArg Prod.fst hp
  have h2 : u = F.2 := congrArg Prod.snd hp
  subst h1; subst h2
  exact kk H1 locs1 (bw_P1 hP hD he hP1 hk) (hD.set he) hS1
theorem bw_vl1 (q0 : Nat) {e1 : S → va_E} {F : Int64 × S} (X : CallFix p m c cc nL s args Ts own)
    (hM : Met l y wsC rm (va_Pc (.ref b :: As) (bw_I1 D cl H.size b (.inr (ci, fs)))) (va_Ql (fun r u => (r, u) = F) (fun u t => bw_O1 D cl (va_A [(b, (.inr (ci, fs)))] H.size) b (e1 u) t) (va_A [(b, (.inr (ci, fs)))] H.size)) 0 0 (va_A [(b, (.inr (ci, fs)))] H.size))
    (cw : CallW R s args own C index y bytes maxL ret wsC rm 0 0 n) (hK : va_K D cl tys s) (hP : va_P D cl ws H) (hD : va_D A0 ws) (hS : va_S A0 H0 H locs) (hA : ∀ q, H0.size ≤ q → A0 q) (he : ws[q0]? = some (b, (.inr (ci, fs)))) (hc : cl[ci]? = some (C, T, N))
    (hn : As.length = n) (hsize : ls.size = nL) (hstack : st0 = As.reverse ++ .ref b :: rest) (hW : (rest.map fun v => v.category).sum ≤ 8) (hdg : decode cc pc = .ok (.invokevirtual index, 3)) (hcl : cells ≤ R.cells) (hsl : slots ≤ R.slots)
    (kk : ∀ (H1 : Heap) (locs1 : List Loc), va_P D cl (ws.set q0 (b, e1 F.2)) H1 → va_D A0 (ws.set q0 (b, e1 F.2)) → va_S A0 H0 H1 locs1 → W p l e R s m args below meth c H1 locs1 cells slots Q (F0 m (pc + 3) ls (.long F.1 :: rest))) : W p l e R s m args below meth c H locs cells slots Q (F0 m pc ls st0) := by
  have hPc := bw_W1 hP he
  have hFc := bw_F1 hD hS hA he
  have hKc : va_K D cl [] s := hK.sub (tys' := []) [] rfl
  refine va_calll (va_runV X hM cw ⟨fun a U g mk q => by obtain ⟨q0, q1, qP, qK, qD⟩ := q; exact ⟨q0, q1, qP, va_K.moved (u := U) (U := U.calling g mk a) (Vm.Alike.refl U.vm) qK, qD⟩, va_recv hK hP hc he, fun U hU hW => ⟨rfl, by rw [hU], by rw [hU]; exact hPc, va_K.moved hW.alike hKc, bw_D1⟩⟩ rfl hn hsize hstack (lv_room hW) hdg ⟨hcl, hsl⟩) hS (fun q _ h => hFc q h) hFc (fun r u t H1 locs1 ht hvm hp hB hz hk hS1 => ?_)
  obtain ⟨hP1, hK1, hD1⟩ := hB
  rw [ht] at hP1
  have h1 : r = F.1 := congrArg Prod.fst hp
  have h2 : u = F.2 := congrArg Prod.snd hp
  subst h1; subst h2
  exact kk H1 locs1 (bw_P1 hP hD he hP1 hk) (hD.set he) hS1
theorem bw_vv1 (q0 : Nat) {e1 : S → va_E} {F : S} (X : CallFix p m c cc nL s args Ts own)
    (hM : Met l y wsC rm (va_Pc (.ref b :: As) (bw_I1 D cl H.size b (.inr (ci, fs)))) (va_Qv (fun u => u = F) (fun u t => bw_O1 D cl (va_A [(b, (.inr (ci, fs)))] H.size) b (e1 u) t) (va_A [(b, (.inr (ci, fs)))] H.size)) 0 0 (va_A [(b, (.inr (ci, fs)))] H.size))
    (cw : CallW R s args own C index y bytes maxL ret wsC rm 0 0 n) (hK : va_K D cl tys s) (hP : va_P D cl ws H) (hD : va_D A0 ws) (hS : va_S A0 H0 H locs) (hA : ∀ q, H0.size ≤ q → A0 q) (he : ws[q0]? = some (b, (.inr (ci, fs)))) (hc : cl[ci]? = some (C, T, N))
    (hn : As.length = n) (hsize : ls.size = nL) (hstack : st0 = As.reverse ++ .ref b :: rest) (hW : (rest.map fun v => v.category).sum ≤ 8) (hdg : decode cc pc = .ok (.invokevirtual index, 3)) (hcl : cells ≤ R.cells) (hsl : slots ≤ R.slots)
    (kk : ∀ (H1 : Heap) (locs1 : List Loc), va_P D cl (ws.set q0 (b, e1 F)) H1 → va_D A0 (ws.set q0 (b, e1 F)) → va_S A0 H0 H1 locs1 → W p l e R s m args below meth c H1 locs1 cells slots Q (F0 m (pc + 3) ls (rest))) : W p l e R s m args below meth c H locs cells slots Q (F0 m pc ls st0) := by
  have hPc := bw_W1 hP he
  have hFc := bw_F1 hD hS hA he
  have hKc : va_K D cl [] s := hK.sub (tys' := []) [] rfl
  refine va_callv (va_runV X hM cw ⟨fun a U g mk q => by obtain ⟨q0, q1, qP, qK, qD⟩ := q; exact ⟨q0, q1, qP, va_K.moved (u := U) (U := U.calling g mk a) (Vm.Alike.refl U.vm) qK, qD⟩, va_recv hK hP hc he, fun U hU hW => ⟨rfl, by rw [hU], by rw [hU]; exact hPc, va_K.moved hW.alike hKc, bw_D1⟩⟩ rfl hn hsize hstack (lv_room hW) hdg ⟨hcl, hsl⟩) hS (fun q _ h => hFc q h) hFc (fun u t H1 locs1 ht hvm hp hB hz hk hS1 => ?_)
  obtain ⟨hP1, hK1, hD1⟩ := hB
  rw [ht] at hP1
  subst hp
  exact kk H1 locs1 (bw_P1 hP hD he hP1 hk) (hD.set he) hS1
theorem bw_vi2 (q0 q1 t0 : Nat) {e1 f1 : S → va_E} {F : Int32 × S} (X : CallFix p m c cc nL s args Ts own)
    (hM : Met l y wsC rm (va_Pc (.ref b :: As) (bw_I2 D cl H.size b a cA (.inr (ci, fs)) f0)) (va_Qi (fun r u => (r, u) = F) (fun u t => bw_O2 D cl (va_A [(b, (.inr (ci, fs))), (a, f0)] H.size) b a cA (e1 u) (f1 u) t) (va_A [(b, (.inr (ci, fs))), (a, f0)] H.size)) 0 0 (va_A [(b, (.inr (ci, fs))), (a, f0)] H.size))
    (cw : CallW R s args own C index y bytes maxL ret wsC rm 0 0 n) (hK : va_K D cl tys s) (hP : va_P D cl ws H) (hD : va_D A0 ws) (hS : va_S A0 H0 H locs) (hA : ∀ q, H0.size ≤ q → A0 q) (hne : q0 ≠ q1) (he : ws[q0]? = some (b, (.inr (ci, fs)))) (hf : ws[q1]? = some (a, f0)) (ht0 : tys[t0]? = some (cA, .long)) (hc : cl[ci]? = some (C, T, N))
    (hn : As.length = n) (hsize : ls.size = nL) (hstack : st0 = As.reverse ++ .ref b :: rest) (hW : (rest.map fun v => v.category).sum ≤ 8) (hdg : decode cc pc = .ok (.invokevirtual index, 3)) (hcl : cells ≤ R.cells) (hsl : slots ≤ R.slots)
    (kk : ∀ (H1 : Heap) (locs1 : List Loc), va_P D cl ((ws.set q0 (b, e1 F.2)).set q1 (a, f1 F.2)) H1 → va_D A0 ((ws.set q0 (b, e1 F.2)).set q1 (a, f1 F.2)) → va_S A0 H0 H1 locs1 → W p l e R s m args below meth c H1 locs1 cells slots Q (F0 m (pc + 3) ls (.int F.1 :: rest))) : W p l e R s m args below meth c H locs cells slots Q (F0 m pc ls st0) := by
  have hPc := bw_W2 hP he hf
  have hFc := bw_F2 hD hS hA he hf
  have hKc : va_K D cl [(cA, .long)] s := hK.sub (tys' := [(cA, .long)]) [t0] (by simp [ht0])
  refine va_calli (va_runV X hM cw ⟨fun a U g mk q => by obtain ⟨q0, q1, qP, qK, qD⟩ := q; exact ⟨q0, q1, qP, va_K.moved (u := U) (U := U.calling g mk a) (Vm.Alike.refl U.vm) qK, qD⟩, va_recv hK hP hc he, fun U hU hW => ⟨rfl, by rw [hU], by rw [hU]; exact hPc, va_K.moved hW.alike hKc, bw_D2 hD hne he hf⟩⟩ rfl hn hsize hstack (lv_room hW) hdg ⟨hcl, hsl⟩) hS (fun q _ h => hFc q h) hFc (fun r u t H1 locs1 ht hvm hp hB hz hk hS1 => ?_)
  obtain ⟨hP1, hK1, hD1⟩ := hB
  rw [ht] at hP1
  have h1 : r = F.1 := congrArg Prod.fst hp
  have h2 : u = F.2 := congrArg Prod.snd hp
  subst h1; subst h2
  exact kk H1 locs1 (bw_P2 hP hD hne he hf hP1 hk) ((hD.set he).set (bw_set2 hne hf)) hS1
theorem bw_vl2 (q0 q1 t0 : Nat) {e1 f1 : S → va_E} {F : Int64 × S} (X : CallFix p m c cc nL s args Ts own)
    (hM : Met l y wsC rm (va_Pc (.ref b :: As) (bw_I2 D cl H.size b a cA (.inr (ci, fs)) f0)) (va_Ql (fun r u => (r, u) = F) (fun u t => bw_O2 D cl (va_A [(b, (.inr (ci, fs))), (a, f0)] H.size) b a cA (e1 u) (f1 u) t) (va_A [(b, (.inr (ci, fs))), (a, f0)] H.size)) 0 0 (va_A [(b, (.inr (ci, fs))), (a, f0)] H.size))
    (cw : CallW R s args own C index y bytes maxL ret wsC rm 0 0 n) (hK : va_K D cl tys s) (hP : va_P D cl ws H) (hD : va_D A0 ws) (hS : va_S A0 H0 H locs) (hA : ∀ q, H0.size ≤ q → A0 q) (hne : q0 ≠ q1) (he : ws[q0]? = some (b, (.inr (ci, fs)))) (hf : ws[q1]? = some (a, f0)) (ht0 : tys[t0]? = some (cA, .long)) (hc : cl[ci]? = some (C, T, N))
    (hn : As.length = n) (hsize : ls.size = nL) (hstack : st0 = As.reverse ++ .ref b :: rest) (hW : (rest.map fun v => v.category).sum ≤ 8) (hdg : decode cc pc = .ok (.invokevirtual index, 3)) (hcl : cells ≤ R.cells) (hsl : slots ≤ R.slots)
    (kk : ∀ (H1 : Heap) (locs1 : List Loc), va_P D cl ((ws.set q0 (b, e1 F.2)).set q1 (a, f1 F.2)) H1 → va_D A0 ((ws.set q0 (b, e1 F.2)).set q1 (a, f1 F.2)) → va_S A0 H0 H1 locs1 → W p l e R s m args below meth c H1 locs1 cells slots Q (F0 m (pc + 3) ls (.long F.1 :: rest))) : W p l e R s m args below meth c H locs cells slots Q (F0 m pc ls st0) := by
  have hPc := bw_W2 hP he hf
  have hFc := bw_F2 hD hS hA he hf
  have hKc : va_K D cl [(cA, .long)] s := hK.sub (tys' := [(cA, .long)]) [t0] (by simp [ht0])
  refine va_calll (va_runV X hM cw ⟨fun a U g mk q => by obtain ⟨q0, q1, qP, qK, qD⟩ := q; exact ⟨q0, q1, qP, va_K.moved (u := U) (U := U.calling g mk a) (Vm.Alike.refl U.vm) qK, qD⟩, va_recv hK hP hc he, fun U hU hW => ⟨rfl, by rw [hU], by rw [hU]; exact hPc, va_K.moved hW.alike hKc, bw_D2 hD hne he hf⟩⟩ rfl hn hsize hstack (lv_room hW) hdg ⟨hcl, hsl⟩) hS (fun q _ h => hFc q h) hFc (fun r u t H1 locs1 ht hvm hp hB hz hk hS1 => ?_)
  obtain ⟨hP1, hK1, hD1⟩ := hB
  rw [ht] at hP1
  have h1 : r = F.1 := congrArg Prod.fst hp
  have h2 : u = F.2 := congrArg Prod.snd hp
  subst h1; subst h2
  exact kk H1 locs1 (bw_P2 hP hD hne he hf hP1 hk) ((hD.set he).set (bw_set2 hne hf)) hS1
theorem bw_vv2 (q0 q1 t0 : Nat) {e1 f1 : S → va_E} {F : S} (X : CallFix p m c cc nL s args Ts own)
    (hM : Met l y wsC rm (va_Pc (.ref b :: As) (bw_I2 D cl H.size b a cA (.inr (ci, fs)) f0)) (va_Qv (fun u => u = F) (fun u t => bw_O2 D cl (va_A [(b, (.inr (ci, fs))), (a, f0)] H.size) b a cA (e1 u) (f1 u) t) (va_A [(b, (.inr (ci, fs))), (a, f0)] H.size)) 0 0 (va_A [(b, (.inr (ci, fs))), (a, f0)] H.size))
    (cw : CallW R s args own C index y bytes maxL ret wsC rm 0 0 n) (hK : va_K D cl tys s) (hP : va_P D cl ws H) (hD : va_D A0 ws) (hS : va_S A0 H0 H locs) (hA : ∀ q, H0.size ≤ q → A0 q) (hne : q0 ≠ q1) (he : ws[q0]? = some (b, (.inr (ci, fs)))) (hf : ws[q1]? = some (a, f0)) (ht0 : tys[t0]? = some (cA, .long)) (hc : cl[ci]? = some (C, T, N))
    (hn : As.length = n) (hsize : ls.size = nL) (hstack : st0 = As.reverse ++ .ref b :: rest) (hW : (rest.map fun v => v.category).sum ≤ 8) (hdg : decode cc pc = .ok (.invokevirtual index, 3)) (hcl : cells ≤ R.cells) (hsl : slots ≤ R.slots)
    (kk : ∀ (H1 : Heap) (locs1 : List Loc), va_P D cl ((ws.set q0 (b, e1 F)).set q1 (a, f1 F)) H1 → va_D A0 ((ws.set q0 (b, e1 F)).set q1 (a, f1 F)) → va_S A0 H0 H1 locs1 → W p l e R s m args below meth c H1 locs1 cells slots Q (F0 m (pc + 3) ls (rest))) : W p l e R s m args below meth c H locs cells slots Q (F0 m pc ls st0) := by
  have hPc := bw_W2 hP he hf
  have hFc := bw_F2 hD hS hA he hf
  have hKc : va_K D cl [(cA, .long)] s := hK.sub (tys' := [(cA, .long)]) [t0] (by simp [ht0])
  refine va_callv (va_runV X hM cw ⟨fun a U g mk q => by obtain ⟨q0, q1, qP, qK, qD⟩ := q; exact ⟨q0, q1, qP, va_K.moved (u := U) (U := U.calling g mk a) (Vm.Alike.refl U.vm) qK, qD⟩, va_recv hK hP hc he, fun U hU hW => ⟨rfl, by rw [hU], by rw [hU]; exact hPc, va_K.moved hW.alike hKc, bw_D2 hD hne he hf⟩⟩ rfl hn hsize hstack (lv_room hW) hdg ⟨hcl, hsl⟩) hS (fun q _ h => hFc q h) hFc (fun u t H1 locs1 ht hvm hp hB hz hk hS1 => ?_)
  obtain ⟨hP1, hK1, hD1⟩ := hB
  rw [ht] at hP1
  subst hp
  exact kk H1 locs1 (bw_P2 hP hD hne he hf hP1 hk) ((hD.set he).set (bw_set2 hne hf)) hS1
end BX
end
section
/-! numbers: Int64 and Int32 by their values -/
theorem bm_b64 {n : Int} (h1 : -9223372036854775808 ≤ n) (h2 : n < 9223372036854775808) : n.bmod (2 ^ 64) = n := by
  have e : (2 : Nat) ^ 64 = 18446744073709551616 := by decide
  rw [e]; simp only [Int.bmod]; split <;> omega
theorem bm_b32 {n : Int} (h1 : -2147483648 ≤ n) (h2 : n < 2147483648) : n.bmod (2 ^ 32) = n := by
  have e : (2 : Nat) ^ 32 = 4294967296 := by decide
  rw [e]; simp only [Int.bmod]; split <;> omega
theorem bm_rl (x : Int64) : -9223372036854775808 ≤ x.toInt ∧ x.toInt < 9223372036854775808 := by
  have a := x.le_toInt
  have b := x.toInt_lt
  omega
theorem bm_ri (x : Int32) : -2147483648 ≤ x.toInt ∧ x.toInt < 2147483648 := by
  have a := x.le_toInt
  have b := x.toInt_lt
  omega
theorem bm_ladd {a b : Int64} (h1 : -9223372036854775808 ≤ a.toInt + b.toInt) (h2 : a.toInt + b.toInt < 9223372036854775808) : (a + b).toInt = a.toInt + b.toInt := by rw [Int64.toInt_add, bm_b64 h1 h2]
theorem bm_lsub {a b : Int64} (h1 : -9223372036854775808 ≤ a.toInt - b.toInt) (h2 : a.toInt - b.toInt < 9223372036854775808) : (a - b).toInt = a.toInt - b.toInt := by rw [Int64.toInt_sub, bm_b64 h1 h2]
theorem bm_lmul {a b : Int64} (h1 : -9223372036854775808 ≤ a.toInt * b.toInt) (h2 : a.toInt * b.toInt < 9223372036854775808) : (a * b).toInt = a.toInt * b.toInt := by rw [Int64.toInt_mul, bm_b64 h1 h2]
theorem bm_lneg {a : Int64} (h1 : -9223372036854775808 < a.toInt) : (-a).toInt = -a.toInt := by
  have := bm_rl a
  rw [Int64.toInt_neg, bm_b64 (by omega) (by omega)]
theorem bm_iadd {a b : Int32} (h1 : -2147483648 ≤ a.toInt + b.toInt) (h2 : a.toInt + b.toInt < 2147483648) : (a + b).toInt = a.toInt + b.toInt := by rw [Int32.toInt_add, bm_b32 h1 h2]
theorem bm_isub {a b : Int32} (h1 : -2147483648 ≤ a.toInt - b.toInt) (h2 : a.toInt - b.toInt < 2147483648) : (a - b).toInt = a.toInt - b.toInt := by rw [Int32.toInt_sub, bm_b32 h1 h2]
theorem bm_ineg {a : Int32} (h1 : -2147483648 < a.toInt) : (-a).toInt = -a.toInt := by
  have := bm_ri a
  rw [Int32.toInt_neg, bm_b32 (by omega) (by omega)]
theorem bm_i2l (x : Int32) : x.toInt64.toInt = x.toInt := Int32.toInt_toInt64 x
theorem bm_l2i {x : Int64} (h1 : -2147483648 ≤ x.toInt) (h2 : x.toInt < 2147483648) : x.toInt32.toInt = x.toInt := by rw [Int64.toInt_toInt32, bm_b32 h1 h2]
theorem bm_ldiv {a b : Int64} (h1 : 0 ≤ a.toInt) (h2 : 0 < b.toInt) : (a / b).toInt = a.toInt / b.toInt := by
  have ra := bm_rl a
  have hd : a.toInt / b.toInt ≤ a.toInt := Int.ediv_le_self _ h1
  have h0 : 0 ≤ a.toInt / b.toInt := Int.ediv_nonneg h1 (by omega)
  rw [Int64.toInt_div, Int.tdiv_eq_ediv_of_nonneg h1, bm_b64 (by omega) (by omega)]
theorem bm_lrem {a b : Int64} (h1 : 0 ≤ a.toInt) (h2 : 0 < b.toInt) : (a - a / b * b).toInt = a.toInt % b.toInt := by
  have ra := bm_rl a
  have hd := bm_ldiv h1 h2
  have e := Int.mul_ediv_add_emod a.toInt b.toInt
  have e1 : a.toInt / b.toInt * b.toInt = b.toInt * (a.toInt / b.toInt) := Int.mul_comm _ _
  have n1 := Int.emod_nonneg a.toInt (show b.toInt ≠ 0 by omega)
  have n2 := Int.emod_lt_of_pos a.toInt h2
  have n3 : 0 ≤ b.toInt * (a.toInt / b.toInt) := Int.mul_nonneg (by omega) (Int.ediv_nonneg h1 (by omega))
  have hm : (a / b * b).toInt = a.toInt / b.toInt * b.toInt := by
    rw [bm_lmul (by rw [hd]; omega) (by rw [hd]; omega), hd]
  rw [bm_lsub (by rw [hm]; omega) (by rw [hm]; omega), hm]
  omega
theorem bm_leq {a b : Int64} : a = b ↔ a.toInt = b.toInt := Int64.toInt_inj.symm
theorem bm_ieq {a b : Int32} : a = b ↔ a.toInt = b.toInt := Int32.toInt_inj.symm
theorem bm_llt {a b : Int64} : a < b ↔ a.toInt < b.toInt := Int64.lt_iff_toInt_lt
theorem bm_lle {a b : Int64} : a ≤ b ↔ a.toInt ≤ b.toInt := Int64.le_iff_toInt_le
theorem bm_ilt {a b : Int32} : a < b ↔ a.toInt < b.toInt := Int32.lt_iff_toInt_lt
theorem bm_ile {a b : Int32} : a ≤ b ↔ a.toInt ≤ b.toInt := Int32.le_iff_toInt_le
/-! shifts -/
theorem bm_amt : ∀ j, j < 64 → (((nI j).toInt64 &&& 63).toBitVec.smod 64).toNat = j := by decide +kernel
theorem bm_i32 {k : Int32} {j : Nat} (hk : k.toInt = j) : k = nI j := by
  have := bm_ri k
  exact Int32.toInt_inj.mp (by rw [hk, nI_toInt (by omega)])
theorem bm_shlM (x : Int64) {k : Int32} {j : Nat} (hk : k.toInt = j) (hj : j < 64) : x <<< (k.toInt64 &&& 63) = x * Int64.ofNat (2 ^ j) := by
  rw [bm_i32 hk]
  apply Int64.toBitVec_inj.mp
  show x.toBitVec <<< (((nI j).toInt64 &&& 63).toBitVec.smod 64).toNat = x.toBitVec * BitVec.ofNat 64 (2 ^ j)
  rw [bm_amt j hj]
  apply BitVec.eq_of_toNat_eq
  rw [BitVec.toNat_shiftLeft, BitVec.toNat_mul, BitVec.toNat_ofNat, Nat.shiftLeft_eq, Nat.mul_mod_mod]
theorem bm_pw {j : Nat} (hj : j < 63) : (Int64.ofNat (2 ^ j)).toInt = ((2 ^ j : Nat) : Int) := Int64.toInt_ofNat_of_lt (Nat.pow_lt_pow_right (by decide) hj)
theorem bm_shl {x : Int64} {k : Int32} {j : Nat} (hk : k.toInt = j) (hj : j < 63) (h1 : -9223372036854775808 ≤ x.toInt * ((2 ^ j : Nat) : Int)) (h2 : x.toInt * ((2 ^ j : Nat) : Int) < 9223372036854775808) : (x <<< (k.toInt64 &&& 63)).toInt = x.toInt * ((2 ^ j : Nat) : Int) := by
  rw [bm_shlM x hk (by omega), bm_lmul (by rw [bm_pw hj]; exact h1) (by rw [bm_pw hj]; exact h2), bm_pw hj]
theorem bm_shr (x : Int64) {k : Int32} {j : Nat} (hk : k.toInt = j) (hj : j < 64) : (x >>> (k.toInt64 &&& 63)).toInt = x.toInt / ((2 ^ j : Nat) : Int) := by
  rw [bm_i32 hk]
  show (x.toBitVec.sshiftRight (((nI j).toInt64 &&& 63).toBitVec.smod 64).toNat).toInt = _
  rw [bm_amt j hj, BitVec.toInt_sshiftRight, Int.shiftRight_eq_div_pow]
  rfl
/-! the unsigned value -/
theorem bm_tl (x : Int64) : x.toInt = if 2 * x.toBitVec.toNat < 18446744073709551616 then (x.toBitVec.toNat : Int) else (x.toBitVec.toNat : Int) - 18446744073709551616 := BitVec.toInt_eq_toNat_cond _
theorem bm_ti (x : Int32) : x.toInt = if 2 * x.toBitVec.toNat < 4294967296 then (x.toBitVec.toNat : Int) else (x.toBitVec.toNat : Int) - 4294967296 := BitVec.toInt_eq_toNat_cond _
theorem bm_nl (x : Int64) : x.toBitVec.toNat < 18446744073709551616 := x.toBitVec.isLt
theorem bm_ni (x : Int32) : x.toBitVec.toNat < 4294967296 := x.toBitVec.isLt
theorem bm_andN (x c : Int64) (j : Nat) (hc : c.toBitVec.toNat = 2 ^ j - 1) : (x &&& c).toBitVec.toNat = x.toBitVec.toNat % 2 ^ j := by
  rw [Int64.toBitVec_and, BitVec.toNat_and, hc, Nat.and_two_pow_sub_one_eq_mod]
theorem bm_maskP (x c : Int64) (j L : Nat) (hc : c.toBitVec.toNat = 2 ^ j - 1) (hL : 2 ^ j = L) (hd : ∃ d, 18446744073709551616 = L * d) (hs : L ≤ 9223372036854775808) (h0 : 0 < L) : (x &&& c).toInt = x.toInt % (L : Int) := by
  have h := bm_andN x c j hc
  have a := bm_tl x
  have b := bm_tl (x &&& c)
  have nx := bm_nl x
  rw [h, hL] at b
  have hm := Nat.mod_lt x.toBitVec.toNat h0
  obtain ⟨d, hd⟩ := hd
  rw [if_pos (by omega)] at b
  rw [b]
  split at a
  · rw [a]; rfl
  · rw [a, show ((x.toBitVec.toNat : Int) - 18446744073709551616) = (x.toBitVec.toNat : Int) + (L : Int) * (-(d : Int)) by
      have e : (18446744073709551616 : Int) = (L : Int) * (d : Int) := by rw [← Int.natCast_mul, ← hd]; rfl
      rw [Int.mul_neg, ← e]; omega, Int.add_mul_emod_self_left]
    rfl
theorem bm_m63 (x : Int64) : (x &&& 9223372036854775807).toInt = x.toInt % 9223372036854775808 := bm_maskP x _ 63 9223372036854775808 (by decide +kernel) (by decide) ⟨2, by decide⟩ (by decide) (by decide)
theorem bm_m52 (x : Int64) : (x &&& 4503599627370495).toInt = x.toInt % 4503599627370496 := bm_maskP x _ 52 4503599627370496 (by decide +kernel) (by decide) ⟨4096, by decide⟩ (by decide) (by decide)
theorem bm_m54 (x : Int64) : (x &&& 18014398509481983).toInt = x.toInt % 18014398509481984 := bm_maskP x _ 54 18014398509481984 (by decide +kernel) (by decide) ⟨1024, by decide⟩ (by decide) (by decide)
theorem bm_m27 (x : Int64) : (x &&& 134217727).toInt = x.toInt % 134217728 := bm_maskP x _ 27 134217728 (by decide +kernel) (by decide) ⟨137438953472, by decide⟩ (by decide) (by decide)
theorem bm_m1 (x : Int64) : (x &&& 1).toInt = x.toInt % 2 := bm_maskP x _ 1 2 (by decide +kernel) (by decide) ⟨9223372036854775808, by decide⟩ (by decide) (by decide)
theorem bm_m2 (x : Int64) : (x &&& 3).toInt = x.toInt % 4 := bm_maskP x _ 2 4 (by decide +kernel) (by decide) ⟨4611686018427387904, by decide⟩ (by decide) (by decide)
theorem bm_m3 (x : Int64) : (x &&& 7).toInt = x.toInt % 8 := bm_maskP x _ 3 8 (by decide +kernel) (by decide) ⟨2305843009213693952, by decide⟩ (by decide) (by decide)
/-! the sign bit -/
theorem bm_sgN {x : Int64} (h : x < 0) : x &&& (-9223372036854775808) = -9223372036854775808 := by
  have a := bm_tl x
  have nx := bm_nl x
  have h0 : x.toInt < 0 := bm_llt.mp h
  have hb : x.toBitVec.getLsbD 63 = true := by
    show x.toBitVec.toNat.testBit 63 = true
    rw [Nat.testBit_eq_decide_div_mod_eq]
    exact decide_eq_true (by split at a <;> omega)
  apply Int64.toBitVec_inj.mp
  rw [Int64.toBitVec_and, show (-9223372036854775808 : Int64).toBitVec = BitVec.twoPow 64 63 by decide +kernel, BitVec.and_twoPow, if_pos hb]
theorem bm_sgP {x : Int64} (h : ¬ x < 0) : x &&& (-9223372036854775808) = 0 := by
  have a := bm_tl x
  have nx := bm_nl x
  have h0 : ¬ x.toInt < 0 := fun z => h (bm_llt.mpr z)
  have hb : ¬ x.toBitVec.getLsbD 63 = true := by
    show ¬ x.toBitVec.toNat.testBit 63 = true
    rw [Nat.testBit_eq_decide_div_mod_eq, decide_eq_true_iff]
    split at a <;> omega
  apply Int64.toBitVec_inj.mp
  rw [Int64.toBitVec_and, show (-9223372036854775808 : Int64).toBitVec = BitVec.twoPow 64 63 by decide +kernel, BitVec.and_twoPow, if_neg hb]
  rfl
/-- or with the sign bit, of a number that has none -/
theorem bm_orS {a : Int64} (h : 0 ≤ a.toInt) : (a ||| (-9223372036854775808)).toInt = a.toInt - 9223372036854775808 := by
  have e := bm_tl a
  have na := bm_nl a
  have b := bm_tl (a ||| (-9223372036854775808))
  have hn : a.toBitVec.toNat < 9223372036854775808 := by split at e <;> omega
  have g : (a ||| (-9223372036854775808)).toBitVec.toNat = 9223372036854775808 + a.toBitVec.toNat := by
    rw [Int64.toBitVec_or, BitVec.toNat_or, show (-9223372036854775808 : Int64).toBitVec.toNat = 2 ^ 63 by decide +kernel, Nat.or_comm]
    have := Nat.two_pow_add_eq_or_of_lt (i := 63) (b := a.toBitVec.toNat) (by omega) 1
    rw [Nat.mul_one] at this
    rw [← this]
  rw [g] at b
  rw [b, if_neg (by omega), e, if_pos (by omega)]
  omega
/-! pure arithmetic -/
theorem bm_pw2 {m : Int} {s t : Nat} (hm : 0 ≤ m) (h : s < t) : 2 * (m * ((2 ^ s : Nat) : Int)) ≤ m * ((2 ^ t : Nat) : Int) := by
  have h1 : 2 * 2 ^ s ≤ 2 ^ t := by
    have h0 : 2 ^ (s + 1) ≤ 2 ^ t := Nat.pow_le_pow_right (by decide) h
    rw [Nat.pow_succ] at h0
    omega
  have h2 : ((2 * 2 ^ s : Nat) : Int) ≤ ((2 ^ t : Nat) : Int) := Int.ofNat_le.mpr h1
  have h3 := Int.mul_le_mul_of_nonneg_left h2 hm
  rw [Int.natCast_mul] at h3
  have e : m * (((2 : Nat) : Int) * ((2 ^ s : Nat) : Int)) = 2 * (m * ((2 ^ s : Nat) : Int)) := by
    rw [← Int.mul_assoc, Int.mul_comm m, Int.mul_assoc]; rfl
  omega
/-- there is one shift that fills a significand as far as the power lets it -/
theorem bm_uniq {m q : Int} {s1 s2 : Nat} (hm : 0 < m) (a1 : m * ((2 ^ s1 : Nat) : Int) < 9007199254740992) (a2 : m * ((2 ^ s2 : Nat) : Int) < 9007199254740992) (b1 : -1074 ≤ q - s1) (b2 : -1074 ≤ q - s2) (c1 : 4503599627370496 ≤ m * ((2 ^ s1 : Nat) : Int) ∨ q - s1 = -1074) (c2 : 4503599627370496 ≤ m * ((2 ^ s2 : Nat) : Int) ∨ q - s2 = -1074) : s1 = s2 := by
  rcases Nat.lt_trichotomy s1 s2 with h | h | h
  · have := bm_pw2 (Int.le_of_lt hm) h
    omega
  · exact h
  · have := bm_pw2 (Int.le_of_lt hm) h
    omega
theorem bm_room {m : Int} {s1 s2 : Nat} (hm : 0 < m) (a1 : m * ((2 ^ s1 : Nat) : Int) < 9007199254740992) (a2 : m * ((2 ^ s2 : Nat) : Int) < 9007199254740992) (c1 : 4503599627370496 ≤ m * ((2 ^ s1 : Nat) : Int)) (c2 : 4503599627370496 ≤ m * ((2 ^ s2 : Nat) : Int)) : s1 = s2 := by
  rcases Nat.lt_trichotomy s1 s2 with h | h | h
  · have := bm_pw2 (Int.le_of_lt hm) h
    omega
  · exact h
  · have := bm_pw2 (Int.le_of_lt hm) h
    omega
/-! the root by hand -/
theorem bm_sqE (r : Nat) : (2 * r) * (2 * r) = 4 * (r * r) := by
  rw [Nat.mul_mul_mul_comm]
theorem bm_sqO (r : Nat) : (2 * r + 1) * (2 * r + 1) = 4 * (r * r) + 4 * r + 1 := by
  rw [Nat.add_mul, Nat.mul_add, bm_sqE]
  omega
theorem bm_sq1 {V r t d : Nat} (h1 : V = r * r + t) (h2 : t ≤ 2 * r) (hd : d < 4) (h : 4 * t + d < 4 * r + 1) : 4 * V + d = (2 * r) * (2 * r) + (4 * t + d) ∧ 4 * t + d ≤ 2 * (2 * r) := by
  rw [bm_sqE]
  omega
theorem bm_sq2 {V r t d : Nat} (h1 : V = r * r + t) (h2 : t ≤ 2 * r) (hd : d < 4) (h : 4 * r + 1 ≤ 4 * t + d) : 4 * V + d = (2 * r + 1) * (2 * r + 1) + (4 * t + d - (4 * r + 1)) ∧ 4 * t + d - (4 * r + 1) ≤ 2 * (2 * r + 1) := by
  rw [bm_sqO]
  omega
theorem bm_dig (X : Nat) : 4 * X / 18446744073709551616 = 4 * (X / 18446744073709551616) + X % 18446744073709551616 / 4611686018427387904 ∧ X % 18446744073709551616 / 4611686018427387904 < 4 ∧ 4 * (X % 18446744073709551616) % 18446744073709551616 = 4 * X % 18446744073709551616 := by
  omega
theorem bm_sqle {a b : Nat} (h : a * a < (b + 1) * (b + 1)) : a ≤ b := by
  rcases Nat.lt_or_ge b a with z | z
  · have := Nat.mul_le_mul (show b + 1 ≤ a from z) (show b + 1 ≤ a from z)
    omega
  · exact z
theorem bm_sqmono {a b : Nat} (h : a ≤ b) : a * a ≤ b * b := Nat.mul_le_mul h h
theorem bm_sqlt {a b : Nat} (h : a * a < b * b) : a < b := by
  rcases Nat.lt_or_ge a b with z | z
  · exact z
  · have := bm_sqmono z
    omega
/-! division with a rest, by shifts -/
theorem bm_rem {M N d r j : Nat} (s : Nat) (h : M * 2 ^ j = N * d + r) : M * 2 ^ (j + s) = (N * 2 ^ s + (r * 2 ^ s) / d) * d + (r * 2 ^ s) % d := by
  have e := Nat.div_add_mod (r * 2 ^ s) d
  rw [Nat.pow_add, ← Nat.mul_assoc, h, Nat.add_mul, Nat.add_mul, Nat.add_assoc, Nat.mul_comm (r * 2 ^ s / d) d, e, Nat.mul_right_comm]
theorem bm_divu {X N d r : Nat} (h : X = N * d + r) (hr : r < d) : N = X / d ∧ r = X % d := by
  subst h
  constructor
  · rw [Nat.add_comm, Nat.add_mul_div_right _ _ (by omega), Nat.div_eq_of_lt hr, Nat.zero_add]
  · rw [Nat.add_comm, Nat.add_mul_mod_self_right, Nat.mod_eq_of_lt hr]
/-! a product by halves of 27 bits -/
theorem bm_half (a b : Int) : a * b = (a / 134217728) * (b / 134217728) * 18014398509481984 + ((a / 134217728) * (b % 134217728) + (a % 134217728) * (b / 134217728)) * 134217728 + (a % 134217728) * (b % 134217728) := by
  have ha := Int.mul_ediv_add_emod a 134217728
  have hb := Int.mul_ediv_add_emod b 134217728
  generalize a / 134217728 = a1 at *
  generalize a % 134217728 = a0 at *
  generalize b / 134217728 = b1 at *
  generalize b % 134217728 = b0 at *
  subst ha; subst hb
  grind
theorem bm_mono {m : Int} {s t : Nat} (hm : 0 ≤ m) (h : s ≤ t) : m * ((2 ^ s : Nat) : Int) ≤ m * ((2 ^ t : Nat) : Int) := Int.mul_le_mul_of_nonneg_left (Int.ofNat_le.mpr (Nat.pow_le_pow_right (by decide) h)) hm
theorem bm_ge1 {m : Int} {s : Nat} (hm : 0 ≤ m) : m ≤ m * ((2 ^ s : Nat) : Int) := by
  have := bm_mono (s := 0) (t := s) hm (by omega)
  omega
/-! counters -/
theorem bm_mu {v c : Int32} (h : ¬ c ≤ v) : (c.toInt - (v + 1).toInt).toNat < (c.toInt - v.toInt).toNat := by
  have h : ¬ c.toInt ≤ v.toInt := fun z => h (bm_ile.mpr z)
  have hv := bm_ri v
  have hc := bm_ri c
  have e : (v + 1).toInt = v.toInt + 1 := bm_iadd (by show _ ≤ _ + (1 : Int); omega) (by show _ + (1 : Int) < _; omega)
  omega
theorem bm_inc {v : Int32} (h : v.toInt < 2147483647) : (v + 1).toInt = v.toInt + 1 := by
  have := bm_ri v
  exact bm_iadd (by show _ ≤ _ + (1 : Int); omega) (by show _ + (1 : Int) < _; omega)
theorem bm_dec {v : Int32} (h : -2147483648 < v.toInt) : (v + (-1 : Int32)).toInt = v.toInt - 1 := by
  have := bm_ri v
  have c : (-1 : Int32).toInt = -1 := by decide
  rw [bm_iadd (by rw [c]; omega) (by rw [c]; omega), c]
  omega
theorem bm_dbl {x : Int64} (h0 : 0 ≤ x.toInt) (h : x.toInt < 4611686018427387904) : (x <<< ((1 : Int32).toInt64 &&& 63)).toInt = 2 * x.toInt := by
  rw [bm_shl (j := 1) (by decide) (by decide) (by show _ ≤ x.toInt * (2 : Int); omega) (by show x.toInt * (2 : Int) < _; omega)]
  show x.toInt * (2 : Int) = _
  omega
theorem bm_pws (m : Int) (s : Nat) : m * ((2 ^ (s + 1) : Nat) : Int) = 2 * (m * ((2 ^ s : Nat) : Int)) := by
  rw [Nat.pow_succ, Int.natCast_mul, ← Int.mul_assoc, Int.mul_comm]
  rfl
theorem bm_s52 {m : Int} {s : Nat} (hm : 0 < m) (h : m * ((2 ^ s : Nat) : Int) < 9007199254740992) : s ≤ 52 := by
  rcases Nat.lt_or_ge s 53 with z | z
  · omega
  · have a : m * ((2 ^ 53 : Nat) : Int) ≤ m * ((2 ^ s : Nat) : Int) := bm_mono (by omega) z
    have b : ((2 ^ 53 : Nat) : Int) = 9007199254740992 := by decide
    rw [b] at a
    omega
theorem bm_mu10 {v : Int32} (h : ¬ v ≤ 0) : (v + (-10 : Int32)).toInt.toNat < v.toInt.toNat := by
  have h : ¬ v.toInt ≤ 0 := fun z => h (bm_ile.mpr z)
  have c10 : (-10 : Int32).toInt = -10 := by decide
  have rv := bm_ri v
  rw [bm_iadd (by rw [c10]; omega) (by rw [c10]; omega), c10]
  omega
theorem bm_muh {v : Int64} (h : ¬ v ≤ 1) : (v >>> ((1 : Int32).toInt64 &&& 63)).toInt.toNat < v.toInt.toNat := by
  have h : ¬ v.toInt ≤ 1 := fun z => h (bm_lle.mpr z)
  rw [bm_shr v (j := 1) (by decide) (by decide)]
  show ((v.toInt / (2 : Int))).toNat < _
  omega
end
section
/-! the methods as functions: class and JDK -/
noncomputable def bf_isRegister (x1 : Int32) : Int32 := (if x1 < 0 then (0 : Int32) else (if (8 : Int32) ≤ x1 then (0 : Int32) else (1 : Int32)))
noncomputable def bf_isZero (x1 : Int64) : Int32 := (if (x1 &&& (9223372036854775807 : Int64)) = (0 : Int64) then (1 : Int32) else (0 : Int32))
noncomputable def bf_isInfinity (x1 : Int64) : Int32 := (if (x1 &&& (9223372036854775807 : Int64)) = (9218868437227405312 : Int64) then (1 : Int32) else (0 : Int32))
noncomputable def bf_isNan (x1 : Int64) : Int32 := (if (x1 &&& (9223372036854775807 : Int64)) ≤ (9218868437227405312 : Int64) then (0 : Int32) else (1 : Int32))
noncomputable def bf_signOf (x1 : Int64) : Int64 := x1 &&& (-9223372036854775808 : Int64)
noncomputable def bf_sortOfAmount (x1 : Int64) : Int32 := (if (bf_isZero x1) = 0 then (if (bf_isInfinity x1) = 0 then (if (bf_isNan x1) = 0 then (if (4503599627370496 : Int64) ≤ (x1 &&& (9223372036854775807 : Int64)) then (2 : Int32) else (1 : Int32)) else (4 : Int32)) else (3 : Int32)) else (0 : Int32))
noncomputable def bf_fieldE (x1 : Int64) : Int32 := ((x1 &&& (9223372036854775807 : Int64)) >>> ((52 : Int32).toInt64 &&& 63)).toInt32
noncomputable def bf_significand (x1 : Int64) : Int64 := (if (bf_fieldE x1) = 0 then x1 &&& (4503599627370495 : Int64) else (4503599627370496 : Int64) + (x1 &&& (4503599627370495 : Int64)))
noncomputable def bf_power (x1 : Int64) : Int32 := ((if (bf_fieldE x1) < (1 : Int32) then (1 : Int32) else (bf_fieldE x1)) - (1 : Int32)) + (-1074 : Int32)
noncomputable def bj_nlzI (x1 : Int32) : Int32 := (if 0 < x1 then (if x1 < (65536 : Int32) then (if x1 < (256 : Int32) then (if x1 < (16 : Int32) then (if x1 < (4 : Int32) then (31 : Int32) - ((x1.toUInt32 >>> ((1 : Int32).toUInt32 &&& Int32.toUInt32 31)).toInt32) else ((31 : Int32) + (-2 : Int32)) - ((((x1.toUInt32 >>> ((2 : Int32).toUInt32 &&& Int32.toUInt32 31)).toInt32).toUInt32 >>> ((1 : Int32).toUInt32 &&& Int32.toUInt32 31)).toInt32)) else (if ((x1.toUInt32 >>> ((4 : Int32).toUInt32 &&& Int32.toUInt32 31)).toInt32) < (4 : Int32) then ((31 : Int32) + (-4 : Int32)) - ((((x1.toUInt32 >>> ((4 : Int32).toUInt32 &&& Int32.toUInt32 31)).toInt32).toUInt32 >>> ((1 : Int32).toUInt32 &&& Int32.toUInt32 31)).toInt32) else (((31 : Int32) + (-4 : Int32)) + (-2 : Int32)) - ((((((x1.toUInt32 >>> ((4 : Int32).toUInt32 &&& Int32.toUInt32 31)).toInt32).toUInt32 >>> ((2 : Int32).toUInt32 &&& Int32.toUInt32 31)).toInt32).toUInt32 >>> ((1 : Int32).toUInt32 &&& Int32.toUInt32 31)).toInt32))) else (if ((x1.toUInt32 >>> ((8 : Int32).toUInt32 &&& Int32.toUInt32 31)).toInt32) < (16 : Int32) then (if ((x1.toUInt32 >>> ((8 : Int32).toUInt32 &&& Int32.toUInt32 31)).toInt32) < (4 : Int32) then ((31 : Int32) + (-8 : Int32)) - ((((x1.toUInt32 >>> ((8 : Int32).toUInt32 &&& Int32.toUInt32 31)).toInt32).toUInt32 >>> ((1 : Int32).toUInt32 &&& Int32.toUInt32 31)).toInt32) else (((31 : Int32) + (-8 : Int32)) + (-2 : Int32)) - ((((((x1.toUInt32 >>> ((8 : Int32).toUInt32 &&& Int32.toUInt32 31)).toInt32).toUInt32 >>> ((2 : Int32).toUInt32 &&& Int32.toUInt32 31)).toInt32).toUInt32 >>> ((1 : Int32).toUInt32 &&& Int32.toUInt32 31)).toInt32)) else (if ((((x1.toUInt32 >>> ((8 : Int32).toUInt32 &&& Int32.toUInt32 31)).toInt32).toUInt32 >>> ((4 : Int32).toUInt32 &&& Int32.toUInt32 31)).toInt32) < (4 : Int32) then (((31 : Int32) + (-8 : Int32)) + (-4 : Int32)) - ((((((x1.toUInt32 >>> ((8 : Int32).toUInt32 &&& Int32.toUInt32 31)).toInt32).toUInt32 >>> ((4 : Int32).toUInt32 &&& Int32.toUInt32 31)).toInt32).toUInt32 >>> ((1 : Int32).toUInt32 &&& Int32.toUInt32 31)).toInt32) else ((((31 : Int32) + (-8 : Int32)) + (-4 : Int32)) + (-2 : Int32)) - ((((((((x1.toUInt32 >>> ((8 : Int32).toUInt32 &&& Int32.toUInt32 31)).toInt32).toUInt32 >>> ((4 : Int32).toUInt32 &&& Int32.toUInt32 31)).toInt32).toUInt32 >>> ((2 : Int32).toUInt32 &&& Int32.toUInt32 31)).toInt32).toUInt32 >>> ((1 : Int32).toUInt32 &&& Int32.toUInt32 31)).toInt32)))) else (if ((x1.toUInt32 >>> ((16 : Int32).toUInt32 &&& Int32.toUInt32 31)).toInt32) < (256 : Int32) then (if ((x1.toUInt32 >>> ((16 : Int32).toUInt32 &&& Int32.toUInt32 31)).toInt32) < (16 : Int32) then (if ((x1.toUInt32 >>> ((16 : Int32).toUInt32 &&& Int32.toUInt32 31)).toInt32) < (4 : Int32) then ((31 : Int32) + (-16 : Int32)) - ((((x1.toUInt32 >>> ((16 : Int32).toUInt32 &&& Int32.toUInt32 31)).toInt32).toUInt32 >>> ((1 : Int32).toUInt32 &&& Int32.toUInt32 31)).toInt32) else (((31 : Int32) + (-16 : Int32)) + (-2 : Int32)) - ((((((x1.toUInt32 >>> ((16 : Int32).toUInt32 &&& Int32.toUInt32 31)).toInt32).toUInt32 >>> ((2 : Int32).toUInt32 &&& Int32.toUInt32 31)).toInt32).toUInt32 >>> ((1 : Int32).toUInt32 &&& Int32.toUInt32 31)).toInt32)) else (if ((((x1.toUInt32 >>> ((16 : Int32).toUInt32 &&& Int32.toUInt32 31)).toInt32).toUInt32 >>> ((4 : Int32).toUInt32 &&& Int32.toUInt32 31)).toInt32) < (4 : Int32) then (((31 : Int32) + (-16 : Int32)) + (-4 : Int32)) - ((((((x1.toUInt32 >>> ((16 : Int32).toUInt32 &&& Int32.toUInt32 31)).toInt32).toUInt32 >>> ((4 : Int32).toUInt32 &&& Int32.toUInt32 31)).toInt32).toUInt32 >>> ((1 : Int32).toUInt32 &&& Int32.toUInt32 31)).toInt32) else ((((31 : Int32) + (-16 : Int32)) + (-4 : Int32)) + (-2 : Int32)) - ((((((((x1.toUInt32 >>> ((16 : Int32).toUInt32 &&& Int32.toUInt32 31)).toInt32).toUInt32 >>> ((4 : Int32).toUInt32 &&& Int32.toUInt32 31)).toInt32).toUInt32 >>> ((2 : Int32).toUInt32 &&& Int32.toUInt32 31)).toInt32).toUInt32 >>> ((1 : Int32).toUInt32 &&& Int32.toUInt32 31)).toInt32))) else (if ((((x1.toUInt32 >>> ((16 : Int32).toUInt32 &&& Int32.toUInt32 31)).toInt32).toUInt32 >>> ((8 : Int32).toUInt32 &&& Int32.toUInt32 31)).toInt32) < (16 : Int32) then (if ((((x1.toUInt32 >>> ((16 : Int32).toUInt32 &&& Int32.toUInt32 31)).toInt32).toUInt32 >>> ((8 : Int32).toUInt32 &&& Int32.toUInt32 31)).toInt32) < (4 : Int32) then (((31 : Int32) + (-16 : Int32)) + (-8 : Int32)) - ((((((x1.toUInt32 >>> ((16 : Int32).toUInt32 &&& Int32.toUInt32 31)).toInt32).toUInt32 >>> ((8 : Int32).toUInt32 &&& Int32.toUInt32 31)).toInt32).toUInt32 >>> ((1 : Int32).toUInt32 &&& Int32.toUInt32 31)).toInt32) else ((((31 : Int32) + (-16 : Int32)) + (-8 : Int32)) + (-2 : Int32)) - ((((((((x1.toUInt32 >>> ((16 : Int32).toUInt32 &&& Int32.toUInt32 31)).toInt32).toUInt32 >>> ((8 : Int32).toUInt32 &&& Int32.toUInt32 31)).toInt32).toUInt32 >>> ((2 : Int32).toUInt32 &&& Int32.toUInt32 31)).toInt32).toUInt32 >>> ((1 : Int32).toUInt32 &&& Int32.toUInt32 31)).toInt32)) else (if ((((((x1.toUInt32 >>> ((16 : Int32).toUInt32 &&& Int32.toUInt32 31)).toInt32).toUInt32 >>> ((8 : Int32).toUInt32 &&& Int32.toUInt32 31)).toInt32).toUInt32 >>> ((4 : Int32).toUInt32 &&& Int32.toUInt32 31)).toInt32) < (4 : Int32) then ((((31 : Int32) + (-16 : Int32)) + (-8 : Int32)) + (-4 : Int32)) - ((((((((x1.toUInt32 >>> ((16 : Int32).toUInt32 &&& Int32.toUInt32 31)).toInt32).toUInt32 >>> ((8 : Int32).toUInt32 &&& Int32.toUInt32 31)).toInt32).toUInt32 >>> ((4 : Int32).toUInt32 &&& Int32.toUInt32 31)).toInt32).toUInt32 >>> ((1 : Int32).toUInt32 &&& Int32.toUInt32 31)).toInt32) else (((((31 : Int32) + (-16 : Int32)) + (-8 : Int32)) + (-4 : Int32)) + (-2 : Int32)) - ((((((((((x1.toUInt32 >>> ((16 : Int32).toUInt32 &&& Int32.toUInt32 31)).toInt32).toUInt32 >>> ((8 : Int32).toUInt32 &&& Int32.toUInt32 31)).toInt32).toUInt32 >>> ((4 : Int32).toUInt32 &&& Int32.toUInt32 31)).toInt32).toUInt32 >>> ((2 : Int32).toUInt32 &&& Int32.toUInt32 31)).toInt32).toUInt32 >>> ((1 : Int32).toUInt32 &&& Int32.toUInt32 31)).toInt32))))) else (if x1 = 0 then (32 : Int32) else (0 : Int32)))
noncomputable def bj_nlzL (x1 : Int64) : Int32 := (if (((x1.toUInt64 >>> ((32 : Int32).toInt64.toUInt64 &&& Int64.toUInt64 63)).toInt64).toInt32) = 0 then (32 : Int32) + (bj_nlzI x1.toInt32) else bj_nlzI (((x1.toUInt64 >>> ((32 : Int32).toInt64.toUInt64 &&& Int64.toUInt64 63)).toInt64).toInt32))
noncomputable def bf_spareRoom (x1 : Int64) : Int32 := (bj_nlzL (bf_significand x1)) - (11 : Int32)
noncomputable def bf_fullSignificand (x1 : Int64) : Int64 := (bf_significand x1) <<< ((bf_spareRoom x1).toInt64 &&& 63)
noncomputable def bf_fullPower (x1 : Int64) : Int32 := (bf_power x1) - (bf_spareRoom x1)
noncomputable def bf_pattern (x1 : Int64) (x2 : Int32) : Int64 := (if x1 = (0 : Int64) then (0 : Int64) else ((((x2 - (if (x2 - (-1074 : Int32)) < ((bj_nlzL x1) - (11 : Int32)) then (x2 - (-1074 : Int32)) else ((bj_nlzL x1) - (11 : Int32)))) - (-1074 : Int32)).toInt64) <<< ((52 : Int32).toInt64 &&& 63)) + (x1 <<< ((if (x2 - (-1074 : Int32)) < ((bj_nlzL x1) - (11 : Int32)) then (x2 - (-1074 : Int32)) else ((bj_nlzL x1) - (11 : Int32))).toInt64 &&& 63)))
noncomputable def bf_nearestShifted (x1 : Int64) (x2 : Int32) : Int64 := (if ((1 : Int64) <<< ((x2 - (1 : Int32)).toInt64 &&& 63)) < (x1 - ((x1 >>> (x2.toInt64 &&& 63)) <<< (x2.toInt64 &&& 63))) then (x1 >>> (x2.toInt64 &&& 63)) + (1 : Int64) else (if (x1 - ((x1 >>> (x2.toInt64 &&& 63)) <<< (x2.toInt64 &&& 63))) = ((1 : Int64) <<< ((x2 - (1 : Int32)).toInt64 &&& 63)) then (if ((x1 >>> (x2.toInt64 &&& 63)) &&& (1 : Int64)) = (1 : Int64) then (x1 >>> (x2.toInt64 &&& 63)) + (1 : Int64) else x1 >>> (x2.toInt64 &&& 63)) else x1 >>> (x2.toInt64 &&& 63)))
noncomputable def bf_raise (f1 : Int32) (f2 : Int32) (x1 : Int32) : Int32 × Int32 := (f1 ||| x1, f2)
noncomputable def bl_cr_b (v5 : Int64) (v7 : Int64) (v9 : Int64) (v11 : Int32) : (Int64 × Int64 × Int64 × Int32) ⊕ (Int64 × Int64 × Int64 × Int32) := (if (54 : Int32) ≤ v11 then .inr (v5, v7, v9, v11) else (if ((v9 <<< ((2 : Int32).toInt64 &&& 63)) + ((v5.toUInt64 >>> ((62 : Int32).toInt64.toUInt64 &&& Int64.toUInt64 63)).toInt64)) < ((v7 <<< ((2 : Int32).toInt64 &&& 63)) + (1 : Int64)) then .inl (v5 <<< ((2 : Int32).toInt64 &&& 63), v7 <<< ((1 : Int32).toInt64 &&& 63), (v9 <<< ((2 : Int32).toInt64 &&& 63)) + ((v5.toUInt64 >>> ((62 : Int32).toInt64.toUInt64 &&& Int64.toUInt64 63)).toInt64), v11 + (1 : Int32)) else .inl (v5 <<< ((2 : Int32).toInt64 &&& 63), (v7 <<< ((1 : Int32).toInt64 &&& 63)) + (1 : Int64), ((v9 <<< ((2 : Int32).toInt64 &&& 63)) + ((v5.toUInt64 >>> ((62 : Int32).toInt64.toUInt64 &&& Int64.toUInt64 63)).toInt64)) - ((v7 <<< ((2 : Int32).toInt64 &&& 63)) + (1 : Int64)), v11 + (1 : Int32))))
noncomputable def bl_cr_st (q : Int64 × Int64 × Int64 × Int32) : (Int64 × Int64 × Int64 × Int32) ⊕ (Int64 × Int64 × Int64 × Int32) := bl_cr_b q.1 q.2.1 q.2.2.1 q.2.2.2
noncomputable def bl_cr (q : Int64 × Int64 × Int64 × Int32) : Int64 × Int64 × Int64 × Int32 := bl_run (bl_cr_st) q q
theorem bl_cr_ok (q : Int64 × Int64 × Int64 × Int32) : ∃ n, bl_it (bl_cr_st) n q = some (bl_cr q) := bl_some (bl_cr_st) q (fun q => ((54 : Int32).toInt - q.2.2.2.toInt).toNat) (by
  intro s s2 h
  simp only [bl_cr_st, bl_cr_b] at h
  repeat' split at h
  all_goals first
    | (cases h; done)
    | (obtain rfl := Sum.inl.inj h; exact bm_mu (by assumption))) q
noncomputable def bf_rootOfPositive_k2 (f1 : Int32) (f2 : Int32) (x1 : Int64) (r4 : Int64 × Int64 × Int64 × Int32) (r6 : Int32 × Int32) : Int64 × Int32 × Int32 := (bf_pattern ((r4.2.1 >>> ((1 : Int32).toInt64 &&& 63)) + (r4.2.1 &&& (1 : Int64))) ((((bf_fullPower x1) - ((bf_fullPower x1) &&& (1 : Int32))) / (2 : Int32)) - (26 : Int32)), r6.1, r6.2)
noncomputable def bf_rootOfPositive_k3 (f1 : Int32) (f2 : Int32) (x1 : Int64) (r4 : Int64 × Int64 × Int64 × Int32) (r8 : Int32 × Int32) : Int64 × Int32 × Int32 := (bf_pattern ((r4.2.1 >>> ((1 : Int32).toInt64 &&& 63)) + (r4.2.1 &&& (1 : Int64))) ((((bf_fullPower x1) - ((bf_fullPower x1) &&& (1 : Int32))) / (2 : Int32)) - (26 : Int32)), r8.1, r8.2)
noncomputable def bf_rootOfPositive_k1 (f1 : Int32) (f2 : Int32) (x1 : Int64) (r4 : Int64 × Int64 × Int64 × Int32) : Int64 × Int32 × Int32 := (if (r4.2.1 &&& (1 : Int64)) = (0 : Int64) then (if r4.2.2.1 = (0 : Int64) then (bf_pattern ((r4.2.1 >>> ((1 : Int32).toInt64 &&& 63)) + (r4.2.1 &&& (1 : Int64))) ((((bf_fullPower x1) - ((bf_fullPower x1) &&& (1 : Int32))) / (2 : Int32)) - (26 : Int32)), f1, f2) else bf_rootOfPositive_k3 f1 f2 x1 r4 (bf_raise f1 f2 (2 : Int32))) else bf_rootOfPositive_k2 f1 f2 x1 r4 (bf_raise f1 f2 (2 : Int32)))
noncomputable def bf_rootOfPositive (f1 : Int32) (f2 : Int32) (x1 : Int64) : Int64 × Int32 × Int32 := bf_rootOfPositive_k1 f1 f2 x1 (bl_cr ((bf_fullSignificand x1) <<< (((10 : Int32) + ((bf_fullPower x1) &&& (1 : Int32))).toInt64 &&& 63), (0 : Int64), (0 : Int64), (0 : Int32)))
noncomputable def bf_squareRoot_k1 (f1 : Int32) (f2 : Int32) (x1 : Int64) (r5 : Int64 × Int32 × Int32) : Int64 × Int32 × Int32 := (r5.1, r5.2.1, r5.2.2)
noncomputable def bf_squareRoot_k2 (f1 : Int32) (f2 : Int32) (x1 : Int64) (r6 : Int32 × Int32) : Int64 × Int32 × Int32 := ((9221120237041090560 : Int64), r6.1, r6.2)
noncomputable def bf_squareRoot (f1 : Int32) (f2 : Int32) (x1 : Int64) : Int64 × Int32 × Int32 := (if (bf_isNan x1) = 0 then (if (bf_isZero x1) = 0 then (if x1 = (9218868437227405312 : Int64) then (x1, f1, f2) else (if (0 : Int64) ≤ x1 then bf_squareRoot_k1 f1 f2 x1 (bf_rootOfPositive f1 f2 x1) else bf_squareRoot_k2 f1 f2 x1 (bf_raise f1 f2 (1 : Int32)))) else (x1, f1, f2)) else ((9221120237041090560 : Int64), f1, f2))
noncomputable def bf_wholeAmount (x1 : Int64) (x2 : Int32) (x3 : Int32) (x4 : Int32) : Int64 := (if x4 = 0 then bf_nearestShifted x1 x2 else (if x4 = (1 : Int32) then (if x3 = 0 then (if x4 = (2 : Int32) then (if ((x1 >>> (x2.toInt64 &&& 63)) <<< (x2.toInt64 &&& 63)) = x1 then x1 >>> (x2.toInt64 &&& 63) else (x1 >>> (x2.toInt64 &&& 63)) + (1 : Int64)) else x1 >>> (x2.toInt64 &&& 63)) else (if ((x1 >>> (x2.toInt64 &&& 63)) <<< (x2.toInt64 &&& 63)) = x1 then x1 >>> (x2.toInt64 &&& 63) else (x1 >>> (x2.toInt64 &&& 63)) + (1 : Int64))) else (if x4 = (2 : Int32) then (if x3 = 0 then (if ((x1 >>> (x2.toInt64 &&& 63)) <<< (x2.toInt64 &&& 63)) = x1 then x1 >>> (x2.toInt64 &&& 63) else (x1 >>> (x2.toInt64 &&& 63)) + (1 : Int64)) else x1 >>> (x2.toInt64 &&& 63)) else x1 >>> (x2.toInt64 &&& 63))))
noncomputable def bf_madeWhole_k1 (f1 : Int32) (f2 : Int32) (x1 : Int64) (x2 : Int32) (r8 : Int32 × Int32) : Int64 × Int32 × Int32 := ((bf_signOf x1) ||| (bf_pattern (bf_wholeAmount (bf_significand x1) (if (60 : Int32) < (-(bf_power x1)) then (60 : Int32) else (-(bf_power x1))) (0 : Int32) x2) (0 : Int32)), r8.1, r8.2)
noncomputable def bf_madeWhole_k2 (f1 : Int32) (f2 : Int32) (x1 : Int64) (x2 : Int32) (r11 : Int32 × Int32) : Int64 × Int32 × Int32 := ((bf_signOf x1) ||| (bf_pattern (bf_wholeAmount (bf_significand x1) (if (60 : Int32) < (-(bf_power x1)) then (60 : Int32) else (-(bf_power x1))) (1 : Int32) x2) (0 : Int32)), r11.1, r11.2)
noncomputable def bf_madeWhole (f1 : Int32) (f2 : Int32) (x1 : Int64) (x2 : Int32) : Int64 × Int32 × Int32 := (if (bf_isNan x1) = 0 then (if (bf_isZero x1) = 0 then (if (bf_isInfinity x1) = 0 then (if (bf_power x1) < 0 then (if (0 : Int64) ≤ x1 then (if x2 = 0 then (if ((bf_signOf x1) ||| (bf_pattern (bf_wholeAmount (bf_significand x1) (if (60 : Int32) < (-(bf_power x1)) then (60 : Int32) else (-(bf_power x1))) (0 : Int32) x2) (0 : Int32))) = x1 then ((bf_signOf x1) ||| (bf_pattern (bf_wholeAmount (bf_significand x1) (if (60 : Int32) < (-(bf_power x1)) then (60 : Int32) else (-(bf_power x1))) (0 : Int32) x2) (0 : Int32)), f1, f2) else bf_madeWhole_k1 f1 f2 x1 x2 (bf_raise f1 f2 (2 : Int32))) else ((bf_signOf x1) ||| (bf_pattern (bf_wholeAmount (bf_significand x1) (if (60 : Int32) < (-(bf_power x1)) then (60 : Int32) else (-(bf_power x1))) (0 : Int32) x2) (0 : Int32)), f1, f2)) else (if x2 = 0 then (if ((bf_signOf x1) ||| (bf_pattern (bf_wholeAmount (bf_significand x1) (if (60 : Int32) < (-(bf_power x1)) then (60 : Int32) else (-(bf_power x1))) (1 : Int32) x2) (0 : Int32))) = x1 then ((bf_signOf x1) ||| (bf_pattern (bf_wholeAmount (bf_significand x1) (if (60 : Int32) < (-(bf_power x1)) then (60 : Int32) else (-(bf_power x1))) (1 : Int32) x2) (0 : Int32)), f1, f2) else bf_madeWhole_k2 f1 f2 x1 x2 (bf_raise f1 f2 (2 : Int32))) else ((bf_signOf x1) ||| (bf_pattern (bf_wholeAmount (bf_significand x1) (if (60 : Int32) < (-(bf_power x1)) then (60 : Int32) else (-(bf_power x1))) (1 : Int32) x2) (0 : Int32)), f1, f2))) else (x1, f1, f2)) else (x1, f1, f2)) else (x1, f1, f2)) else ((9221120237041090560 : Int64), f1, f2))
noncomputable def bl_cd_b (c7 : Int64) (v10 : Int64) (v12 : Int64) (v14 : Int32) : (Int64 × Int64 × Int32) ⊕ (Int64 × Int64 × Int32) := (if v14 ≤ 0 then .inr (v10, v12, v14) else .inl ((v10 <<< ((if (10 : Int32) < v14 then (10 : Int32) else v14).toInt64 &&& 63)) + ((v12 <<< ((if (10 : Int32) < v14 then (10 : Int32) else v14).toInt64 &&& 63)) / c7), (v12 <<< ((if (10 : Int32) < v14 then (10 : Int32) else v14).toInt64 &&& 63)) - (v12 <<< ((if (10 : Int32) < v14 then (10 : Int32) else v14).toInt64 &&& 63)) / c7 * c7, v14 + (-10 : Int32)))
noncomputable def bl_cd_st (c7 : Int64) (q : Int64 × Int64 × Int32) : (Int64 × Int64 × Int32) ⊕ (Int64 × Int64 × Int32) := bl_cd_b c7 q.1 q.2.1 q.2.2
noncomputable def bl_cd (c7 : Int64) (q : Int64 × Int64 × Int32) : Int64 × Int64 × Int32 := bl_run (bl_cd_st c7) q q
theorem bl_cd_ok (c7 : Int64) (q : Int64 × Int64 × Int32) : ∃ n, bl_it (bl_cd_st c7) n q = some (bl_cd c7 q) := bl_some (bl_cd_st c7) q (fun q => q.2.2.toInt.toNat) (by
  intro s s2 h
  simp only [bl_cd_st, bl_cd_b] at h
  split at h
  · cases h
  · rename_i c
    obtain rfl := Sum.inl.inj h
    exact bm_mu10 c) q
noncomputable def bf_remainderOfFinite_k1 (f1 : Int32) (f2 : Int32) (x1 : Int64) (x2 : Int64) (x3 : Int32) (x4 : Int32) (r3 : Int64 × Int64 × Int32) : Int64 × Int32 × Int32 := (if x4 = 0 then ((bf_signOf x1) ||| (bf_pattern r3.2.1 (if (bf_power x2) < (bf_power x1) then (bf_power x2) else (bf_power x1))), f1, (r3.1 &&& (7 : Int64)).toInt32) else (if ((bf_significand x2) <<< ((if (-x3) < (0 : Int32) then (0 : Int32) else (-x3)).toInt64 &&& 63)) < (r3.2.1 <<< ((1 : Int32).toInt64 &&& 63)) then (((bf_signOf x1) ^^^ (-9223372036854775808 : Int64)) ||| (bf_pattern (((bf_significand x2) <<< ((if (-x3) < (0 : Int32) then (0 : Int32) else (-x3)).toInt64 &&& 63)) - r3.2.1) (if (bf_power x2) < (bf_power x1) then (bf_power x2) else (bf_power x1))), f1, ((r3.1 + (1 : Int64)) &&& (7 : Int64)).toInt32) else (if (r3.2.1 <<< ((1 : Int32).toInt64 &&& 63)) = ((bf_significand x2) <<< ((if (-x3) < (0 : Int32) then (0 : Int32) else (-x3)).toInt64 &&& 63)) then (if (r3.1 &&& (1 : Int64)) = (1 : Int64) then (((bf_signOf x1) ^^^ (-9223372036854775808 : Int64)) ||| (bf_pattern (((bf_significand x2) <<< ((if (-x3) < (0 : Int32) then (0 : Int32) else (-x3)).toInt64 &&& 63)) - r3.2.1) (if (bf_power x2) < (bf_power x1) then (bf_power x2) else (bf_power x1))), f1, ((r3.1 + (1 : Int64)) &&& (7 : Int64)).toInt32) else ((bf_signOf x1) ||| (bf_pattern r3.2.1 (if (bf_power x2) < (bf_power x1) then (bf_power x2) else (bf_power x1))), f1, (r3.1 &&& (7 : Int64)).toInt32)) else ((bf_signOf x1) ||| (bf_pattern r3.2.1 (if (bf_power x2) < (bf_power x1) then (bf_power x2) else (bf_power x1))), f1, (r3.1 &&& (7 : Int64)).toInt32))))
noncomputable def bf_remainderOfFinite (f1 : Int32) (f2 : Int32) (x1 : Int64) (x2 : Int64) (x3 : Int32) (x4 : Int32) : Int64 × Int32 × Int32 := bf_remainderOfFinite_k1 f1 f2 x1 x2 x3 x4 (bl_cd ((bf_significand x2) <<< ((if (-x3) < (0 : Int32) then (0 : Int32) else (-x3)).toInt64 &&& 63)) ((bf_significand x1) / ((bf_significand x2) <<< ((if (-x3) < (0 : Int32) then (0 : Int32) else (-x3)).toInt64 &&& 63)), (bf_significand x1) - (bf_significand x1) / ((bf_significand x2) <<< ((if (-x3) < (0 : Int32) then (0 : Int32) else (-x3)).toInt64 &&& 63)) * ((bf_significand x2) <<< ((if (-x3) < (0 : Int32) then (0 : Int32) else (-x3)).toInt64 &&& 63)), x3))
noncomputable def bf_remainder_k1 (f1 : Int32) (f2 : Int32) (x1 : Int64) (x2 : Int64) (x3 : Int32) (r4 : Int32 × Int32) : Int64 × Int32 × Int32 := ((9221120237041090560 : Int64), r4.1, r4.2)
noncomputable def bf_remainder_k2 (f1 : Int32) (f2 : Int32) (x1 : Int64) (x2 : Int64) (x3 : Int32) (r9 : Int64 × Int32 × Int32) : Int64 × Int32 × Int32 := (r9.1, r9.2.1, r9.2.2)
noncomputable def bf_remainder_k3 (f1 : Int32) (f2 : Int32) (x1 : Int64) (x2 : Int64) (x3 : Int32) (r10 : Int32 × Int32) : Int64 × Int32 × Int32 := ((9221120237041090560 : Int64), r10.1, r10.2)
noncomputable def bf_remainder (f1 : Int32) (f2 : Int32) (x1 : Int64) (x2 : Int64) (x3 : Int32) : Int64 × Int32 × Int32 := (if (bf_isNan x1) = 0 then (if (bf_isNan x2) = 0 then (if (bf_isInfinity x1) = 0 then (if (bf_isZero x2) = 0 then (if (bf_isInfinity x2) = 0 then (if (bf_isZero x1) = 0 then (if (-1 : Int32) ≤ ((bf_power x1) - (bf_power x2)) then bf_remainder_k2 f1 f2 x1 x2 x3 (bf_remainderOfFinite f1 (0 : Int32) x1 x2 ((bf_power x1) - (bf_power x2)) x3) else (x1, f1, (0 : Int32))) else (x1, f1, (0 : Int32))) else (x1, f1, (0 : Int32))) else bf_remainder_k3 f1 f2 x1 x2 x3 (bf_raise f1 (0 : Int32) (1 : Int32))) else bf_remainder_k1 f1 f2 x1 x2 x3 (bf_raise f1 (0 : Int32) (1 : Int32))) else ((9221120237041090560 : Int64), f1, (0 : Int32))) else ((9221120237041090560 : Int64), f1, (0 : Int32)))
noncomputable def bf_place (x1 : Int64) : Int64 := (if (0 : Int64) ≤ x1 then x1 else -(x1 &&& (9223372036854775807 : Int64)))
noncomputable def bf_nextTowards (x1 : Int64) (x2 : Int64) : Int64 := (if (bf_isNan x1) = 0 then (if (bf_isNan x2) = 0 then (if (bf_place x1) = (bf_place x2) then x1 else (if (bf_place x2) ≤ (bf_place x1) then (if ((bf_place x1) - (1 : Int64)) = (0 : Int64) then bf_signOf x1 else (if (0 : Int64) ≤ ((bf_place x1) - (1 : Int64)) then (bf_place x1) - (1 : Int64) else (-9223372036854775808 : Int64) ||| (-((bf_place x1) - (1 : Int64))))) else (if ((bf_place x1) + (1 : Int64)) = (0 : Int64) then bf_signOf x1 else (if (0 : Int64) ≤ ((bf_place x1) + (1 : Int64)) then (bf_place x1) + (1 : Int64) else (-9223372036854775808 : Int64) ||| (-((bf_place x1) + (1 : Int64))))))) else (9221120237041090560 : Int64)) else (9221120237041090560 : Int64))
noncomputable def bf_roundedToLeastPower_k1 (f1 : Int32) (f2 : Int32) (x1 : Int64) (x2 : Int32) (r3 : Int32 × Int32) : Int64 × Int32 × Int32 := (bf_pattern (bf_nearestShifted x1 x2) (-1074 : Int32), r3.1, r3.2)
noncomputable def bf_roundedToLeastPower_k2 (f1 : Int32) (f2 : Int32) (x1 : Int64) (x2 : Int32) (r4 : Int32 × Int32) : Int64 × Int32 × Int32 := (bf_pattern (bf_nearestShifted x1 x2) (-1074 : Int32), r4.1, r4.2)
noncomputable def bf_roundedToLeastPower (f1 : Int32) (f2 : Int32) (x1 : Int64) (x2 : Int32) : Int64 × Int32 × Int32 := (if ((bf_nearestShifted x1 x2) <<< (x2.toInt64 &&& 63)) = x1 then (bf_pattern (bf_nearestShifted x1 x2) (-1074 : Int32), f1, f2) else (if (4503599627370496 : Int64) ≤ (bf_nearestShifted x1 x2) then bf_roundedToLeastPower_k1 f1 f2 x1 x2 (bf_raise f1 f2 (2 : Int32)) else bf_roundedToLeastPower_k2 f1 f2 x1 x2 (bf_raise f1 f2 (10 : Int32))))
noncomputable def bf_timesPowerOfTwo_k1 (f1 : Int32) (f2 : Int32) (x1 : Int64) (x2 : Int32) (r6 : Int64 × Int32 × Int32) : Int64 × Int32 × Int32 := ((bf_signOf x1) ||| r6.1, r6.2.1, r6.2.2)
noncomputable def bf_timesPowerOfTwo_k2 (f1 : Int32) (f2 : Int32) (x1 : Int64) (x2 : Int32) (r7 : Int32 × Int32) : Int64 × Int32 × Int32 := ((bf_signOf x1) ||| (9218868437227405312 : Int64), r7.1, r7.2)
noncomputable def bf_timesPowerOfTwo (f1 : Int32) (f2 : Int32) (x1 : Int64) (x2 : Int32) : Int64 × Int32 × Int32 := (if (bf_isNan x1) = 0 then (if (bf_isZero x1) = 0 then (if (bf_isInfinity x1) = 0 then (if (((bf_fullPower x1).toInt64) + x2.toInt64) ≤ (971 : Int64) then (if (((bf_fullPower x1).toInt64) + x2.toInt64) < (-1074 : Int64) then bf_timesPowerOfTwo_k1 f1 f2 x1 x2 (bf_roundedToLeastPower f1 f2 (bf_fullSignificand x1) ((if (60 : Int64) < ((-1074 : Int64) - (((bf_fullPower x1).toInt64) + x2.toInt64)) then (60 : Int64) else ((-1074 : Int64) - (((bf_fullPower x1).toInt64) + x2.toInt64))).toInt32)) else ((bf_signOf x1) ||| (bf_pattern (bf_fullSignificand x1) ((((bf_fullPower x1).toInt64) + x2.toInt64).toInt32)), f1, f2)) else bf_timesPowerOfTwo_k2 f1 f2 x1 x2 (bf_raise f1 f2 (6 : Int32))) else (x1, f1, f2)) else (x1, f1, f2)) else ((9221120237041090560 : Int64), f1, f2))
noncomputable def bf_load (f1 : Int32) (f2 : Int32) (g : Nat → Int64) (x1 : Int32) (x2 : Int64) : Int32 × Int32 × Int32 × (Nat → Int64) := (if (bf_isRegister x1) = 0 then ((0 : Int32), f1, f2, g) else ((1 : Int32), f1, f2, vp_updL g x1.toNatClampNeg x2))
noncomputable def bf_bits (f1 : Int32) (f2 : Int32) (g : Nat → Int64) (x1 : Int32) : Int64 × Int32 × Int32 × (Nat → Int64) := (if (bf_isRegister x1) = 0 then ((0 : Int64), f1, f2, g) else (g x1.toNatClampNeg, f1, f2, g))
noncomputable def bf_sqrt_k1 (f1 : Int32) (f2 : Int32) (g : Nat → Int64) (x1 : Int32) (x2 : Int32) (r3 : Int64 × Int32 × Int32) : Int32 × Int32 × Int32 × (Nat → Int64) := ((1 : Int32), r3.2.1, r3.2.2, vp_updL g x1.toNatClampNeg r3.1)
noncomputable def bf_sqrt (f1 : Int32) (f2 : Int32) (g : Nat → Int64) (x1 : Int32) (x2 : Int32) : Int32 × Int32 × Int32 × (Nat → Int64) := (if (bf_isRegister x1) = 0 then ((0 : Int32), f1, f2, g) else (if (bf_isRegister x2) = 0 then ((0 : Int32), f1, f2, g) else bf_sqrt_k1 f1 f2 g x1 x2 (bf_squareRoot f1 f2 (g x2.toNatClampNeg))))
noncomputable def bf_whole_k1 (f1 : Int32) (f2 : Int32) (g : Nat → Int64) (x1 : Int32) (x2 : Int32) (x3 : Int32) (r5 : Int64 × Int32 × Int32) : Int32 × Int32 × Int32 × (Nat → Int64) := ((1 : Int32), r5.2.1, r5.2.2, vp_updL g x1.toNatClampNeg r5.1)
noncomputable def bf_whole (f1 : Int32) (f2 : Int32) (g : Nat → Int64) (x1 : Int32) (x2 : Int32) (x3 : Int32) : Int32 × Int32 × Int32 × (Nat → Int64) := (if (bf_isRegister x1) = 0 then ((0 : Int32), f1, f2, g) else (if (bf_isRegister x2) = 0 then ((0 : Int32), f1, f2, g) else (if x3 < 0 then ((0 : Int32), f1, f2, g) else (if x3 ≤ (3 : Int32) then bf_whole_k1 f1 f2 g x1 x2 x3 (bf_madeWhole f1 f2 (g x2.toNatClampNeg) x3) else ((0 : Int32), f1, f2, g)))))
noncomputable def bf_left_k1 (f1 : Int32) (f2 : Int32) (g : Nat → Int64) (x1 : Int32) (x2 : Int32) (x3 : Int32) (x4 : Int32) (r4 : Int64 × Int32 × Int32) : Int32 × Int32 × Int32 × (Nat → Int64) := ((1 : Int32), r4.2.1, r4.2.2, vp_updL g x1.toNatClampNeg r4.1)
noncomputable def bf_left (f1 : Int32) (f2 : Int32) (g : Nat → Int64) (x1 : Int32) (x2 : Int32) (x3 : Int32) (x4 : Int32) : Int32 × Int32 × Int32 × (Nat → Int64) := (if (bf_isRegister x1) = 0 then ((0 : Int32), f1, f2, g) else (if (bf_isRegister x2) = 0 then ((0 : Int32), f1, f2, g) else (if (bf_isRegister x3) = 0 then ((0 : Int32), f1, f2, g) else bf_left_k1 f1 f2 g x1 x2 x3 x4 (bf_remainder f1 f2 (g x2.toNatClampNeg) (g x3.toNatClampNeg) x4))))
noncomputable def bf_quotient (f1 : Int32) (f2 : Int32) (g : Nat → Int64) : Int32 × Int32 × Int32 × (Nat → Int64) := (f2, f1, f2, g)
noncomputable def bf_neighbour (f1 : Int32) (f2 : Int32) (g : Nat → Int64) (x1 : Int32) (x2 : Int32) (x3 : Int32) : Int32 × Int32 × Int32 × (Nat → Int64) := (if (bf_isRegister x1) = 0 then ((0 : Int32), f1, f2, g) else (if (bf_isRegister x2) = 0 then ((0 : Int32), f1, f2, g) else (if (bf_isRegister x3) = 0 then ((0 : Int32), f1, f2, g) else ((1 : Int32), f1, f2, vp_updL g x1.toNatClampNeg (bf_nextTowards (g x2.toNatClampNeg) (g x3.toNatClampNeg))))))
noncomputable def bf_scale_k1 (f1 : Int32) (f2 : Int32) (g : Nat → Int64) (x1 : Int32) (x2 : Int32) (x3 : Int32) (r3 : Int64 × Int32 × Int32) : Int32 × Int32 × Int32 × (Nat → Int64) := ((1 : Int32), r3.2.1, r3.2.2, vp_updL g x1.toNatClampNeg r3.1)
noncomputable def bf_scale (f1 : Int32) (f2 : Int32) (g : Nat → Int64) (x1 : Int32) (x2 : Int32) (x3 : Int32) : Int32 × Int32 × Int32 × (Nat → Int64) := (if (bf_isRegister x1) = 0 then ((0 : Int32), f1, f2, g) else (if (bf_isRegister x2) = 0 then ((0 : Int32), f1, f2, g) else bf_scale_k1 f1 f2 g x1 x2 x3 (bf_timesPowerOfTwo f1 f2 (g x2.toNatClampNeg) x3)))
noncomputable def bf_exponent (f1 : Int32) (f2 : Int32) (g : Nat → Int64) (x1 : Int32) : Int32 × Int32 × Int32 × (Nat → Int64) := (if (bf_isRegister x1) = 0 then ((0 : Int32), f1, f2, g) else (if (bf_isZero (g x1.toNatClampNeg)) = 0 then (if (bf_isInfinity (g x1.toNatClampNeg)) = 0 then (if (bf_isNan (g x1.toNatClampNeg)) = 0 then ((bf_fullPower (g x1.toNatClampNeg)) + (52 : Int32), f1, f2, g) else ((2147483647 : Int32), f1, f2, g)) else ((2147483647 : Int32), f1, f2, g)) else ((-2147483648 : Int32), f1, f2, g)))
noncomputable def bf_compare (f1 : Int32) (f2 : Int32) (g : Nat → Int64) (x1 : Int32) (x2 : Int32) : Int32 × Int32 × Int32 × (Nat → Int64) := (if (bf_isRegister x1) = 0 then ((2 : Int32), f1, f2, g) else (if (bf_isRegister x2) = 0 then ((2 : Int32), f1, f2, g) else (if (bf_isNan (g x1.toNatClampNeg)) = 0 then (if (bf_isNan (g x2.toNatClampNeg)) = 0 then (if (bf_place (g x1.toNatClampNeg)) = (bf_place (g x2.toNatClampNeg)) then ((0 : Int32), f1, f2, g) else (if (bf_place (g x2.toNatClampNeg)) ≤ (bf_place (g x1.toNatClampNeg)) then ((1 : Int32), f1, f2, g) else ((-1 : Int32), f1, f2, g))) else ((2 : Int32), f1, f2, g)) else ((2 : Int32), f1, f2, g))))
noncomputable def bf_sort (f1 : Int32) (f2 : Int32) (g : Nat → Int64) (x1 : Int32) : Int32 × Int32 × Int32 × (Nat → Int64) := (if (bf_isRegister x1) = 0 then ((-1 : Int32), f1, f2, g) else (if (0 : Int64) ≤ (g x1.toNatClampNeg) then (bf_sortOfAmount (g x1.toNatClampNeg), f1, f2, g) else ((bf_sortOfAmount (g x1.toNatClampNeg)) + (8 : Int32), f1, f2, g)))
noncomputable def bf_flags (f1 : Int32) (f2 : Int32) (g : Nat → Int64) : Int32 × Int32 × Int32 × (Nat → Int64) := (f1, f1, f2, g)
noncomputable def bf_clear (f1 : Int32) (f2 : Int32) (g : Nat → Int64) : Int32 × Int32 × (Nat → Int64) := ((0 : Int32), f2, g)
end
section
/-! the methods as functions: the reference -/
noncomputable def bg_isRegister (x1 : Int32) : Int32 := (if x1 < 0 then (0 : Int32) else (if (7 : Int32) < x1 then (0 : Int32) else (1 : Int32)))
noncomputable def bg_negative (x1 : Int64) : Int32 := (if (0 : Int64) ≤ x1 then (0 : Int32) else (1 : Int32))
noncomputable def bg_plain (x1 : Int64) : Int64 := x1 &&& (9223372036854775807 : Int64)
noncomputable def bg_signed (x1 : Int64) (x2 : Int32) : Int64 := (if x2 = 0 then x1 else x1 ||| (-9223372036854775808 : Int64))
noncomputable def bg_isNan (x1 : Int64) : Int32 := (if (bg_plain x1) ≤ (9218868437227405312 : Int64) then (0 : Int32) else (1 : Int32))
noncomputable def bg_isInfinite (x1 : Int64) : Int32 := (if (bg_plain x1) = (9218868437227405312 : Int64) then (1 : Int32) else (0 : Int32))
noncomputable def bg_isZero (x1 : Int64) : Int32 := (if (bg_plain x1) = (0 : Int64) then (1 : Int32) else (0 : Int32))
noncomputable def bg_number (x1 : Int64) : Int64 := (if (4503599627370496 : Int64) ≤ (bg_plain x1) then (x1 &&& (4503599627370495 : Int64)) + (4503599627370496 : Int64) else x1 &&& (4503599627370495 : Int64))
noncomputable def bg_power (x1 : Int64) : Int32 := (if (((bg_plain x1) >>> ((52 : Int32).toInt64 &&& 63)).toInt32) = 0 then (-1074 : Int32) else (((bg_plain x1) >>> ((52 : Int32).toInt64 &&& 63)).toInt32) - (1075 : Int32))
noncomputable def bl_exact_1_b (v3 : Int64) (v5 : Int32) (v6 : Int32) : (Int64 × Int32 × Int32) ⊕ (Int64 × Int32 × Int32) := (if (2200 : Int32) ≤ v6 then .inr (v3, v5, v6) else (if (9007199254740992 : Int64) ≤ v3 then .inl (v3 >>> ((1 : Int32).toInt64 &&& 63), v5 + (1 : Int32), v6 + (1 : Int32)) else (if (-1074 : Int32) ≤ v5 then .inr (v3, v5, v6) else .inl (v3 >>> ((1 : Int32).toInt64 &&& 63), v5 + (1 : Int32), v6 + (1 : Int32)))))
noncomputable def bl_exact_1_st (q : Int64 × Int32 × Int32) : (Int64 × Int32 × Int32) ⊕ (Int64 × Int32 × Int32) := bl_exact_1_b q.1 q.2.1 q.2.2
noncomputable def bl_exact_1 (q : Int64 × Int32 × Int32) : Int64 × Int32 × Int32 := bl_run (bl_exact_1_st) q q
theorem bl_exact_1_ok (q : Int64 × Int32 × Int32) : ∃ n, bl_it (bl_exact_1_st) n q = some (bl_exact_1 q) := bl_some (bl_exact_1_st) q (fun q => ((2200 : Int32).toInt - q.2.2.toInt).toNat) (by
  intro s s2 h
  simp only [bl_exact_1_st, bl_exact_1_b] at h
  repeat' split at h
  all_goals first
    | (cases h; done)
    | (obtain rfl := Sum.inl.inj h; exact bm_mu (by assumption))) q
noncomputable def bl_exact_2_b (v3 : Int64) (v5 : Int32) (v6 : Int32) : (Int64 × Int32 × Int32) ⊕ (Int64 × Int32 × Int32) := (if (2200 : Int32) ≤ v6 then .inr (v3, v5, v6) else (if (4503599627370496 : Int64) ≤ v3 then .inr (v3, v5, v6) else (if v5 ≤ (-1074 : Int32) then .inr (v3, v5, v6) else .inl (v3 <<< ((1 : Int32).toInt64 &&& 63), v5 + (-1 : Int32), v6 + (1 : Int32)))))
noncomputable def bl_exact_2_st (q : Int64 × Int32 × Int32) : (Int64 × Int32 × Int32) ⊕ (Int64 × Int32 × Int32) := bl_exact_2_b q.1 q.2.1 q.2.2
noncomputable def bl_exact_2 (q : Int64 × Int32 × Int32) : Int64 × Int32 × Int32 := bl_run (bl_exact_2_st) q q
theorem bl_exact_2_ok (q : Int64 × Int32 × Int32) : ∃ n, bl_it (bl_exact_2_st) n q = some (bl_exact_2 q) := bl_some (bl_exact_2_st) q (fun q => ((2200 : Int32).toInt - q.2.2.toInt).toNat) (by
  intro s s2 h
  simp only [bl_exact_2_st, bl_exact_2_b] at h
  repeat' split at h
  all_goals first
    | (cases h; done)
    | (obtain rfl := Sum.inl.inj h; exact bm_mu (by assumption))) q
noncomputable def bg_exact_k2 (x1 : Int64) (x2 : Int32) (r6 : Int64 × Int32 × Int32) (r11 : Int64 × Int32 × Int32) : Int64 := (if (4503599627370496 : Int64) ≤ r11.1 then (r11.1 - (4503599627370496 : Int64)) + (((r11.2.1 + (1075 : Int32)).toInt64) <<< ((52 : Int32).toInt64 &&& 63)) else r11.1)
noncomputable def bg_exact_k1 (x1 : Int64) (x2 : Int32) (r6 : Int64 × Int32 × Int32) : Int64 := bg_exact_k2 x1 x2 r6 (bl_exact_2 (r6.1, r6.2.1, (0 : Int32)))
noncomputable def bg_exact (x1 : Int64) (x2 : Int32) : Int64 := (if x1 = (0 : Int64) then (0 : Int64) else bg_exact_k1 x1 x2 (bl_exact_1 (x1, x2, (0 : Int32))))
noncomputable def bg_multiply (f1 : Int32) (f2 : Int32) (f3 : Int64) (f4 : Int64) (x1 : Int64) (x2 : Int64) : Int32 × Int32 × Int64 × Int64 := (f1, f2, (((x1 >>> ((27 : Int32).toInt64 &&& 63)) * (x2 >>> ((27 : Int32).toInt64 &&& 63))) + ((((x1 >>> ((27 : Int32).toInt64 &&& 63)) * (x2 &&& (134217727 : Int64))) + ((x1 &&& (134217727 : Int64)) * (x2 >>> ((27 : Int32).toInt64 &&& 63)))) >>> ((27 : Int32).toInt64 &&& 63))) + ((((x1 &&& (134217727 : Int64)) * (x2 &&& (134217727 : Int64))) + (((((x1 >>> ((27 : Int32).toInt64 &&& 63)) * (x2 &&& (134217727 : Int64))) + ((x1 &&& (134217727 : Int64)) * (x2 >>> ((27 : Int32).toInt64 &&& 63)))) &&& (134217727 : Int64)) <<< ((27 : Int32).toInt64 &&& 63))) >>> ((54 : Int32).toInt64 &&& 63)), (((x1 &&& (134217727 : Int64)) * (x2 &&& (134217727 : Int64))) + (((((x1 >>> ((27 : Int32).toInt64 &&& 63)) * (x2 &&& (134217727 : Int64))) + ((x1 &&& (134217727 : Int64)) * (x2 >>> ((27 : Int32).toInt64 &&& 63)))) &&& (134217727 : Int64)) <<< ((27 : Int32).toInt64 &&& 63))) &&& (18014398509481983 : Int64))
noncomputable def bg_squareFits_k1 (f1 : Int32) (f2 : Int32) (f3 : Int64) (f4 : Int64) (x1 : Int64) (x2 : Int64) (x3 : Int64) (r1 : Int32 × Int32 × Int64 × Int64) : Int32 × Int32 × Int32 × Int64 × Int64 := (if r1.2.2.1 < x2 then ((1 : Int32), r1.1, r1.2.1, r1.2.2.1, r1.2.2.2) else (if r1.2.2.1 = x2 then (if x3 < r1.2.2.2 then ((0 : Int32), r1.1, r1.2.1, r1.2.2.1, r1.2.2.2) else ((1 : Int32), r1.1, r1.2.1, r1.2.2.1, r1.2.2.2)) else ((0 : Int32), r1.1, r1.2.1, r1.2.2.1, r1.2.2.2)))
noncomputable def bg_squareFits (f1 : Int32) (f2 : Int32) (f3 : Int64) (f4 : Int64) (x1 : Int64) (x2 : Int64) (x3 : Int64) : Int32 × Int32 × Int32 × Int64 × Int64 := bg_squareFits_k1 f1 f2 f3 f4 x1 x2 x3 (bg_multiply f1 f2 f3 f4 x1 x1)
noncomputable def bl_root_1_b (v3 : Int64) (v5 : Int32) (v6 : Int32) : (Int64 × Int32 × Int32) ⊕ (Int64 × Int32 × Int32) := (if (60 : Int32) ≤ v6 then .inr (v3, v5, v6) else (if v3 < (4503599627370496 : Int64) then .inl (v3 <<< ((1 : Int32).toInt64 &&& 63), v5 + (-1 : Int32), v6 + (1 : Int32)) else (if (v5 - v5 / (2 : Int32) * (2 : Int32)) = 0 then .inr (v3, v5, v6) else .inl (v3 <<< ((1 : Int32).toInt64 &&& 63), v5 + (-1 : Int32), v6 + (1 : Int32)))))
noncomputable def bl_root_1_st (q : Int64 × Int32 × Int32) : (Int64 × Int32 × Int32) ⊕ (Int64 × Int32 × Int32) := bl_root_1_b q.1 q.2.1 q.2.2
noncomputable def bl_root_1 (q : Int64 × Int32 × Int32) : Int64 × Int32 × Int32 := bl_run (bl_root_1_st) q q
theorem bl_root_1_ok (q : Int64 × Int32 × Int32) : ∃ n, bl_it (bl_root_1_st) n q = some (bl_root_1 q) := bl_some (bl_root_1_st) q (fun q => ((60 : Int32).toInt - q.2.2.toInt).toNat) (by
  intro s s2 h
  simp only [bl_root_1_st, bl_root_1_b] at h
  repeat' split at h
  all_goals first
    | (cases h; done)
    | (obtain rfl := Sum.inl.inj h; exact bm_mu (by assumption))) q
noncomputable def bl_root_2_b (c6 : Int64) (c8 : Int64) (v10 : Int64) (v12 : Int64) (v14 : Int32) (f0 : Int32) (f1 : Int32) (f2 : Int64) (f3 : Int64) : (Int64 × Int64 × Int32 × Int32 × Int32 × Int64 × Int64) ⊕ (Int64 × Int64 × Int32 × Int32 × Int32 × Int64 × Int64) := (if (60 : Int32) ≤ v14 then .inr (v10, v12, v14, f0, f1, f2, f3) else (if (v12 - v10) ≤ (1 : Int64) then .inr (v10, v12, v14, f0, f1, f2, f3) else (if ((bg_squareFits f0 f1 f2 f3 ((v10 + v12) >>> ((1 : Int32).toInt64 &&& 63)) c6 c8).1) = 0 then .inl (v10, (v10 + v12) >>> ((1 : Int32).toInt64 &&& 63), v14 + (1 : Int32), (bg_squareFits f0 f1 f2 f3 ((v10 + v12) >>> ((1 : Int32).toInt64 &&& 63)) c6 c8).2.1, (bg_squareFits f0 f1 f2 f3 ((v10 + v12) >>> ((1 : Int32).toInt64 &&& 63)) c6 c8).2.2.1, (bg_squareFits f0 f1 f2 f3 ((v10 + v12) >>> ((1 : Int32).toInt64 &&& 63)) c6 c8).2.2.2.1, (bg_squareFits f0 f1 f2 f3 ((v10 + v12) >>> ((1 : Int32).toInt64 &&& 63)) c6 c8).2.2.2.2) else .inl ((v10 + v12) >>> ((1 : Int32).toInt64 &&& 63), v12, v14 + (1 : Int32), (bg_squareFits f0 f1 f2 f3 ((v10 + v12) >>> ((1 : Int32).toInt64 &&& 63)) c6 c8).2.1, (bg_squareFits f0 f1 f2 f3 ((v10 + v12) >>> ((1 : Int32).toInt64 &&& 63)) c6 c8).2.2.1, (bg_squareFits f0 f1 f2 f3 ((v10 + v12) >>> ((1 : Int32).toInt64 &&& 63)) c6 c8).2.2.2.1, (bg_squareFits f0 f1 f2 f3 ((v10 + v12) >>> ((1 : Int32).toInt64 &&& 63)) c6 c8).2.2.2.2))))
noncomputable def bl_root_2_st (c6 : Int64) (c8 : Int64) (q : Int64 × Int64 × Int32 × Int32 × Int32 × Int64 × Int64) : (Int64 × Int64 × Int32 × Int32 × Int32 × Int64 × Int64) ⊕ (Int64 × Int64 × Int32 × Int32 × Int32 × Int64 × Int64) := bl_root_2_b c6 c8 q.1 q.2.1 q.2.2.1 q.2.2.2.1 q.2.2.2.2.1 q.2.2.2.2.2.1 q.2.2.2.2.2.2
noncomputable def bl_root_2 (c6 : Int64) (c8 : Int64) (q : Int64 × Int64 × Int32 × Int32 × Int32 × Int64 × Int64) : Int64 × Int64 × Int32 × Int32 × Int32 × Int64 × Int64 := bl_run (bl_root_2_st c6 c8) q q
theorem bl_root_2_ok (c6 : Int64) (c8 : Int64) (q : Int64 × Int64 × Int32 × Int32 × Int32 × Int64 × Int64) : ∃ n, bl_it (bl_root_2_st c6 c8) n q = some (bl_root_2 c6 c8 q) := bl_some (bl_root_2_st c6 c8) q (fun q => ((60 : Int32).toInt - q.2.2.1.toInt).toNat) (by
  intro s s2 h
  simp only [bl_root_2_st, bl_root_2_b] at h
  repeat' split at h
  all_goals first
    | (cases h; done)
    | (obtain rfl := Sum.inl.inj h; exact bm_mu (by assumption))) q
noncomputable def bg_root_k4 (f1 : Int32) (f2 : Int32) (f3 : Int64) (f4 : Int64) (x1 : Int64) (r5 : Int64 × Int32 × Int32) (r10 : Int64 × Int64 × Int32 × Int32 × Int32 × Int64 × Int64) (r11 : Int32 × Int32 × Int64 × Int64) (r14 : Int32 × Int32 × Int32 × Int64 × Int64) : Int64 × Int32 × Int32 × Int64 × Int64 := (if r14.1 = 0 then (bg_exact r10.1 ((r5.2.1 / (2 : Int32)) - (26 : Int32)), r14.2.1, r14.2.2.1, r14.2.2.2.1, r14.2.2.2.2) else (bg_exact (r10.1 + (1 : Int64)) ((r5.2.1 / (2 : Int32)) - (26 : Int32)), r14.2.1, r14.2.2.1, r14.2.2.2.1, r14.2.2.2.2))
noncomputable def bg_root_k5 (f1 : Int32) (f2 : Int32) (f3 : Int64) (f4 : Int64) (x1 : Int64) (r5 : Int64 × Int32 × Int32) (r10 : Int64 × Int64 × Int32 × Int32 × Int32 × Int64 × Int64) (r11 : Int32 × Int32 × Int64 × Int64) (r18 : Int32 × Int32 × Int32 × Int64 × Int64) : Int64 × Int32 × Int32 × Int64 × Int64 := (if r18.1 = 0 then (bg_exact r10.1 ((r5.2.1 / (2 : Int32)) - (26 : Int32)), r18.2.1, r18.2.2.1, r18.2.2.2.1, r18.2.2.2.2) else (bg_exact (r10.1 + (1 : Int64)) ((r5.2.1 / (2 : Int32)) - (26 : Int32)), r18.2.1, r18.2.2.1, r18.2.2.2.1, r18.2.2.2.2))
noncomputable def bg_root_k6 (f1 : Int32) (f2 : Int32) (f3 : Int64) (f4 : Int64) (x1 : Int64) (r5 : Int64 × Int32 × Int32) (r10 : Int64 × Int64 × Int32 × Int32 × Int32 × Int64 × Int64) (r11 : Int32 × Int32 × Int64 × Int64) (r21 : Int32 × Int32 × Int32 × Int64 × Int64) : Int64 × Int32 × Int32 × Int64 × Int64 := (if r21.1 = 0 then (bg_exact r10.1 ((r5.2.1 / (2 : Int32)) - (26 : Int32)), r21.2.1, r21.2.2.1, r21.2.2.2.1, r21.2.2.2.2) else (bg_exact (r10.1 + (1 : Int64)) ((r5.2.1 / (2 : Int32)) - (26 : Int32)), r21.2.1, r21.2.2.1, r21.2.2.2.1, r21.2.2.2.2))
noncomputable def bg_root_k3 (f1 : Int32) (f2 : Int32) (f3 : Int64) (f4 : Int64) (x1 : Int64) (r5 : Int64 × Int32 × Int32) (r10 : Int64 × Int64 × Int32 × Int32 × Int32 × Int64 × Int64) (r11 : Int32 × Int32 × Int64 × Int64) : Int64 × Int32 × Int32 × Int64 × Int64 := (if r11.2.2.1 = (r5.1 >>> ((2 : Int32).toInt64 &&& 63)) then (if r11.2.2.2 = ((r5.1 &&& (3 : Int64)) <<< ((52 : Int32).toInt64 &&& 63)) then bg_root_k6 f1 f2 f3 f4 x1 r5 r10 r11 (bg_squareFits r11.1 r11.2.1 r11.2.2.1 r11.2.2.2 (((2 : Int64) * r10.1) + (1 : Int64)) r5.1 (0 : Int64)) else bg_root_k5 f1 f2 f3 f4 x1 r5 r10 r11 (bg_squareFits (r11.1 ||| (2 : Int32)) r11.2.1 r11.2.2.1 r11.2.2.2 (((2 : Int64) * r10.1) + (1 : Int64)) r5.1 (0 : Int64))) else bg_root_k4 f1 f2 f3 f4 x1 r5 r10 r11 (bg_squareFits (r11.1 ||| (2 : Int32)) r11.2.1 r11.2.2.1 r11.2.2.2 (((2 : Int64) * r10.1) + (1 : Int64)) r5.1 (0 : Int64)))
noncomputable def bg_root_k2 (f1 : Int32) (f2 : Int32) (f3 : Int64) (f4 : Int64) (x1 : Int64) (r5 : Int64 × Int32 × Int32) (r10 : Int64 × Int64 × Int32 × Int32 × Int32 × Int64 × Int64) : Int64 × Int32 × Int32 × Int64 × Int64 := bg_root_k3 f1 f2 f3 f4 x1 r5 r10 (bg_multiply r10.2.2.2.1 r10.2.2.2.2.1 r10.2.2.2.2.2.1 r10.2.2.2.2.2.2 r10.1 r10.1)
noncomputable def bg_root_k1 (f1 : Int32) (f2 : Int32) (f3 : Int64) (f4 : Int64) (x1 : Int64) (r5 : Int64 × Int32 × Int32) : Int64 × Int32 × Int32 × Int64 × Int64 := bg_root_k2 f1 f2 f3 f4 x1 r5 (bl_root_2 (r5.1 >>> ((2 : Int32).toInt64 &&& 63)) ((r5.1 &&& (3 : Int64)) <<< ((52 : Int32).toInt64 &&& 63)) ((4503599627370496 : Int64), (9007199254740992 : Int64), (0 : Int32), f1, f2, f3, f4))
noncomputable def bg_root (f1 : Int32) (f2 : Int32) (f3 : Int64) (f4 : Int64) (x1 : Int64) : Int64 × Int32 × Int32 × Int64 × Int64 := bg_root_k1 f1 f2 f3 f4 x1 (bl_root_1 (bg_number x1, bg_power x1, (0 : Int32)))
noncomputable def bg_cut (x1 : Int64) (x2 : Int32) (x3 : Int32) (x4 : Int32) : Int64 := (if x2 ≤ (54 : Int32) then (if ((x1 >>> (x2.toInt64 &&& 63)) <<< (x2.toInt64 &&& 63)) = x1 then (if x3 = 0 then x1 >>> (x2.toInt64 &&& 63) else (if ((1 : Int64) <<< ((x2 - (1 : Int32)).toInt64 &&& 63)) < (x1 - ((x1 >>> (x2.toInt64 &&& 63)) <<< (x2.toInt64 &&& 63))) then (x1 >>> (x2.toInt64 &&& 63)) + (1 : Int64) else (if (x1 - ((x1 >>> (x2.toInt64 &&& 63)) <<< (x2.toInt64 &&& 63))) = ((1 : Int64) <<< ((x2 - (1 : Int32)).toInt64 &&& 63)) then (if ((x1 >>> (x2.toInt64 &&& 63)) - (x1 >>> (x2.toInt64 &&& 63)) / (2 : Int64) * (2 : Int64)) = (1 : Int64) then (x1 >>> (x2.toInt64 &&& 63)) + (1 : Int64) else x1 >>> (x2.toInt64 &&& 63)) else x1 >>> (x2.toInt64 &&& 63)))) else (if x3 = 0 then (if x4 = 0 then x1 >>> (x2.toInt64 &&& 63) else (x1 >>> (x2.toInt64 &&& 63)) + (1 : Int64)) else (if ((1 : Int64) <<< ((x2 - (1 : Int32)).toInt64 &&& 63)) < (x1 - ((x1 >>> (x2.toInt64 &&& 63)) <<< (x2.toInt64 &&& 63))) then (x1 >>> (x2.toInt64 &&& 63)) + (1 : Int64) else (if (x1 - ((x1 >>> (x2.toInt64 &&& 63)) <<< (x2.toInt64 &&& 63))) = ((1 : Int64) <<< ((x2 - (1 : Int32)).toInt64 &&& 63)) then (if ((x1 >>> (x2.toInt64 &&& 63)) - (x1 >>> (x2.toInt64 &&& 63)) / (2 : Int64) * (2 : Int64)) = (1 : Int64) then (x1 >>> (x2.toInt64 &&& 63)) + (1 : Int64) else x1 >>> (x2.toInt64 &&& 63)) else x1 >>> (x2.toInt64 &&& 63))))) else (if x1 ≤ (0 : Int64) then (if x3 = 0 then (0 : Int64) else (0 : Int64)) else (if x3 = 0 then (if x4 = 0 then (0 : Int64) else (0 : Int64) + (1 : Int64)) else (0 : Int64))))
noncomputable def bl_rest_1_b (c10 : Int32) (c12 : Int64) (v14 : Int64) (v16 : Int64) (v18 : Int32) : (Int64 × Int64 × Int32) ⊕ (Int64 × Int64 × Int32) := (if c10 ≤ v18 then .inr (v14, v16, v18) else (if (v16 <<< ((1 : Int32).toInt64 &&& 63)) < c12 then .inl ((v14 * (2 : Int64)) - (v14 * (2 : Int64)) / (8 : Int64) * (8 : Int64), v16 <<< ((1 : Int32).toInt64 &&& 63), v18 + (1 : Int32)) else .inl ((((v14 * (2 : Int64)) - (v14 * (2 : Int64)) / (8 : Int64) * (8 : Int64)) + (1 : Int64)) - (((v14 * (2 : Int64)) - (v14 * (2 : Int64)) / (8 : Int64) * (8 : Int64)) + (1 : Int64)) / (8 : Int64) * (8 : Int64), (v16 <<< ((1 : Int32).toInt64 &&& 63)) - c12, v18 + (1 : Int32))))
noncomputable def bl_rest_1_st (c10 : Int32) (c12 : Int64) (q : Int64 × Int64 × Int32) : (Int64 × Int64 × Int32) ⊕ (Int64 × Int64 × Int32) := bl_rest_1_b c10 c12 q.1 q.2.1 q.2.2
noncomputable def bl_rest_1 (c10 : Int32) (c12 : Int64) (q : Int64 × Int64 × Int32) : Int64 × Int64 × Int32 := bl_run (bl_rest_1_st c10 c12) q q
theorem bl_rest_1_ok (c10 : Int32) (c12 : Int64) (q : Int64 × Int64 × Int32) : ∃ n, bl_it (bl_rest_1_st c10 c12) n q = some (bl_rest_1 c10 c12 q) := bl_some (bl_rest_1_st c10 c12) q (fun q => (c10.toInt - q.2.2.toInt).toNat) (by
  intro s s2 h
  simp only [bl_rest_1_st, bl_rest_1_b] at h
  repeat' split at h
  all_goals first
    | (cases h; done)
    | (obtain rfl := Sum.inl.inj h; exact bm_mu (by assumption))) q
noncomputable def bg_rest_k1 (f1 : Int32) (f2 : Int32) (f3 : Int64) (f4 : Int64) (x1 : Int64) (x2 : Int64) (x3 : Int32) (r8 : Int64 × Int64 × Int32) : Int64 × Int32 × Int32 × Int64 × Int64 := (if x3 = 0 then (if r8.2.1 = (0 : Int64) then (bg_signed (bg_exact r8.2.1 (bg_power x2)) (bg_negative x1), f1, r8.1.toInt32, f3, f4) else (if (bg_negative x1) = (0 : Int32) then (bg_signed (bg_exact r8.2.1 (bg_power x2)) (0 : Int32), f1, r8.1.toInt32, f3, f4) else (bg_signed (bg_exact r8.2.1 (bg_power x2)) (1 : Int32), f1, r8.1.toInt32, f3, f4))) else (if ((bg_number x2) - r8.2.1) < r8.2.1 then (if ((bg_number x2) - r8.2.1) = (0 : Int64) then (bg_signed (bg_exact ((bg_number x2) - r8.2.1) (bg_power x2)) (bg_negative x1), f1, ((r8.1 + (1 : Int64)) - (r8.1 + (1 : Int64)) / (8 : Int64) * (8 : Int64)).toInt32, f3, f4) else (if (bg_negative x1) = (1 : Int32) then (bg_signed (bg_exact ((bg_number x2) - r8.2.1) (bg_power x2)) (0 : Int32), f1, ((r8.1 + (1 : Int64)) - (r8.1 + (1 : Int64)) / (8 : Int64) * (8 : Int64)).toInt32, f3, f4) else (bg_signed (bg_exact ((bg_number x2) - r8.2.1) (bg_power x2)) (1 : Int32), f1, ((r8.1 + (1 : Int64)) - (r8.1 + (1 : Int64)) / (8 : Int64) * (8 : Int64)).toInt32, f3, f4))) else (if r8.2.1 = ((bg_number x2) - r8.2.1) then (if (r8.1 - r8.1 / (2 : Int64) * (2 : Int64)) = (1 : Int64) then (if ((bg_number x2) - r8.2.1) = (0 : Int64) then (bg_signed (bg_exact ((bg_number x2) - r8.2.1) (bg_power x2)) (bg_negative x1), f1, ((r8.1 + (1 : Int64)) - (r8.1 + (1 : Int64)) / (8 : Int64) * (8 : Int64)).toInt32, f3, f4) else (if (bg_negative x1) = (1 : Int32) then (bg_signed (bg_exact ((bg_number x2) - r8.2.1) (bg_power x2)) (0 : Int32), f1, ((r8.1 + (1 : Int64)) - (r8.1 + (1 : Int64)) / (8 : Int64) * (8 : Int64)).toInt32, f3, f4) else (bg_signed (bg_exact ((bg_number x2) - r8.2.1) (bg_power x2)) (1 : Int32), f1, ((r8.1 + (1 : Int64)) - (r8.1 + (1 : Int64)) / (8 : Int64) * (8 : Int64)).toInt32, f3, f4))) else (if r8.2.1 = (0 : Int64) then (bg_signed (bg_exact r8.2.1 (bg_power x2)) (bg_negative x1), f1, r8.1.toInt32, f3, f4) else (if (bg_negative x1) = (0 : Int32) then (bg_signed (bg_exact r8.2.1 (bg_power x2)) (0 : Int32), f1, r8.1.toInt32, f3, f4) else (bg_signed (bg_exact r8.2.1 (bg_power x2)) (1 : Int32), f1, r8.1.toInt32, f3, f4)))) else (if r8.2.1 = (0 : Int64) then (bg_signed (bg_exact r8.2.1 (bg_power x2)) (bg_negative x1), f1, r8.1.toInt32, f3, f4) else (if (bg_negative x1) = (0 : Int32) then (bg_signed (bg_exact r8.2.1 (bg_power x2)) (0 : Int32), f1, r8.1.toInt32, f3, f4) else (bg_signed (bg_exact r8.2.1 (bg_power x2)) (1 : Int32), f1, r8.1.toInt32, f3, f4))))))
noncomputable def bg_rest_k2 (f1 : Int32) (f2 : Int32) (f3 : Int64) (f4 : Int64) (x1 : Int64) (x2 : Int64) (x3 : Int32) (r38 : Int64 × Int64 × Int32) : Int64 × Int32 × Int32 × Int64 × Int64 := (if x3 = 0 then (if r38.2.1 = (0 : Int64) then (bg_signed (bg_exact r38.2.1 (bg_power x1)) (bg_negative x1), f1, r38.1.toInt32, f3, f4) else (if (bg_negative x1) = (0 : Int32) then (bg_signed (bg_exact r38.2.1 (bg_power x1)) (0 : Int32), f1, r38.1.toInt32, f3, f4) else (bg_signed (bg_exact r38.2.1 (bg_power x1)) (1 : Int32), f1, r38.1.toInt32, f3, f4))) else (if (((bg_number x2) <<< ((-((bg_power x1) - (bg_power x2))).toInt64 &&& 63)) - r38.2.1) < r38.2.1 then (if (((bg_number x2) <<< ((-((bg_power x1) - (bg_power x2))).toInt64 &&& 63)) - r38.2.1) = (0 : Int64) then (bg_signed (bg_exact (((bg_number x2) <<< ((-((bg_power x1) - (bg_power x2))).toInt64 &&& 63)) - r38.2.1) (bg_power x1)) (bg_negative x1), f1, ((r38.1 + (1 : Int64)) - (r38.1 + (1 : Int64)) / (8 : Int64) * (8 : Int64)).toInt32, f3, f4) else (if (bg_negative x1) = (1 : Int32) then (bg_signed (bg_exact (((bg_number x2) <<< ((-((bg_power x1) - (bg_power x2))).toInt64 &&& 63)) - r38.2.1) (bg_power x1)) (0 : Int32), f1, ((r38.1 + (1 : Int64)) - (r38.1 + (1 : Int64)) / (8 : Int64) * (8 : Int64)).toInt32, f3, f4) else (bg_signed (bg_exact (((bg_number x2) <<< ((-((bg_power x1) - (bg_power x2))).toInt64 &&& 63)) - r38.2.1) (bg_power x1)) (1 : Int32), f1, ((r38.1 + (1 : Int64)) - (r38.1 + (1 : Int64)) / (8 : Int64) * (8 : Int64)).toInt32, f3, f4))) else (if r38.2.1 = (((bg_number x2) <<< ((-((bg_power x1) - (bg_power x2))).toInt64 &&& 63)) - r38.2.1) then (if (r38.1 - r38.1 / (2 : Int64) * (2 : Int64)) = (1 : Int64) then (if (((bg_number x2) <<< ((-((bg_power x1) - (bg_power x2))).toInt64 &&& 63)) - r38.2.1) = (0 : Int64) then (bg_signed (bg_exact (((bg_number x2) <<< ((-((bg_power x1) - (bg_power x2))).toInt64 &&& 63)) - r38.2.1) (bg_power x1)) (bg_negative x1), f1, ((r38.1 + (1 : Int64)) - (r38.1 + (1 : Int64)) / (8 : Int64) * (8 : Int64)).toInt32, f3, f4) else (if (bg_negative x1) = (1 : Int32) then (bg_signed (bg_exact (((bg_number x2) <<< ((-((bg_power x1) - (bg_power x2))).toInt64 &&& 63)) - r38.2.1) (bg_power x1)) (0 : Int32), f1, ((r38.1 + (1 : Int64)) - (r38.1 + (1 : Int64)) / (8 : Int64) * (8 : Int64)).toInt32, f3, f4) else (bg_signed (bg_exact (((bg_number x2) <<< ((-((bg_power x1) - (bg_power x2))).toInt64 &&& 63)) - r38.2.1) (bg_power x1)) (1 : Int32), f1, ((r38.1 + (1 : Int64)) - (r38.1 + (1 : Int64)) / (8 : Int64) * (8 : Int64)).toInt32, f3, f4))) else (if r38.2.1 = (0 : Int64) then (bg_signed (bg_exact r38.2.1 (bg_power x1)) (bg_negative x1), f1, r38.1.toInt32, f3, f4) else (if (bg_negative x1) = (0 : Int32) then (bg_signed (bg_exact r38.2.1 (bg_power x1)) (0 : Int32), f1, r38.1.toInt32, f3, f4) else (bg_signed (bg_exact r38.2.1 (bg_power x1)) (1 : Int32), f1, r38.1.toInt32, f3, f4)))) else (if r38.2.1 = (0 : Int64) then (bg_signed (bg_exact r38.2.1 (bg_power x1)) (bg_negative x1), f1, r38.1.toInt32, f3, f4) else (if (bg_negative x1) = (0 : Int32) then (bg_signed (bg_exact r38.2.1 (bg_power x1)) (0 : Int32), f1, r38.1.toInt32, f3, f4) else (bg_signed (bg_exact r38.2.1 (bg_power x1)) (1 : Int32), f1, r38.1.toInt32, f3, f4))))))
noncomputable def bg_rest (f1 : Int32) (f2 : Int32) (f3 : Int64) (f4 : Int64) (x1 : Int64) (x2 : Int64) (x3 : Int32) : Int64 × Int32 × Int32 × Int64 × Int64 := (if 0 ≤ ((bg_power x1) - (bg_power x2)) then (if ((bg_power x1) - (bg_power x2)) < (-62 : Int32) then (x1, f1, (0 : Int32), f3, f4) else bg_rest_k1 f1 f2 f3 f4 x1 x2 x3 (bl_rest_1 ((bg_power x1) - (bg_power x2)) (bg_number x2) (((bg_number x1) / (bg_number x2)) - ((bg_number x1) / (bg_number x2)) / (8 : Int64) * (8 : Int64), (bg_number x1) - (bg_number x1) / (bg_number x2) * (bg_number x2), (0 : Int32)))) else (if ((bg_power x1) - (bg_power x2)) < (-62 : Int32) then (x1, f1, (0 : Int32), f3, f4) else (if (bg_number x2) ≤ ((1 : Int64) <<< (((62 : Int32) + ((bg_power x1) - (bg_power x2))).toInt64 &&& 63)) then bg_rest_k2 f1 f2 f3 f4 x1 x2 x3 (bl_rest_1 ((bg_power x1) - (bg_power x2)) ((bg_number x2) <<< ((-((bg_power x1) - (bg_power x2))).toInt64 &&& 63)) (((bg_number x1) / ((bg_number x2) <<< ((-((bg_power x1) - (bg_power x2))).toInt64 &&& 63))) - ((bg_number x1) / ((bg_number x2) <<< ((-((bg_power x1) - (bg_power x2))).toInt64 &&& 63))) / (8 : Int64) * (8 : Int64), (bg_number x1) - (bg_number x1) / ((bg_number x2) <<< ((-((bg_power x1) - (bg_power x2))).toInt64 &&& 63)) * ((bg_number x2) <<< ((-((bg_power x1) - (bg_power x2))).toInt64 &&& 63)), (0 : Int32))) else (x1, f1, (0 : Int32), f3, f4))))
noncomputable def bg_place (x1 : Int64) : Int64 := (if (bg_negative x1) = 0 then x1 else -(bg_plain x1))
noncomputable def bl_rnd_1_b (v5 : Int64) (v7 : Int64) (v9 : Int32) : (Int64 × Int64 × Int32) ⊕ (Int64 × Int64 × Int32) := (if (60 : Int32) ≤ v9 then .inr (v5, v7, v9) else (if (4503599627370496 : Int64) ≤ v5 then .inr (v5, v7, v9) else .inl (v5 <<< ((1 : Int32).toInt64 &&& 63), v7 - (1 : Int64), v9 + (1 : Int32))))
noncomputable def bl_rnd_1_st (q : Int64 × Int64 × Int32) : (Int64 × Int64 × Int32) ⊕ (Int64 × Int64 × Int32) := bl_rnd_1_b q.1 q.2.1 q.2.2
noncomputable def bl_rnd_1 (q : Int64 × Int64 × Int32) : Int64 × Int64 × Int32 := bl_run (bl_rnd_1_st) q q
theorem bl_rnd_1_ok (q : Int64 × Int64 × Int32) : ∃ n, bl_it (bl_rnd_1_st) n q = some (bl_rnd_1 q) := bl_some (bl_rnd_1_st) q (fun q => ((60 : Int32).toInt - q.2.2.toInt).toNat) (by
  intro s s2 h
  simp only [bl_rnd_1_st, bl_rnd_1_b] at h
  repeat' split at h
  all_goals first
    | (cases h; done)
    | (obtain rfl := Sum.inl.inj h; exact bm_mu (by assumption))) q
noncomputable def bg_rounded_k1 (f1 : Int32) (f2 : Int32) (f3 : Int64) (f4 : Int64) (x1 : Int64) (x2 : Int64) (r4 : Int64 × Int64 × Int32) : Int64 × Int32 × Int32 × Int64 × Int64 := (if r4.2.1 ≤ (971 : Int64) then (if r4.2.1 < (-1074 : Int64) then (if ((-1074 : Int64) - r4.2.1) ≤ (54 : Int64) then (if (54 : Int64) < ((-1074 : Int64) - r4.2.1) then (if (4503599627370496 : Int64) ≤ (bg_cut r4.1 (((-1074 : Int64) - r4.2.1).toInt32) (1 : Int32) (0 : Int32)) then (bg_cut r4.1 (((-1074 : Int64) - r4.2.1).toInt32) (1 : Int32) (0 : Int32), f1 ||| (2 : Int32), f2, f3, f4) else (bg_cut r4.1 (((-1074 : Int64) - r4.2.1).toInt32) (1 : Int32) (0 : Int32), (f1 ||| (2 : Int32)) ||| (8 : Int32), f2, f3, f4)) else (if ((bg_cut r4.1 (((-1074 : Int64) - r4.2.1).toInt32) (1 : Int32) (0 : Int32)) <<< ((((-1074 : Int64) - r4.2.1).toInt32).toInt64 &&& 63)) = r4.1 then (bg_cut r4.1 (((-1074 : Int64) - r4.2.1).toInt32) (1 : Int32) (0 : Int32), f1, f2, f3, f4) else (if (4503599627370496 : Int64) ≤ (bg_cut r4.1 (((-1074 : Int64) - r4.2.1).toInt32) (1 : Int32) (0 : Int32)) then (bg_cut r4.1 (((-1074 : Int64) - r4.2.1).toInt32) (1 : Int32) (0 : Int32), f1 ||| (2 : Int32), f2, f3, f4) else (bg_cut r4.1 (((-1074 : Int64) - r4.2.1).toInt32) (1 : Int32) (0 : Int32), (f1 ||| (2 : Int32)) ||| (8 : Int32), f2, f3, f4)))) else (if (54 : Int64) < ((-1074 : Int64) - r4.2.1) then ((0 : Int64), (f1 ||| (2 : Int32)) ||| (8 : Int32), f2, f3, f4) else (if ((0 : Int64) <<< ((((-1074 : Int64) - r4.2.1).toInt32).toInt64 &&& 63)) = r4.1 then ((0 : Int64), f1, f2, f3, f4) else ((0 : Int64), (f1 ||| (2 : Int32)) ||| (8 : Int32), f2, f3, f4)))) else (bg_exact r4.1 r4.2.1.toInt32, f1, f2, f3, f4)) else ((9218868437227405312 : Int64), f1 ||| (6 : Int32), f2, f3, f4))
noncomputable def bg_rounded (f1 : Int32) (f2 : Int32) (f3 : Int64) (f4 : Int64) (x1 : Int64) (x2 : Int64) : Int64 × Int32 × Int32 × Int64 × Int64 := bg_rounded_k1 f1 f2 f3 f4 x1 x2 (bl_rnd_1 (x1, x2, (0 : Int32)))
noncomputable def bg_load (f1 : Int32) (f2 : Int32) (f3 : Int64) (f4 : Int64) (g : Nat → Int64) (x1 : Int32) (x2 : Int64) : Int32 × Int32 × Int32 × Int64 × Int64 × (Nat → Int64) := (if (bg_isRegister x1) = 0 then ((0 : Int32), f1, f2, f3, f4, g) else ((1 : Int32), f1, f2, f3, f4, vp_updL g x1.toNatClampNeg x2))
noncomputable def bg_bits (f1 : Int32) (f2 : Int32) (f3 : Int64) (f4 : Int64) (g : Nat → Int64) (x1 : Int32) : Int64 × Int32 × Int32 × Int64 × Int64 × (Nat → Int64) := (if (bg_isRegister x1) = 0 then ((0 : Int64), f1, f2, f3, f4, g) else (g x1.toNatClampNeg, f1, f2, f3, f4, g))
noncomputable def bg_sqrt_k1 (f1 : Int32) (f2 : Int32) (f3 : Int64) (f4 : Int64) (g : Nat → Int64) (x1 : Int32) (x2 : Int32) (r7 : Int64 × Int32 × Int32 × Int64 × Int64) : Int32 × Int32 × Int32 × Int64 × Int64 × (Nat → Int64) := ((1 : Int32), r7.2.1, r7.2.2.1, r7.2.2.2.1, r7.2.2.2.2, vp_updL g x1.toNatClampNeg r7.1)
noncomputable def bg_sqrt (f1 : Int32) (f2 : Int32) (f3 : Int64) (f4 : Int64) (g : Nat → Int64) (x1 : Int32) (x2 : Int32) : Int32 × Int32 × Int32 × Int64 × Int64 × (Nat → Int64) := (if (bg_isRegister x1) = 0 then ((0 : Int32), f1, f2, f3, f4, g) else (if (bg_isRegister x2) = 0 then ((0 : Int32), f1, f2, f3, f4, g) else (if (bg_isNan (g x2.toNatClampNeg)) = 0 then (if (bg_isZero (g x2.toNatClampNeg)) = 0 then (if (g x2.toNatClampNeg) = (9218868437227405312 : Int64) then ((1 : Int32), f1, f2, f3, f4, vp_updL g x1.toNatClampNeg (g x2.toNatClampNeg)) else (if (bg_negative (g x2.toNatClampNeg)) = 0 then bg_sqrt_k1 f1 f2 f3 f4 g x1 x2 (bg_root f1 f2 f3 f4 (g x2.toNatClampNeg)) else ((1 : Int32), f1 ||| (1 : Int32), f2, f3, f4, vp_updL g x1.toNatClampNeg (9221120237041090560 : Int64)))) else ((1 : Int32), f1, f2, f3, f4, vp_updL g x1.toNatClampNeg (g x2.toNatClampNeg))) else ((1 : Int32), f1, f2, f3, f4, vp_updL g x1.toNatClampNeg (9221120237041090560 : Int64)))))
noncomputable def bg_whole (f1 : Int32) (f2 : Int32) (f3 : Int64) (f4 : Int64) (g : Nat → Int64) (x1 : Int32) (x2 : Int32) (x3 : Int32) : Int32 × Int32 × Int32 × Int64 × Int64 × (Nat → Int64) := (if (bg_isRegister x1) = 0 then ((0 : Int32), f1, f2, f3, f4, g) else (if (bg_isRegister x2) = 0 then ((0 : Int32), f1, f2, f3, f4, g) else (if x3 < 0 then ((0 : Int32), f1, f2, f3, f4, g) else (if x3 ≤ (3 : Int32) then (if (bg_isNan (g x2.toNatClampNeg)) = 0 then (if (bg_isInfinite (g x2.toNatClampNeg)) = 0 then (if (bg_power (g x2.toNatClampNeg)) < 0 then (if x3 = 0 then (if x3 = (1 : Int32) then (if (bg_negative (g x2.toNatClampNeg)) = 0 then (if x3 = (2 : Int32) then (if (bg_exact (bg_cut (bg_number (g x2.toNatClampNeg)) (-(bg_power (g x2.toNatClampNeg))) (1 : Int32) (1 : Int32)) (0 : Int32)) = (bg_plain (g x2.toNatClampNeg)) then ((1 : Int32), f1, f2, f3, f4, vp_updL g x1.toNatClampNeg (bg_signed (bg_exact (bg_cut (bg_number (g x2.toNatClampNeg)) (-(bg_power (g x2.toNatClampNeg))) (1 : Int32) (1 : Int32)) (0 : Int32)) (bg_negative (g x2.toNatClampNeg)))) else ((1 : Int32), f1 ||| (2 : Int32), f2, f3, f4, vp_updL g x1.toNatClampNeg (bg_signed (bg_exact (bg_cut (bg_number (g x2.toNatClampNeg)) (-(bg_power (g x2.toNatClampNeg))) (1 : Int32) (1 : Int32)) (0 : Int32)) (bg_negative (g x2.toNatClampNeg))))) else (if (bg_exact (bg_cut (bg_number (g x2.toNatClampNeg)) (-(bg_power (g x2.toNatClampNeg))) (1 : Int32) (0 : Int32)) (0 : Int32)) = (bg_plain (g x2.toNatClampNeg)) then ((1 : Int32), f1, f2, f3, f4, vp_updL g x1.toNatClampNeg (bg_signed (bg_exact (bg_cut (bg_number (g x2.toNatClampNeg)) (-(bg_power (g x2.toNatClampNeg))) (1 : Int32) (0 : Int32)) (0 : Int32)) (bg_negative (g x2.toNatClampNeg)))) else ((1 : Int32), f1 ||| (2 : Int32), f2, f3, f4, vp_updL g x1.toNatClampNeg (bg_signed (bg_exact (bg_cut (bg_number (g x2.toNatClampNeg)) (-(bg_power (g x2.toNatClampNeg))) (1 : Int32) (0 : Int32)) (0 : Int32)) (bg_negative (g x2.toNatClampNeg)))))) else (if (bg_exact (bg_cut (bg_number (g x2.toNatClampNeg)) (-(bg_power (g x2.toNatClampNeg))) (1 : Int32) (1 : Int32)) (0 : Int32)) = (bg_plain (g x2.toNatClampNeg)) then ((1 : Int32), f1, f2, f3, f4, vp_updL g x1.toNatClampNeg (bg_signed (bg_exact (bg_cut (bg_number (g x2.toNatClampNeg)) (-(bg_power (g x2.toNatClampNeg))) (1 : Int32) (1 : Int32)) (0 : Int32)) (bg_negative (g x2.toNatClampNeg)))) else ((1 : Int32), f1 ||| (2 : Int32), f2, f3, f4, vp_updL g x1.toNatClampNeg (bg_signed (bg_exact (bg_cut (bg_number (g x2.toNatClampNeg)) (-(bg_power (g x2.toNatClampNeg))) (1 : Int32) (1 : Int32)) (0 : Int32)) (bg_negative (g x2.toNatClampNeg)))))) else (if x3 = (2 : Int32) then (if (bg_negative (g x2.toNatClampNeg)) = 0 then (if (bg_exact (bg_cut (bg_number (g x2.toNatClampNeg)) (-(bg_power (g x2.toNatClampNeg))) (1 : Int32) (1 : Int32)) (0 : Int32)) = (bg_plain (g x2.toNatClampNeg)) then ((1 : Int32), f1, f2, f3, f4, vp_updL g x1.toNatClampNeg (bg_signed (bg_exact (bg_cut (bg_number (g x2.toNatClampNeg)) (-(bg_power (g x2.toNatClampNeg))) (1 : Int32) (1 : Int32)) (0 : Int32)) (bg_negative (g x2.toNatClampNeg)))) else ((1 : Int32), f1 ||| (2 : Int32), f2, f3, f4, vp_updL g x1.toNatClampNeg (bg_signed (bg_exact (bg_cut (bg_number (g x2.toNatClampNeg)) (-(bg_power (g x2.toNatClampNeg))) (1 : Int32) (1 : Int32)) (0 : Int32)) (bg_negative (g x2.toNatClampNeg))))) else (if (bg_exact (bg_cut (bg_number (g x2.toNatClampNeg)) (-(bg_power (g x2.toNatClampNeg))) (1 : Int32) (0 : Int32)) (0 : Int32)) = (bg_plain (g x2.toNatClampNeg)) then ((1 : Int32), f1, f2, f3, f4, vp_updL g x1.toNatClampNeg (bg_signed (bg_exact (bg_cut (bg_number (g x2.toNatClampNeg)) (-(bg_power (g x2.toNatClampNeg))) (1 : Int32) (0 : Int32)) (0 : Int32)) (bg_negative (g x2.toNatClampNeg)))) else ((1 : Int32), f1 ||| (2 : Int32), f2, f3, f4, vp_updL g x1.toNatClampNeg (bg_signed (bg_exact (bg_cut (bg_number (g x2.toNatClampNeg)) (-(bg_power (g x2.toNatClampNeg))) (1 : Int32) (0 : Int32)) (0 : Int32)) (bg_negative (g x2.toNatClampNeg)))))) else (if (bg_exact (bg_cut (bg_number (g x2.toNatClampNeg)) (-(bg_power (g x2.toNatClampNeg))) (1 : Int32) (0 : Int32)) (0 : Int32)) = (bg_plain (g x2.toNatClampNeg)) then ((1 : Int32), f1, f2, f3, f4, vp_updL g x1.toNatClampNeg (bg_signed (bg_exact (bg_cut (bg_number (g x2.toNatClampNeg)) (-(bg_power (g x2.toNatClampNeg))) (1 : Int32) (0 : Int32)) (0 : Int32)) (bg_negative (g x2.toNatClampNeg)))) else ((1 : Int32), f1 ||| (2 : Int32), f2, f3, f4, vp_updL g x1.toNatClampNeg (bg_signed (bg_exact (bg_cut (bg_number (g x2.toNatClampNeg)) (-(bg_power (g x2.toNatClampNeg))) (1 : Int32) (0 : Int32)) (0 : Int32)) (bg_negative (g x2.toNatClampNeg))))))) else (if x3 = (1 : Int32) then (if (bg_negative (g x2.toNatClampNeg)) = 0 then (if x3 = (2 : Int32) then ((1 : Int32), f1, f2, f3, f4, vp_updL g x1.toNatClampNeg (bg_signed (bg_exact (bg_cut (bg_number (g x2.toNatClampNeg)) (-(bg_power (g x2.toNatClampNeg))) (0 : Int32) (1 : Int32)) (0 : Int32)) (bg_negative (g x2.toNatClampNeg)))) else ((1 : Int32), f1, f2, f3, f4, vp_updL g x1.toNatClampNeg (bg_signed (bg_exact (bg_cut (bg_number (g x2.toNatClampNeg)) (-(bg_power (g x2.toNatClampNeg))) (0 : Int32) (0 : Int32)) (0 : Int32)) (bg_negative (g x2.toNatClampNeg))))) else ((1 : Int32), f1, f2, f3, f4, vp_updL g x1.toNatClampNeg (bg_signed (bg_exact (bg_cut (bg_number (g x2.toNatClampNeg)) (-(bg_power (g x2.toNatClampNeg))) (0 : Int32) (1 : Int32)) (0 : Int32)) (bg_negative (g x2.toNatClampNeg))))) else (if x3 = (2 : Int32) then (if (bg_negative (g x2.toNatClampNeg)) = 0 then ((1 : Int32), f1, f2, f3, f4, vp_updL g x1.toNatClampNeg (bg_signed (bg_exact (bg_cut (bg_number (g x2.toNatClampNeg)) (-(bg_power (g x2.toNatClampNeg))) (0 : Int32) (1 : Int32)) (0 : Int32)) (bg_negative (g x2.toNatClampNeg)))) else ((1 : Int32), f1, f2, f3, f4, vp_updL g x1.toNatClampNeg (bg_signed (bg_exact (bg_cut (bg_number (g x2.toNatClampNeg)) (-(bg_power (g x2.toNatClampNeg))) (0 : Int32) (0 : Int32)) (0 : Int32)) (bg_negative (g x2.toNatClampNeg))))) else ((1 : Int32), f1, f2, f3, f4, vp_updL g x1.toNatClampNeg (bg_signed (bg_exact (bg_cut (bg_number (g x2.toNatClampNeg)) (-(bg_power (g x2.toNatClampNeg))) (0 : Int32) (0 : Int32)) (0 : Int32)) (bg_negative (g x2.toNatClampNeg))))))) else ((1 : Int32), f1, f2, f3, f4, vp_updL g x1.toNatClampNeg (g x2.toNatClampNeg))) else ((1 : Int32), f1, f2, f3, f4, vp_updL g x1.toNatClampNeg (g x2.toNatClampNeg))) else ((1 : Int32), f1, f2, f3, f4, vp_updL g x1.toNatClampNeg (9221120237041090560 : Int64))) else ((0 : Int32), f1, f2, f3, f4, g)))))
noncomputable def bg_left_k1 (f1 : Int32) (f2 : Int32) (f3 : Int64) (f4 : Int64) (g : Nat → Int64) (x1 : Int32) (x2 : Int32) (x3 : Int32) (x4 : Int32) (r10 : Int64 × Int32 × Int32 × Int64 × Int64) : Int32 × Int32 × Int32 × Int64 × Int64 × (Nat → Int64) := ((1 : Int32), r10.2.1, r10.2.2.1, r10.2.2.2.1, r10.2.2.2.2, vp_updL g x1.toNatClampNeg r10.1)
noncomputable def bg_left (f1 : Int32) (f2 : Int32) (f3 : Int64) (f4 : Int64) (g : Nat → Int64) (x1 : Int32) (x2 : Int32) (x3 : Int32) (x4 : Int32) : Int32 × Int32 × Int32 × Int64 × Int64 × (Nat → Int64) := (if (bg_isRegister x1) = 0 then ((0 : Int32), f1, f2, f3, f4, g) else (if (bg_isRegister x2) = 0 then ((0 : Int32), f1, f2, f3, f4, g) else (if (bg_isRegister x3) = 0 then ((0 : Int32), f1, f2, f3, f4, g) else (if (bg_isNan (g x2.toNatClampNeg)) = 0 then (if (bg_isNan (g x3.toNatClampNeg)) = 0 then (if (bg_isInfinite (g x2.toNatClampNeg)) = 0 then (if (bg_isZero (g x3.toNatClampNeg)) = 0 then (if (bg_isInfinite (g x3.toNatClampNeg)) = 0 then (if (bg_isZero (g x2.toNatClampNeg)) = 0 then bg_left_k1 f1 f2 f3 f4 g x1 x2 x3 x4 (bg_rest f1 (0 : Int32) f3 f4 (g x2.toNatClampNeg) (g x3.toNatClampNeg) x4) else ((1 : Int32), f1, (0 : Int32), f3, f4, vp_updL g x1.toNatClampNeg (g x2.toNatClampNeg))) else ((1 : Int32), f1, (0 : Int32), f3, f4, vp_updL g x1.toNatClampNeg (g x2.toNatClampNeg))) else ((1 : Int32), f1 ||| (1 : Int32), (0 : Int32), f3, f4, vp_updL g x1.toNatClampNeg (9221120237041090560 : Int64))) else ((1 : Int32), f1 ||| (1 : Int32), (0 : Int32), f3, f4, vp_updL g x1.toNatClampNeg (9221120237041090560 : Int64))) else ((1 : Int32), f1, (0 : Int32), f3, f4, vp_updL g x1.toNatClampNeg (9221120237041090560 : Int64))) else ((1 : Int32), f1, (0 : Int32), f3, f4, vp_updL g x1.toNatClampNeg (9221120237041090560 : Int64))))))
noncomputable def bg_quotient (f1 : Int32) (f2 : Int32) (f3 : Int64) (f4 : Int64) (g : Nat → Int64) : Int32 × Int32 × Int32 × Int64 × Int64 × (Nat → Int64) := (f2, f1, f2, f3, f4, g)
noncomputable def bg_neighbour (f1 : Int32) (f2 : Int32) (f3 : Int64) (f4 : Int64) (g : Nat → Int64) (x1 : Int32) (x2 : Int32) (x3 : Int32) : Int32 × Int32 × Int32 × Int64 × Int64 × (Nat → Int64) := (if (bg_isRegister x1) = 0 then ((0 : Int32), f1, f2, f3, f4, g) else (if (bg_isRegister x2) = 0 then ((0 : Int32), f1, f2, f3, f4, g) else (if (bg_isRegister x3) = 0 then ((0 : Int32), f1, f2, f3, f4, g) else (if (bg_isNan (g x2.toNatClampNeg)) = 0 then (if (bg_isNan (g x3.toNatClampNeg)) = 0 then (if (bg_place (g x2.toNatClampNeg)) = (bg_place (g x3.toNatClampNeg)) then ((1 : Int32), f1, f2, f3, f4, vp_updL g x1.toNatClampNeg (g x2.toNatClampNeg)) else (if (bg_place (g x3.toNatClampNeg)) ≤ (bg_place (g x2.toNatClampNeg)) then (if ((bg_place (g x2.toNatClampNeg)) - (1 : Int64)) = (0 : Int64) then ((1 : Int32), f1, f2, f3, f4, vp_updL g x1.toNatClampNeg (bg_signed (0 : Int64) (bg_negative (g x2.toNatClampNeg)))) else (if (0 : Int64) ≤ ((bg_place (g x2.toNatClampNeg)) - (1 : Int64)) then ((1 : Int32), f1, f2, f3, f4, vp_updL g x1.toNatClampNeg ((bg_place (g x2.toNatClampNeg)) - (1 : Int64))) else ((1 : Int32), f1, f2, f3, f4, vp_updL g x1.toNatClampNeg (bg_signed (-((bg_place (g x2.toNatClampNeg)) - (1 : Int64))) (1 : Int32))))) else (if ((bg_place (g x2.toNatClampNeg)) + (1 : Int64)) = (0 : Int64) then ((1 : Int32), f1, f2, f3, f4, vp_updL g x1.toNatClampNeg (bg_signed (0 : Int64) (bg_negative (g x2.toNatClampNeg)))) else (if (0 : Int64) ≤ ((bg_place (g x2.toNatClampNeg)) + (1 : Int64)) then ((1 : Int32), f1, f2, f3, f4, vp_updL g x1.toNatClampNeg ((bg_place (g x2.toNatClampNeg)) + (1 : Int64))) else ((1 : Int32), f1, f2, f3, f4, vp_updL g x1.toNatClampNeg (bg_signed (-((bg_place (g x2.toNatClampNeg)) + (1 : Int64))) (1 : Int32))))))) else ((1 : Int32), f1, f2, f3, f4, vp_updL g x1.toNatClampNeg (9221120237041090560 : Int64))) else ((1 : Int32), f1, f2, f3, f4, vp_updL g x1.toNatClampNeg (9221120237041090560 : Int64))))))
noncomputable def bg_scale_k1 (f1 : Int32) (f2 : Int32) (f3 : Int64) (f4 : Int64) (g : Nat → Int64) (x1 : Int32) (x2 : Int32) (x3 : Int32) (r6 : Int64 × Int32 × Int32 × Int64 × Int64) : Int32 × Int32 × Int32 × Int64 × Int64 × (Nat → Int64) := ((1 : Int32), r6.2.1, r6.2.2.1, r6.2.2.2.1, r6.2.2.2.2, vp_updL g x1.toNatClampNeg (bg_signed r6.1 (bg_negative (g x2.toNatClampNeg))))
noncomputable def bg_scale (f1 : Int32) (f2 : Int32) (f3 : Int64) (f4 : Int64) (g : Nat → Int64) (x1 : Int32) (x2 : Int32) (x3 : Int32) : Int32 × Int32 × Int32 × Int64 × Int64 × (Nat → Int64) := (if (bg_isRegister x1) = 0 then ((0 : Int32), f1, f2, f3, f4, g) else (if (bg_isRegister x2) = 0 then ((0 : Int32), f1, f2, f3, f4, g) else (if (bg_isNan (g x2.toNatClampNeg)) = 0 then (if (bg_isInfinite (g x2.toNatClampNeg)) = 0 then (if (bg_isZero (g x2.toNatClampNeg)) = 0 then bg_scale_k1 f1 f2 f3 f4 g x1 x2 x3 (bg_rounded f1 f2 f3 f4 (bg_number (g x2.toNatClampNeg)) (((bg_power (g x2.toNatClampNeg)).toInt64) + x3.toInt64)) else ((1 : Int32), f1, f2, f3, f4, vp_updL g x1.toNatClampNeg (g x2.toNatClampNeg))) else ((1 : Int32), f1, f2, f3, f4, vp_updL g x1.toNatClampNeg (g x2.toNatClampNeg))) else ((1 : Int32), f1, f2, f3, f4, vp_updL g x1.toNatClampNeg (9221120237041090560 : Int64)))))
noncomputable def bl_expo_1_b (v4 : Int32) (v5 : Int64) : (Int32 × Int64) ⊕ (Int32 × Int64) := (if v5 ≤ (1 : Int64) then .inr (v4, v5) else .inl (v4 + (1 : Int32), v5 >>> ((1 : Int32).toInt64 &&& 63)))
noncomputable def bl_expo_1_st (q : Int32 × Int64) : (Int32 × Int64) ⊕ (Int32 × Int64) := bl_expo_1_b q.1 q.2
noncomputable def bl_expo_1 (q : Int32 × Int64) : Int32 × Int64 := bl_run (bl_expo_1_st) q q
theorem bl_expo_1_ok (q : Int32 × Int64) : ∃ n, bl_it (bl_expo_1_st) n q = some (bl_expo_1 q) := bl_some (bl_expo_1_st) q (fun q => q.2.toInt.toNat) (by
  intro s s2 h
  simp only [bl_expo_1_st, bl_expo_1_b] at h
  split at h
  · cases h
  · rename_i c
    obtain rfl := Sum.inl.inj h
    exact bm_muh c) q
noncomputable def bg_exponent_k1 (f1 : Int32) (f2 : Int32) (f3 : Int64) (f4 : Int64) (g : Nat → Int64) (x1 : Int32) (r6 : Int32 × Int64) : Int32 × Int32 × Int32 × Int64 × Int64 × (Nat → Int64) := (r6.1, f1, f2, f3, f4, g)
noncomputable def bg_exponent (f1 : Int32) (f2 : Int32) (f3 : Int64) (f4 : Int64) (g : Nat → Int64) (x1 : Int32) : Int32 × Int32 × Int32 × Int64 × Int64 × (Nat → Int64) := (if (bg_isRegister x1) = 0 then ((0 : Int32), f1, f2, f3, f4, g) else (if (bg_isZero (g x1.toNatClampNeg)) = 0 then (if (bg_plain (g x1.toNatClampNeg)) < (9218868437227405312 : Int64) then bg_exponent_k1 f1 f2 f3 f4 g x1 (bl_expo_1 (bg_power (g x1.toNatClampNeg), bg_number (g x1.toNatClampNeg))) else ((2147483647 : Int32), f1, f2, f3, f4, g)) else ((-2147483648 : Int32), f1, f2, f3, f4, g)))
noncomputable def bg_compare (f1 : Int32) (f2 : Int32) (f3 : Int64) (f4 : Int64) (g : Nat → Int64) (x1 : Int32) (x2 : Int32) : Int32 × Int32 × Int32 × Int64 × Int64 × (Nat → Int64) := (if (bg_isRegister x1) = 0 then ((2 : Int32), f1, f2, f3, f4, g) else (if (bg_isRegister x2) = 0 then ((2 : Int32), f1, f2, f3, f4, g) else (if (bg_isNan (g x1.toNatClampNeg)) = 0 then (if (bg_isNan (g x2.toNatClampNeg)) = 0 then (if (bg_place (g x2.toNatClampNeg)) ≤ (bg_place (g x1.toNatClampNeg)) then (if (bg_place (g x1.toNatClampNeg)) ≤ (bg_place (g x2.toNatClampNeg)) then ((0 : Int32), f1, f2, f3, f4, g) else ((1 : Int32), f1, f2, f3, f4, g)) else ((-1 : Int32), f1, f2, f3, f4, g)) else ((2 : Int32), f1, f2, f3, f4, g)) else ((2 : Int32), f1, f2, f3, f4, g))))
noncomputable def bg_sort (f1 : Int32) (f2 : Int32) (f3 : Int64) (f4 : Int64) (g : Nat → Int64) (x1 : Int32) : Int32 × Int32 × Int32 × Int64 × Int64 × (Nat → Int64) := (if (bg_isRegister x1) = 0 then ((-1 : Int32), f1, f2, f3, f4, g) else (if (bg_isZero (g x1.toNatClampNeg)) = 0 then (if (bg_isNan (g x1.toNatClampNeg)) = 0 then (if (bg_isInfinite (g x1.toNatClampNeg)) = 0 then (if (4503599627370496 : Int64) ≤ (bg_plain (g x1.toNatClampNeg)) then (if (bg_negative (g x1.toNatClampNeg)) = 0 then ((2 : Int32), f1, f2, f3, f4, g) else ((2 : Int32) + (8 : Int32), f1, f2, f3, f4, g)) else (if (bg_negative (g x1.toNatClampNeg)) = 0 then ((1 : Int32), f1, f2, f3, f4, g) else ((1 : Int32) + (8 : Int32), f1, f2, f3, f4, g))) else (if (bg_negative (g x1.toNatClampNeg)) = 0 then ((3 : Int32), f1, f2, f3, f4, g) else ((3 : Int32) + (8 : Int32), f1, f2, f3, f4, g))) else (if (bg_negative (g x1.toNatClampNeg)) = 0 then ((4 : Int32), f1, f2, f3, f4, g) else ((4 : Int32) + (8 : Int32), f1, f2, f3, f4, g))) else (if (bg_negative (g x1.toNatClampNeg)) = 0 then ((0 : Int32), f1, f2, f3, f4, g) else ((0 : Int32) + (8 : Int32), f1, f2, f3, f4, g))))
noncomputable def bg_flags (f1 : Int32) (f2 : Int32) (f3 : Int64) (f4 : Int64) (g : Nat → Int64) : Int32 × Int32 × Int32 × Int64 × Int64 × (Nat → Int64) := (f1, f1, f2, f3, f4, g)
noncomputable def bg_clear (f1 : Int32) (f2 : Int32) (f3 : Int64) (f4 : Int64) (g : Nat → Int64) : Int32 × Int32 × Int64 × Int64 × (Nat → Int64) := ((0 : Int32), f2, f3, f4, g)
end
section
/-! leading zeros -/
theorem bm_iuN (x : Int32) {k : Int32} {j : Nat} (hk : (k.toUInt32 &&& Int32.toUInt32 31).toNat % 32 = j) (hx : 0 ≤ x.toInt) : ((x.toUInt32 >>> (k.toUInt32 &&& Int32.toUInt32 31)).toInt32).toInt = x.toInt / ((2 ^ j : Nat) : Int) := by
  have a := bm_ti x
  have nx := bm_ni x
  have e : ((x.toUInt32 >>> (k.toUInt32 &&& Int32.toUInt32 31)).toInt32).toBitVec.toNat = x.toBitVec.toNat / 2 ^ j := by
    show (x.toUInt32 >>> (k.toUInt32 &&& Int32.toUInt32 31)).toNat = _
    rw [UInt32.toNat_shiftRight, hk, Nat.shiftRight_eq_div_pow]
    rfl
  have b := bm_ti ((x.toUInt32 >>> (k.toUInt32 &&& Int32.toUInt32 31)).toInt32)
  have hd := Nat.div_le_self x.toBitVec.toNat (2 ^ j)
  have hn : 2 * x.toBitVec.toNat < 4294967296 := by split at a <;> omega
  rw [e, if_pos (by omega)] at b
  rw [b, a, if_pos hn]
  exact Int.natCast_ediv _ _
theorem bm_luN (x : Int64) {k : Int32} {j : Nat} (hk : (k.toInt64.toUInt64 &&& Int64.toUInt64 63).toNat % 64 = j) : ((x.toUInt64 >>> (k.toInt64.toUInt64 &&& Int64.toUInt64 63)).toInt64).toBitVec.toNat = x.toBitVec.toNat / 2 ^ j := by
  show (x.toUInt64 >>> (k.toInt64.toUInt64 &&& Int64.toUInt64 63)).toNat = _
  rw [UInt64.toNat_shiftRight, hk, Nat.shiftRight_eq_div_pow]
  rfl
def bj_s5 (i n : Int32) : Int32 := n - (i.toUInt32 >>> ((1 : Int32).toUInt32 &&& Int32.toUInt32 31)).toInt32
def bj_s4 (i n : Int32) : Int32 := if i < (4 : Int32) then bj_s5 i n else bj_s5 ((i.toUInt32 >>> ((2 : Int32).toUInt32 &&& Int32.toUInt32 31)).toInt32) (n + (-2 : Int32))
def bj_s3 (i n : Int32) : Int32 := if i < (16 : Int32) then bj_s4 i n else bj_s4 ((i.toUInt32 >>> ((4 : Int32).toUInt32 &&& Int32.toUInt32 31)).toInt32) (n + (-4 : Int32))
def bj_s2 (i n : Int32) : Int32 := if i < (256 : Int32) then bj_s3 i n else bj_s3 ((i.toUInt32 >>> ((8 : Int32).toUInt32 &&& Int32.toUInt32 31)).toInt32) (n + (-8 : Int32))
def bj_s1 (i n : Int32) : Int32 := if i < (65536 : Int32) then bj_s2 i n else bj_s2 ((i.toUInt32 >>> ((16 : Int32).toUInt32 &&& Int32.toUInt32 31)).toInt32) (n + (-16 : Int32))
theorem bm_up {i k s : Nat} (h1 : 2 ^ k ≤ i / 2 ^ s) (h2 : i / 2 ^ s < 2 ^ (k + 1)) : 2 ^ (k + s) ≤ i ∧ i < 2 ^ (k + s + 1) := by
  have p := Nat.two_pow_pos s
  constructor
  · rw [Nat.pow_add]; exact (Nat.le_div_iff_mul_le p).mp h1
  · rw [show k + s + 1 = (k + 1) + s by omega, Nat.pow_add]; exact (Nat.div_lt_iff_lt_mul p).mp h2
/-- r is the place of i's leading bit, counted down from n -/
def bm_lead (i n r : Int) : Prop := ∃ k : Nat, r = n - k ∧ ((2 ^ k : Nat) : Int) ≤ i ∧ i < ((2 ^ (k + 1) : Nat) : Int)
theorem bm_lead_up {i n r : Int} {s : Nat} (hi : 0 ≤ i) (h : bm_lead (i / ((2 ^ s : Nat) : Int)) (n - s) r) : bm_lead i n r := by
  obtain ⟨k, h1, h2, h3⟩ := h
  obtain ⟨j, rfl⟩ : ∃ j : Nat, i = j := ⟨i.toNat, by omega⟩
  rw [← Int.natCast_ediv] at h2 h3
  obtain ⟨g1, g2⟩ := bm_up (Int.ofNat_le.mp h2) (Int.ofNat_lt.mp h3)
  exact ⟨k + s, by omega, Int.ofNat_le.mpr g1, Int.ofNat_lt.mpr g2⟩
theorem bm_s5 {i n : Int32} (h1 : 1 ≤ i.toInt) (h2 : i.toInt < 4) (h3 : 1 ≤ n.toInt) : bm_lead i.toInt n.toInt (bj_s5 i n).toInt := by
  have e := bm_iuN i (k := 1) (j := 1) (by decide) (by omega)
  have hn := bm_ri n
  unfold bj_s5
  rw [bm_isub (by rw [e]; omega) (by rw [e]; omega), e]
  rcases Int.lt_or_le i.toInt 2 with h | h
  · exact ⟨0, by omega, by omega, by omega⟩
  · exact ⟨1, by omega, by omega, by omega⟩
theorem bm_s4 {i n : Int32} (h1 : 1 ≤ i.toInt) (h2 : i.toInt < 16) (h3 : 3 ≤ n.toInt) : bm_lead i.toInt n.toInt (bj_s4 i n).toInt := by
  have hn := bm_ri n
  unfold bj_s4
  split
  · rename_i h
    have h : i.toInt < (4 : Int) := bm_ilt.mp h
    exact bm_s5 h1 (by omega) (by omega)
  · rename_i h
    have h : ¬ i.toInt < (4 : Int) := fun z => h (bm_ilt.mpr z)
    have e := bm_iuN i (k := 2) (j := 2) (by decide) (by omega)
    have en : (n + (-2 : Int32)).toInt = n.toInt - 2 := by rw [bm_iadd (by rw [show (-2 : Int32).toInt = -2 by decide]; omega) (by rw [show (-2 : Int32).toInt = -2 by decide]; omega), show (-2 : Int32).toInt = -2 by decide]; omega
    apply bm_lead_up (s := 2) (by omega)
    have := bm_s5 (i := (i.toUInt32 >>> ((2 : Int32).toUInt32 &&& Int32.toUInt32 31)).toInt32) (n := n + (-2 : Int32)) (by rw [e]; omega) (by rw [e]; omega) (by omega)
    rw [e, en] at this
    exact this
theorem bm_s3 {i n : Int32} (h1 : 1 ≤ i.toInt) (h2 : i.toInt < 256) (h3 : 7 ≤ n.toInt) : bm_lead i.toInt n.toInt (bj_s3 i n).toInt := by
  have hn := bm_ri n
  unfold bj_s3
  split
  · rename_i h
    have h : i.toInt < (16 : Int) := bm_ilt.mp h
    exact bm_s4 h1 (by omega) (by omega)
  · rename_i h
    have h : ¬ i.toInt < (16 : Int) := fun z => h (bm_ilt.mpr z)
    have e := bm_iuN i (k := 4) (j := 4) (by decide) (by omega)
    have en : (n + (-4 : Int32)).toInt = n.toInt - 4 := by rw [bm_iadd (by rw [show (-4 : Int32).toInt = -4 by decide]; omega) (by rw [show (-4 : Int32).toInt = -4 by decide]; omega), show (-4 : Int32).toInt = -4 by decide]; omega
    apply bm_lead_up (s := 4) (by omega)
    have := bm_s4 (i := (i.toUInt32 >>> ((4 : Int32).toUInt32 &&& Int32.toUInt32 31)).toInt32) (n := n + (-4 : Int32)) (by rw [e]; omega) (by rw [e]; omega) (by omega)
    rw [e, en] at this
    exact this
theorem bm_s2 {i n : Int32} (h1 : 1 ≤ i.toInt) (h2 : i.toInt < 65536) (h3 : 15 ≤ n.toInt) : bm_lead i.toInt n.toInt (bj_s2 i n).toInt := by
  have hn := bm_ri n
  unfold bj_s2
  split
  · rename_i h
    have h : i.toInt < (256 : Int) := bm_ilt.mp h
    exact bm_s3 h1 (by omega) (by omega)
  · rename_i h
    have h : ¬ i.toInt < (256 : Int) := fun z => h (bm_ilt.mpr z)
    have e := bm_iuN i (k := 8) (j := 8) (by decide) (by omega)
    have en : (n + (-8 : Int32)).toInt = n.toInt - 8 := by rw [bm_iadd (by rw [show (-8 : Int32).toInt = -8 by decide]; omega) (by rw [show (-8 : Int32).toInt = -8 by decide]; omega), show (-8 : Int32).toInt = -8 by decide]; omega
    apply bm_lead_up (s := 8) (by omega)
    have := bm_s3 (i := (i.toUInt32 >>> ((8 : Int32).toUInt32 &&& Int32.toUInt32 31)).toInt32) (n := n + (-8 : Int32)) (by rw [e]; omega) (by rw [e]; omega) (by omega)
    rw [e, en] at this
    exact this
theorem bm_s1 {i n : Int32} (h1 : 1 ≤ i.toInt) (h3 : 31 ≤ n.toInt) : bm_lead i.toInt n.toInt (bj_s1 i n).toInt := by
  have hn := bm_ri n
  have hi := bm_ri i
  unfold bj_s1
  split
  · rename_i h
    have h : i.toInt < (65536 : Int) := bm_ilt.mp h
    exact bm_s2 h1 (by omega) (by omega)
  · rename_i h
    have h : ¬ i.toInt < (65536 : Int) := fun z => h (bm_ilt.mpr z)
    have e := bm_iuN i (k := 16) (j := 16) (by decide) (by omega)
    have en : (n + (-16 : Int32)).toInt = n.toInt - 16 := by rw [bm_iadd (by rw [show (-16 : Int32).toInt = -16 by decide]; omega) (by rw [show (-16 : Int32).toInt = -16 by decide]; omega), show (-16 : Int32).toInt = -16 by decide]; omega
    apply bm_lead_up (s := 16) (by omega)
    have := bm_s2 (i := (i.toUInt32 >>> ((16 : Int32).toUInt32 &&& Int32.toUInt32 31)).toInt32) (n := n + (-16 : Int32)) (by rw [e]; omega) (by rw [e]; omega) (by omega)
    rw [e, en] at this
    exact this
/-! what the small functions say, in numbers -/
def bm_p (x : Int64) : Int := x.toInt % 9223372036854775808
def bm_sig (p : Int) : Int := if p < 4503599627370496 then p else p % 4503599627370496 + 4503599627370496
def bm_pow (p : Int) : Int := if p < 4503599627370496 then -1074 else p / 4503599627370496 - 1075
theorem bm_p_r (x : Int64) : 0 ≤ bm_p x ∧ bm_p x < 9223372036854775808 := by
  unfold bm_p
  omega
theorem bm_sig_r {p : Int} (h0 : 0 ≤ p) : 0 ≤ bm_sig p ∧ bm_sig p < 9007199254740992 := by
  unfold bm_sig
  split <;> omega
theorem bm_sig_pos {p : Int} (h0 : 0 < p) : 0 < bm_sig p := by
  unfold bm_sig
  split <;> omega
theorem bm_pow_r {p : Int} (h0 : 0 ≤ p) (h1 : p < 9218868437227405312) : -1074 ≤ bm_pow p ∧ bm_pow p ≤ 971 := by
  unfold bm_pow
  split <;> omega
theorem bm_pow_r2 {p : Int} (h0 : 0 ≤ p) (h1 : p < 9223372036854775808) : -1074 ≤ bm_pow p ∧ bm_pow p ≤ 972 := by
  unfold bm_pow
  split <;> omega
/-- the pattern back out of its significand and power -/
theorem bm_back {p : Int} (h0 : 0 ≤ p) (h1 : p < 9223372036854775808) : bm_sig p + (bm_pow p + 1074) * 4503599627370496 = p ∧ (4503599627370496 ≤ bm_sig p ∨ bm_pow p = -1074) := by
  unfold bm_sig bm_pow
  split <;> omega
theorem bs_fieldE (x : Int64) : (bf_fieldE x).toInt = bm_p x / 4503599627370496 := by
  have h := bm_shr (x &&& 9223372036854775807) (k := 52) (j := 52) (by decide) (by decide)
  rw [bm_m63] at h
  have hp := bm_p_r x
  unfold bm_p at *
  unfold bf_fieldE
  rw [bm_l2i (by rw [h]; omega) (by rw [h]; omega), h]
  rfl
theorem bs_significand (x : Int64) : (bf_significand x).toInt = bm_sig (bm_p x) := by
  have hE := bs_fieldE x
  have hm := bm_m52 x
  have hp := bm_p_r x
  have hq : x.toInt % 4503599627370496 = bm_p x % 4503599627370496 := by unfold bm_p; omega
  unfold bf_significand bm_sig
  split
  · rename_i h
    rw [h] at hE
    have hE : (0 : Int) = bm_p x / 4503599627370496 := hE
    rw [if_pos (by omega), hm, hq]
    omega
  · rename_i h
    have h : ¬ (bf_fieldE x).toInt = 0 := fun z => h (bm_ieq.mpr z)
    rw [if_neg (by omega), bm_ladd (by rw [hm, show (4503599627370496 : Int64).toInt = 4503599627370496 by decide]; omega) (by rw [hm, show (4503599627370496 : Int64).toInt = 4503599627370496 by decide]; omega), hm, hq, show (4503599627370496 : Int64).toInt = 4503599627370496 by decide]
    omega
theorem bs_power (x : Int64) : (bf_power x).toInt = bm_pow (bm_p x) := by
  have hE := bs_fieldE x
  have hp := bm_p_r x
  have c1 : (1 : Int32).toInt = 1 := by decide
  have c2 : (-1074 : Int32).toInt = -1074 := by decide
  have hm : (if bf_fieldE x < 1 then (1 : Int32) else bf_fieldE x).toInt = if bm_p x < 4503599627370496 then 1 else bm_p x / 4503599627370496 := by
    split
    · rename_i h
      have h : (bf_fieldE x).toInt < 1 := bm_ilt.mp h
      rw [if_pos (by omega)]
      rfl
    · rename_i h
      have h : ¬ (bf_fieldE x).toInt < 1 := fun z => h (bm_ilt.mpr z)
      rw [if_neg (by omega), hE]
  unfold bf_power bm_pow
  generalize (if bf_fieldE x < 1 then (1 : Int32) else bf_fieldE x) = M at hm ⊢
  have e1 : (M - 1).toInt = M.toInt - 1 := by
    rw [bm_isub (by rw [c1]; split at hm <;> omega) (by rw [c1]; split at hm <;> omega), c1]
  rw [bm_iadd (by rw [e1, c2]; split at hm <;> omega) (by rw [e1, c2]; split at hm <;> omega), e1, c2, hm]
  split <;> omega
theorem bs_nlzI (i : Int32) (h : 0 < i.toInt) : bm_lead i.toInt 31 (bj_nlzI i).toInt := by
  have e : bj_nlzI i = if 0 < i then bj_s1 i 31 else (if i = 0 then 32 else 0) := rfl
  have h0 : (0 : Int32) < i := bm_ilt.mpr h
  rw [e, if_pos h0]
  exact bm_s1 (by omega) (by decide)
theorem bs_nlzI_neg (i : Int32) (h : i.toInt < 0) : bj_nlzI i = 0 := by
  have e : bj_nlzI i = if 0 < i then bj_s1 i 31 else (if i = 0 then 32 else 0) := rfl
  have z : (0 : Int32).toInt = 0 := by decide
  rw [e, if_neg (fun q => by have := bm_ilt.mp q; omega), if_neg (fun q => by rw [q] at h; omega)]
theorem bs_nlzL {m : Int64} (h1 : 0 < m.toInt) (h2 : m.toInt < 9007199254740992) : bm_lead m.toInt 63 (bj_nlzL m).toInt := by
  have e := bm_luN m (k := 32) (j := 32) (by decide)
  have a := bm_tl m
  have na := bm_nl m
  have hn : (m.toBitVec.toNat : Int) = m.toInt := by split at a <;> omega
  have b := bm_tl ((m.toUInt64 >>> ((32 : Int32).toInt64.toUInt64 &&& Int64.toUInt64 63)).toInt64)
  rw [e, if_pos (by omega)] at b
  have hb : ((m.toUInt64 >>> ((32 : Int32).toInt64.toUInt64 &&& Int64.toUInt64 63)).toInt64).toInt = m.toInt / 4294967296 := by
    rw [b, ← hn]
    exact Int.natCast_ediv _ _
  have hc : ((m.toUInt64 >>> ((32 : Int32).toInt64.toUInt64 &&& Int64.toUInt64 63)).toInt64).toInt32.toInt = m.toInt / 4294967296 := by
    rw [bm_l2i (by rw [hb]; omega) (by rw [hb]; omega), hb]
  unfold bj_nlzL
  split
  · rename_i h
    rw [h] at hc
    have hc : (0 : Int) = m.toInt / 4294967296 := hc
    have hm : m.toInt32.toInt = m.toInt.bmod (2 ^ 32) := Int64.toInt_toInt32 m
    rcases Int.lt_or_le m.toInt 2147483648 with g | g
    · rw [bm_b32 (by omega) (by omega)] at hm
      obtain ⟨k, g1, g2, g3⟩ := bs_nlzI m.toInt32 (by omega)
      have r := bm_ri (bj_nlzI m.toInt32)
      rw [hm] at g2 g3
      have hk : k ≤ 31 := by
        rcases Nat.lt_or_ge k 32 with z | z
        · omega
        · have : 2 ^ 32 ≤ 2 ^ k := Nat.pow_le_pow_right (by decide) z
          omega
      refine ⟨k, ?_, g2, g3⟩
      rw [bm_iadd (by rw [g1]; show _ ≤ (32 : Int) + _; omega) (by rw [g1]; show (32 : Int) + _ < _; omega), g1]
      show (32 : Int) + _ = _
      omega
    · have hneg : m.toInt32.toInt < 0 := by
        rw [hm]
        have e2 : (2 : Nat) ^ 32 = 4294967296 := by decide
        rw [e2]; simp only [Int.bmod]; split <;> omega
      rw [bs_nlzI_neg _ hneg]
      exact ⟨31, by decide, by show (2147483648 : Int) ≤ _; omega, by show _ < (4294967296 : Int); omega⟩
  · rename_i h
    have h : ¬ ((m.toUInt64 >>> ((32 : Int32).toInt64.toUInt64 &&& Int64.toUInt64 63)).toInt64).toInt32.toInt = 0 := fun z => h (bm_ieq.mpr z)
    have g := bs_nlzI ((m.toUInt64 >>> ((32 : Int32).toInt64.toUInt64 &&& Int64.toUInt64 63)).toInt64).toInt32 (by omega)
    rw [hc] at g
    exact bm_lead_up (s := 32) (by omega) g
theorem bm_room_of {M k : Nat} (h1 : 2 ^ k ≤ M) (h2 : M < 2 ^ (k + 1)) (h : k ≤ 52) : 2 ^ 52 ≤ M * 2 ^ (52 - k) ∧ M * 2 ^ (52 - k) < 2 ^ 53 := by
  have e1 : 2 ^ k * 2 ^ (52 - k) = 2 ^ 52 := by rw [← Nat.pow_add]; congr 1; omega
  have e2 : 2 ^ (k + 1) * 2 ^ (52 - k) = 2 ^ 53 := by rw [← Nat.pow_add]; congr 1; omega
  constructor
  · rw [← e1]; exact Nat.mul_le_mul_right _ h1
  · rw [← e2]; exact Nat.mul_lt_mul_of_pos_right h2 (Nat.two_pow_pos _)
theorem bs_nlz {m : Int64} (h1 : 0 < m.toInt) (h2 : m.toInt < 9007199254740992) : ∃ k : Nat, k ≤ 52 ∧ (bj_nlzL m).toInt = 11 + k ∧ 4503599627370496 ≤ m.toInt * ((2 ^ k : Nat) : Int) ∧ m.toInt * ((2 ^ k : Nat) : Int) < 9007199254740992 := by
  obtain ⟨k, g1, g2, g3⟩ := bs_nlzL h1 h2
  obtain ⟨M, hM⟩ : ∃ M : Nat, m.toInt = M := ⟨m.toInt.toNat, by omega⟩
  rw [hM] at g2 g3 h2 ⊢
  have g2 := Int.ofNat_le.mp g2
  have g3 := Int.ofNat_lt.mp g3
  have hk : k ≤ 52 := by
    rcases Nat.lt_or_ge k 53 with z | z
    · omega
    · have : 2 ^ 53 ≤ 2 ^ k := Nat.pow_le_pow_right (by decide) z
      omega
  obtain ⟨q1, q2⟩ := bm_room_of g2 g3 hk
  refine ⟨52 - k, by omega, by omega, ?_, ?_⟩
  · rw [← Int.natCast_mul]; exact Int.ofNat_le.mpr q1
  · rw [← Int.natCast_mul]; exact Int.ofNat_lt.mpr q2
theorem bs_spareRoom {x : Int64} (h : 0 < bm_p x) : ∃ k : Nat, k ≤ 52 ∧ (bf_spareRoom x).toInt = k ∧ 4503599627370496 ≤ bm_sig (bm_p x) * ((2 ^ k : Nat) : Int) ∧ bm_sig (bm_p x) * ((2 ^ k : Nat) : Int) < 9007199254740992 := by
  have hs := bs_significand x
  have hr := bm_sig_r (bm_p_r x).1
  have hq := bm_sig_pos h
  obtain ⟨k, h1, h2, h3, h4⟩ := bs_nlz (m := bf_significand x) (by omega) (by omega)
  rw [hs] at h3 h4
  refine ⟨k, h1, ?_, h3, h4⟩
  unfold bf_spareRoom
  rw [bm_isub (by rw [h2]; show _ ≤ _ - (11 : Int); omega) (by rw [h2]; show _ - (11 : Int) < _; omega), h2]
  show _ - (11 : Int) = _
  omega
/-! a significand and a power: the pattern -/
def bm_fill (m q : Int) (s : Nat) : Prop := m * ((2 ^ s : Nat) : Int) < 9007199254740992 ∧ -1074 ≤ q - s ∧ (4503599627370496 ≤ m * ((2 ^ s : Nat) : Int) ∨ q - s = -1074)
def bm_val (m q : Int) (s : Nat) : Int := m * ((2 ^ s : Nat) : Int) + (q - s + 1074) * 4503599627370496
theorem bm_fill_u {m q : Int} {s1 s2 : Nat} (hm : 0 < m) (h1 : bm_fill m q s1) (h2 : bm_fill m q s2) : s1 = s2 := bm_uniq hm h1.1 h2.1 h1.2.1 h2.2.1 h1.2.2 h2.2.2
theorem bs_pattern {m : Int64} {q : Int32} (h1 : 0 < m.toInt) (h2 : m.toInt < 9007199254740992) (h3 : -1074 ≤ q.toInt) (h4 : q.toInt ≤ 971) : ∃ s : Nat, bm_fill m.toInt q.toInt s ∧ (bf_pattern m q).toInt = bm_val m.toInt q.toInt s := by
  have c1 : (-1074 : Int32).toInt = -1074 := by decide
  have c2 : (11 : Int32).toInt = 11 := by decide
  obtain ⟨k, k1, k2, k3, k4⟩ := bs_nlz h1 h2
  have hr : (bj_nlzL m - (11 : Int32)).toInt = k := by
    rw [bm_isub (by rw [k2, c2]; omega) (by rw [k2, c2]; omega), k2, c2]
    omega
  have he : (q - (-1074 : Int32)).toInt = q.toInt + 1074 := by
    rw [bm_isub (by rw [c1]; omega) (by rw [c1]; omega), c1]
    omega
  have hS : ∃ s : Nat, (if (q - (-1074 : Int32)) < (bj_nlzL m - (11 : Int32)) then (q - (-1074 : Int32)) else (bj_nlzL m - (11 : Int32))).toInt = s ∧ bm_fill m.toInt q.toInt s ∧ s ≤ 52 := by
    split
    · rename_i h
      have h := bm_ilt.mp h
      rw [he, hr] at h
      refine ⟨(q.toInt + 1074).toNat, by rw [he]; omega, ⟨?_, by omega, Or.inr (by omega)⟩, by omega⟩
      have := bm_mono (m := m.toInt) (s := (q.toInt + 1074).toNat) (t := k) (by omega) (by omega)
      omega
    · rename_i h
      have h : ¬ (q.toInt + 1074 < k) := fun z => h (bm_ilt.mpr (by rw [he, hr]; exact z))
      exact ⟨k, hr, ⟨k4, by omega, Or.inl k3⟩, k1⟩
  obtain ⟨s, s1, s2, s3⟩ := hS
  refine ⟨s, s2, ?_⟩
  obtain ⟨f1, f2, f3⟩ := s2
  have hne : ¬ m = 0 := fun z => by
    rw [z] at h1
    exact absurd h1 (by decide)
  unfold bf_pattern
  rw [if_neg hne]
  generalize (if (q - (-1074 : Int32)) < (bj_nlzL m - (11 : Int32)) then (q - (-1074 : Int32)) else (bj_nlzL m - (11 : Int32))) = S at s1 ⊢
  have e1 : (q - S).toInt = q.toInt - s := by rw [bm_isub (by rw [s1]; omega) (by rw [s1]; omega), s1]
  have e2 : (q - S - (-1074 : Int32)).toInt = q.toInt - s + 1074 := by
    rw [bm_isub (by rw [e1, c1]; omega) (by rw [e1, c1]; omega), e1, c1]
    omega
  have e3 : (q - S - (-1074 : Int32)).toInt64.toInt = q.toInt - s + 1074 := by rw [bm_i2l, e2]
  have p52 : ((2 ^ 52 : Nat) : Int) = 4503599627370496 := by decide
  have e4 : ((q - S - (-1074 : Int32)).toInt64 <<< ((52 : Int32).toInt64 &&& 63)).toInt = (q.toInt - s + 1074) * 4503599627370496 := by
    rw [bm_shl (j := 52) (by decide) (by decide) (by rw [e3, p52]; omega) (by rw [e3, p52]; omega), e3, p52]
  have hm0 : 0 ≤ m.toInt * ((2 ^ s : Nat) : Int) := Int.mul_nonneg (by omega) (Int.natCast_nonneg _)
  have e5 : (m <<< (S.toInt64 &&& 63)).toInt = m.toInt * ((2 ^ s : Nat) : Int) := bm_shl s1 (by omega) (by omega) (by omega)
  rw [bm_ladd (by rw [e4, e5]; omega) (by rw [e4, e5]; omega), e4, e5]
  unfold bm_val
  omega
theorem bs_pattern_val {m : Int64} {q : Int32} {s : Nat} (h1 : 0 < m.toInt) (h2 : m.toInt < 9007199254740992) (h3 : -1074 ≤ q.toInt) (h4 : q.toInt ≤ 971) (h : bm_fill m.toInt q.toInt s) : (bf_pattern m q).toInt = bm_val m.toInt q.toInt s := by
  obtain ⟨s2, g1, g2⟩ := bs_pattern h1 h2 h3 h4
  rw [g2, bm_fill_u h1 g1 h]
end
section
/-! what the walks themselves need: an index within, a divisor that is not 0 -/
theorem bm_in8 {i : Int32} (h1 : 0 ≤ i.toInt) (h2 : i.toInt < 8) : vp_in i 8 := by
  intro h
  rcases h with h | h
  · have h : i.toInt < 0 := bm_ilt.mp h
    omega
  · have e : (i.toNatClampNeg : Int) = i.toInt := by rw [← Int32.toNat_toInt]; omega
    omega
theorem bs_reg0 (i : Int32) : bf_isRegister i = 0 ↔ ¬ (0 ≤ i.toInt ∧ i.toInt < 8) := by
  unfold bf_isRegister
  split
  · rename_i h
    have h : i.toInt < 0 := bm_ilt.mp h
    exact ⟨fun _ => by omega, fun _ => rfl⟩
  · rename_i h
    have h : ¬ i.toInt < 0 := fun z => h (bm_ilt.mpr z)
    split
    · rename_i h2
      have h2 : (8 : Int) ≤ i.toInt := bm_ile.mp h2
      exact ⟨fun _ => by omega, fun _ => rfl⟩
    · rename_i h2
      have h2 : ¬ (8 : Int) ≤ i.toInt := fun z => h2 (bm_ile.mpr z)
      exact ⟨fun z => absurd z (by decide), fun z => absurd z (by omega)⟩
theorem bs_reg1 (i : Int32) : bg_isRegister i = 0 ↔ ¬ (0 ≤ i.toInt ∧ i.toInt < 8) := by
  unfold bg_isRegister
  split
  · rename_i h
    have h : i.toInt < 0 := bm_ilt.mp h
    exact ⟨fun _ => by omega, fun _ => rfl⟩
  · rename_i h
    have h : ¬ i.toInt < 0 := fun z => h (bm_ilt.mpr z)
    split
    · rename_i h2
      have h2 : (7 : Int) < i.toInt := bm_ilt.mp h2
      exact ⟨fun _ => by omega, fun _ => rfl⟩
    · rename_i h2
      have h2 : ¬ (7 : Int) < i.toInt := fun z => h2 (bm_ilt.mpr z)
      exact ⟨fun z => absurd z (by decide), fun z => absurd z (by omega)⟩
theorem bm_reg0 {i : Int32} (h : ¬ bf_isRegister i = 0) : vp_in i 8 := by
  have h : 0 ≤ i.toInt ∧ i.toInt < 8 := Classical.byContradiction fun z => h ((bs_reg0 i).mpr z)
  exact bm_in8 h.1 h.2
theorem bm_reg1 {i : Int32} (h : ¬ bg_isRegister i = 0) : vp_in i 8 := by
  have h : 0 ≤ i.toInt ∧ i.toInt < 8 := Classical.byContradiction fun z => h ((bs_reg1 i).mpr z)
  exact bm_in8 h.1 h.2
theorem bs_isZero (x : Int64) : bf_isZero x = 0 ↔ ¬ bm_p x = 0 := by
  have h := bm_m63 x
  unfold bf_isZero bm_p
  split
  · rename_i c
    have c := bm_leq.mp c
    rw [h] at c
    have c : x.toInt % 9223372036854775808 = 0 := c
    exact ⟨fun z => absurd z (by decide), fun z => absurd c z⟩
  · rename_i c
    have c : ¬ x.toInt % 9223372036854775808 = 0 := fun z => c (bm_leq.mpr (by rw [h]; exact z))
    exact ⟨fun _ => c, fun _ => rfl⟩
theorem bs_plain (x : Int64) : (bg_plain x).toInt = bm_p x := by
  unfold bg_plain bm_p
  exact bm_m63 x
theorem bt_isZero (x : Int64) : bg_isZero x = 0 ↔ ¬ bm_p x = 0 := by
  have h := bs_plain x
  unfold bg_isZero
  split
  · rename_i c
    have c := bm_leq.mp c
    rw [h] at c
    have c : bm_p x = 0 := c
    exact ⟨fun z => absurd z (by decide), fun z => absurd c z⟩
  · rename_i c
    have c : ¬ bm_p x = 0 := fun z => c (bm_leq.mpr (by rw [h]; exact z))
    exact ⟨fun _ => c, fun _ => rfl⟩
theorem bs_number (x : Int64) : (bg_number x).toInt = bm_sig (bm_p x) := by
  have hp := bs_plain x
  have hm := bm_m52 x
  have hr := bm_p_r x
  have hq : x.toInt % 4503599627370496 = bm_p x % 4503599627370496 := by unfold bm_p; omega
  have c1 : (4503599627370496 : Int64).toInt = 4503599627370496 := by decide
  unfold bg_number bm_sig
  split
  · rename_i c
    have c := bm_lle.mp c
    rw [hp, c1] at c
    rw [if_neg (by omega), bm_ladd (by rw [hm, c1]; omega) (by rw [hm, c1]; omega), hm, hq, c1]
  · rename_i c
    have c : ¬ (4503599627370496 : Int) ≤ bm_p x := fun z => c (bm_lle.mpr (by rw [hp, c1]; exact z))
    rw [if_pos (by omega), hm, hq]
    omega
theorem bs_gpower (x : Int64) : (bg_power x).toInt = bm_pow (bm_p x) := by
  have hp := bs_plain x
  have hr := bm_p_r x
  have h := bm_shr (bg_plain x) (k := 52) (j := 52) (by decide) (by decide)
  rw [hp] at h
  have p52 : ((2 ^ 52 : Nat) : Int) = 4503599627370496 := by decide
  rw [p52] at h
  have e : ((bg_plain x) >>> ((52 : Int32).toInt64 &&& 63)).toInt32.toInt = bm_p x / 4503599627370496 := by
    rw [bm_l2i (by rw [h]; omega) (by rw [h]; omega), h]
  have c2 : (1075 : Int32).toInt = 1075 := by decide
  unfold bg_power bm_pow
  split
  · rename_i c
    rw [c] at e
    have e : (0 : Int) = bm_p x / 4503599627370496 := e
    rw [if_pos (by omega)]
    rfl
  · rename_i c
    have c : ¬ ((bg_plain x) >>> ((52 : Int32).toInt64 &&& 63)).toInt32.toInt = 0 := fun z => c (bm_ieq.mpr z)
    rw [if_neg (by omega), bm_isub (by rw [e, c2]; omega) (by rw [e, c2]; omega), e, c2]
theorem bs_dist (x y : Int64) : ((bf_power x) - (bf_power y)).toInt = bm_pow (bm_p x) - bm_pow (bm_p y) := by
  have a := bs_power x
  have b := bs_power y
  have rx := bm_pow_r2 (bm_p_r x).1 (bm_p_r x).2
  have ry := bm_pow_r2 (bm_p_r y).1 (bm_p_r y).2
  rw [bm_isub (by omega) (by omega), a, b]
theorem bs_gdist (x y : Int64) : ((bg_power x) - (bg_power y)).toInt = bm_pow (bm_p x) - bm_pow (bm_p y) := by
  have a := bs_gpower x
  have b := bs_gpower y
  have rx := bm_pow_r2 (bm_p_r x).1 (bm_p_r x).2
  have ry := bm_pow_r2 (bm_p_r y).1 (bm_p_r y).2
  rw [bm_isub (by omega) (by omega), a, b]
/-- the class's divisor -/
theorem bs_div {y : Int64} {d : Int32} (h : -1 ≤ d.toInt) (h2 : d.toInt < 4096) : ((bf_significand y) <<< ((if (-d) < (0 : Int32) then (0 : Int32) else (-d)).toInt64 &&& 63)).toInt = if d.toInt = -1 then 2 * bm_sig (bm_p y) else bm_sig (bm_p y) := by
  have hs := bs_significand y
  have hr := bm_sig_r (bm_p_r y).1
  have hn : (-d).toInt = -d.toInt := bm_ineg (by omega)
  split
  · rename_i c
    have c : (-d).toInt < 0 := bm_ilt.mp c
    rw [bm_shl (j := 0) (by decide) (by decide) (by rw [hs]; omega) (by rw [hs]; omega), hs, if_neg (by omega)]
    omega
  · rename_i c
    have c : ¬ (-d).toInt < 0 := fun z => c (bm_ilt.mpr z)
    by_cases e : d.toInt = -1
    · rw [if_pos e, bm_shl (j := 1) (by rw [hn]; omega) (by decide) (by rw [hs]; omega) (by rw [hs]; omega), hs]
      omega
    · rw [if_neg e, bm_shl (j := 0) (by rw [hn]; omega) (by decide) (by rw [hs]; omega) (by rw [hs]; omega), hs]
      omega
theorem bs_nz0 {x y : Int64} (h1 : bf_isZero y = 0) (h2 : (-1 : Int32) ≤ ((bf_power x) - (bf_power y))) : ¬ ((bf_significand y) <<< ((if (-((bf_power x) - (bf_power y))) < (0 : Int32) then (0 : Int32) else (-((bf_power x) - (bf_power y)))).toInt64 &&& 63)) = 0 := by
  intro z
  have z := bm_leq.mp z
  have hd := bs_dist x y
  have rx := bm_pow_r2 (bm_p_r x).1 (bm_p_r x).2
  have ry := bm_pow_r2 (bm_p_r y).1 (bm_p_r y).2
  have h2 := bm_ile.mp h2
  rw [show (-1 : Int32).toInt = -1 by decide] at h2
  rw [bs_div h2 (by omega)] at z
  have z : (if ((bf_power x) - (bf_power y)).toInt = -1 then 2 * bm_sig (bm_p y) else bm_sig (bm_p y)) = 0 := z
  have hp := bm_p_r y
  have h1 := (bs_isZero y).mp h1
  have := bm_sig_pos (p := bm_p y) (by omega)
  split at z <;> omega
theorem bs_nz1 {y : Int64} (h1 : bg_isZero y = 0) : ¬ bg_number y = 0 := by
  intro z
  have z := bm_leq.mp z
  rw [bs_number] at z
  have z : bm_sig (bm_p y) = 0 := z
  have hp := bm_p_r y
  have h1 := (bt_isZero y).mp h1
  have := bm_sig_pos (p := bm_p y) (by omega)
  omega
/-- the reference's divisor, where the power of x is the lesser -/
theorem bs_gdiv {x y : Int64} {d : Int32} (hd : d.toInt < 0) (h1 : -62 ≤ d.toInt) (h2 : (bg_number y) ≤ ((1 : Int64) <<< (((62 : Int32) + d).toInt64 &&& 63))) : ∃ j : Nat, (j : Int) = -d.toInt ∧ ((bg_number y) <<< ((-d).toInt64 &&& 63)).toInt = bm_sig (bm_p y) * ((2 ^ j : Nat) : Int) ∧ bm_sig (bm_p y) * ((2 ^ j : Nat) : Int) ≤ 4611686018427387904 := by
  have hs := bs_number y
  have hr := bm_sig_r (bm_p_r y).1
  have hn : (-d).toInt = -d.toInt := bm_ineg (by omega)
  have c62 : (62 : Int32).toInt = 62 := by decide
  obtain ⟨j, hj⟩ : ∃ j : Nat, (j : Int) = -d.toInt := ⟨(-d.toInt).toNat, by omega⟩
  have he : ((62 : Int32) + d).toInt = ((62 - j : Nat) : Int) := by
    rw [bm_iadd (by rw [c62]; omega) (by rw [c62]; omega), c62]
    omega
  have hp : 2 ^ (62 - j) ≤ 2 ^ 62 := Nat.pow_le_pow_right (by decide) (by omega)
  have e62 : (2 : Nat) ^ 62 = 4611686018427387904 := by decide
  have e1 : ((1 : Int64) <<< (((62 : Int32) + d).toInt64 &&& 63)).toInt = ((2 ^ (62 - j) : Nat) : Int) := by
    have o : (1 : Int64).toInt = 1 := by decide
    have hb : ((2 ^ (62 - j) : Nat) : Int) ≤ 4611686018427387904 := Int.ofNat_le.mpr (by omega)
    have hb0 := Int.natCast_nonneg (2 ^ (62 - j))
    rw [bm_shl he (by omega) (by rw [o]; omega) (by rw [o]; omega), o]
    omega
  have h2 := bm_lle.mp h2
  rw [hs, e1] at h2
  have e2 : 2 ^ (62 - j) * 2 ^ j = 2 ^ 62 := by rw [← Nat.pow_add]; congr 1; omega
  have h3 : bm_sig (bm_p y) * ((2 ^ j : Nat) : Int) ≤ 4611686018427387904 := by
    have := Int.mul_le_mul_of_nonneg_right h2 (Int.natCast_nonneg (2 ^ j))
    rw [← Int.natCast_mul, e2, e62] at this
    exact this
  have h0 : 0 ≤ bm_sig (bm_p y) * ((2 ^ j : Nat) : Int) := Int.mul_nonneg hr.1 (Int.natCast_nonneg _)
  refine ⟨j, hj, ?_, h3⟩
  rw [bm_shl (j := j) (by rw [hn]; omega) (by omega) (by rw [hs]; omega) (by rw [hs]; omega), hs]
theorem bs_nz2 {x y : Int64} (h1 : bg_isZero y = 0) (h2 : ¬ 0 ≤ ((bg_power x) - (bg_power y))) (h3 : ¬ ((bg_power x) - (bg_power y)) < (-62 : Int32)) (h4 : (bg_number y) ≤ ((1 : Int64) <<< (((62 : Int32) + ((bg_power x) - (bg_power y))).toInt64 &&& 63))) : ¬ ((bg_number y) <<< ((-((bg_power x) - (bg_power y))).toInt64 &&& 63)) = 0 := by
  intro z
  have z := bm_leq.mp z
  have h2 : ¬ (0 : Int) ≤ ((bg_power x) - (bg_power y)).toInt := fun q => h2 (bm_ile.mpr q)
  have h3 : ¬ ((bg_power x) - (bg_power y)).toInt < (-62 : Int) := fun q => h3 (bm_ilt.mpr q)
  obtain ⟨j, hj, e, _⟩ := bs_gdiv (x := x) (by omega) (by omega) h4
  rw [e] at z
  have z : bm_sig (bm_p y) * ((2 ^ j : Nat) : Int) = 0 := z
  have hp := bm_p_r y
  have h1 := (bt_isZero y).mp h1
  have := bm_sig_pos (p := bm_p y) (by omega)
  have := bm_ge1 (s := j) (show 0 ≤ bm_sig (bm_p y) by omega)
  omega
end
section
/-! walks: the class, static methods -/
set_option maxHeartbeats 4000000 in
set_option maxRecDepth 100000 in
theorem bc_isRegister (l : Launch) (x1 : Int32) : Met l yX0_isRegister wsX0_isRegister ({ frames := 0, cells := 0, slots := 0, locals := 0 }) (va_Pc [.int x1] (fun _ => True)) (vp_Si (fun r => r = bf_isRegister x1)) 0 0 (fun _ => False) := by
  refine Met.ofW (cc := cX0_isRegister) (maxL := 1) (ret := (some .boolean)) (by decide) rfl ?_
  intro p e s m args below meth c s₁ B hml hv
  obtain ⟨rfl, -⟩ := hv
  have hx := B.exec
  have hb := B.bytes
  have hr := B.returns
  have hts := atoms_spec (ws := wsX0_isRegister) B.pre
  have hown : s.vm.findClass RX0 = some m.cls := findClass_of_methodNamed B.named
  have hlocks := B.notSynchronized
  have hl := lv_entry ([.int x1]) (n := 1) (Nat.le_of_ble_eq_true rfl)
  rw [lg_entry_eq]
  generalize (lg_sl ([.int x1]) ++ List.replicate (1 - (lg_sl ([.int x1])).length) Slot.unset).toArray = ls at hl ⊢
  have hl : lv_has ls 1 [(0, .int x1)] := hl
  refine lv_iload_n hx hb dX0_isRegister_0 rfl (lv_at hl 0 rfl) ?_
  refine lv_if_lt (tgt := 14) hx hb dX0_isRegister_1 (by decide) (fun h1 => ?_) (fun h1 => ?_)
  · refine lv_iconst (v := 0) hx hb dX0_isRegister_14 (by decide) ?_
    exact W.zret (v := (0 : Int32)) hx hb hr rfl (fun t ht hW => ⟨(0 : Int32), rfl, by rw [bf_isRegister, if_pos h1], ht⟩) (fun q h => absurd h List.not_mem_nil) dX0_isRegister_15
  · refine lv_iload_n hx hb dX0_isRegister_4 rfl (lv_at hl 0 rfl) ?_
    refine lv_bipush (v := 8) hx hb dX0_isRegister_5 (by decide) ?_
    refine lv_icmp_ge (tgt := 14) hx hb dX0_isRegister_7 (by decide) (fun h2 => ?_) (fun h2 => ?_)
    · refine lv_iconst (v := 0) hx hb dX0_isRegister_14 (by decide) ?_
      exact W.zret (v := (0 : Int32)) hx hb hr rfl (fun t ht hW => ⟨(0 : Int32), rfl, by rw [bf_isRegister, if_neg h1, if_pos h2], ht⟩) (fun q h => absurd h List.not_mem_nil) dX0_isRegister_15
    · refine lv_iconst (v := 1) hx hb dX0_isRegister_10 (by decide) ?_
      refine lv_goto (tgt := 15) hx hb dX0_isRegister_11 (by decide) ?_
      exact W.zret (v := (1 : Int32)) hx hb hr rfl (fun t ht hW => ⟨(1 : Int32), rfl, by rw [bf_isRegister, if_neg h1, if_neg h2], ht⟩) (fun q h => absurd h List.not_mem_nil) dX0_isRegister_15
set_option maxHeartbeats 4000000 in
set_option maxRecDepth 100000 in
theorem bc_isZero (l : Launch) (x1 : Int64) : Met l yX0_isZero wsX0_isZero ({ frames := 0, cells := 0, slots := 0, locals := 0 }) (va_Pc [.long x1] (fun _ => True)) (vp_Si (fun r => r = bf_isZero x1)) 0 0 (fun _ => False) := by
  refine Met.ofW (cc := cX0_isZero) (maxL := 2) (ret := (some .boolean)) (by decide) rfl ?_
  intro p e s m args below meth c s₁ B hml hv
  obtain ⟨rfl, -⟩ := hv
  have hx := B.exec
  have hb := B.bytes
  have hr := B.returns
  have hts := atoms_spec (ws := wsX0_isZero) B.pre
  have hown : s.vm.findClass RX0 = some m.cls := findClass_of_methodNamed B.named
  have hlocks := B.notSynchronized
  have hl := lv_entry ([.long x1]) (n := 2) (Nat.le_of_ble_eq_true rfl)
  rw [lg_entry_eq]
  generalize (lg_sl ([.long x1]) ++ List.replicate (2 - (lg_sl ([.long x1])).length) Slot.unset).toArray = ls at hl ⊢
  have hl : lv_has ls 2 [(0, .long x1)] := hl
  refine lv_lload_n hx hb dX0_isZero_0 rfl (lv_at hl 0 rfl) ?_
  refine lv_ldc2 hx hb hown (hts (.constantLong RX0 65 9223372036854775807) (by decide +kernel)) dX0_isZero_1 ?_
  refine lv_land hx hb dX0_isZero_4 ?_
  refine lv_lconst (v := 0) hx hb dX0_isZero_5 (by decide) ?_
  refine bw_lc_ne (tgt := 14) hx hb dX0_isZero_6 dX0_isZero_7 (by decide) (fun h1 => ?_) (fun h1 => ?_)
  · refine lv_iconst (v := 0) hx hb dX0_isZero_14 (by decide) ?_
    exact W.zret (v := (0 : Int32)) hx hb hr rfl (fun t ht hW => ⟨(0 : Int32), rfl, by rw [bf_isZero, if_neg h1], ht⟩) (fun q h => absurd h List.not_mem_nil) dX0_isZero_15
  · refine lv_iconst (v := 1) hx hb dX0_isZero_10 (by decide) ?_
    refine lv_goto (tgt := 15) hx hb dX0_isZero_11 (by decide) ?_
    exact W.zret (v := (1 : Int32)) hx hb hr rfl (fun t ht hW => ⟨(1 : Int32), rfl, by rw [bf_isZero, if_pos h1], ht⟩) (fun q h => absurd h List.not_mem_nil) dX0_isZero_15
set_option maxHeartbeats 4000000 in
set_option maxRecDepth 100000 in
theorem bc_isInfinity (l : Launch) (x1 : Int64) : Met l yX0_isInfinity wsX0_isInfinity ({ frames := 0, cells := 0, slots := 0, locals := 0 }) (va_Pc [.long x1] (fun _ => True)) (vp_Si (fun r => r = bf_isInfinity x1)) 0 0 (fun _ => False) := by
  refine Met.ofW (cc := cX0_isInfinity) (maxL := 2) (ret := (some .boolean)) (by decide) rfl ?_
  intro p e s m args below meth c s₁ B hml hv
  obtain ⟨rfl, -⟩ := hv
  have hx := B.exec
  have hb := B.bytes
  have hr := B.returns
  have hts := atoms_spec (ws := wsX0_isInfinity) B.pre
  have hown : s.vm.findClass RX0 = some m.cls := findClass_of_methodNamed B.named
  have hlocks := B.notSynchronized
  have hl := lv_entry ([.long x1]) (n := 2) (Nat.le_of_ble_eq_true rfl)
  rw [lg_entry_eq]
  generalize (lg_sl ([.long x1]) ++ List.replicate (2 - (lg_sl ([.long x1])).length) Slot.unset).toArray = ls at hl ⊢
  have hl : lv_has ls 2 [(0, .long x1)] := hl
  refine lv_lload_n hx hb dX0_isInfinity_0 rfl (lv_at hl 0 rfl) ?_
  refine lv_ldc2 hx hb hown (hts (.constantLong RX0 65 9223372036854775807) (by decide +kernel)) dX0_isInfinity_1 ?_
  refine lv_land hx hb dX0_isInfinity_4 ?_
  refine lv_ldc2 hx hb hown (hts (.constantLong RX0 67 9218868437227405312) (by decide +kernel)) dX0_isInfinity_5 ?_
  refine bw_lc_ne (tgt := 16) hx hb dX0_isInfinity_8 dX0_isInfinity_9 (by decide) (fun h1 => ?_) (fun h1 => ?_)
  · refine lv_iconst (v := 0) hx hb dX0_isInfinity_16 (by decide) ?_
    exact W.zret (v := (0 : Int32)) hx hb hr rfl (fun t ht hW => ⟨(0 : Int32), rfl, by rw [bf_isInfinity, if_neg h1], ht⟩) (fun q h => absurd h List.not_mem_nil) dX0_isInfinity_17
  · refine lv_iconst (v := 1) hx hb dX0_isInfinity_12 (by decide) ?_
    refine lv_goto (tgt := 17) hx hb dX0_isInfinity_13 (by decide) ?_
    exact W.zret (v := (1 : Int32)) hx hb hr rfl (fun t ht hW => ⟨(1 : Int32), rfl, by rw [bf_isInfinity, if_pos h1], ht⟩) (fun q h => absurd h List.not_mem_nil) dX0_isInfinity_17
set_option maxHeartbeats 4000000 in
set_option maxRecDepth 100000 in
theorem bc_isNan (l : Launch) (x1 : Int64) : Met l yX0_isNan wsX0_isNan ({ frames := 0, cells := 0, slots := 0, locals := 0 }) (va_Pc [.long x1] (fun _ => True)) (vp_Si (fun r => r = bf_isNan x1)) 0 0 (fun _ => False) := by
  refine Met.ofW (cc := cX0_isNan) (maxL := 2) (ret := (some .boolean)) (by decide) rfl ?_
  intro p e s m args below meth c s₁ B hml hv
  obtain ⟨rfl, -⟩ := hv
  have hx := B.exec
  have hb := B.bytes
  have hr := B.returns
  have hts := atoms_spec (ws := wsX0_isNan) B.pre
  have hown : s.vm.findClass RX0 = some m.cls := findClass_of_methodNamed B.named
  have hlocks := B.notSynchronized
  have hl := lv_entry ([.long x1]) (n := 2) (Nat.le_of_ble_eq_true rfl)
  rw [lg_entry_eq]
  generalize (lg_sl ([.long x1]) ++ List.replicate (2 - (lg_sl ([.long x1])).length) Slot.unset).toArray = ls at hl ⊢
  have hl : lv_has ls 2 [(0, .long x1)] := hl
  refine lv_lload_n hx hb dX0_isNan_0 rfl (lv_at hl 0 rfl) ?_
  refine lv_ldc2 hx hb hown (hts (.constantLong RX0 65 9223372036854775807) (by decide +kernel)) dX0_isNan_1 ?_
  refine lv_land hx hb dX0_isNan_4 ?_
  refine lv_ldc2 hx hb hown (hts (.constantLong RX0 67 9218868437227405312) (by decide +kernel)) dX0_isNan_5 ?_
  refine bw_lc_le (tgt := 16) hx hb dX0_isNan_8 dX0_isNan_9 (by decide) (fun h1 => ?_) (fun h1 => ?_)
  · refine lv_iconst (v := 0) hx hb dX0_isNan_16 (by decide) ?_
    exact W.zret (v := (0 : Int32)) hx hb hr rfl (fun t ht hW => ⟨(0 : Int32), rfl, by rw [bf_isNan, if_pos h1], ht⟩) (fun q h => absurd h List.not_mem_nil) dX0_isNan_17
  · refine lv_iconst (v := 1) hx hb dX0_isNan_12 (by decide) ?_
    refine lv_goto (tgt := 17) hx hb dX0_isNan_13 (by decide) ?_
    exact W.zret (v := (1 : Int32)) hx hb hr rfl (fun t ht hW => ⟨(1 : Int32), rfl, by rw [bf_isNan, if_neg h1], ht⟩) (fun q h => absurd h List.not_mem_nil) dX0_isNan_17
set_option maxHeartbeats 4000000 in
set_option maxRecDepth 100000 in
theorem bc_signOf (l : Launch) (x1 : Int64) : Met l yX0_signOf wsX0_signOf ({ frames := 0, cells := 0, slots := 0, locals := 0 }) (va_Pc [.long x1] (fun _ => True)) (vp_Sl (fun r => r = bf_signOf x1)) 0 0 (fun _ => False) := by
  refine Met.ofW (cc := cX0_signOf) (maxL := 2) (ret := (some .long)) (by decide) rfl ?_
  intro p e s m args below meth c s₁ B hml hv
  obtain ⟨rfl, -⟩ := hv
  have hx := B.exec
  have hb := B.bytes
  have hr := B.returns
  have hts := atoms_spec (ws := wsX0_signOf) B.pre
  have hown : s.vm.findClass RX0 = some m.cls := findClass_of_methodNamed B.named
  have hlocks := B.notSynchronized
  have hl := lv_entry ([.long x1]) (n := 2) (Nat.le_of_ble_eq_true rfl)
  rw [lg_entry_eq]
  generalize (lg_sl ([.long x1]) ++ List.replicate (2 - (lg_sl ([.long x1])).length) Slot.unset).toArray = ls at hl ⊢
  have hl : lv_has ls 2 [(0, .long x1)] := hl
  refine lv_lload_n hx hb dX0_signOf_0 rfl (lv_at hl 0 rfl) ?_
  refine lv_ldc2 hx hb hown (hts (.constantLong RX0 69 (-9223372036854775808)) (by decide +kernel)) dX0_signOf_1 ?_
  refine lv_land hx hb dX0_signOf_4 ?_
  exact W.lret (v := x1 &&& (-9223372036854775808 : Int64)) hx hb hr (fun t ht hW => ⟨x1 &&& (-9223372036854775808 : Int64), rfl, by rw [bf_signOf], ht⟩) (fun q h => absurd h List.not_mem_nil) dX0_signOf_5
set_option maxHeartbeats 4000000 in
set_option maxRecDepth 100000 in
theorem bc_sortOfAmount (l : Launch) (x1 : Int64) : Met l yX0_sortOfAmount wsX0_sortOfAmount ({ frames := 1, cells := 0, slots := 0, locals := 21 }) (va_Pc [.long x1] (fun _ => True)) (vp_Si (fun r => r = bf_sortOfAmount x1)) 0 0 (fun _ => False) := by
  refine Met.ofW (cc := cX0_sortOfAmount) (maxL := 2) (ret := (some .int)) (by decide) rfl ?_
  intro p e s m args below meth c s₁ B hml hv
  obtain ⟨rfl, -⟩ := hv
  have hx := B.exec
  have hb := B.bytes
  have hr := B.returns
  have hts := atoms_spec (ws := wsX0_sortOfAmount) B.pre
  have hown : s.vm.findClass RX0 = some m.cls := findClass_of_methodNamed B.named
  have hlocks := B.notSynchronized
  have hl := lv_entry ([.long x1]) (n := 2) (Nat.le_of_ble_eq_true rfl)
  rw [lg_entry_eq]
  generalize (lg_sl ([.long x1]) ++ List.replicate (2 - (lg_sl ([.long x1])).length) Slot.unset).toArray = ls at hl ⊢
  have hl : lv_has ls 2 [(0, .long x1)] := hl
  refine lv_lload_n hx hb dX0_sortOfAmount_0 rfl (lv_at hl 0 rfl) ?_
  refine bw_csi (rest := []) ⟨hx, hb, hml, hown, hts⟩ (bc_isZero l x1) (va_cwS 1 hts gX0_sortOfAmount_X0_isZero rfl rfl rfl (by decide +kernel) ⟨Nat.le_of_ble_eq_true rfl, Nat.le_of_ble_eq_true rfl⟩) rfl hl.1 rfl (Nat.le_of_ble_eq_true rfl) dX0_sortOfAmount_1 (Nat.zero_le _) (Nat.zero_le _) ?_
  refine lv_if_eq (tgt := 9) hx hb dX0_sortOfAmount_4 (by decide) (fun h1 => ?_) (fun h1 => ?_)
  · refine lv_lload_n hx hb dX0_sortOfAmount_9 rfl (lv_at hl 0 rfl) ?_
    refine bw_csi (rest := []) ⟨hx, hb, hml, hown, hts⟩ (bc_isInfinity l x1) (va_cwS 1 hts gX0_sortOfAmount_X0_isInfinity rfl rfl rfl (by decide +kernel) ⟨Nat.le_of_ble_eq_true rfl, Nat.le_of_ble_eq_true rfl⟩) rfl hl.1 rfl (Nat.le_of_ble_eq_true rfl) dX0_sortOfAmount_10 (Nat.zero_le _) (Nat.zero_le _) ?_
    refine lv_if_eq (tgt := 18) hx hb dX0_sortOfAmount_13 (by decide) (fun h2 => ?_) (fun h2 => ?_)
    · refine lv_lload_n hx hb dX0_sortOfAmount_18 rfl (lv_at hl 0 rfl) ?_
      refine bw_csi (rest := []) ⟨hx, hb, hml, hown, hts⟩ (bc_isNan l x1) (va_cwS 1 hts gX0_sortOfAmount_X0_isNan rfl rfl rfl (by decide +kernel) ⟨Nat.le_of_ble_eq_true rfl, Nat.le_of_ble_eq_true rfl⟩) rfl hl.1 rfl (Nat.le_of_ble_eq_true rfl) dX0_sortOfAmount_19 (Nat.zero_le _) (Nat.zero_le _) ?_
      refine lv_if_eq (tgt := 27) hx hb dX0_sortOfAmount_22 (by decide) (fun h3 => ?_) (fun h3 => ?_)
      · refine lv_lload_n hx hb dX0_sortOfAmount_27 rfl (lv_at hl 0 rfl) ?_
        refine lv_ldc2 hx hb hown (hts (.constantLong RX0 65 9223372036854775807) (by decide +kernel)) dX0_sortOfAmount_28 ?_
        refine lv_land hx hb dX0_sortOfAmount_31 ?_
        refine lv_ldc2 hx hb hown (hts (.constantLong RX0 71 4503599627370496) (by decide +kernel)) dX0_sortOfAmount_32 ?_
        refine bw_lc_ge (tgt := 43) hx hb dX0_sortOfAmount_35 dX0_sortOfAmount_36 (by decide) (fun h4 => ?_) (fun h4 => ?_)
        · refine lv_iconst (v := 2) hx hb dX0_sortOfAmount_43 (by decide) ?_
          exact W.iret (v := (2 : Int32)) hx hb hr (fun t ht hW => ⟨(2 : Int32), rfl, by rw [bf_sortOfAmount, if_pos h1, if_pos h2, if_pos h3, if_pos h4], ht⟩) (fun q h => absurd h List.not_mem_nil) dX0_sortOfAmount_44
        · refine lv_iconst (v := 1) hx hb dX0_sortOfAmount_39 (by decide) ?_
          refine lv_goto (tgt := 44) hx hb dX0_sortOfAmount_40 (by decide) ?_
          exact W.iret (v := (1 : Int32)) hx hb hr (fun t ht hW => ⟨(1 : Int32), rfl, by rw [bf_sortOfAmount, if_pos h1, if_pos h2, if_pos h3, if_neg h4], ht⟩) (fun q h => absurd h List.not_mem_nil) dX0_sortOfAmount_44
      · refine lv_iconst (v := 4) hx hb dX0_sortOfAmount_25 (by decide) ?_
        exact W.iret (v := (4 : Int32)) hx hb hr (fun t ht hW => ⟨(4 : Int32), rfl, by rw [bf_sortOfAmount, if_pos h1, if_pos h2, if_neg h3], ht⟩) (fun q h => absurd h List.not_mem_nil) dX0_sortOfAmount_26
    · refine lv_iconst (v := 3) hx hb dX0_sortOfAmount_16 (by decide) ?_
      exact W.iret (v := (3 : Int32)) hx hb hr (fun t ht hW => ⟨(3 : Int32), rfl, by rw [bf_sortOfAmount, if_pos h1, if_neg h2], ht⟩) (fun q h => absurd h List.not_mem_nil) dX0_sortOfAmount_17
  · refine lv_iconst (v := 0) hx hb dX0_sortOfAmount_7 (by decide) ?_
    exact W.iret (v := (0 : Int32)) hx hb hr (fun t ht hW => ⟨(0 : Int32), rfl, by rw [bf_sortOfAmount, if_neg h1], ht⟩) (fun q h => absurd h List.not_mem_nil) dX0_sortOfAmount_8
set_option maxHeartbeats 4000000 in
set_option maxRecDepth 100000 in
theorem bc_fieldE (l : Launch) (x1 : Int64) : Met l yX0_fieldE wsX0_fieldE ({ frames := 0, cells := 0, slots := 0, locals := 0 }) (va_Pc [.long x1] (fun _ => True)) (vp_Si (fun r => r = bf_fieldE x1)) 0 0 (fun _ => False) := by
  refine Met.ofW (cc := cX0_fieldE) (maxL := 2) (ret := (some .int)) (by decide) rfl ?_
  intro p e s m args below meth c s₁ B hml hv
  obtain ⟨rfl, -⟩ := hv
  have hx := B.exec
  have hb := B.bytes
  have hr := B.returns
  have hts := atoms_spec (ws := wsX0_fieldE) B.pre
  have hown : s.vm.findClass RX0 = some m.cls := findClass_of_methodNamed B.named
  have hlocks := B.notSynchronized
  have hl := lv_entry ([.long x1]) (n := 2) (Nat.le_of_ble_eq_true rfl)
  rw [lg_entry_eq]
  generalize (lg_sl ([.long x1]) ++ List.replicate (2 - (lg_sl ([.long x1])).length) Slot.unset).toArray = ls at hl ⊢
  have hl : lv_has ls 2 [(0, .long x1)] := hl
  refine lv_lload_n hx hb dX0_fieldE_0 rfl (lv_at hl 0 rfl) ?_
  refine lv_ldc2 hx hb hown (hts (.constantLong RX0 65 9223372036854775807) (by decide +kernel)) dX0_fieldE_1 ?_
  refine lv_land hx hb dX0_fieldE_4 ?_
  refine lv_bipush (v := 52) hx hb dX0_fieldE_5 (by decide) ?_
  refine lv_lshr hx hb dX0_fieldE_7 rfl ?_
  refine lv_l2i hx hb dX0_fieldE_8 rfl ?_
  exact W.iret (v := ((x1 &&& (9223372036854775807 : Int64)) >>> ((52 : Int32).toInt64 &&& 63)).toInt32) hx hb hr (fun t ht hW => ⟨((x1 &&& (9223372036854775807 : Int64)) >>> ((52 : Int32).toInt64 &&& 63)).toInt32, rfl, by rw [bf_fieldE], ht⟩) (fun q h => absurd h List.not_mem_nil) dX0_fieldE_9
set_option maxHeartbeats 4000000 in
set_option maxRecDepth 100000 in
theorem bc_significand (l : Launch) (x1 : Int64) : Met l yX0_significand wsX0_significand ({ frames := 1, cells := 0, slots := 0, locals := 21 }) (va_Pc [.long x1] (fun _ => True)) (vp_Sl (fun r => r = bf_significand x1)) 0 0 (fun _ => False) := by
  refine Met.ofW (cc := cX0_significand) (maxL := 4) (ret := (some .long)) (by decide) rfl ?_
  intro p e s m args below meth c s₁ B hml hv
  obtain ⟨rfl, -⟩ := hv
  have hx := B.exec
  have hb := B.bytes
  have hr := B.returns
  have hts := atoms_spec (ws := wsX0_significand) B.pre
  have hown : s.vm.findClass RX0 = some m.cls := findClass_of_methodNamed B.named
  have hlocks := B.notSynchronized
  have hl := lv_entry ([.long x1]) (n := 4) (Nat.le_of_ble_eq_true rfl)
  rw [lg_entry_eq]
  generalize (lg_sl ([.long x1]) ++ List.replicate (4 - (lg_sl ([.long x1])).length) Slot.unset).toArray = ls at hl ⊢
  have hl : lv_has ls 4 [(0, .long x1)] := hl
  refine lv_lload_n hx hb dX0_significand_0 rfl (lv_at hl 0 rfl) ?_
  refine lv_ldc2 hx hb hown (hts (.constantLong RX0 73 4503599627370495) (by decide +kernel)) dX0_significand_1 ?_
  refine lv_land hx hb dX0_significand_4 ?_
  refine lv_lstore_n (nL := 4) (lv' := [(2, .long (x1 &&& (4503599627370495 : Int64))), (0, .long x1)]) hx hb dX0_significand_5 rfl hl (by decide) rfl (fun ls hl => ?_)
  refine lv_lload_n hx hb dX0_significand_6 rfl (lv_at hl 1 rfl) ?_
  refine bw_csi (rest := []) ⟨hx, hb, hml, hown, hts⟩ (bc_fieldE l x1) (va_cwS 1 hts gX0_significand_X0_fieldE rfl rfl rfl (by decide +kernel) ⟨Nat.le_of_ble_eq_true rfl, Nat.le_of_ble_eq_true rfl⟩) rfl hl.1 rfl (Nat.le_of_ble_eq_true rfl) dX0_significand_7 (Nat.zero_le _) (Nat.zero_le _) ?_
  refine lv_if_ne (tgt := 17) hx hb dX0_significand_10 (by decide) (fun h1 => ?_) (fun h1 => ?_)
  · refine lv_ldc2 hx hb hown (hts (.constantLong RX0 71 4503599627370496) (by decide +kernel)) dX0_significand_17 ?_
    refine lv_lload_n hx hb dX0_significand_20 rfl (lv_at hl 0 rfl) ?_
    refine lv_ladd hx hb dX0_significand_21 ?_
    exact W.lret (v := (4503599627370496 : Int64) + (x1 &&& (4503599627370495 : Int64))) hx hb hr (fun t ht hW => ⟨(4503599627370496 : Int64) + (x1 &&& (4503599627370495 : Int64)), rfl, by rw [bf_significand, if_neg h1], ht⟩) (fun q h => absurd h List.not_mem_nil) dX0_significand_22
  · refine lv_lload_n hx hb dX0_significand_13 rfl (lv_at hl 0 rfl) ?_
    refine lv_goto (tgt := 22) hx hb dX0_significand_14 (by decide) ?_
    exact W.lret (v := x1 &&& (4503599627370495 : Int64)) hx hb hr (fun t ht hW => ⟨x1 &&& (4503599627370495 : Int64), rfl, by rw [bf_significand, if_pos h1], ht⟩) (fun q h => absurd h List.not_mem_nil) dX0_significand_22
set_option maxHeartbeats 4000000 in
set_option maxRecDepth 100000 in
theorem bc_power (l : Launch) (x1 : Int64) : Met l yX0_power wsX0_power ({ frames := 1, cells := 0, slots := 0, locals := 21 }) (va_Pc [.long x1] (fun _ => True)) (vp_Si (fun r => r = bf_power x1)) 0 0 (fun _ => False) := by
  refine Met.ofW (cc := cX0_power) (maxL := 2) (ret := (some .int)) (by decide) rfl ?_
  intro p e s m args below meth c s₁ B hml hv
  obtain ⟨rfl, -⟩ := hv
  have hx := B.exec
  have hb := B.bytes
  have hr := B.returns
  have hts := atoms_spec (ws := wsX0_power) B.pre
  have hown : s.vm.findClass RX0 = some m.cls := findClass_of_methodNamed B.named
  have hlocks := B.notSynchronized
  have hl := lv_entry ([.long x1]) (n := 2) (Nat.le_of_ble_eq_true rfl)
  rw [lg_entry_eq]
  generalize (lg_sl ([.long x1]) ++ List.replicate (2 - (lg_sl ([.long x1])).length) Slot.unset).toArray = ls at hl ⊢
  have hl : lv_has ls 2 [(0, .long x1)] := hl
  refine lv_lload_n hx hb dX0_power_0 rfl (lv_at hl 0 rfl) ?_
  refine bw_csi (rest := []) ⟨hx, hb, hml, hown, hts⟩ (bc_fieldE l x1) (va_cwS 1 hts gX0_power_X0_fieldE rfl rfl rfl (by decide +kernel) ⟨Nat.le_of_ble_eq_true rfl, Nat.le_of_ble_eq_true rfl⟩) rfl hl.1 rfl (Nat.le_of_ble_eq_true rfl) dX0_power_1 (Nat.zero_le _) (Nat.zero_le _) ?_
  refine lv_iconst (v := 1) hx hb dX0_power_4 (by decide) ?_
  refine va_mmax (rest := []) hx hb (hml.trans hl.1.symm) hown (hts (.methodLink RX0 78 Lib.Math.max.name) (by decide +kernel)) (hts (.static Lib.Math.max.name) (by decide +kernel)) (hts (.initialized "java/lang/Math") (by decide +kernel)) (hts (.code Lib.Math.max.name Lib.Math.max.code 2 (some .int)) (by decide +kernel)) (Nat.le_of_ble_eq_true rfl) (Nat.le_of_ble_eq_true rfl) (Nat.zero_le _) (Nat.zero_le _) dX0_power_5 ?_
  refine lv_iconst (v := 1) hx hb dX0_power_8 (by decide) ?_
  refine lv_isub hx hb dX0_power_9 ?_
  refine lv_sipush (v := -1074) hx hb dX0_power_10 (by decide) ?_
  refine lv_iadd hx hb dX0_power_13 ?_
  exact W.iret (v := ((if (bf_fieldE x1) < (1 : Int32) then (1 : Int32) else (bf_fieldE x1)) - (1 : Int32)) + (-1074 : Int32)) hx hb hr (fun t ht hW => ⟨((if (bf_fieldE x1) < (1 : Int32) then (1 : Int32) else (bf_fieldE x1)) - (1 : Int32)) + (-1074 : Int32), rfl, by rw [bf_power], ht⟩) (fun q h => absurd h List.not_mem_nil) dX0_power_14
set_option maxHeartbeats 4000000 in
set_option maxRecDepth 100000 in
theorem be_nlzI (l : Launch) (x1 : Int32) : Met l yJ6_numberOfLeadingZeros_0f7a4 wsJ6_numberOfLeadingZeros_0f7a4 ({ frames := 0, cells := 0, slots := 0, locals := 0 }) (va_Pc [.int x1] (fun _ => True)) (vp_Si (fun r => r = bj_nlzI x1)) 0 0 (fun _ => False) := by
  refine Met.ofW (cc := cJ6_numberOfLeadingZeros_0f7a4) (maxL := 2) (ret := (some .int)) (by decide) rfl ?_
  intro p e s m args below meth c s₁ B hml hv
  obtain ⟨rfl, -⟩ := hv
  have hx := B.exec
  have hb := B.bytes
  have hr := B.returns
  have hts := atoms_spec (ws := wsJ6_numberOfLeadingZeros_0f7a4) B.pre
  have hown : s.vm.findClass RJ6 = some m.cls := findClass_of_methodNamed B.named
  have hlocks := B.notSynchronized
  have hl := lv_entry ([.int x1]) (n := 2) (Nat.le_of_ble_eq_true rfl)
  rw [lg_entry_eq]
  generalize (lg_sl ([.int x1]) ++ List.replicate (2 - (lg_sl ([.int x1])).length) Slot.unset).toArray = ls at hl ⊢
  have hl : lv_has ls 2 [(0, .int x1)] := hl
  refine lv_iload_n hx hb dJ6_numberOfLeadingZeros_0f7a4_0 rfl (lv_at hl 0 rfl) ?_
  refine lv_if_gt (tgt := 15) hx hb dJ6_numberOfLeadingZeros_0f7a4_1 (by decide) (fun h1 => ?_) (fun h1 => ?_)
  · refine lv_bipush (v := 31) hx hb dJ6_numberOfLeadingZeros_0f7a4_15 (by decide) ?_
    refine lv_istore_n (nL := 2) (lv' := [(1, .int (31 : Int32)), (0, .int x1)]) hx hb dJ6_numberOfLeadingZeros_0f7a4_17 rfl hl (by decide) rfl (fun ls hl => ?_)
    refine lv_iload_n hx hb dJ6_numberOfLeadingZeros_0f7a4_18 rfl (lv_at hl 1 rfl) ?_
    refine lv_ldcw hx hb hown (hts (.constant RJ6 264 65536) (by decide +kernel)) dJ6_numberOfLeadingZeros_0f7a4_19 ?_
    refine lv_icmp_lt (tgt := 33) hx hb dJ6_numberOfLeadingZeros_0f7a4_22 (by decide) (fun h2 => ?_) (fun h2 => ?_)
    · refine lv_iload_n hx hb dJ6_numberOfLeadingZeros_0f7a4_33 rfl (lv_at hl 1 rfl) ?_
      refine lv_sipush (v := 256) hx hb dJ6_numberOfLeadingZeros_0f7a4_34 (by decide) ?_
      refine lv_icmp_lt (tgt := 48) hx hb dJ6_numberOfLeadingZeros_0f7a4_37 (by decide) (fun h3 => ?_) (fun h3 => ?_)
      · refine lv_iload_n hx hb dJ6_numberOfLeadingZeros_0f7a4_48 rfl (lv_at hl 1 rfl) ?_
        refine lv_bipush (v := 16) hx hb dJ6_numberOfLeadingZeros_0f7a4_49 (by decide) ?_
        refine lv_icmp_lt (tgt := 61) hx hb dJ6_numberOfLeadingZeros_0f7a4_51 (by decide) (fun h4 => ?_) (fun h4 => ?_)
        · refine lv_iload_n hx hb dJ6_numberOfLeadingZeros_0f7a4_61 rfl (lv_at hl 1 rfl) ?_
          refine lv_iconst (v := 4) hx hb dJ6_numberOfLeadingZeros_0f7a4_62 (by decide) ?_
          refine lv_icmp_lt (tgt := 73) hx hb dJ6_numberOfLeadingZeros_0f7a4_63 (by decide) (fun h5 => ?_) (fun h5 => ?_)
          · refine lv_iload_n hx hb dJ6_numberOfLeadingZeros_0f7a4_73 rfl (lv_at hl 0 rfl) ?_
            refine lv_iload_n hx hb dJ6_numberOfLeadingZeros_0f7a4_74 rfl (lv_at hl 1 rfl) ?_
            refine lv_iconst (v := 1) hx hb dJ6_numberOfLeadingZeros_0f7a4_75 (by decide) ?_
            refine lv_iushr hx hb dJ6_numberOfLeadingZeros_0f7a4_76 rfl ?_
            refine lv_isub hx hb dJ6_numberOfLeadingZeros_0f7a4_77 ?_
            exact W.iret (v := (31 : Int32) - ((x1.toUInt32 >>> ((1 : Int32).toUInt32 &&& Int32.toUInt32 31)).toInt32)) hx hb hr (fun t ht hW => ⟨(31 : Int32) - ((x1.toUInt32 >>> ((1 : Int32).toUInt32 &&& Int32.toUInt32 31)).toInt32), rfl, by rw [bj_nlzI, if_pos h1, if_pos h2, if_pos h3, if_pos h4, if_pos h5], ht⟩) (fun q h => absurd h List.not_mem_nil) dJ6_numberOfLeadingZeros_0f7a4_78
          · refine lv_iinc (nL := 2) (k := 0) (v := (31 : Int32) + (-2 : Int32)) (lv' := [(1, .int ((31 : Int32) + (-2 : Int32))), (0, .int x1)]) hx hb dJ6_numberOfLeadingZeros_0f7a4_66 hl rfl rfl (by decide) rfl (fun ls hl => ?_)
            refine lv_iload_n hx hb dJ6_numberOfLeadingZeros_0f7a4_69 rfl (lv_at hl 1 rfl) ?_
            refine lv_iconst (v := 2) hx hb dJ6_numberOfLeadingZeros_0f7a4_70 (by decide) ?_
            refine lv_iushr hx hb dJ6_numberOfLeadingZeros_0f7a4_71 rfl ?_
            refine lv_istore_n (nL := 2) (lv' := [(0, .int ((x1.toUInt32 >>> ((2 : Int32).toUInt32 &&& Int32.toUInt32 31)).toInt32)), (1, .int ((31 : Int32) + (-2 : Int32)))]) hx hb dJ6_numberOfLeadingZeros_0f7a4_72 rfl hl (by decide) rfl (fun ls hl => ?_)
            refine lv_iload_n hx hb dJ6_numberOfLeadingZeros_0f7a4_73 rfl (lv_at hl 1 rfl) ?_
            refine lv_iload_n hx hb dJ6_numberOfLeadingZeros_0f7a4_74 rfl (lv_at hl 0 rfl) ?_
            refine lv_iconst (v := 1) hx hb dJ6_numberOfLeadingZeros_0f7a4_75 (by decide) ?_
            refine lv_iushr hx hb dJ6_numberOfLeadingZeros_0f7a4_76 rfl ?_
            refine lv_isub hx hb dJ6_numberOfLeadingZeros_0f7a4_77 ?_
            exact W.iret (v := ((31 : Int32) + (-2 : Int32)) - ((((x1.toUInt32 >>> ((2 : Int32).toUInt32 &&& Int32.toUInt32 31)).toInt32).toUInt32 >>> ((1 : Int32).toUInt32 &&& Int32.toUInt32 31)).toInt32)) hx hb hr (fun t ht hW => ⟨((31 : Int32) + (-2 : Int32)) - ((((x1.toUInt32 >>> ((2 : Int32).toUInt32 &&& Int32.toUInt32 31)).toInt32).toUInt32 >>> ((1 : Int32).toUInt32 &&& Int32.toUInt32 31)).toInt32), rfl, by rw [bj_nlzI, if_pos h1, if_pos h2, if_pos h3, if_pos h4, if_neg h5], ht⟩) (fun q h => absurd h List.not_mem_nil) dJ6_numberOfLeadingZeros_0f7a4_78
        · refine lv_iinc (nL := 2) (k := 0) (v := (31 : Int32) + (-4 : Int32)) (lv' := [(1, .int ((31 : Int32) + (-4 : Int32))), (0, .int x1)]) hx hb dJ6_numberOfLeadingZeros_0f7a4_54 hl rfl rfl (by decide) rfl (fun ls hl => ?_)
          refine lv_iload_n hx hb dJ6_numberOfLeadingZeros_0f7a4_57 rfl (lv_at hl 1 rfl) ?_
          refine lv_iconst (v := 4) hx hb dJ6_numberOfLeadingZeros_0f7a4_58 (by decide) ?_
          refine lv_iushr hx hb dJ6_numberOfLeadingZeros_0f7a4_59 rfl ?_
          refine lv_istore_n (nL := 2) (lv' := [(0, .int ((x1.toUInt32 >>> ((4 : Int32).toUInt32 &&& Int32.toUInt32 31)).toInt32)), (1, .int ((31 : Int32) + (-4 : Int32)))]) hx hb dJ6_numberOfLeadingZeros_0f7a4_60 rfl hl (by decide) rfl (fun ls hl => ?_)
          refine lv_iload_n hx hb dJ6_numberOfLeadingZeros_0f7a4_61 rfl (lv_at hl 0 rfl) ?_
          refine lv_iconst (v := 4) hx hb dJ6_numberOfLeadingZeros_0f7a4_62 (by decide) ?_
          refine lv_icmp_lt (tgt := 73) hx hb dJ6_numberOfLeadingZeros_0f7a4_63 (by decide) (fun h6 => ?_) (fun h6 => ?_)
          · refine lv_iload_n hx hb dJ6_numberOfLeadingZeros_0f7a4_73 rfl (lv_at hl 1 rfl) ?_
            refine lv_iload_n hx hb dJ6_numberOfLeadingZeros_0f7a4_74 rfl (lv_at hl 0 rfl) ?_
            refine lv_iconst (v := 1) hx hb dJ6_numberOfLeadingZeros_0f7a4_75 (by decide) ?_
            refine lv_iushr hx hb dJ6_numberOfLeadingZeros_0f7a4_76 rfl ?_
            refine lv_isub hx hb dJ6_numberOfLeadingZeros_0f7a4_77 ?_
            exact W.iret (v := ((31 : Int32) + (-4 : Int32)) - ((((x1.toUInt32 >>> ((4 : Int32).toUInt32 &&& Int32.toUInt32 31)).toInt32).toUInt32 >>> ((1 : Int32).toUInt32 &&& Int32.toUInt32 31)).toInt32)) hx hb hr (fun t ht hW => ⟨((31 : Int32) + (-4 : Int32)) - ((((x1.toUInt32 >>> ((4 : Int32).toUInt32 &&& Int32.toUInt32 31)).toInt32).toUInt32 >>> ((1 : Int32).toUInt32 &&& Int32.toUInt32 31)).toInt32), rfl, by rw [bj_nlzI, if_pos h1, if_pos h2, if_pos h3, if_neg h4, if_pos h6], ht⟩) (fun q h => absurd h List.not_mem_nil) dJ6_numberOfLeadingZeros_0f7a4_78
          · refine lv_iinc (nL := 2) (k := 1) (v := ((31 : Int32) + (-4 : Int32)) + (-2 : Int32)) (lv' := [(1, .int (((31 : Int32) + (-4 : Int32)) + (-2 : Int32))), (0, .int ((x1.toUInt32 >>> ((4 : Int32).toUInt32 &&& Int32.toUInt32 31)).toInt32))]) hx hb dJ6_numberOfLeadingZeros_0f7a4_66 hl rfl rfl (by decide) rfl (fun ls hl => ?_)
            refine lv_iload_n hx hb dJ6_numberOfLeadingZeros_0f7a4_69 rfl (lv_at hl 1 rfl) ?_
            refine lv_iconst (v := 2) hx hb dJ6_numberOfLeadingZeros_0f7a4_70 (by decide) ?_
            refine lv_iushr hx hb dJ6_numberOfLeadingZeros_0f7a4_71 rfl ?_
            refine lv_istore_n (nL := 2) (lv' := [(0, .int ((((x1.toUInt32 >>> ((4 : Int32).toUInt32 &&& Int32.toUInt32 31)).toInt32).toUInt32 >>> ((2 : Int32).toUInt32 &&& Int32.toUInt32 31)).toInt32)), (1, .int (((31 : Int32) + (-4 : Int32)) + (-2 : Int32)))]) hx hb dJ6_numberOfLeadingZeros_0f7a4_72 rfl hl (by decide) rfl (fun ls hl => ?_)
            refine lv_iload_n hx hb dJ6_numberOfLeadingZeros_0f7a4_73 rfl (lv_at hl 1 rfl) ?_
            refine lv_iload_n hx hb dJ6_numberOfLeadingZeros_0f7a4_74 rfl (lv_at hl 0 rfl) ?_
            refine lv_iconst (v := 1) hx hb dJ6_numberOfLeadingZeros_0f7a4_75 (by decide) ?_
            refine lv_iushr hx hb dJ6_numberOfLeadingZeros_0f7a4_76 rfl ?_
            refine lv_isub hx hb dJ6_numberOfLeadingZeros_0f7a4_77 ?_
            exact W.iret (v := (((31 : Int32) + (-4 : Int32)) + (-2 : Int32)) - ((((((x1.toUInt32 >>> ((4 : Int32).toUInt32 &&& Int32.toUInt32 31)).toInt32).toUInt32 >>> ((2 : Int32).toUInt32 &&& Int32.toUInt32 31)).toInt32).toUInt32 >>> ((1 : Int32).toUInt32 &&& Int32.toUInt32 31)).toInt32)) hx hb hr (fun t ht hW => ⟨(((31 : Int32) + (-4 : Int32)) + (-2 : Int32)) - ((((((x1.toUInt32 >>> ((4 : Int32).toUInt32 &&& Int32.toUInt32 31)).toInt32).toUInt32 >>> ((2 : Int32).toUInt32 &&& Int32.toUInt32 31)).toInt32).toUInt32 >>> ((1 : Int32).toUInt32 &&& Int32.toUInt32 31)).toInt32), rfl, by rw [bj_nlzI, if_pos h1, if_pos h2, if_pos h3, if_neg h4, if_neg h6], ht⟩) (fun q h => absurd h List.not_mem_nil) dJ6_numberOfLeadingZeros_0f7a4_78
      · refine lv_iinc (nL := 2) (k := 0) (v := (31 : Int32) + (-8 : Int32)) (lv' := [(1, .int ((31 : Int32) + (-8 : Int32))), (0, .int x1)]) hx hb dJ6_numberOfLeadingZeros_0f7a4_40 hl rfl rfl (by decide) rfl (fun ls hl => ?_)
        refine lv_iload_n hx hb dJ6_numberOfLeadingZeros_0f7a4_43 rfl (lv_at hl 1 rfl) ?_
        refine lv_bipush (v := 8) hx hb dJ6_numberOfLeadingZeros_0f7a4_44 (by decide) ?_
        refine lv_iushr hx hb dJ6_numberOfLeadingZeros_0f7a4_46 rfl ?_
        refine lv_istore_n (nL := 2) (lv' := [(0, .int ((x1.toUInt32 >>> ((8 : Int32).toUInt32 &&& Int32.toUInt32 31)).toInt32)), (1, .int ((31 : Int32) + (-8 : Int32)))]) hx hb dJ6_numberOfLeadingZeros_0f7a4_47 rfl hl (by decide) rfl (fun ls hl => ?_)
        refine lv_iload_n hx hb dJ6_numberOfLeadingZeros_0f7a4_48 rfl (lv_at hl 0 rfl) ?_
        refine lv_bipush (v := 16) hx hb dJ6_numberOfLeadingZeros_0f7a4_49 (by decide) ?_
        refine lv_icmp_lt (tgt := 61) hx hb dJ6_numberOfLeadingZeros_0f7a4_51 (by decide) (fun h7 => ?_) (fun h7 => ?_)
        · refine lv_iload_n hx hb dJ6_numberOfLeadingZeros_0f7a4_61 rfl (lv_at hl 0 rfl) ?_
          refine lv_iconst (v := 4) hx hb dJ6_numberOfLeadingZeros_0f7a4_62 (by decide) ?_
          refine lv_icmp_lt (tgt := 73) hx hb dJ6_numberOfLeadingZeros_0f7a4_63 (by decide) (fun h8 => ?_) (fun h8 => ?_)
          · refine lv_iload_n hx hb dJ6_numberOfLeadingZeros_0f7a4_73 rfl (lv_at hl 1 rfl) ?_
            refine lv_iload_n hx hb dJ6_numberOfLeadingZeros_0f7a4_74 rfl (lv_at hl 0 rfl) ?_
            refine lv_iconst (v := 1) hx hb dJ6_numberOfLeadingZeros_0f7a4_75 (by decide) ?_
            refine lv_iushr hx hb dJ6_numberOfLeadingZeros_0f7a4_76 rfl ?_
            refine lv_isub hx hb dJ6_numberOfLeadingZeros_0f7a4_77 ?_
            exact W.iret (v := ((31 : Int32) + (-8 : Int32)) - ((((x1.toUInt32 >>> ((8 : Int32).toUInt32 &&& Int32.toUInt32 31)).toInt32).toUInt32 >>> ((1 : Int32).toUInt32 &&& Int32.toUInt32 31)).toInt32)) hx hb hr (fun t ht hW => ⟨((31 : Int32) + (-8 : Int32)) - ((((x1.toUInt32 >>> ((8 : Int32).toUInt32 &&& Int32.toUInt32 31)).toInt32).toUInt32 >>> ((1 : Int32).toUInt32 &&& Int32.toUInt32 31)).toInt32), rfl, by rw [bj_nlzI, if_pos h1, if_pos h2, if_neg h3, if_pos h7, if_pos h8], ht⟩) (fun q h => absurd h List.not_mem_nil) dJ6_numberOfLeadingZeros_0f7a4_78
          · refine lv_iinc (nL := 2) (k := 1) (v := ((31 : Int32) + (-8 : Int32)) + (-2 : Int32)) (lv' := [(1, .int (((31 : Int32) + (-8 : Int32)) + (-2 : Int32))), (0, .int ((x1.toUInt32 >>> ((8 : Int32).toUInt32 &&& Int32.toUInt32 31)).toInt32))]) hx hb dJ6_numberOfLeadingZeros_0f7a4_66 hl rfl rfl (by decide) rfl (fun ls hl => ?_)
            refine lv_iload_n hx hb dJ6_numberOfLeadingZeros_0f7a4_69 rfl (lv_at hl 1 rfl) ?_
            refine lv_iconst (v := 2) hx hb dJ6_numberOfLeadingZeros_0f7a4_70 (by decide) ?_
            refine lv_iushr hx hb dJ6_numberOfLeadingZeros_0f7a4_71 rfl ?_
            refine lv_istore_n (nL := 2) (lv' := [(0, .int ((((x1.toUInt32 >>> ((8 : Int32).toUInt32 &&& Int32.toUInt32 31)).toInt32).toUInt32 >>> ((2 : Int32).toUInt32 &&& Int32.toUInt32 31)).toInt32)), (1, .int (((31 : Int32) + (-8 : Int32)) + (-2 : Int32)))]) hx hb dJ6_numberOfLeadingZeros_0f7a4_72 rfl hl (by decide) rfl (fun ls hl => ?_)
            refine lv_iload_n hx hb dJ6_numberOfLeadingZeros_0f7a4_73 rfl (lv_at hl 1 rfl) ?_
            refine lv_iload_n hx hb dJ6_numberOfLeadingZeros_0f7a4_74 rfl (lv_at hl 0 rfl) ?_
            refine lv_iconst (v := 1) hx hb dJ6_numberOfLeadingZeros_0f7a4_75 (by decide) ?_
            refine lv_iushr hx hb dJ6_numberOfLeadingZeros_0f7a4_76 rfl ?_
            refine lv_isub hx hb dJ6_numberOfLeadingZeros_0f7a4_77 ?_
            exact W.iret (v := (((31 : Int32) + (-8 : Int32)) + (-2 : Int32)) - ((((((x1.toUInt32 >>> ((8 : Int32).toUInt32 &&& Int32.toUInt32 31)).toInt32).toUInt32 >>> ((2 : Int32).toUInt32 &&& Int32.toUInt32 31)).toInt32).toUInt32 >>> ((1 : Int32).toUInt32 &&& Int32.toUInt32 31)).toInt32)) hx hb hr (fun t ht hW => ⟨(((31 : Int32) + (-8 : Int32)) + (-2 : Int32)) - ((((((x1.toUInt32 >>> ((8 : Int32).toUInt32 &&& Int32.toUInt32 31)).toInt32).toUInt32 >>> ((2 : Int32).toUInt32 &&& Int32.toUInt32 31)).toInt32).toUInt32 >>> ((1 : Int32).toUInt32 &&& Int32.toUInt32 31)).toInt32), rfl, by rw [bj_nlzI, if_pos h1, if_pos h2, if_neg h3, if_pos h7, if_neg h8], ht⟩) (fun q h => absurd h List.not_mem_nil) dJ6_numberOfLeadingZeros_0f7a4_78
        · refine lv_iinc (nL := 2) (k := 1) (v := ((31 : Int32) + (-8 : Int32)) + (-4 : Int32)) (lv' := [(1, .int (((31 : Int32) + (-8 : Int32)) + (-4 : Int32))), (0, .int ((x1.toUInt32 >>> ((8 : Int32).toUInt32 &&& Int32.toUInt32 31)).toInt32))]) hx hb dJ6_numberOfLeadingZeros_0f7a4_54 hl rfl rfl (by decide) rfl (fun ls hl => ?_)
          refine lv_iload_n hx hb dJ6_numberOfLeadingZeros_0f7a4_57 rfl (lv_at hl 1 rfl) ?_
          refine lv_iconst (v := 4) hx hb dJ6_numberOfLeadingZeros_0f7a4_58 (by decide) ?_
          refine lv_iushr hx hb dJ6_numberOfLeadingZeros_0f7a4_59 rfl ?_
          refine lv_istore_n (nL := 2) (lv' := [(0, .int ((((x1.toUInt32 >>> ((8 : Int32).toUInt32 &&& Int32.toUInt32 31)).toInt32).toUInt32 >>> ((4 : Int32).toUInt32 &&& Int32.toUInt32 31)).toInt32)), (1, .int (((31 : Int32) + (-8 : Int32)) + (-4 : Int32)))]) hx hb dJ6_numberOfLeadingZeros_0f7a4_60 rfl hl (by decide) rfl (fun ls hl => ?_)
          refine lv_iload_n hx hb dJ6_numberOfLeadingZeros_0f7a4_61 rfl (lv_at hl 0 rfl) ?_
          refine lv_iconst (v := 4) hx hb dJ6_numberOfLeadingZeros_0f7a4_62 (by decide) ?_
          refine lv_icmp_lt (tgt := 73) hx hb dJ6_numberOfLeadingZeros_0f7a4_63 (by decide) (fun h9 => ?_) (fun h9 => ?_)
          · refine lv_iload_n hx hb dJ6_numberOfLeadingZeros_0f7a4_73 rfl (lv_at hl 1 rfl) ?_
            refine lv_iload_n hx hb dJ6_numberOfLeadingZeros_0f7a4_74 rfl (lv_at hl 0 rfl) ?_
            refine lv_iconst (v := 1) hx hb dJ6_numberOfLeadingZeros_0f7a4_75 (by decide) ?_
            refine lv_iushr hx hb dJ6_numberOfLeadingZeros_0f7a4_76 rfl ?_
            refine lv_isub hx hb dJ6_numberOfLeadingZeros_0f7a4_77 ?_
            exact W.iret (v := (((31 : Int32) + (-8 : Int32)) + (-4 : Int32)) - ((((((x1.toUInt32 >>> ((8 : Int32).toUInt32 &&& Int32.toUInt32 31)).toInt32).toUInt32 >>> ((4 : Int32).toUInt32 &&& Int32.toUInt32 31)).toInt32).toUInt32 >>> ((1 : Int32).toUInt32 &&& Int32.toUInt32 31)).toInt32)) hx hb hr (fun t ht hW => ⟨(((31 : Int32) + (-8 : Int32)) + (-4 : Int32)) - ((((((x1.toUInt32 >>> ((8 : Int32).toUInt32 &&& Int32.toUInt32 31)).toInt32).toUInt32 >>> ((4 : Int32).toUInt32 &&& Int32.toUInt32 31)).toInt32).toUInt32 >>> ((1 : Int32).toUInt32 &&& Int32.toUInt32 31)).toInt32), rfl, by rw [bj_nlzI, if_pos h1, if_pos h2, if_neg h3, if_neg h7, if_pos h9], ht⟩) (fun q h => absurd h List.not_mem_nil) dJ6_numberOfLeadingZeros_0f7a4_78
          · refine lv_iinc (nL := 2) (k := 1) (v := (((31 : Int32) + (-8 : Int32)) + (-4 : Int32)) + (-2 : Int32)) (lv' := [(1, .int ((((31 : Int32) + (-8 : Int32)) + (-4 : Int32)) + (-2 : Int32))), (0, .int ((((x1.toUInt32 >>> ((8 : Int32).toUInt32 &&& Int32.toUInt32 31)).toInt32).toUInt32 >>> ((4 : Int32).toUInt32 &&& Int32.toUInt32 31)).toInt32))]) hx hb dJ6_numberOfLeadingZeros_0f7a4_66 hl rfl rfl (by decide) rfl (fun ls hl => ?_)
            refine lv_iload_n hx hb dJ6_numberOfLeadingZeros_0f7a4_69 rfl (lv_at hl 1 rfl) ?_
            refine lv_iconst (v := 2) hx hb dJ6_numberOfLeadingZeros_0f7a4_70 (by decide) ?_
            refine lv_iushr hx hb dJ6_numberOfLeadingZeros_0f7a4_71 rfl ?_
            refine lv_istore_n (nL := 2) (lv' := [(0, .int ((((((x1.toUInt32 >>> ((8 : Int32).toUInt32 &&& Int32.toUInt32 31)).toInt32).toUInt32 >>> ((4 : Int32).toUInt32 &&& Int32.toUInt32 31)).toInt32).toUInt32 >>> ((2 : Int32).toUInt32 &&& Int32.toUInt32 31)).toInt32)), (1, .int ((((31 : Int32) + (-8 : Int32)) + (-4 : Int32)) + (-2 : Int32)))]) hx hb dJ6_numberOfLeadingZeros_0f7a4_72 rfl hl (by decide) rfl (fun ls hl => ?_)
            refine lv_iload_n hx hb dJ6_numberOfLeadingZeros_0f7a4_73 rfl (lv_at hl 1 rfl) ?_
            refine lv_iload_n hx hb dJ6_numberOfLeadingZeros_0f7a4_74 rfl (lv_at hl 0 rfl) ?_
            refine lv_iconst (v := 1) hx hb dJ6_numberOfLeadingZeros_0f7a4_75 (by decide) ?_
            refine lv_iushr hx hb dJ6_numberOfLeadingZeros_0f7a4_76 rfl ?_
            refine lv_isub hx hb dJ6_numberOfLeadingZeros_0f7a4_77 ?_
            exact W.iret (v := ((((31 : Int32) + (-8 : Int32)) + (-4 : Int32)) + (-2 : Int32)) - ((((((((x1.toUInt32 >>> ((8 : Int32).toUInt32 &&& Int32.toUInt32 31)).toInt32).toUInt32 >>> ((4 : Int32).toUInt32 &&& Int32.toUInt32 31)).toInt32).toUInt32 >>> ((2 : Int32).toUInt32 &&& Int32.toUInt32 31)).toInt32).toUInt32 >>> ((1 : Int32).toUInt32 &&& Int32.toUInt32 31)).toInt32)) hx hb hr (fun t ht hW => ⟨((((31 : Int32) + (-8 : Int32)) + (-4 : Int32)) + (-2 : Int32)) - ((((((((x1.toUInt32 >>> ((8 : Int32).toUInt32 &&& Int32.toUInt32 31)).toInt32).toUInt32 >>> ((4 : Int32).toUInt32 &&& Int32.toUInt32 31)).toInt32).toUInt32 >>> ((2 : Int32).toUInt32 &&& Int32.toUInt32 31)).toInt32).toUInt32 >>> ((1 : Int32).toUInt32 &&& Int32.toUInt32 31)).toInt32), rfl, by rw [bj_nlzI, if_pos h1, if_pos h2, if_neg h3, if_neg h7, if_neg h9], ht⟩) (fun q h => absurd h List.not_mem_nil) dJ6_numberOfLeadingZeros_0f7a4_78
    · refine lv_iinc (nL := 2) (k := 0) (v := (31 : Int32) + (-16 : Int32)) (lv' := [(1, .int ((31 : Int32) + (-16 : Int32))), (0, .int x1)]) hx hb dJ6_numberOfLeadingZeros_0f7a4_25 hl rfl rfl (by decide) rfl (fun ls hl => ?_)
      refine lv_iload_n hx hb dJ6_numberOfLeadingZeros_0f7a4_28 rfl (lv_at hl 1 rfl) ?_
      refine lv_bipush (v := 16) hx hb dJ6_numberOfLeadingZeros_0f7a4_29 (by decide) ?_
      refine lv_iushr hx hb dJ6_numberOfLeadingZeros_0f7a4_31 rfl ?_
      refine lv_istore_n (nL := 2) (lv' := [(0, .int ((x1.toUInt32 >>> ((16 : Int32).toUInt32 &&& Int32.toUInt32 31)).toInt32)), (1, .int ((31 : Int32) + (-16 : Int32)))]) hx hb dJ6_numberOfLeadingZeros_0f7a4_32 rfl hl (by decide) rfl (fun ls hl => ?_)
      refine lv_iload_n hx hb dJ6_numberOfLeadingZeros_0f7a4_33 rfl (lv_at hl 0 rfl) ?_
      refine lv_sipush (v := 256) hx hb dJ6_numberOfLeadingZeros_0f7a4_34 (by decide) ?_
      refine lv_icmp_lt (tgt := 48) hx hb dJ6_numberOfLeadingZeros_0f7a4_37 (by decide) (fun h10 => ?_) (fun h10 => ?_)
      · refine lv_iload_n hx hb dJ6_numberOfLeadingZeros_0f7a4_48 rfl (lv_at hl 0 rfl) ?_
        refine lv_bipush (v := 16) hx hb dJ6_numberOfLeadingZeros_0f7a4_49 (by decide) ?_
        refine lv_icmp_lt (tgt := 61) hx hb dJ6_numberOfLeadingZeros_0f7a4_51 (by decide) (fun h11 => ?_) (fun h11 => ?_)
        · refine lv_iload_n hx hb dJ6_numberOfLeadingZeros_0f7a4_61 rfl (lv_at hl 0 rfl) ?_
          refine lv_iconst (v := 4) hx hb dJ6_numberOfLeadingZeros_0f7a4_62 (by decide) ?_
          refine lv_icmp_lt (tgt := 73) hx hb dJ6_numberOfLeadingZeros_0f7a4_63 (by decide) (fun h12 => ?_) (fun h12 => ?_)
          · refine lv_iload_n hx hb dJ6_numberOfLeadingZeros_0f7a4_73 rfl (lv_at hl 1 rfl) ?_
            refine lv_iload_n hx hb dJ6_numberOfLeadingZeros_0f7a4_74 rfl (lv_at hl 0 rfl) ?_
            refine lv_iconst (v := 1) hx hb dJ6_numberOfLeadingZeros_0f7a4_75 (by decide) ?_
            refine lv_iushr hx hb dJ6_numberOfLeadingZeros_0f7a4_76 rfl ?_
            refine lv_isub hx hb dJ6_numberOfLeadingZeros_0f7a4_77 ?_
            exact W.iret (v := ((31 : Int32) + (-16 : Int32)) - ((((x1.toUInt32 >>> ((16 : Int32).toUInt32 &&& Int32.toUInt32 31)).toInt32).toUInt32 >>> ((1 : Int32).toUInt32 &&& Int32.toUInt32 31)).toInt32)) hx hb hr (fun t ht hW => ⟨((31 : Int32) + (-16 : Int32)) - ((((x1.toUInt32 >>> ((16 : Int32).toUInt32 &&& Int32.toUInt32 31)).toInt32).toUInt32 >>> ((1 : Int32).toUInt32 &&& Int32.toUInt32 31)).toInt32), rfl, by rw [bj_nlzI, if_pos h1, if_neg h2, if_pos h10, if_pos h11, if_pos h12], ht⟩) (fun q h => absurd h List.not_mem_nil) dJ6_numberOfLeadingZeros_0f7a4_78
          · refine lv_iinc (nL := 2) (k := 1) (v := ((31 : Int32) + (-16 : Int32)) + (-2 : Int32)) (lv' := [(1, .int (((31 : Int32) + (-16 : Int32)) + (-2 : Int32))), (0, .int ((x1.toUInt32 >>> ((16 : Int32).toUInt32 &&& Int32.toUInt32 31)).toInt32))]) hx hb dJ6_numberOfLeadingZeros_0f7a4_66 hl rfl rfl (by decide) rfl (fun ls hl => ?_)
            refine lv_iload_n hx hb dJ6_numberOfLeadingZeros_0f7a4_69 rfl (lv_at hl 1 rfl) ?_
            refine lv_iconst (v := 2) hx hb dJ6_numberOfLeadingZeros_0f7a4_70 (by decide) ?_
            refine lv_iushr hx hb dJ6_numberOfLeadingZeros_0f7a4_71 rfl ?_
            refine lv_istore_n (nL := 2) (lv' := [(0, .int ((((x1.toUInt32 >>> ((16 : Int32).toUInt32 &&& Int32.toUInt32 31)).toInt32).toUInt32 >>> ((2 : Int32).toUInt32 &&& Int32.toUInt32 31)).toInt32)), (1, .int (((31 : Int32) + (-16 : Int32)) + (-2 : Int32)))]) hx hb dJ6_numberOfLeadingZeros_0f7a4_72 rfl hl (by decide) rfl (fun ls hl => ?_)
            refine lv_iload_n hx hb dJ6_numberOfLeadingZeros_0f7a4_73 rfl (lv_at hl 1 rfl) ?_
            refine lv_iload_n hx hb dJ6_numberOfLeadingZeros_0f7a4_74 rfl (lv_at hl 0 rfl) ?_
            refine lv_iconst (v := 1) hx hb dJ6_numberOfLeadingZeros_0f7a4_75 (by decide) ?_
            refine lv_iushr hx hb dJ6_numberOfLeadingZeros_0f7a4_76 rfl ?_
            refine lv_isub hx hb dJ6_numberOfLeadingZeros_0f7a4_77 ?_
            exact W.iret (v := (((31 : Int32) + (-16 : Int32)) + (-2 : Int32)) - ((((((x1.toUInt32 >>> ((16 : Int32).toUInt32 &&& Int32.toUInt32 31)).toInt32).toUInt32 >>> ((2 : Int32).toUInt32 &&& Int32.toUInt32 31)).toInt32).toUInt32 >>> ((1 : Int32).toUInt32 &&& Int32.toUInt32 31)).toInt32)) hx hb hr (fun t ht hW => ⟨(((31 : Int32) + (-16 : Int32)) + (-2 : Int32)) - ((((((x1.toUInt32 >>> ((16 : Int32).toUInt32 &&& Int32.toUInt32 31)).toInt32).toUInt32 >>> ((2 : Int32).toUInt32 &&& Int32.toUInt32 31)).toInt32).toUInt32 >>> ((1 : Int32).toUInt32 &&& Int32.toUInt32 31)).toInt32), rfl, by rw [bj_nlzI, if_pos h1, if_neg h2, if_pos h10, if_pos h11, if_neg h12], ht⟩) (fun q h => absurd h List.not_mem_nil) dJ6_numberOfLeadingZeros_0f7a4_78
        · refine lv_iinc (nL := 2) (k := 1) (v := ((31 : Int32) + (-16 : Int32)) + (-4 : Int32)) (lv' := [(1, .int (((31 : Int32) + (-16 : Int32)) + (-4 : Int32))), (0, .int ((x1.toUInt32 >>> ((16 : Int32).toUInt32 &&& Int32.toUInt32 31)).toInt32))]) hx hb dJ6_numberOfLeadingZeros_0f7a4_54 hl rfl rfl (by decide) rfl (fun ls hl => ?_)
          refine lv_iload_n hx hb dJ6_numberOfLeadingZeros_0f7a4_57 rfl (lv_at hl 1 rfl) ?_
          refine lv_iconst (v := 4) hx hb dJ6_numberOfLeadingZeros_0f7a4_58 (by decide) ?_
          refine lv_iushr hx hb dJ6_numberOfLeadingZeros_0f7a4_59 rfl ?_
          refine lv_istore_n (nL := 2) (lv' := [(0, .int ((((x1.toUInt32 >>> ((16 : Int32).toUInt32 &&& Int32.toUInt32 31)).toInt32).toUInt32 >>> ((4 : Int32).toUInt32 &&& Int32.toUInt32 31)).toInt32)), (1, .int (((31 : Int32) + (-16 : Int32)) + (-4 : Int32)))]) hx hb dJ6_numberOfLeadingZeros_0f7a4_60 rfl hl (by decide) rfl (fun ls hl => ?_)
          refine lv_iload_n hx hb dJ6_numberOfLeadingZeros_0f7a4_61 rfl (lv_at hl 0 rfl) ?_
          refine lv_iconst (v := 4) hx hb dJ6_numberOfLeadingZeros_0f7a4_62 (by decide) ?_
          refine lv_icmp_lt (tgt := 73) hx hb dJ6_numberOfLeadingZeros_0f7a4_63 (by decide) (fun h13 => ?_) (fun h13 => ?_)
          · refine lv_iload_n hx hb dJ6_numberOfLeadingZeros_0f7a4_73 rfl (lv_at hl 1 rfl) ?_
            refine lv_iload_n hx hb dJ6_numberOfLeadingZeros_0f7a4_74 rfl (lv_at hl 0 rfl) ?_
            refine lv_iconst (v := 1) hx hb dJ6_numberOfLeadingZeros_0f7a4_75 (by decide) ?_
            refine lv_iushr hx hb dJ6_numberOfLeadingZeros_0f7a4_76 rfl ?_
            refine lv_isub hx hb dJ6_numberOfLeadingZeros_0f7a4_77 ?_
            exact W.iret (v := (((31 : Int32) + (-16 : Int32)) + (-4 : Int32)) - ((((((x1.toUInt32 >>> ((16 : Int32).toUInt32 &&& Int32.toUInt32 31)).toInt32).toUInt32 >>> ((4 : Int32).toUInt32 &&& Int32.toUInt32 31)).toInt32).toUInt32 >>> ((1 : Int32).toUInt32 &&& Int32.toUInt32 31)).toInt32)) hx hb hr (fun t ht hW => ⟨(((31 : Int32) + (-16 : Int32)) + (-4 : Int32)) - ((((((x1.toUInt32 >>> ((16 : Int32).toUInt32 &&& Int32.toUInt32 31)).toInt32).toUInt32 >>> ((4 : Int32).toUInt32 &&& Int32.toUInt32 31)).toInt32).toUInt32 >>> ((1 : Int32).toUInt32 &&& Int32.toUInt32 31)).toInt32), rfl, by rw [bj_nlzI, if_pos h1, if_neg h2, if_pos h10, if_neg h11, if_pos h13], ht⟩) (fun q h => absurd h List.not_mem_nil) dJ6_numberOfLeadingZeros_0f7a4_78
          · refine lv_iinc (nL := 2) (k := 1) (v := (((31 : Int32) + (-16 : Int32)) + (-4 : Int32)) + (-2 : Int32)) (lv' := [(1, .int ((((31 : Int32) + (-16 : Int32)) + (-4 : Int32)) + (-2 : Int32))), (0, .int ((((x1.toUInt32 >>> ((16 : Int32).toUInt32 &&& Int32.toUInt32 31)).toInt32).toUInt32 >>> ((4 : Int32).toUInt32 &&& Int32.toUInt32 31)).toInt32))]) hx hb dJ6_numberOfLeadingZeros_0f7a4_66 hl rfl rfl (by decide) rfl (fun ls hl => ?_)
            refine lv_iload_n hx hb dJ6_numberOfLeadingZeros_0f7a4_69 rfl (lv_at hl 1 rfl) ?_
            refine lv_iconst (v := 2) hx hb dJ6_numberOfLeadingZeros_0f7a4_70 (by decide) ?_
            refine lv_iushr hx hb dJ6_numberOfLeadingZeros_0f7a4_71 rfl ?_
            refine lv_istore_n (nL := 2) (lv' := [(0, .int ((((((x1.toUInt32 >>> ((16 : Int32).toUInt32 &&& Int32.toUInt32 31)).toInt32).toUInt32 >>> ((4 : Int32).toUInt32 &&& Int32.toUInt32 31)).toInt32).toUInt32 >>> ((2 : Int32).toUInt32 &&& Int32.toUInt32 31)).toInt32)), (1, .int ((((31 : Int32) + (-16 : Int32)) + (-4 : Int32)) + (-2 : Int32)))]) hx hb dJ6_numberOfLeadingZeros_0f7a4_72 rfl hl (by decide) rfl (fun ls hl => ?_)
            refine lv_iload_n hx hb dJ6_numberOfLeadingZeros_0f7a4_73 rfl (lv_at hl 1 rfl) ?_
            refine lv_iload_n hx hb dJ6_numberOfLeadingZeros_0f7a4_74 rfl (lv_at hl 0 rfl) ?_
            refine lv_iconst (v := 1) hx hb dJ6_numberOfLeadingZeros_0f7a4_75 (by decide) ?_
            refine lv_iushr hx hb dJ6_numberOfLeadingZeros_0f7a4_76 rfl ?_
            refine lv_isub hx hb dJ6_numberOfLeadingZeros_0f7a4_77 ?_
            exact W.iret (v := ((((31 : Int32) + (-16 : Int32)) + (-4 : Int32)) + (-2 : Int32)) - ((((((((x1.toUInt32 >>> ((16 : Int32).toUInt32 &&& Int32.toUInt32 31)).toInt32).toUInt32 >>> ((4 : Int32).toUInt32 &&& Int32.toUInt32 31)).toInt32).toUInt32 >>> ((2 : Int32).toUInt32 &&& Int32.toUInt32 31)).toInt32).toUInt32 >>> ((1 : Int32).toUInt32 &&& Int32.toUInt32 31)).toInt32)) hx hb hr (fun t ht hW => ⟨((((31 : Int32) + (-16 : Int32)) + (-4 : Int32)) + (-2 : Int32)) - ((((((((x1.toUInt32 >>> ((16 : Int32).toUInt32 &&& Int32.toUInt32 31)).toInt32).toUInt32 >>> ((4 : Int32).toUInt32 &&& Int32.toUInt32 31)).toInt32).toUInt32 >>> ((2 : Int32).toUInt32 &&& Int32.toUInt32 31)).toInt32).toUInt32 >>> ((1 : Int32).toUInt32 &&& Int32.toUInt32 31)).toInt32), rfl, by rw [bj_nlzI, if_pos h1, if_neg h2, if_pos h10, if_neg h11, if_neg h13], ht⟩) (fun q h => absurd h List.not_mem_nil) dJ6_numberOfLeadingZeros_0f7a4_78
      · refine lv_iinc (nL := 2) (k := 1) (v := ((31 : Int32) + (-16 : Int32)) + (-8 : Int32)) (lv' := [(1, .int (((31 : Int32) + (-16 : Int32)) + (-8 : Int32))), (0, .int ((x1.toUInt32 >>> ((16 : Int32).toUInt32 &&& Int32.toUInt32 31)).toInt32))]) hx hb dJ6_numberOfLeadingZeros_0f7a4_40 hl rfl rfl (by decide) rfl (fun ls hl => ?_)
        refine lv_iload_n hx hb dJ6_numberOfLeadingZeros_0f7a4_43 rfl (lv_at hl 1 rfl) ?_
        refine lv_bipush (v := 8) hx hb dJ6_numberOfLeadingZeros_0f7a4_44 (by decide) ?_
        refine lv_iushr hx hb dJ6_numberOfLeadingZeros_0f7a4_46 rfl ?_
        refine lv_istore_n (nL := 2) (lv' := [(0, .int ((((x1.toUInt32 >>> ((16 : Int32).toUInt32 &&& Int32.toUInt32 31)).toInt32).toUInt32 >>> ((8 : Int32).toUInt32 &&& Int32.toUInt32 31)).toInt32)), (1, .int (((31 : Int32) + (-16 : Int32)) + (-8 : Int32)))]) hx hb dJ6_numberOfLeadingZeros_0f7a4_47 rfl hl (by decide) rfl (fun ls hl => ?_)
        refine lv_iload_n hx hb dJ6_numberOfLeadingZeros_0f7a4_48 rfl (lv_at hl 0 rfl) ?_
        refine lv_bipush (v := 16) hx hb dJ6_numberOfLeadingZeros_0f7a4_49 (by decide) ?_
        refine lv_icmp_lt (tgt := 61) hx hb dJ6_numberOfLeadingZeros_0f7a4_51 (by decide) (fun h14 => ?_) (fun h14 => ?_)
        · refine lv_iload_n hx hb dJ6_numberOfLeadingZeros_0f7a4_61 rfl (lv_at hl 0 rfl) ?_
          refine lv_iconst (v := 4) hx hb dJ6_numberOfLeadingZeros_0f7a4_62 (by decide) ?_
          refine lv_icmp_lt (tgt := 73) hx hb dJ6_numberOfLeadingZeros_0f7a4_63 (by decide) (fun h15 => ?_) (fun h15 => ?_)
          · refine lv_iload_n hx hb dJ6_numberOfLeadingZeros_0f7a4_73 rfl (lv_at hl 1 rfl) ?_
            refine lv_iload_n hx hb dJ6_numberOfLeadingZeros_0f7a4_74 rfl (lv_at hl 0 rfl) ?_
            refine lv_iconst (v := 1) hx hb dJ6_numberOfLeadingZeros_0f7a4_75 (by decide) ?_
            refine lv_iushr hx hb dJ6_numberOfLeadingZeros_0f7a4_76 rfl ?_
            refine lv_isub hx hb dJ6_numberOfLeadingZeros_0f7a4_77 ?_
            exact W.iret (v := (((31 : Int32) + (-16 : Int32)) + (-8 : Int32)) - ((((((x1.toUInt32 >>> ((16 : Int32).toUInt32 &&& Int32.toUInt32 31)).toInt32).toUInt32 >>> ((8 : Int32).toUInt32 &&& Int32.toUInt32 31)).toInt32).toUInt32 >>> ((1 : Int32).toUInt32 &&& Int32.toUInt32 31)).toInt32)) hx hb hr (fun t ht hW => ⟨(((31 : Int32) + (-16 : Int32)) + (-8 : Int32)) - ((((((x1.toUInt32 >>> ((16 : Int32).toUInt32 &&& Int32.toUInt32 31)).toInt32).toUInt32 >>> ((8 : Int32).toUInt32 &&& Int32.toUInt32 31)).toInt32).toUInt32 >>> ((1 : Int32).toUInt32 &&& Int32.toUInt32 31)).toInt32), rfl, by rw [bj_nlzI, if_pos h1, if_neg h2, if_neg h10, if_pos h14, if_pos h15], ht⟩) (fun q h => absurd h List.not_mem_nil) dJ6_numberOfLeadingZeros_0f7a4_78
          · refine lv_iinc (nL := 2) (k := 1) (v := (((31 : Int32) + (-16 : Int32)) + (-8 : Int32)) + (-2 : Int32)) (lv' := [(1, .int ((((31 : Int32) + (-16 : Int32)) + (-8 : Int32)) + (-2 : Int32))), (0, .int ((((x1.toUInt32 >>> ((16 : Int32).toUInt32 &&& Int32.toUInt32 31)).toInt32).toUInt32 >>> ((8 : Int32).toUInt32 &&& Int32.toUInt32 31)).toInt32))]) hx hb dJ6_numberOfLeadingZeros_0f7a4_66 hl rfl rfl (by decide) rfl (fun ls hl => ?_)
            refine lv_iload_n hx hb dJ6_numberOfLeadingZeros_0f7a4_69 rfl (lv_at hl 1 rfl) ?_
            refine lv_iconst (v := 2) hx hb dJ6_numberOfLeadingZeros_0f7a4_70 (by decide) ?_
            refine lv_iushr hx hb dJ6_numberOfLeadingZeros_0f7a4_71 rfl ?_
            refine lv_istore_n (nL := 2) (lv' := [(0, .int ((((((x1.toUInt32 >>> ((16 : Int32).toUInt32 &&& Int32.toUInt32 31)).toInt32).toUInt32 >>> ((8 : Int32).toUInt32 &&& Int32.toUInt32 31)).toInt32).toUInt32 >>> ((2 : Int32).toUInt32 &&& Int32.toUInt32 31)).toInt32)), (1, .int ((((31 : Int32) + (-16 : Int32)) + (-8 : Int32)) + (-2 : Int32)))]) hx hb dJ6_numberOfLeadingZeros_0f7a4_72 rfl hl (by decide) rfl (fun ls hl => ?_)
            refine lv_iload_n hx hb dJ6_numberOfLeadingZeros_0f7a4_73 rfl (lv_at hl 1 rfl) ?_
            refine lv_iload_n hx hb dJ6_numberOfLeadingZeros_0f7a4_74 rfl (lv_at hl 0 rfl) ?_
            refine lv_iconst (v := 1) hx hb dJ6_numberOfLeadingZeros_0f7a4_75 (by decide) ?_
            refine lv_iushr hx hb dJ6_numberOfLeadingZeros_0f7a4_76 rfl ?_
            refine lv_isub hx hb dJ6_numberOfLeadingZeros_0f7a4_77 ?_
            exact W.iret (v := ((((31 : Int32) + (-16 : Int32)) + (-8 : Int32)) + (-2 : Int32)) - ((((((((x1.toUInt32 >>> ((16 : Int32).toUInt32 &&& Int32.toUInt32 31)).toInt32).toUInt32 >>> ((8 : Int32).toUInt32 &&& Int32.toUInt32 31)).toInt32).toUInt32 >>> ((2 : Int32).toUInt32 &&& Int32.toUInt32 31)).toInt32).toUInt32 >>> ((1 : Int32).toUInt32 &&& Int32.toUInt32 31)).toInt32)) hx hb hr (fun t ht hW => ⟨((((31 : Int32) + (-16 : Int32)) + (-8 : Int32)) + (-2 : Int32)) - ((((((((x1.toUInt32 >>> ((16 : Int32).toUInt32 &&& Int32.toUInt32 31)).toInt32).toUInt32 >>> ((8 : Int32).toUInt32 &&& Int32.toUInt32 31)).toInt32).toUInt32 >>> ((2 : Int32).toUInt32 &&& Int32.toUInt32 31)).toInt32).toUInt32 >>> ((1 : Int32).toUInt32 &&& Int32.toUInt32 31)).toInt32), rfl, by rw [bj_nlzI, if_pos h1, if_neg h2, if_neg h10, if_pos h14, if_neg h15], ht⟩) (fun q h => absurd h List.not_mem_nil) dJ6_numberOfLeadingZeros_0f7a4_78
        · refine lv_iinc (nL := 2) (k := 1) (v := (((31 : Int32) + (-16 : Int32)) + (-8 : Int32)) + (-4 : Int32)) (lv' := [(1, .int ((((31 : Int32) + (-16 : Int32)) + (-8 : Int32)) + (-4 : Int32))), (0, .int ((((x1.toUInt32 >>> ((16 : Int32).toUInt32 &&& Int32.toUInt32 31)).toInt32).toUInt32 >>> ((8 : Int32).toUInt32 &&& Int32.toUInt32 31)).toInt32))]) hx hb dJ6_numberOfLeadingZeros_0f7a4_54 hl rfl rfl (by decide) rfl (fun ls hl => ?_)
          refine lv_iload_n hx hb dJ6_numberOfLeadingZeros_0f7a4_57 rfl (lv_at hl 1 rfl) ?_
          refine lv_iconst (v := 4) hx hb dJ6_numberOfLeadingZeros_0f7a4_58 (by decide) ?_
          refine lv_iushr hx hb dJ6_numberOfLeadingZeros_0f7a4_59 rfl ?_
          refine lv_istore_n (nL := 2) (lv' := [(0, .int ((((((x1.toUInt32 >>> ((16 : Int32).toUInt32 &&& Int32.toUInt32 31)).toInt32).toUInt32 >>> ((8 : Int32).toUInt32 &&& Int32.toUInt32 31)).toInt32).toUInt32 >>> ((4 : Int32).toUInt32 &&& Int32.toUInt32 31)).toInt32)), (1, .int ((((31 : Int32) + (-16 : Int32)) + (-8 : Int32)) + (-4 : Int32)))]) hx hb dJ6_numberOfLeadingZeros_0f7a4_60 rfl hl (by decide) rfl (fun ls hl => ?_)
          refine lv_iload_n hx hb dJ6_numberOfLeadingZeros_0f7a4_61 rfl (lv_at hl 0 rfl) ?_
          refine lv_iconst (v := 4) hx hb dJ6_numberOfLeadingZeros_0f7a4_62 (by decide) ?_
          refine lv_icmp_lt (tgt := 73) hx hb dJ6_numberOfLeadingZeros_0f7a4_63 (by decide) (fun h16 => ?_) (fun h16 => ?_)
          · refine lv_iload_n hx hb dJ6_numberOfLeadingZeros_0f7a4_73 rfl (lv_at hl 1 rfl) ?_
            refine lv_iload_n hx hb dJ6_numberOfLeadingZeros_0f7a4_74 rfl (lv_at hl 0 rfl) ?_
            refine lv_iconst (v := 1) hx hb dJ6_numberOfLeadingZeros_0f7a4_75 (by decide) ?_
            refine lv_iushr hx hb dJ6_numberOfLeadingZeros_0f7a4_76 rfl ?_
            refine lv_isub hx hb dJ6_numberOfLeadingZeros_0f7a4_77 ?_
            exact W.iret (v := ((((31 : Int32) + (-16 : Int32)) + (-8 : Int32)) + (-4 : Int32)) - ((((((((x1.toUInt32 >>> ((16 : Int32).toUInt32 &&& Int32.toUInt32 31)).toInt32).toUInt32 >>> ((8 : Int32).toUInt32 &&& Int32.toUInt32 31)).toInt32).toUInt32 >>> ((4 : Int32).toUInt32 &&& Int32.toUInt32 31)).toInt32).toUInt32 >>> ((1 : Int32).toUInt32 &&& Int32.toUInt32 31)).toInt32)) hx hb hr (fun t ht hW => ⟨((((31 : Int32) + (-16 : Int32)) + (-8 : Int32)) + (-4 : Int32)) - ((((((((x1.toUInt32 >>> ((16 : Int32).toUInt32 &&& Int32.toUInt32 31)).toInt32).toUInt32 >>> ((8 : Int32).toUInt32 &&& Int32.toUInt32 31)).toInt32).toUInt32 >>> ((4 : Int32).toUInt32 &&& Int32.toUInt32 31)).toInt32).toUInt32 >>> ((1 : Int32).toUInt32 &&& Int32.toUInt32 31)).toInt32), rfl, by rw [bj_nlzI, if_pos h1, if_neg h2, if_neg h10, if_neg h14, if_pos h16], ht⟩) (fun q h => absurd h List.not_mem_nil) dJ6_numberOfLeadingZeros_0f7a4_78
          · refine lv_iinc (nL := 2) (k := 1) (v := ((((31 : Int32) + (-16 : Int32)) + (-8 : Int32)) + (-4 : Int32)) + (-2 : Int32)) (lv' := [(1, .int (((((31 : Int32) + (-16 : Int32)) + (-8 : Int32)) + (-4 : Int32)) + (-2 : Int32))), (0, .int ((((((x1.toUInt32 >>> ((16 : Int32).toUInt32 &&& Int32.toUInt32 31)).toInt32).toUInt32 >>> ((8 : Int32).toUInt32 &&& Int32.toUInt32 31)).toInt32).toUInt32 >>> ((4 : Int32).toUInt32 &&& Int32.toUInt32 31)).toInt32))]) hx hb dJ6_numberOfLeadingZeros_0f7a4_66 hl rfl rfl (by decide) rfl (fun ls hl => ?_)
            refine lv_iload_n hx hb dJ6_numberOfLeadingZeros_0f7a4_69 rfl (lv_at hl 1 rfl) ?_
            refine lv_iconst (v := 2) hx hb dJ6_numberOfLeadingZeros_0f7a4_70 (by decide) ?_
            refine lv_iushr hx hb dJ6_numberOfLeadingZeros_0f7a4_71 rfl ?_
            refine lv_istore_n (nL := 2) (lv' := [(0, .int ((((((((x1.toUInt32 >>> ((16 : Int32).toUInt32 &&& Int32.toUInt32 31)).toInt32).toUInt32 >>> ((8 : Int32).toUInt32 &&& Int32.toUInt32 31)).toInt32).toUInt32 >>> ((4 : Int32).toUInt32 &&& Int32.toUInt32 31)).toInt32).toUInt32 >>> ((2 : Int32).toUInt32 &&& Int32.toUInt32 31)).toInt32)), (1, .int (((((31 : Int32) + (-16 : Int32)) + (-8 : Int32)) + (-4 : Int32)) + (-2 : Int32)))]) hx hb dJ6_numberOfLeadingZeros_0f7a4_72 rfl hl (by decide) rfl (fun ls hl => ?_)
            refine lv_iload_n hx hb dJ6_numberOfLeadingZeros_0f7a4_73 rfl (lv_at hl 1 rfl) ?_
            refine lv_iload_n hx hb dJ6_numberOfLeadingZeros_0f7a4_74 rfl (lv_at hl 0 rfl) ?_
            refine lv_iconst (v := 1) hx hb dJ6_numberOfLeadingZeros_0f7a4_75 (by decide) ?_
            refine lv_iushr hx hb dJ6_numberOfLeadingZeros_0f7a4_76 rfl ?_
            refine lv_isub hx hb dJ6_numberOfLeadingZeros_0f7a4_77 ?_
            exact W.iret (v := (((((31 : Int32) + (-16 : Int32)) + (-8 : Int32)) + (-4 : Int32)) + (-2 : Int32)) - ((((((((((x1.toUInt32 >>> ((16 : Int32).toUInt32 &&& Int32.toUInt32 31)).toInt32).toUInt32 >>> ((8 : Int32).toUInt32 &&& Int32.toUInt32 31)).toInt32).toUInt32 >>> ((4 : Int32).toUInt32 &&& Int32.toUInt32 31)).toInt32).toUInt32 >>> ((2 : Int32).toUInt32 &&& Int32.toUInt32 31)).toInt32).toUInt32 >>> ((1 : Int32).toUInt32 &&& Int32.toUInt32 31)).toInt32)) hx hb hr (fun t ht hW => ⟨(((((31 : Int32) + (-16 : Int32)) + (-8 : Int32)) + (-4 : Int32)) + (-2 : Int32)) - ((((((((((x1.toUInt32 >>> ((16 : Int32).toUInt32 &&& Int32.toUInt32 31)).toInt32).toUInt32 >>> ((8 : Int32).toUInt32 &&& Int32.toUInt32 31)).toInt32).toUInt32 >>> ((4 : Int32).toUInt32 &&& Int32.toUInt32 31)).toInt32).toUInt32 >>> ((2 : Int32).toUInt32 &&& Int32.toUInt32 31)).toInt32).toUInt32 >>> ((1 : Int32).toUInt32 &&& Int32.toUInt32 31)).toInt32), rfl, by rw [bj_nlzI, if_pos h1, if_neg h2, if_neg h10, if_neg h14, if_neg h16], ht⟩) (fun q h => absurd h List.not_mem_nil) dJ6_numberOfLeadingZeros_0f7a4_78
  · refine lv_iload_n hx hb dJ6_numberOfLeadingZeros_0f7a4_4 rfl (lv_at hl 0 rfl) ?_
    refine lv_if_ne (tgt := 13) hx hb dJ6_numberOfLeadingZeros_0f7a4_5 (by decide) (fun h17 => ?_) (fun h17 => ?_)
    · refine lv_iconst (v := 0) hx hb dJ6_numberOfLeadingZeros_0f7a4_13 (by decide) ?_
      exact W.iret (v := (0 : Int32)) hx hb hr (fun t ht hW => ⟨(0 : Int32), rfl, by rw [bj_nlzI, if_neg h1, if_neg h17], ht⟩) (fun q h => absurd h List.not_mem_nil) dJ6_numberOfLeadingZeros_0f7a4_14
    · refine lv_bipush (v := 32) hx hb dJ6_numberOfLeadingZeros_0f7a4_8 (by decide) ?_
      refine lv_goto (tgt := 14) hx hb dJ6_numberOfLeadingZeros_0f7a4_10 (by decide) ?_
      exact W.iret (v := (32 : Int32)) hx hb hr (fun t ht hW => ⟨(32 : Int32), rfl, by rw [bj_nlzI, if_neg h1, if_pos h17], ht⟩) (fun q h => absurd h List.not_mem_nil) dJ6_numberOfLeadingZeros_0f7a4_14
set_option maxHeartbeats 4000000 in
set_option maxRecDepth 100000 in
theorem be_nlzL (l : Launch) (x1 : Int64) : Met l yJ13_numberOfLeadingZeros_95d88 wsJ13_numberOfLeadingZeros_95d88 ({ frames := 1, cells := 0, slots := 0, locals := 21 }) (va_Pc [.long x1] (fun _ => True)) (vp_Si (fun r => r = bj_nlzL x1)) 0 0 (fun _ => False) := by
  refine Met.ofW (cc := cJ13_numberOfLeadingZeros_95d88) (maxL := 3) (ret := (some .int)) (by decide) rfl ?_
  intro p e s m args below meth c s₁ B hml hv
  obtain ⟨rfl, -⟩ := hv
  have hx := B.exec
  have hb := B.bytes
  have hr := B.returns
  have hts := atoms_spec (ws := wsJ13_numberOfLeadingZeros_95d88) B.pre
  have hown : s.vm.findClass RJ13 = some m.cls := findClass_of_methodNamed B.named
  have hlocks := B.notSynchronized
  have hl := lv_entry ([.long x1]) (n := 3) (Nat.le_of_ble_eq_true rfl)
  rw [lg_entry_eq]
  generalize (lg_sl ([.long x1]) ++ List.replicate (3 - (lg_sl ([.long x1])).length) Slot.unset).toArray = ls at hl ⊢
  have hl : lv_has ls 3 [(0, .long x1)] := hl
  refine lv_lload_n hx hb dJ13_numberOfLeadingZeros_95d88_0 rfl (lv_at hl 0 rfl) ?_
  refine lv_bipush (v := 32) hx hb dJ13_numberOfLeadingZeros_95d88_1 (by decide) ?_
  refine lv_lushr hx hb dJ13_numberOfLeadingZeros_95d88_3 rfl ?_
  refine lv_l2i hx hb dJ13_numberOfLeadingZeros_95d88_4 rfl ?_
  refine lv_istore_n (nL := 3) (lv' := [(2, .int (((x1.toUInt64 >>> ((32 : Int32).toInt64.toUInt64 &&& Int64.toUInt64 63)).toInt64).toInt32)), (0, .long x1)]) hx hb dJ13_numberOfLeadingZeros_95d88_5 rfl hl (by decide) rfl (fun ls hl => ?_)
  refine lv_iload_n hx hb dJ13_numberOfLeadingZeros_95d88_6 rfl (lv_at hl 0 rfl) ?_
  refine lv_if_ne (tgt := 21) hx hb dJ13_numberOfLeadingZeros_95d88_7 (by decide) (fun h1 => ?_) (fun h1 => ?_)
  · refine lv_iload_n hx hb dJ13_numberOfLeadingZeros_95d88_21 rfl (lv_at hl 0 rfl) ?_
    refine bw_csi (rest := []) ⟨hx, hb, hml, hown, hts⟩ (be_nlzI l (((x1.toUInt64 >>> ((32 : Int32).toInt64.toUInt64 &&& Int64.toUInt64 63)).toInt64).toInt32)) (va_cwS 1 hts gJ13_numberOfLeadingZeros_95d88_J6_numberOfLeadingZeros_0f7a4 rfl rfl rfl (by decide +kernel) ⟨Nat.le_of_ble_eq_true rfl, Nat.le_of_ble_eq_true rfl⟩) rfl hl.1 rfl (Nat.le_of_ble_eq_true rfl) dJ13_numberOfLeadingZeros_95d88_22 (Nat.zero_le _) (Nat.zero_le _) ?_
    exact W.iret (v := bj_nlzI (((x1.toUInt64 >>> ((32 : Int32).toInt64.toUInt64 &&& Int64.toUInt64 63)).toInt64).toInt32)) hx hb hr (fun t ht hW => ⟨bj_nlzI (((x1.toUInt64 >>> ((32 : Int32).toInt64.toUInt64 &&& Int64.toUInt64 63)).toInt64).toInt32), rfl, by rw [bj_nlzL, if_neg h1], ht⟩) (fun q h => absurd h List.not_mem_nil) dJ13_numberOfLeadingZeros_95d88_25
  · refine lv_bipush (v := 32) hx hb dJ13_numberOfLeadingZeros_95d88_10 (by decide) ?_
    refine lv_lload_n hx hb dJ13_numberOfLeadingZeros_95d88_12 rfl (lv_at hl 1 rfl) ?_
    refine lv_l2i hx hb dJ13_numberOfLeadingZeros_95d88_13 rfl ?_
    refine bw_csi (rest := [.int (32 : Int32)]) ⟨hx, hb, hml, hown, hts⟩ (be_nlzI l x1.toInt32) (va_cwS 1 hts gJ13_numberOfLeadingZeros_95d88_J6_numberOfLeadingZeros_0f7a4 rfl rfl rfl (by decide +kernel) ⟨Nat.le_of_ble_eq_true rfl, Nat.le_of_ble_eq_true rfl⟩) rfl hl.1 rfl (Nat.le_of_ble_eq_true rfl) dJ13_numberOfLeadingZeros_95d88_14 (Nat.zero_le _) (Nat.zero_le _) ?_
    refine lv_iadd hx hb dJ13_numberOfLeadingZeros_95d88_17 ?_
    refine lv_goto (tgt := 25) hx hb dJ13_numberOfLeadingZeros_95d88_18 (by decide) ?_
    exact W.iret (v := (32 : Int32) + (bj_nlzI x1.toInt32)) hx hb hr (fun t ht hW => ⟨(32 : Int32) + (bj_nlzI x1.toInt32), rfl, by rw [bj_nlzL, if_pos h1], ht⟩) (fun q h => absurd h List.not_mem_nil) dJ13_numberOfLeadingZeros_95d88_25
set_option maxHeartbeats 4000000 in
set_option maxRecDepth 100000 in
theorem bc_spareRoom (l : Launch) (x1 : Int64) : Met l yX0_spareRoom wsX0_spareRoom ({ frames := 2, cells := 0, slots := 0, locals := 44 }) (va_Pc [.long x1] (fun _ => True)) (vp_Si (fun r => r = bf_spareRoom x1)) 0 0 (fun _ => False) := by
  refine Met.ofW (cc := cX0_spareRoom) (maxL := 2) (ret := (some .int)) (by decide) rfl ?_
  intro p e s m args below meth c s₁ B hml hv
  obtain ⟨rfl, -⟩ := hv
  have hx := B.exec
  have hb := B.bytes
  have hr := B.returns
  have hts := atoms_spec (ws := wsX0_spareRoom) B.pre
  have hown : s.vm.findClass RX0 = some m.cls := findClass_of_methodNamed B.named
  have hlocks := B.notSynchronized
  have hl := lv_entry ([.long x1]) (n := 2) (Nat.le_of_ble_eq_true rfl)
  rw [lg_entry_eq]
  generalize (lg_sl ([.long x1]) ++ List.replicate (2 - (lg_sl ([.long x1])).length) Slot.unset).toArray = ls at hl ⊢
  have hl : lv_has ls 2 [(0, .long x1)] := hl
  refine lv_lload_n hx hb dX0_spareRoom_0 rfl (lv_at hl 0 rfl) ?_
  refine bw_csl (rest := []) ⟨hx, hb, hml, hown, hts⟩ (bc_significand l x1) (va_cwS 1 hts gX0_spareRoom_X0_significand rfl rfl rfl (by decide +kernel) ⟨Nat.le_of_ble_eq_true rfl, Nat.le_of_ble_eq_true rfl⟩) rfl hl.1 rfl (Nat.le_of_ble_eq_true rfl) dX0_spareRoom_1 (Nat.zero_le _) (Nat.zero_le _) ?_
  refine bw_csi (rest := []) ⟨hx, hb, hml, hown, hts⟩ (be_nlzL l (bf_significand x1)) (va_cwS 1 hts gX0_spareRoom_J13_numberOfLeadingZeros_95d88 rfl rfl rfl (by decide +kernel) ⟨Nat.le_of_ble_eq_true rfl, Nat.le_of_ble_eq_true rfl⟩) rfl hl.1 rfl (Nat.le_of_ble_eq_true rfl) dX0_spareRoom_4 (Nat.zero_le _) (Nat.zero_le _) ?_
  refine lv_bipush (v := 11) hx hb dX0_spareRoom_7 (by decide) ?_
  refine lv_isub hx hb dX0_spareRoom_9 ?_
  exact W.iret (v := (bj_nlzL (bf_significand x1)) - (11 : Int32)) hx hb hr (fun t ht hW => ⟨(bj_nlzL (bf_significand x1)) - (11 : Int32), rfl, by rw [bf_spareRoom], ht⟩) (fun q h => absurd h List.not_mem_nil) dX0_spareRoom_10
set_option maxHeartbeats 4000000 in
set_option maxRecDepth 100000 in
theorem bc_fullSignificand (l : Launch) (x1 : Int64) : Met l yX0_fullSignificand wsX0_fullSignificand ({ frames := 3, cells := 0, slots := 0, locals := 65 }) (va_Pc [.long x1] (fun _ => True)) (vp_Sl (fun r => r = bf_fullSignificand x1)) 0 0 (fun _ => False) := by
  refine Met.ofW (cc := cX0_fullSignificand) (maxL := 2) (ret := (some .long)) (by decide) rfl ?_
  intro p e s m args below meth c s₁ B hml hv
  obtain ⟨rfl, -⟩ := hv
  have hx := B.exec
  have hb := B.bytes
  have hr := B.returns
  have hts := atoms_spec (ws := wsX0_fullSignificand) B.pre
  have hown : s.vm.findClass RX0 = some m.cls := findClass_of_methodNamed B.named
  have hlocks := B.notSynchronized
  have hl := lv_entry ([.long x1]) (n := 2) (Nat.le_of_ble_eq_true rfl)
  rw [lg_entry_eq]
  generalize (lg_sl ([.long x1]) ++ List.replicate (2 - (lg_sl ([.long x1])).length) Slot.unset).toArray = ls at hl ⊢
  have hl : lv_has ls 2 [(0, .long x1)] := hl
  refine lv_lload_n hx hb dX0_fullSignificand_0 rfl (lv_at hl 0 rfl) ?_
  refine bw_csl (rest := []) ⟨hx, hb, hml, hown, hts⟩ (bc_significand l x1) (va_cwS 1 hts gX0_fullSignificand_X0_significand rfl rfl rfl (by decide +kernel) ⟨Nat.le_of_ble_eq_true rfl, Nat.le_of_ble_eq_true rfl⟩) rfl hl.1 rfl (Nat.le_of_ble_eq_true rfl) dX0_fullSignificand_1 (Nat.zero_le _) (Nat.zero_le _) ?_
  refine lv_lload_n hx hb dX0_fullSignificand_4 rfl (lv_at hl 0 rfl) ?_
  refine bw_csi (rest := [.long (bf_significand x1)]) ⟨hx, hb, hml, hown, hts⟩ (bc_spareRoom l x1) (va_cwS 1 hts gX0_fullSignificand_X0_spareRoom rfl rfl rfl (by decide +kernel) ⟨Nat.le_of_ble_eq_true rfl, Nat.le_of_ble_eq_true rfl⟩) rfl hl.1 rfl (Nat.le_of_ble_eq_true rfl) dX0_fullSignificand_5 (Nat.zero_le _) (Nat.zero_le _) ?_
  refine lv_lshl hx hb dX0_fullSignificand_8 rfl ?_
  exact W.lret (v := (bf_significand x1) <<< ((bf_spareRoom x1).toInt64 &&& 63)) hx hb hr (fun t ht hW => ⟨(bf_significand x1) <<< ((bf_spareRoom x1).toInt64 &&& 63), rfl, by rw [bf_fullSignificand], ht⟩) (fun q h => absurd h List.not_mem_nil) dX0_fullSignificand_9
set_option maxHeartbeats 4000000 in
set_option maxRecDepth 100000 in
theorem bc_fullPower (l : Launch) (x1 : Int64) : Met l yX0_fullPower wsX0_fullPower ({ frames := 3, cells := 0, slots := 0, locals := 65 }) (va_Pc [.long x1] (fun _ => True)) (vp_Si (fun r => r = bf_fullPower x1)) 0 0 (fun _ => False) := by
  refine Met.ofW (cc := cX0_fullPower) (maxL := 2) (ret := (some .int)) (by decide) rfl ?_
  intro p e s m args below meth c s₁ B hml hv
  obtain ⟨rfl, -⟩ := hv
  have hx := B.exec
  have hb := B.bytes
  have hr := B.returns
  have hts := atoms_spec (ws := wsX0_fullPower) B.pre
  have hown : s.vm.findClass RX0 = some m.cls := findClass_of_methodNamed B.named
  have hlocks := B.notSynchronized
  have hl := lv_entry ([.long x1]) (n := 2) (Nat.le_of_ble_eq_true rfl)
  rw [lg_entry_eq]
  generalize (lg_sl ([.long x1]) ++ List.replicate (2 - (lg_sl ([.long x1])).length) Slot.unset).toArray = ls at hl ⊢
  have hl : lv_has ls 2 [(0, .long x1)] := hl
  refine lv_lload_n hx hb dX0_fullPower_0 rfl (lv_at hl 0 rfl) ?_
  refine bw_csi (rest := []) ⟨hx, hb, hml, hown, hts⟩ (bc_power l x1) (va_cwS 1 hts gX0_fullPower_X0_power rfl rfl rfl (by decide +kernel) ⟨Nat.le_of_ble_eq_true rfl, Nat.le_of_ble_eq_true rfl⟩) rfl hl.1 rfl (Nat.le_of_ble_eq_true rfl) dX0_fullPower_1 (Nat.zero_le _) (Nat.zero_le _) ?_
  refine lv_lload_n hx hb dX0_fullPower_4 rfl (lv_at hl 0 rfl) ?_
  refine bw_csi (rest := [.int (bf_power x1)]) ⟨hx, hb, hml, hown, hts⟩ (bc_spareRoom l x1) (va_cwS 1 hts gX0_fullPower_X0_spareRoom rfl rfl rfl (by decide +kernel) ⟨Nat.le_of_ble_eq_true rfl, Nat.le_of_ble_eq_true rfl⟩) rfl hl.1 rfl (Nat.le_of_ble_eq_true rfl) dX0_fullPower_5 (Nat.zero_le _) (Nat.zero_le _) ?_
  refine lv_isub hx hb dX0_fullPower_8 ?_
  exact W.iret (v := (bf_power x1) - (bf_spareRoom x1)) hx hb hr (fun t ht hW => ⟨(bf_power x1) - (bf_spareRoom x1), rfl, by rw [bf_fullPower], ht⟩) (fun q h => absurd h List.not_mem_nil) dX0_fullPower_9
set_option maxHeartbeats 4000000 in
set_option maxRecDepth 100000 in
theorem bc_pattern (l : Launch) (x1 : Int64) (x2 : Int32) : Met l yX0_pattern wsX0_pattern ({ frames := 2, cells := 0, slots := 0, locals := 43 }) (va_Pc [.long x1, .int x2] (fun _ => True)) (vp_Sl (fun r => r = bf_pattern x1 x2)) 0 0 (fun _ => False) := by
  refine Met.ofW (cc := cX0_pattern) (maxL := 5) (ret := (some .long)) (by decide) rfl ?_
  intro p e s m args below meth c s₁ B hml hv
  obtain ⟨rfl, -⟩ := hv
  have hx := B.exec
  have hb := B.bytes
  have hr := B.returns
  have hts := atoms_spec (ws := wsX0_pattern) B.pre
  have hown : s.vm.findClass RX0 = some m.cls := findClass_of_methodNamed B.named
  have hlocks := B.notSynchronized
  have hl := lv_entry ([.long x1, .int x2]) (n := 5) (Nat.le_of_ble_eq_true rfl)
  rw [lg_entry_eq]
  generalize (lg_sl ([.long x1, .int x2]) ++ List.replicate (5 - (lg_sl ([.long x1, .int x2])).length) Slot.unset).toArray = ls at hl ⊢
  have hl : lv_has ls 5 [(0, .long x1), (2, .int x2)] := hl
  refine lv_lload_n hx hb dX0_pattern_0 rfl (lv_at hl 0 rfl) ?_
  refine lv_lconst (v := 0) hx hb dX0_pattern_1 (by decide) ?_
  refine bw_lc_ne (tgt := 8) hx hb dX0_pattern_2 dX0_pattern_3 (by decide) (fun h1 => ?_) (fun h1 => ?_)
  · refine lv_lload_n hx hb dX0_pattern_8 rfl (lv_at hl 0 rfl) ?_
    refine bw_csi (rest := []) ⟨hx, hb, hml, hown, hts⟩ (be_nlzL l x1) (va_cwS 1 hts gX0_pattern_J13_numberOfLeadingZeros_95d88 rfl rfl rfl (by decide +kernel) ⟨Nat.le_of_ble_eq_true rfl, Nat.le_of_ble_eq_true rfl⟩) rfl hl.1 rfl (Nat.le_of_ble_eq_true rfl) dX0_pattern_9 (Nat.zero_le _) (Nat.zero_le _) ?_
    refine lv_bipush (v := 11) hx hb dX0_pattern_12 (by decide) ?_
    refine lv_isub hx hb dX0_pattern_14 ?_
    refine lv_istore_n (nL := 5) (lv' := [(3, .int ((bj_nlzL x1) - (11 : Int32))), (0, .long x1), (2, .int x2)]) hx hb dX0_pattern_15 rfl hl (by decide) rfl (fun ls hl => ?_)
    refine lv_iload_n hx hb dX0_pattern_16 rfl (lv_at hl 0 rfl) ?_
    refine lv_iload_n hx hb dX0_pattern_17 rfl (lv_at hl 2 rfl) ?_
    refine lv_sipush (v := -1074) hx hb dX0_pattern_18 (by decide) ?_
    refine lv_isub hx hb dX0_pattern_21 ?_
    refine va_mmin (rest := []) hx hb (hml.trans hl.1.symm) hown (hts (.methodLink RX0 98 Lib.Math.min.name) (by decide +kernel)) (hts (.static Lib.Math.min.name) (by decide +kernel)) (hts (.initialized "java/lang/Math") (by decide +kernel)) (hts (.code Lib.Math.min.name Lib.Math.min.code 2 (some .int)) (by decide +kernel)) (Nat.le_of_ble_eq_true rfl) (Nat.le_of_ble_eq_true rfl) (Nat.zero_le _) (Nat.zero_le _) dX0_pattern_22 ?_
    refine lv_istore (nL := 5) (lv' := [(4, .int (if (x2 - (-1074 : Int32)) < ((bj_nlzL x1) - (11 : Int32)) then (x2 - (-1074 : Int32)) else ((bj_nlzL x1) - (11 : Int32)))), (3, .int ((bj_nlzL x1) - (11 : Int32))), (0, .long x1), (2, .int x2)]) hx hb dX0_pattern_25 hl (by decide) rfl (fun ls hl => ?_)
    refine lv_iload_n hx hb dX0_pattern_27 rfl (lv_at hl 3 rfl) ?_
    refine lv_iload hx hb dX0_pattern_28 (lv_at hl 0 rfl) ?_
    refine lv_isub hx hb dX0_pattern_30 ?_
    refine lv_sipush (v := -1074) hx hb dX0_pattern_31 (by decide) ?_
    refine lv_isub hx hb dX0_pattern_34 ?_
    refine lv_i2l hx hb dX0_pattern_35 rfl ?_
    refine lv_bipush (v := 52) hx hb dX0_pattern_36 (by decide) ?_
    refine lv_lshl hx hb dX0_pattern_38 rfl ?_
    refine lv_lload_n hx hb dX0_pattern_39 rfl (lv_at hl 2 rfl) ?_
    refine lv_iload hx hb dX0_pattern_40 (lv_at hl 0 rfl) ?_
    refine lv_lshl hx hb dX0_pattern_42 rfl ?_
    refine lv_ladd hx hb dX0_pattern_43 ?_
    exact W.lret (v := ((((x2 - (if (x2 - (-1074 : Int32)) < ((bj_nlzL x1) - (11 : Int32)) then (x2 - (-1074 : Int32)) else ((bj_nlzL x1) - (11 : Int32)))) - (-1074 : Int32)).toInt64) <<< ((52 : Int32).toInt64 &&& 63)) + (x1 <<< ((if (x2 - (-1074 : Int32)) < ((bj_nlzL x1) - (11 : Int32)) then (x2 - (-1074 : Int32)) else ((bj_nlzL x1) - (11 : Int32))).toInt64 &&& 63))) hx hb hr (fun t ht hW => ⟨((((x2 - (if (x2 - (-1074 : Int32)) < ((bj_nlzL x1) - (11 : Int32)) then (x2 - (-1074 : Int32)) else ((bj_nlzL x1) - (11 : Int32)))) - (-1074 : Int32)).toInt64) <<< ((52 : Int32).toInt64 &&& 63)) + (x1 <<< ((if (x2 - (-1074 : Int32)) < ((bj_nlzL x1) - (11 : Int32)) then (x2 - (-1074 : Int32)) else ((bj_nlzL x1) - (11 : Int32))).toInt64 &&& 63)), rfl, by rw [bf_pattern, if_neg h1], ht⟩) (fun q h => absurd h List.not_mem_nil) dX0_pattern_44
  · refine lv_lconst (v := 0) hx hb dX0_pattern_6 (by decide) ?_
    exact W.lret (v := (0 : Int64)) hx hb hr (fun t ht hW => ⟨(0 : Int64), rfl, by rw [bf_pattern, if_pos h1], ht⟩) (fun q h => absurd h List.not_mem_nil) dX0_pattern_7
set_option maxHeartbeats 4000000 in
set_option maxRecDepth 100000 in
theorem bc_nearestShifted (l : Launch) (x1 : Int64) (x2 : Int32) : Met l yX0_nearestShifted wsX0_nearestShifted ({ frames := 0, cells := 0, slots := 0, locals := 0 }) (va_Pc [.long x1, .int x2] (fun _ => True)) (vp_Sl (fun r => r = bf_nearestShifted x1 x2)) 0 0 (fun _ => False) := by
  refine Met.ofW (cc := cX0_nearestShifted) (maxL := 10) (ret := (some .long)) (by decide) rfl ?_
  intro p e s m args below meth c s₁ B hml hv
  obtain ⟨rfl, -⟩ := hv
  have hx := B.exec
  have hb := B.bytes
  have hr := B.returns
  have hts := atoms_spec (ws := wsX0_nearestShifted) B.pre
  have hown : s.vm.findClass RX0 = some m.cls := findClass_of_methodNamed B.named
  have hlocks := B.notSynchronized
  have hl := lv_entry ([.long x1, .int x2]) (n := 10) (Nat.le_of_ble_eq_true rfl)
  rw [lg_entry_eq]
  generalize (lg_sl ([.long x1, .int x2]) ++ List.replicate (10 - (lg_sl ([.long x1, .int x2])).length) Slot.unset).toArray = ls at hl ⊢
  have hl : lv_has ls 10 [(0, .long x1), (2, .int x2)] := hl
  refine lv_lload_n hx hb dX0_nearestShifted_0 rfl (lv_at hl 0 rfl) ?_
  refine lv_iload_n hx hb dX0_nearestShifted_1 rfl (lv_at hl 1 rfl) ?_
  refine lv_lshr hx hb dX0_nearestShifted_2 rfl ?_
  refine lv_lstore_n (nL := 10) (lv' := [(3, .long (x1 >>> (x2.toInt64 &&& 63))), (0, .long x1), (2, .int x2)]) hx hb dX0_nearestShifted_3 rfl hl (by decide) rfl (fun ls hl => ?_)
  refine lv_lload_n hx hb dX0_nearestShifted_4 rfl (lv_at hl 1 rfl) ?_
  refine lv_lload_n hx hb dX0_nearestShifted_5 rfl (lv_at hl 0 rfl) ?_
  refine lv_iload_n hx hb dX0_nearestShifted_6 rfl (lv_at hl 2 rfl) ?_
  refine lv_lshl hx hb dX0_nearestShifted_7 rfl ?_
  refine lv_lsub hx hb dX0_nearestShifted_8 ?_
  refine lv_lstore (nL := 10) (lv' := [(5, .long (x1 - ((x1 >>> (x2.toInt64 &&& 63)) <<< (x2.toInt64 &&& 63)))), (3, .long (x1 >>> (x2.toInt64 &&& 63))), (0, .long x1), (2, .int x2)]) hx hb dX0_nearestShifted_9 hl (by decide) rfl (fun ls hl => ?_)
  refine lv_lconst (v := 1) hx hb dX0_nearestShifted_11 (by decide) ?_
  refine lv_iload_n hx hb dX0_nearestShifted_12 rfl (lv_at hl 3 rfl) ?_
  refine lv_iconst (v := 1) hx hb dX0_nearestShifted_13 (by decide) ?_
  refine lv_isub hx hb dX0_nearestShifted_14 ?_
  refine lv_lshl hx hb dX0_nearestShifted_15 rfl ?_
  refine lv_lstore (nL := 10) (lv' := [(7, .long ((1 : Int64) <<< ((x2 - (1 : Int32)).toInt64 &&& 63))), (5, .long (x1 - ((x1 >>> (x2.toInt64 &&& 63)) <<< (x2.toInt64 &&& 63)))), (3, .long (x1 >>> (x2.toInt64 &&& 63))), (0, .long x1), (2, .int x2)]) hx hb dX0_nearestShifted_16 hl (by decide) rfl (fun ls hl => ?_)
  refine lv_lload hx hb dX0_nearestShifted_18 (lv_at hl 1 rfl) ?_
  refine lv_lload hx hb dX0_nearestShifted_20 (lv_at hl 0 rfl) ?_
  refine bw_lc_gt (tgt := 42) hx hb dX0_nearestShifted_22 dX0_nearestShifted_23 (by decide) (fun h1 => ?_) (fun h1 => ?_)
  · refine lv_iconst (v := 1) hx hb dX0_nearestShifted_42 (by decide) ?_
    refine lv_goto (tgt := 47) hx hb dX0_nearestShifted_43 (by decide) ?_
    refine lv_istore (nL := 10) (lv' := [(9, .int (1 : Int32)), (7, .long ((1 : Int64) <<< ((x2 - (1 : Int32)).toInt64 &&& 63))), (5, .long (x1 - ((x1 >>> (x2.toInt64 &&& 63)) <<< (x2.toInt64 &&& 63)))), (3, .long (x1 >>> (x2.toInt64 &&& 63))), (0, .long x1), (2, .int x2)]) hx hb dX0_nearestShifted_47 hl (by decide) rfl (fun ls hl => ?_)
    refine lv_iload hx hb dX0_nearestShifted_49 (lv_at hl 0 rfl) ?_
    refine lv_if_eq (tgt := 60) hx hb dX0_nearestShifted_51 (by decide) (fun h2 => ?_) (fun h2 => ?_)
    · exact absurd h2 (by decide)
    refine lv_lload_n hx hb dX0_nearestShifted_54 rfl (lv_at hl 3 rfl) ?_
    refine lv_lconst (v := 1) hx hb dX0_nearestShifted_55 (by decide) ?_
    refine lv_ladd hx hb dX0_nearestShifted_56 ?_
    refine lv_goto (tgt := 61) hx hb dX0_nearestShifted_57 (by decide) ?_
    exact W.lret (v := (x1 >>> (x2.toInt64 &&& 63)) + (1 : Int64)) hx hb hr (fun t ht hW => ⟨(x1 >>> (x2.toInt64 &&& 63)) + (1 : Int64), rfl, by rw [bf_nearestShifted, if_pos h1], ht⟩) (fun q h => absurd h List.not_mem_nil) dX0_nearestShifted_61
  · refine lv_lload hx hb dX0_nearestShifted_26 (lv_at hl 1 rfl) ?_
    refine lv_lload hx hb dX0_nearestShifted_28 (lv_at hl 0 rfl) ?_
    refine bw_lc_ne (tgt := 46) hx hb dX0_nearestShifted_30 dX0_nearestShifted_31 (by decide) (fun h3 => ?_) (fun h3 => ?_)
    · refine lv_iconst (v := 0) hx hb dX0_nearestShifted_46 (by decide) ?_
      refine lv_istore (nL := 10) (lv' := [(9, .int (0 : Int32)), (7, .long ((1 : Int64) <<< ((x2 - (1 : Int32)).toInt64 &&& 63))), (5, .long (x1 - ((x1 >>> (x2.toInt64 &&& 63)) <<< (x2.toInt64 &&& 63)))), (3, .long (x1 >>> (x2.toInt64 &&& 63))), (0, .long x1), (2, .int x2)]) hx hb dX0_nearestShifted_47 hl (by decide) rfl (fun ls hl => ?_)
      refine lv_iload hx hb dX0_nearestShifted_49 (lv_at hl 0 rfl) ?_
      refine lv_if_eq (tgt := 60) hx hb dX0_nearestShifted_51 (by decide) (fun h4 => ?_) (fun h4 => ?_)
      rotate_left
      · exact absurd (by decide) h4
      refine lv_lload_n hx hb dX0_nearestShifted_60 rfl (lv_at hl 3 rfl) ?_
      exact W.lret (v := x1 >>> (x2.toInt64 &&& 63)) hx hb hr (fun t ht hW => ⟨x1 >>> (x2.toInt64 &&& 63), rfl, by rw [bf_nearestShifted, if_neg h1, if_neg h3], ht⟩) (fun q h => absurd h List.not_mem_nil) dX0_nearestShifted_61
    · refine lv_lload_n hx hb dX0_nearestShifted_34 rfl (lv_at hl 2 rfl) ?_
      refine lv_lconst (v := 1) hx hb dX0_nearestShifted_35 (by decide) ?_
      refine lv_land hx hb dX0_nearestShifted_36 ?_
      refine lv_lconst (v := 1) hx hb dX0_nearestShifted_37 (by decide) ?_
      refine bw_lc_ne (tgt := 46) hx hb dX0_nearestShifted_38 dX0_nearestShifted_39 (by decide) (fun h5 => ?_) (fun h5 => ?_)
      · refine lv_iconst (v := 0) hx hb dX0_nearestShifted_46 (by decide) ?_
        refine lv_istore (nL := 10) (lv' := [(9, .int (0 : Int32)), (7, .long ((1 : Int64) <<< ((x2 - (1 : Int32)).toInt64 &&& 63))), (5, .long (x1 - ((x1 >>> (x2.toInt64 &&& 63)) <<< (x2.toInt64 &&& 63)))), (3, .long (x1 >>> (x2.toInt64 &&& 63))), (0, .long x1), (2, .int x2)]) hx hb dX0_nearestShifted_47 hl (by decide) rfl (fun ls hl => ?_)
        refine lv_iload hx hb dX0_nearestShifted_49 (lv_at hl 0 rfl) ?_
        refine lv_if_eq (tgt := 60) hx hb dX0_nearestShifted_51 (by decide) (fun h6 => ?_) (fun h6 => ?_)
        rotate_left
        · exact absurd (by decide) h6
        refine lv_lload_n hx hb dX0_nearestShifted_60 rfl (lv_at hl 3 rfl) ?_
        exact W.lret (v := x1 >>> (x2.toInt64 &&& 63)) hx hb hr (fun t ht hW => ⟨x1 >>> (x2.toInt64 &&& 63), rfl, by rw [bf_nearestShifted, if_neg h1, if_pos h3, if_neg h5], ht⟩) (fun q h => absurd h List.not_mem_nil) dX0_nearestShifted_61
      · refine lv_iconst (v := 1) hx hb dX0_nearestShifted_42 (by decide) ?_
        refine lv_goto (tgt := 47) hx hb dX0_nearestShifted_43 (by decide) ?_
        refine lv_istore (nL := 10) (lv' := [(9, .int (1 : Int32)), (7, .long ((1 : Int64) <<< ((x2 - (1 : Int32)).toInt64 &&& 63))), (5, .long (x1 - ((x1 >>> (x2.toInt64 &&& 63)) <<< (x2.toInt64 &&& 63)))), (3, .long (x1 >>> (x2.toInt64 &&& 63))), (0, .long x1), (2, .int x2)]) hx hb dX0_nearestShifted_47 hl (by decide) rfl (fun ls hl => ?_)
        refine lv_iload hx hb dX0_nearestShifted_49 (lv_at hl 0 rfl) ?_
        refine lv_if_eq (tgt := 60) hx hb dX0_nearestShifted_51 (by decide) (fun h7 => ?_) (fun h7 => ?_)
        · exact absurd h7 (by decide)
        refine lv_lload_n hx hb dX0_nearestShifted_54 rfl (lv_at hl 3 rfl) ?_
        refine lv_lconst (v := 1) hx hb dX0_nearestShifted_55 (by decide) ?_
        refine lv_ladd hx hb dX0_nearestShifted_56 ?_
        refine lv_goto (tgt := 61) hx hb dX0_nearestShifted_57 (by decide) ?_
        exact W.lret (v := (x1 >>> (x2.toInt64 &&& 63)) + (1 : Int64)) hx hb hr (fun t ht hW => ⟨(x1 >>> (x2.toInt64 &&& 63)) + (1 : Int64), rfl, by rw [bf_nearestShifted, if_neg h1, if_pos h3, if_pos h5], ht⟩) (fun q h => absurd h List.not_mem_nil) dX0_nearestShifted_61
set_option maxHeartbeats 4000000 in
set_option maxRecDepth 100000 in
theorem bc_wholeAmount (l : Launch) (x1 : Int64) (x2 : Int32) (x3 : Int32) (x4 : Int32) : Met l yX0_wholeAmount wsX0_wholeAmount ({ frames := 1, cells := 0, slots := 0, locals := 29 }) (va_Pc [.long x1, .int x2, .int x3, .int x4] (fun _ => True)) (vp_Sl (fun r => r = bf_wholeAmount x1 x2 x3 x4)) 0 0 (fun _ => False) := by
  refine Met.ofW (cc := cX0_wholeAmount) (maxL := 8) (ret := (some .long)) (by decide) rfl ?_
  intro p e s m args below meth c s₁ B hml hv
  obtain ⟨rfl, -⟩ := hv
  have hx := B.exec
  have hb := B.bytes
  have hr := B.returns
  have hts := atoms_spec (ws := wsX0_wholeAmount) B.pre
  have hown : s.vm.findClass RX0 = some m.cls := findClass_of_methodNamed B.named
  have hlocks := B.notSynchronized
  have hl := lv_entry ([.long x1, .int x2, .int x3, .int x4]) (n := 8) (Nat.le_of_ble_eq_true rfl)
  rw [lg_entry_eq]
  generalize (lg_sl ([.long x1, .int x2, .int x3, .int x4]) ++ List.replicate (8 - (lg_sl ([.long x1, .int x2, .int x3, .int x4])).length) Slot.unset).toArray = ls at hl ⊢
  have hl : lv_has ls 8 [(0, .long x1), (2, .int x2), (3, .int x3), (4, .int x4)] := hl
  refine lv_iload hx hb dX0_wholeAmount_0 (lv_at hl 3 rfl) ?_
  refine lv_if_ne (tgt := 11) hx hb dX0_wholeAmount_2 (by decide) (fun h1 => ?_) (fun h1 => ?_)
  · refine lv_lload_n hx hb dX0_wholeAmount_11 rfl (lv_at hl 0 rfl) ?_
    refine lv_iload_n hx hb dX0_wholeAmount_12 rfl (lv_at hl 1 rfl) ?_
    refine lv_lshr hx hb dX0_wholeAmount_13 rfl ?_
    refine lv_lstore (nL := 8) (lv' := [(5, .long (x1 >>> (x2.toInt64 &&& 63))), (0, .long x1), (2, .int x2), (3, .int x3), (4, .int x4)]) hx hb dX0_wholeAmount_14 hl (by decide) rfl (fun ls hl => ?_)
    refine lv_iload hx hb dX0_wholeAmount_16 (lv_at hl 4 rfl) ?_
    refine lv_iconst (v := 1) hx hb dX0_wholeAmount_18 (by decide) ?_
    refine lv_icmp_ne (tgt := 26) hx hb dX0_wholeAmount_19 (by decide) (fun h2 => ?_) (fun h2 => ?_)
    · refine lv_iload hx hb dX0_wholeAmount_26 (lv_at hl 4 rfl) ?_
      refine lv_iconst (v := 2) hx hb dX0_wholeAmount_28 (by decide) ?_
      refine lv_icmp_ne (tgt := 40) hx hb dX0_wholeAmount_29 (by decide) (fun h3 => ?_) (fun h3 => ?_)
      · refine lv_iconst (v := 0) hx hb dX0_wholeAmount_40 (by decide) ?_
        refine lv_istore (nL := 8) (lv' := [(7, .int (0 : Int32)), (5, .long (x1 >>> (x2.toInt64 &&& 63))), (0, .long x1), (2, .int x2), (3, .int x3), (4, .int x4)]) hx hb dX0_wholeAmount_41 hl (by decide) rfl (fun ls hl => ?_)
        refine lv_iload hx hb dX0_wholeAmount_43 (lv_at hl 0 rfl) ?_
        refine lv_if_eq (tgt := 64) hx hb dX0_wholeAmount_45 (by decide) (fun h4 => ?_) (fun h4 => ?_)
        rotate_left
        · exact absurd (by decide) h4
        refine lv_lload hx hb dX0_wholeAmount_64 (lv_at hl 1 rfl) ?_
        exact W.lret (v := x1 >>> (x2.toInt64 &&& 63)) hx hb hr (fun t ht hW => ⟨x1 >>> (x2.toInt64 &&& 63), rfl, by rw [bf_wholeAmount, if_neg h1, if_neg h2, if_neg h3], ht⟩) (fun q h => absurd h List.not_mem_nil) dX0_wholeAmount_66
      · refine lv_iload_n hx hb dX0_wholeAmount_32 rfl (lv_at hl 3 rfl) ?_
        refine lv_if_ne (tgt := 40) hx hb dX0_wholeAmount_33 (by decide) (fun h5 => ?_) (fun h5 => ?_)
        · refine lv_iconst (v := 0) hx hb dX0_wholeAmount_40 (by decide) ?_
          refine lv_istore (nL := 8) (lv' := [(7, .int (0 : Int32)), (5, .long (x1 >>> (x2.toInt64 &&& 63))), (0, .long x1), (2, .int x2), (3, .int x3), (4, .int x4)]) hx hb dX0_wholeAmount_41 hl (by decide) rfl (fun ls hl => ?_)
          refine lv_iload hx hb dX0_wholeAmount_43 (lv_at hl 0 rfl) ?_
          refine lv_if_eq (tgt := 64) hx hb dX0_wholeAmount_45 (by decide) (fun h6 => ?_) (fun h6 => ?_)
          rotate_left
          · exact absurd (by decide) h6
          refine lv_lload hx hb dX0_wholeAmount_64 (lv_at hl 1 rfl) ?_
          exact W.lret (v := x1 >>> (x2.toInt64 &&& 63)) hx hb hr (fun t ht hW => ⟨x1 >>> (x2.toInt64 &&& 63), rfl, by rw [bf_wholeAmount, if_neg h1, if_neg h2, if_pos h3, if_neg h5], ht⟩) (fun q h => absurd h List.not_mem_nil) dX0_wholeAmount_66
        · refine lv_iconst (v := 1) hx hb dX0_wholeAmount_36 (by decide) ?_
          refine lv_goto (tgt := 41) hx hb dX0_wholeAmount_37 (by decide) ?_
          refine lv_istore (nL := 8) (lv' := [(7, .int (1 : Int32)), (5, .long (x1 >>> (x2.toInt64 &&& 63))), (0, .long x1), (2, .int x2), (3, .int x3), (4, .int x4)]) hx hb dX0_wholeAmount_41 hl (by decide) rfl (fun ls hl => ?_)
          refine lv_iload hx hb dX0_wholeAmount_43 (lv_at hl 0 rfl) ?_
          refine lv_if_eq (tgt := 64) hx hb dX0_wholeAmount_45 (by decide) (fun h7 => ?_) (fun h7 => ?_)
          · exact absurd h7 (by decide)
          refine lv_lload hx hb dX0_wholeAmount_48 (lv_at hl 1 rfl) ?_
          refine lv_iload_n hx hb dX0_wholeAmount_50 rfl (lv_at hl 3 rfl) ?_
          refine lv_lshl hx hb dX0_wholeAmount_51 rfl ?_
          refine lv_lload_n hx hb dX0_wholeAmount_52 rfl (lv_at hl 2 rfl) ?_
          refine bw_lc_eq (tgt := 64) hx hb dX0_wholeAmount_53 dX0_wholeAmount_54 (by decide) (fun h8 => ?_) (fun h8 => ?_)
          · refine lv_lload hx hb dX0_wholeAmount_64 (lv_at hl 1 rfl) ?_
            exact W.lret (v := x1 >>> (x2.toInt64 &&& 63)) hx hb hr (fun t ht hW => ⟨x1 >>> (x2.toInt64 &&& 63), rfl, by rw [bf_wholeAmount, if_neg h1, if_neg h2, if_pos h3, if_pos h5, if_pos h8], ht⟩) (fun q h => absurd h List.not_mem_nil) dX0_wholeAmount_66
          · refine lv_lload hx hb dX0_wholeAmount_57 (lv_at hl 1 rfl) ?_
            refine lv_lconst (v := 1) hx hb dX0_wholeAmount_59 (by decide) ?_
            refine lv_ladd hx hb dX0_wholeAmount_60 ?_
            refine lv_goto (tgt := 66) hx hb dX0_wholeAmount_61 (by decide) ?_
            exact W.lret (v := (x1 >>> (x2.toInt64 &&& 63)) + (1 : Int64)) hx hb hr (fun t ht hW => ⟨(x1 >>> (x2.toInt64 &&& 63)) + (1 : Int64), rfl, by rw [bf_wholeAmount, if_neg h1, if_neg h2, if_pos h3, if_pos h5, if_neg h8], ht⟩) (fun q h => absurd h List.not_mem_nil) dX0_wholeAmount_66
    · refine lv_iload_n hx hb dX0_wholeAmount_22 rfl (lv_at hl 3 rfl) ?_
      refine lv_if_ne (tgt := 36) hx hb dX0_wholeAmount_23 (by decide) (fun h9 => ?_) (fun h9 => ?_)
      · refine lv_iconst (v := 1) hx hb dX0_wholeAmount_36 (by decide) ?_
        refine lv_goto (tgt := 41) hx hb dX0_wholeAmount_37 (by decide) ?_
        refine lv_istore (nL := 8) (lv' := [(7, .int (1 : Int32)), (5, .long (x1 >>> (x2.toInt64 &&& 63))), (0, .long x1), (2, .int x2), (3, .int x3), (4, .int x4)]) hx hb dX0_wholeAmount_41 hl (by decide) rfl (fun ls hl => ?_)
        refine lv_iload hx hb dX0_wholeAmount_43 (lv_at hl 0 rfl) ?_
        refine lv_if_eq (tgt := 64) hx hb dX0_wholeAmount_45 (by decide) (fun h10 => ?_) (fun h10 => ?_)
        · exact absurd h10 (by decide)
        refine lv_lload hx hb dX0_wholeAmount_48 (lv_at hl 1 rfl) ?_
        refine lv_iload_n hx hb dX0_wholeAmount_50 rfl (lv_at hl 3 rfl) ?_
        refine lv_lshl hx hb dX0_wholeAmount_51 rfl ?_
        refine lv_lload_n hx hb dX0_wholeAmount_52 rfl (lv_at hl 2 rfl) ?_
        refine bw_lc_eq (tgt := 64) hx hb dX0_wholeAmount_53 dX0_wholeAmount_54 (by decide) (fun h11 => ?_) (fun h11 => ?_)
        · refine lv_lload hx hb dX0_wholeAmount_64 (lv_at hl 1 rfl) ?_
          exact W.lret (v := x1 >>> (x2.toInt64 &&& 63)) hx hb hr (fun t ht hW => ⟨x1 >>> (x2.toInt64 &&& 63), rfl, by rw [bf_wholeAmount, if_neg h1, if_pos h2, if_neg h9, if_pos h11], ht⟩) (fun q h => absurd h List.not_mem_nil) dX0_wholeAmount_66
        · refine lv_lload hx hb dX0_wholeAmount_57 (lv_at hl 1 rfl) ?_
          refine lv_lconst (v := 1) hx hb dX0_wholeAmount_59 (by decide) ?_
          refine lv_ladd hx hb dX0_wholeAmount_60 ?_
          refine lv_goto (tgt := 66) hx hb dX0_wholeAmount_61 (by decide) ?_
          exact W.lret (v := (x1 >>> (x2.toInt64 &&& 63)) + (1 : Int64)) hx hb hr (fun t ht hW => ⟨(x1 >>> (x2.toInt64 &&& 63)) + (1 : Int64), rfl, by rw [bf_wholeAmount, if_neg h1, if_pos h2, if_neg h9, if_neg h11], ht⟩) (fun q h => absurd h List.not_mem_nil) dX0_wholeAmount_66
      · refine lv_iload hx hb dX0_wholeAmount_26 (lv_at hl 4 rfl) ?_
        refine lv_iconst (v := 2) hx hb dX0_wholeAmount_28 (by decide) ?_
        refine lv_icmp_ne (tgt := 40) hx hb dX0_wholeAmount_29 (by decide) (fun h12 => ?_) (fun h12 => ?_)
        · refine lv_iconst (v := 0) hx hb dX0_wholeAmount_40 (by decide) ?_
          refine lv_istore (nL := 8) (lv' := [(7, .int (0 : Int32)), (5, .long (x1 >>> (x2.toInt64 &&& 63))), (0, .long x1), (2, .int x2), (3, .int x3), (4, .int x4)]) hx hb dX0_wholeAmount_41 hl (by decide) rfl (fun ls hl => ?_)
          refine lv_iload hx hb dX0_wholeAmount_43 (lv_at hl 0 rfl) ?_
          refine lv_if_eq (tgt := 64) hx hb dX0_wholeAmount_45 (by decide) (fun h13 => ?_) (fun h13 => ?_)
          rotate_left
          · exact absurd (by decide) h13
          refine lv_lload hx hb dX0_wholeAmount_64 (lv_at hl 1 rfl) ?_
          exact W.lret (v := x1 >>> (x2.toInt64 &&& 63)) hx hb hr (fun t ht hW => ⟨x1 >>> (x2.toInt64 &&& 63), rfl, by rw [bf_wholeAmount, if_neg h1, if_pos h2, if_pos h9, if_neg h12], ht⟩) (fun q h => absurd h List.not_mem_nil) dX0_wholeAmount_66
        · refine lv_iload_n hx hb dX0_wholeAmount_32 rfl (lv_at hl 3 rfl) ?_
          refine lv_if_ne (tgt := 40) hx hb dX0_wholeAmount_33 (by decide) (fun h14 => ?_) (fun h14 => ?_)
          · exact absurd h9 h14
          refine lv_iconst (v := 1) hx hb dX0_wholeAmount_36 (by decide) ?_
          refine lv_goto (tgt := 41) hx hb dX0_wholeAmount_37 (by decide) ?_
          refine lv_istore (nL := 8) (lv' := [(7, .int (1 : Int32)), (5, .long (x1 >>> (x2.toInt64 &&& 63))), (0, .long x1), (2, .int x2), (3, .int x3), (4, .int x4)]) hx hb dX0_wholeAmount_41 hl (by decide) rfl (fun ls hl => ?_)
          refine lv_iload hx hb dX0_wholeAmount_43 (lv_at hl 0 rfl) ?_
          refine lv_if_eq (tgt := 64) hx hb dX0_wholeAmount_45 (by decide) (fun h15 => ?_) (fun h15 => ?_)
          · exact absurd h15 (by decide)
          refine lv_lload hx hb dX0_wholeAmount_48 (lv_at hl 1 rfl) ?_
          refine lv_iload_n hx hb dX0_wholeAmount_50 rfl (lv_at hl 3 rfl) ?_
          refine lv_lshl hx hb dX0_wholeAmount_51 rfl ?_
          refine lv_lload_n hx hb dX0_wholeAmount_52 rfl (lv_at hl 2 rfl) ?_
          refine bw_lc_eq (tgt := 64) hx hb dX0_wholeAmount_53 dX0_wholeAmount_54 (by decide) (fun h16 => ?_) (fun h16 => ?_)
          · refine lv_lload hx hb dX0_wholeAmount_64 (lv_at hl 1 rfl) ?_
            exact W.lret (v := x1 >>> (x2.toInt64 &&& 63)) hx hb hr (fun t ht hW => ⟨x1 >>> (x2.toInt64 &&& 63), rfl, by rw [bf_wholeAmount, if_neg h1, if_pos h2, if_pos h9, if_pos h12, if_pos h16], ht⟩) (fun q h => absurd h List.not_mem_nil) dX0_wholeAmount_66
          · refine lv_lload hx hb dX0_wholeAmount_57 (lv_at hl 1 rfl) ?_
            refine lv_lconst (v := 1) hx hb dX0_wholeAmount_59 (by decide) ?_
            refine lv_ladd hx hb dX0_wholeAmount_60 ?_
            refine lv_goto (tgt := 66) hx hb dX0_wholeAmount_61 (by decide) ?_
            exact W.lret (v := (x1 >>> (x2.toInt64 &&& 63)) + (1 : Int64)) hx hb hr (fun t ht hW => ⟨(x1 >>> (x2.toInt64 &&& 63)) + (1 : Int64), rfl, by rw [bf_wholeAmount, if_neg h1, if_pos h2, if_pos h9, if_pos h12, if_neg h16], ht⟩) (fun q h => absurd h List.not_mem_nil) dX0_wholeAmount_66
  · refine lv_lload_n hx hb dX0_wholeAmount_5 rfl (lv_at hl 0 rfl) ?_
    refine lv_iload_n hx hb dX0_wholeAmount_6 rfl (lv_at hl 1 rfl) ?_
    refine bw_csl (rest := []) ⟨hx, hb, hml, hown, hts⟩ (bc_nearestShifted l x1 x2) (va_cwS 2 hts gX0_wholeAmount_X0_nearestShifted rfl rfl rfl (by decide +kernel) ⟨Nat.le_of_ble_eq_true rfl, Nat.le_of_ble_eq_true rfl⟩) rfl hl.1 rfl (Nat.le_of_ble_eq_true rfl) dX0_wholeAmount_7 (Nat.zero_le _) (Nat.zero_le _) ?_
    exact W.lret (v := bf_nearestShifted x1 x2) hx hb hr (fun t ht hW => ⟨bf_nearestShifted x1 x2, rfl, by rw [bf_wholeAmount, if_pos h1], ht⟩) (fun q h => absurd h List.not_mem_nil) dX0_wholeAmount_10
set_option maxHeartbeats 4000000 in
set_option maxRecDepth 100000 in
theorem bc_place (l : Launch) (x1 : Int64) : Met l yX0_place wsX0_place ({ frames := 0, cells := 0, slots := 0, locals := 0 }) (va_Pc [.long x1] (fun _ => True)) (vp_Sl (fun r => r = bf_place x1)) 0 0 (fun _ => False) := by
  refine Met.ofW (cc := cX0_place) (maxL := 2) (ret := (some .long)) (by decide) rfl ?_
  intro p e s m args below meth c s₁ B hml hv
  obtain ⟨rfl, -⟩ := hv
  have hx := B.exec
  have hb := B.bytes
  have hr := B.returns
  have hts := atoms_spec (ws := wsX0_place) B.pre
  have hown : s.vm.findClass RX0 = some m.cls := findClass_of_methodNamed B.named
  have hlocks := B.notSynchronized
  have hl := lv_entry ([.long x1]) (n := 2) (Nat.le_of_ble_eq_true rfl)
  rw [lg_entry_eq]
  generalize (lg_sl ([.long x1]) ++ List.replicate (2 - (lg_sl ([.long x1])).length) Slot.unset).toArray = ls at hl ⊢
  have hl : lv_has ls 2 [(0, .long x1)] := hl
  refine lv_lload_n hx hb dX0_place_0 rfl (lv_at hl 0 rfl) ?_
  refine lv_lconst (v := 0) hx hb dX0_place_1 (by decide) ?_
  refine bw_lc_ge (tgt := 15) hx hb dX0_place_2 dX0_place_3 (by decide) (fun h1 => ?_) (fun h1 => ?_)
  · refine lv_lload_n hx hb dX0_place_15 rfl (lv_at hl 0 rfl) ?_
    exact W.lret (v := x1) hx hb hr (fun t ht hW => ⟨x1, rfl, by rw [bf_place, if_pos h1], ht⟩) (fun q h => absurd h List.not_mem_nil) dX0_place_16
  · refine lv_lload_n hx hb dX0_place_6 rfl (lv_at hl 0 rfl) ?_
    refine lv_ldc2 hx hb hown (hts (.constantLong RX0 65 9223372036854775807) (by decide +kernel)) dX0_place_7 ?_
    refine lv_land hx hb dX0_place_10 ?_
    refine lv_lneg hx hb dX0_place_11 ?_
    refine lv_goto (tgt := 16) hx hb dX0_place_12 (by decide) ?_
    exact W.lret (v := -(x1 &&& (9223372036854775807 : Int64))) hx hb hr (fun t ht hW => ⟨-(x1 &&& (9223372036854775807 : Int64)), rfl, by rw [bf_place, if_neg h1], ht⟩) (fun q h => absurd h List.not_mem_nil) dX0_place_16
set_option maxHeartbeats 4000000 in
set_option maxRecDepth 100000 in
theorem bc_nextTowards (l : Launch) (x1 : Int64) (x2 : Int64) : Met l yX0_nextTowards wsX0_nextTowards ({ frames := 1, cells := 0, slots := 0, locals := 21 }) (va_Pc [.long x1, .long x2] (fun _ => True)) (vp_Sl (fun r => r = bf_nextTowards x1 x2)) 0 0 (fun _ => False) := by
  refine Met.ofW (cc := cX0_nextTowards) (maxL := 6) (ret := (some .long)) (by decide) rfl ?_
  intro p e s m args below meth c s₁ B hml hv
  obtain ⟨rfl, -⟩ := hv
  have hx := B.exec
  have hb := B.bytes
  have hr := B.returns
  have hts := atoms_spec (ws := wsX0_nextTowards) B.pre
  have hown : s.vm.findClass RX0 = some m.cls := findClass_of_methodNamed B.named
  have hlocks := B.notSynchronized
  have hl := lv_entry ([.long x1, .long x2]) (n := 6) (Nat.le_of_ble_eq_true rfl)
  rw [lg_entry_eq]
  generalize (lg_sl ([.long x1, .long x2]) ++ List.replicate (6 - (lg_sl ([.long x1, .long x2])).length) Slot.unset).toArray = ls at hl ⊢
  have hl : lv_has ls 6 [(0, .long x1), (2, .long x2)] := hl
  refine lv_lload_n hx hb dX0_nextTowards_0 rfl (lv_at hl 0 rfl) ?_
  refine bw_csi (rest := []) ⟨hx, hb, hml, hown, hts⟩ (bc_isNan l x1) (va_cwS 1 hts gX0_nextTowards_X0_isNan rfl rfl rfl (by decide +kernel) ⟨Nat.le_of_ble_eq_true rfl, Nat.le_of_ble_eq_true rfl⟩) rfl hl.1 rfl (Nat.le_of_ble_eq_true rfl) dX0_nextTowards_1 (Nat.zero_le _) (Nat.zero_le _) ?_
  refine lv_if_ne (tgt := 14) hx hb dX0_nextTowards_4 (by decide) (fun h1 => ?_) (fun h1 => ?_)
  · refine lv_ldc2 hx hb hown (hts (.constantLong RX0 101 9221120237041090560) (by decide +kernel)) dX0_nextTowards_14 ?_
    exact W.lret (v := (9221120237041090560 : Int64)) hx hb hr (fun t ht hW => ⟨(9221120237041090560 : Int64), rfl, by rw [bf_nextTowards, if_neg h1], ht⟩) (fun q h => absurd h List.not_mem_nil) dX0_nextTowards_17
  · refine lv_lload_n hx hb dX0_nextTowards_7 rfl (lv_at hl 1 rfl) ?_
    refine bw_csi (rest := []) ⟨hx, hb, hml, hown, hts⟩ (bc_isNan l x2) (va_cwS 1 hts gX0_nextTowards_X0_isNan rfl rfl rfl (by decide +kernel) ⟨Nat.le_of_ble_eq_true rfl, Nat.le_of_ble_eq_true rfl⟩) rfl hl.1 rfl (Nat.le_of_ble_eq_true rfl) dX0_nextTowards_8 (Nat.zero_le _) (Nat.zero_le _) ?_
    refine lv_if_eq (tgt := 18) hx hb dX0_nextTowards_11 (by decide) (fun h2 => ?_) (fun h2 => ?_)
    · refine lv_lload_n hx hb dX0_nextTowards_18 rfl (lv_at hl 0 rfl) ?_
      refine bw_csl (rest := []) ⟨hx, hb, hml, hown, hts⟩ (bc_place l x1) (va_cwS 1 hts gX0_nextTowards_X0_place rfl rfl rfl (by decide +kernel) ⟨Nat.le_of_ble_eq_true rfl, Nat.le_of_ble_eq_true rfl⟩) rfl hl.1 rfl (Nat.le_of_ble_eq_true rfl) dX0_nextTowards_19 (Nat.zero_le _) (Nat.zero_le _) ?_
      refine lv_lload_n hx hb dX0_nextTowards_22 rfl (lv_at hl 1 rfl) ?_
      refine bw_csl (rest := [.long (bf_place x1)]) ⟨hx, hb, hml, hown, hts⟩ (bc_place l x2) (va_cwS 1 hts gX0_nextTowards_X0_place rfl rfl rfl (by decide +kernel) ⟨Nat.le_of_ble_eq_true rfl, Nat.le_of_ble_eq_true rfl⟩) rfl hl.1 rfl (Nat.le_of_ble_eq_true rfl) dX0_nextTowards_23 (Nat.zero_le _) (Nat.zero_le _) ?_
      refine bw_lc_ne (tgt := 32) hx hb dX0_nextTowards_26 dX0_nextTowards_27 (by decide) (fun h3 => ?_) (fun h3 => ?_)
      · refine lv_lload_n hx hb dX0_nextTowards_32 rfl (lv_at hl 0 rfl) ?_
        refine bw_csl (rest := []) ⟨hx, hb, hml, hown, hts⟩ (bc_place l x1) (va_cwS 1 hts gX0_nextTowards_X0_place rfl rfl rfl (by decide +kernel) ⟨Nat.le_of_ble_eq_true rfl, Nat.le_of_ble_eq_true rfl⟩) rfl hl.1 rfl (Nat.le_of_ble_eq_true rfl) dX0_nextTowards_33 (Nat.zero_le _) (Nat.zero_le _) ?_
        refine lv_lload_n hx hb dX0_nextTowards_36 rfl (lv_at hl 1 rfl) ?_
        refine bw_csl (rest := [.long (bf_place x1)]) ⟨hx, hb, hml, hown, hts⟩ (bc_place l x2) (va_cwS 1 hts gX0_nextTowards_X0_place rfl rfl rfl (by decide +kernel) ⟨Nat.le_of_ble_eq_true rfl, Nat.le_of_ble_eq_true rfl⟩) rfl hl.1 rfl (Nat.le_of_ble_eq_true rfl) dX0_nextTowards_37 (Nat.zero_le _) (Nat.zero_le _) ?_
        refine bw_lc_ge (tgt := 53) hx hb dX0_nextTowards_40 dX0_nextTowards_41 (by decide) (fun h4 => ?_) (fun h4 => ?_)
        · refine lv_lload_n hx hb dX0_nextTowards_53 rfl (lv_at hl 0 rfl) ?_
          refine bw_csl (rest := []) ⟨hx, hb, hml, hown, hts⟩ (bc_place l x1) (va_cwS 1 hts gX0_nextTowards_X0_place rfl rfl rfl (by decide +kernel) ⟨Nat.le_of_ble_eq_true rfl, Nat.le_of_ble_eq_true rfl⟩) rfl hl.1 rfl (Nat.le_of_ble_eq_true rfl) dX0_nextTowards_54 (Nat.zero_le _) (Nat.zero_le _) ?_
          refine lv_lconst (v := 1) hx hb dX0_nextTowards_57 (by decide) ?_
          refine lv_lsub hx hb dX0_nextTowards_58 ?_
          refine lv_lstore (nL := 6) (lv' := [(4, .long ((bf_place x1) - (1 : Int64))), (0, .long x1), (2, .long x2)]) hx hb dX0_nextTowards_59 hl (by decide) rfl (fun ls hl => ?_)
          refine lv_lload hx hb dX0_nextTowards_61 (lv_at hl 0 rfl) ?_
          refine lv_lconst (v := 0) hx hb dX0_nextTowards_63 (by decide) ?_
          refine bw_lc_ne (tgt := 73) hx hb dX0_nextTowards_64 dX0_nextTowards_65 (by decide) (fun h5 => ?_) (fun h5 => ?_)
          · refine lv_lload hx hb dX0_nextTowards_73 (lv_at hl 0 rfl) ?_
            refine lv_lconst (v := 0) hx hb dX0_nextTowards_75 (by decide) ?_
            refine bw_lc_ge (tgt := 90) hx hb dX0_nextTowards_76 dX0_nextTowards_77 (by decide) (fun h6 => ?_) (fun h6 => ?_)
            · refine lv_lload hx hb dX0_nextTowards_90 (lv_at hl 0 rfl) ?_
              exact W.lret (v := (bf_place x1) - (1 : Int64)) hx hb hr (fun t ht hW => ⟨(bf_place x1) - (1 : Int64), rfl, by rw [bf_nextTowards, if_pos h1, if_pos h2, if_neg h3, if_pos h4, if_neg h5, if_pos h6], ht⟩) (fun q h => absurd h List.not_mem_nil) dX0_nextTowards_92
            · refine lv_ldc2 hx hb hown (hts (.constantLong RX0 69 (-9223372036854775808)) (by decide +kernel)) dX0_nextTowards_80 ?_
              refine lv_lload hx hb dX0_nextTowards_83 (lv_at hl 0 rfl) ?_
              refine lv_lneg hx hb dX0_nextTowards_85 ?_
              refine lv_lor hx hb dX0_nextTowards_86 ?_
              refine lv_goto (tgt := 92) hx hb dX0_nextTowards_87 (by decide) ?_
              exact W.lret (v := (-9223372036854775808 : Int64) ||| (-((bf_place x1) - (1 : Int64)))) hx hb hr (fun t ht hW => ⟨(-9223372036854775808 : Int64) ||| (-((bf_place x1) - (1 : Int64))), rfl, by rw [bf_nextTowards, if_pos h1, if_pos h2, if_neg h3, if_pos h4, if_neg h5, if_neg h6], ht⟩) (fun q h => absurd h List.not_mem_nil) dX0_nextTowards_92
          · refine lv_lload_n hx hb dX0_nextTowards_68 rfl (lv_at hl 1 rfl) ?_
            refine bw_csl (rest := []) ⟨hx, hb, hml, hown, hts⟩ (bc_signOf l x1) (va_cwS 1 hts gX0_nextTowards_X0_signOf rfl rfl rfl (by decide +kernel) ⟨Nat.le_of_ble_eq_true rfl, Nat.le_of_ble_eq_true rfl⟩) rfl hl.1 rfl (Nat.le_of_ble_eq_true rfl) dX0_nextTowards_69 (Nat.zero_le _) (Nat.zero_le _) ?_
            exact W.lret (v := bf_signOf x1) hx hb hr (fun t ht hW => ⟨bf_signOf x1, rfl, by rw [bf_nextTowards, if_pos h1, if_pos h2, if_neg h3, if_pos h4, if_pos h5], ht⟩) (fun q h => absurd h List.not_mem_nil) dX0_nextTowards_72
        · refine lv_lload_n hx hb dX0_nextTowards_44 rfl (lv_at hl 0 rfl) ?_
          refine bw_csl (rest := []) ⟨hx, hb, hml, hown, hts⟩ (bc_place l x1) (va_cwS 1 hts gX0_nextTowards_X0_place rfl rfl rfl (by decide +kernel) ⟨Nat.le_of_ble_eq_true rfl, Nat.le_of_ble_eq_true rfl⟩) rfl hl.1 rfl (Nat.le_of_ble_eq_true rfl) dX0_nextTowards_45 (Nat.zero_le _) (Nat.zero_le _) ?_
          refine lv_lconst (v := 1) hx hb dX0_nextTowards_48 (by decide) ?_
          refine lv_ladd hx hb dX0_nextTowards_49 ?_
          refine lv_goto (tgt := 59) hx hb dX0_nextTowards_50 (by decide) ?_
          refine lv_lstore (nL := 6) (lv' := [(4, .long ((bf_place x1) + (1 : Int64))), (0, .long x1), (2, .long x2)]) hx hb dX0_nextTowards_59 hl (by decide) rfl (fun ls hl => ?_)
          refine lv_lload hx hb dX0_nextTowards_61 (lv_at hl 0 rfl) ?_
          refine lv_lconst (v := 0) hx hb dX0_nextTowards_63 (by decide) ?_
          refine bw_lc_ne (tgt := 73) hx hb dX0_nextTowards_64 dX0_nextTowards_65 (by decide) (fun h7 => ?_) (fun h7 => ?_)
          · refine lv_lload hx hb dX0_nextTowards_73 (lv_at hl 0 rfl) ?_
            refine lv_lconst (v := 0) hx hb dX0_nextTowards_75 (by decide) ?_
            refine bw_lc_ge (tgt := 90) hx hb dX0_nextTowards_76 dX0_nextTowards_77 (by decide) (fun h8 => ?_) (fun h8 => ?_)
            · refine lv_lload hx hb dX0_nextTowards_90 (lv_at hl 0 rfl) ?_
              exact W.lret (v := (bf_place x1) + (1 : Int64)) hx hb hr (fun t ht hW => ⟨(bf_place x1) + (1 : Int64), rfl, by rw [bf_nextTowards, if_pos h1, if_pos h2, if_neg h3, if_neg h4, if_neg h7, if_pos h8], ht⟩) (fun q h => absurd h List.not_mem_nil) dX0_nextTowards_92
            · refine lv_ldc2 hx hb hown (hts (.constantLong RX0 69 (-9223372036854775808)) (by decide +kernel)) dX0_nextTowards_80 ?_
              refine lv_lload hx hb dX0_nextTowards_83 (lv_at hl 0 rfl) ?_
              refine lv_lneg hx hb dX0_nextTowards_85 ?_
              refine lv_lor hx hb dX0_nextTowards_86 ?_
              refine lv_goto (tgt := 92) hx hb dX0_nextTowards_87 (by decide) ?_
              exact W.lret (v := (-9223372036854775808 : Int64) ||| (-((bf_place x1) + (1 : Int64)))) hx hb hr (fun t ht hW => ⟨(-9223372036854775808 : Int64) ||| (-((bf_place x1) + (1 : Int64))), rfl, by rw [bf_nextTowards, if_pos h1, if_pos h2, if_neg h3, if_neg h4, if_neg h7, if_neg h8], ht⟩) (fun q h => absurd h List.not_mem_nil) dX0_nextTowards_92
          · refine lv_lload_n hx hb dX0_nextTowards_68 rfl (lv_at hl 1 rfl) ?_
            refine bw_csl (rest := []) ⟨hx, hb, hml, hown, hts⟩ (bc_signOf l x1) (va_cwS 1 hts gX0_nextTowards_X0_signOf rfl rfl rfl (by decide +kernel) ⟨Nat.le_of_ble_eq_true rfl, Nat.le_of_ble_eq_true rfl⟩) rfl hl.1 rfl (Nat.le_of_ble_eq_true rfl) dX0_nextTowards_69 (Nat.zero_le _) (Nat.zero_le _) ?_
            exact W.lret (v := bf_signOf x1) hx hb hr (fun t ht hW => ⟨bf_signOf x1, rfl, by rw [bf_nextTowards, if_pos h1, if_pos h2, if_neg h3, if_neg h4, if_pos h7], ht⟩) (fun q h => absurd h List.not_mem_nil) dX0_nextTowards_72
      · refine lv_lload_n hx hb dX0_nextTowards_30 rfl (lv_at hl 0 rfl) ?_
        exact W.lret (v := x1) hx hb hr (fun t ht hW => ⟨x1, rfl, by rw [bf_nextTowards, if_pos h1, if_pos h2, if_pos h3], ht⟩) (fun q h => absurd h List.not_mem_nil) dX0_nextTowards_31
    · refine lv_ldc2 hx hb hown (hts (.constantLong RX0 101 9221120237041090560) (by decide +kernel)) dX0_nextTowards_14 ?_
      exact W.lret (v := (9221120237041090560 : Int64)) hx hb hr (fun t ht hW => ⟨(9221120237041090560 : Int64), rfl, by rw [bf_nextTowards, if_pos h1, if_neg h2], ht⟩) (fun q h => absurd h List.not_mem_nil) dX0_nextTowards_17
end
section
/-! walks: the class, methods over the object -/
set_option maxHeartbeats 4000000 in
set_option maxRecDepth 100000 in
theorem bc_raise (l : Launch) (dC : Nat → ClassId) (dI : Nat → Nat → Nat) (h0 a0 : Nat) (sz : Nat) (f1 : Int32) (f2 : Int32) (x1 : Int32) : Met l yX0_raise wsX0_raise ({ frames := 0, cells := 0, slots := 0, locals := 0 }) (va_Pc [.ref h0, .int x1] (bw_I1 (dC, dI) vwCl sz h0 (.inr (0, [.ref a0, .int f1, .int f2])))) (va_Qv (fun (u : Int32 × Int32) => u = bf_raise f1 f2 x1) (fun u t => bw_O1 (dC, dI) vwCl (va_A [(h0, .inr (0, [.ref a0, .int f1, .int f2]))] sz) h0 (.inr (0, [.ref a0, .int u.1, .int u.2])) t) (va_A [(h0, .inr (0, [.ref a0, .int f1, .int f2]))] sz)) 0 0 (va_A [(h0, .inr (0, [.ref a0, .int f1, .int f2]))] sz) := by
  refine Met.ofW (cc := cX0_raise) (maxL := 2) (ret := none) (by decide) rfl ?_
  intro p e s m args below meth c s₁ B hml hv
  obtain ⟨rfl, hsz, hP, hK, hD0⟩ := hv
  have hx := B.exec
  have hb := B.bytes
  have hr := B.returns
  have hts := atoms_spec (ws := wsX0_raise) B.pre
  have hown : s.vm.findClass RX0 = some m.cls := findClass_of_methodNamed B.named
  have hlocks := B.notSynchronized
  subst hsz
  have hD := hD0.self (sz := s.heap.size)
  generalize hAe : va_A [(h0, .inr (0, [.ref a0, .int f1, .int f2]))] s.heap.size = A at hD ⊢
  have hA : ∀ q : Nat, s.heap.size ≤ q → A q := fun q h => by rw [← hAe]; exact Or.inr h
  have hS : va_S A s.heap s.heap [] := va_S.rf
  have hP : va_P (dC, dI) vwCl [(h0, .inr (0, [.ref a0, .int f1, .int f2]))] s.heap := hP
  have hin0 : ∀ w ∈ u_ws RX0 TX0 3, w ∈ wsX0_raise := by decide +kernel
  have hl := lv_entry ([.ref h0, .int x1]) (n := 2) (Nat.le_of_ble_eq_true rfl)
  rw [lg_entry_eq]
  generalize (lg_sl ([.ref h0, .int x1]) ++ List.replicate (2 - (lg_sl ([.ref h0, .int x1])).length) Slot.unset).toArray = ls at hl ⊢
  have hl : lv_has ls 2 [(0, .ref h0), (1, .int x1)] := hl
  refine lv_aload_n hx hb dX0_raise_0 rfl (lv_at hl 0 rfl) ?_
  refine lv_dup hx hb dX0_raise_1 rfl ?_
  refine va_get (D := (dC, dI)) (ci := 0) (v := .int f1) (C := RX0) (T := TX0) (N := 3) hx hb hts hin0 hown hK hP 0 rfl rfl 1 (by decide) (hts (.fieldLink RX0 13 "BinaryFunctions" "raised" "I") (by decide +kernel)) (fun _ h9 => h9) rfl dX0_raise_2 ?_
  refine lv_iload_n hx hb dX0_raise_5 rfl (lv_at hl 1 rfl) ?_
  refine lv_ior hx hb dX0_raise_6 ?_
  refine va_put (D := (dC, dI)) (ci := 0) (v := .int (f1 ||| x1)) (ty := .int) (C := RX0) (T := TX0) (N := 3) hx hb hts hin0 tyX0 tyX0_ok nmX0 hown hK hP hD hS 0 rfl rfl 1 (by decide) (hts (.fieldLink RX0 13 "BinaryFunctions" "raised" "I") (by decide +kernel)) (fun _ h9 => h9) rfl (by decide +kernel) rfl rfl (Nat.le_of_ble_eq_true rfl) dX0_raise_7 (fun H locs hP hD hS => ?_)
  have hP : va_P (dC, dI) vwCl [(h0, .inr (0, [.ref a0, .int (f1 ||| x1), .int f2]))] H := hP
  have hD : va_D A [(h0, .inr (0, [.ref a0, .int (f1 ||| x1), .int f2]))] := hD
  exact W.vret hx hb hr (fun t ht hW => ⟨⟨(f1 ||| x1, f2), rfl, by rw [bf_raise], by rw [ht]; exact hP, va_K.moved hW.alike hK, hD⟩, hS.F ht⟩) hS.2.2 dX0_raise_10
set_option maxHeartbeats 4000000 in
set_option maxRecDepth 100000 in
theorem bl_cr_w {p : Program} {l : Launch} {e : Env} {R : Room} {s : State} {m : MethodId} {args : Array Value} {below : List Frame} {meth : Method} {c : Code} {H : Heap} {locs : List Loc} {Q : State → Prop} (hx : p.tables.exec = Jvm.exec) (hb : c.code = cX0_rootOfPositive) (hml : c.maxLocals = 14) (hown : s.vm.findClass RX0 = some m.cls) (hts : ∀ w ∈ wsX0_rootOfPositive, w.before args s = true) {h0 : Nat} {c1 : Int64} {c3 : Int32} {c4 : Int32} : ∀ (n : Nat) (v5 : Int64) (v7 : Int64) (v9 : Int64) (v11 : Int32) (ls : Array Slot) (r : Int64 × Int64 × Int64 × Int32), lv_has ls 14 [(0, .ref h0), (1, .long c1), (3, .int c3), (4, .int c4), (5, .long v5), (7, .long v7), (9, .long v9), (11, .int v11)] → bl_it (bl_cr_st) n (v5, v7, v9, v11) = some r → (∀ (ls : Array Slot), lv_has ls 14 [(0, .ref h0), (1, .long c1), (3, .int c3), (4, .int c4), (5, .long r.1), (7, .long r.2.1), (9, .long r.2.2.1), (11, .int r.2.2.2)] → W p l e R s m args below meth c H locs 0 0 Q (F0 m 103 ls [])) → W p l e R s m args below meth c H locs 0 0 Q (F0 m 37 ls []) := by
  intro n
  induction n with
  | zero => intro v5 v7 v9 v11 ls r hl h; cases h
  | succ n ih =>
    intro v5 v7 v9 v11 ls r hl h kk
    refine lv_iload hx hb dX0_rootOfPositive_37 (lv_at hl 7 rfl) ?_
    refine lv_bipush (v := 54) hx hb dX0_rootOfPositive_39 (by decide) ?_
    refine lv_icmp_ge (tgt := 103) hx hb dX0_rootOfPositive_41 (by decide) (fun h1 => ?_) (fun h1 => ?_)
    · obtain rfl := bl_stepR (s := (v5, v7, v9, v11)) (show bl_cr_b v5 v7 v9 v11 = .inr (v5, v7, v9, v11) by rw [bl_cr_b, if_pos h1]) h
      exact kk ls (lv_sub hl [0, 1, 2, 3, 4, 5, 6, 7] rfl)
    · refine lv_lload hx hb dX0_rootOfPositive_44 (lv_at hl 6 rfl) ?_
      refine lv_iconst (v := 2) hx hb dX0_rootOfPositive_46 (by decide) ?_
      refine lv_lshl hx hb dX0_rootOfPositive_47 rfl ?_
      refine lv_lload hx hb dX0_rootOfPositive_48 (lv_at hl 4 rfl) ?_
      refine lv_bipush (v := 62) hx hb dX0_rootOfPositive_50 (by decide) ?_
      refine lv_lushr hx hb dX0_rootOfPositive_52 rfl ?_
      refine lv_ladd hx hb dX0_rootOfPositive_53 ?_
      refine lv_lstore (nL := 14) (lv' := [(9, .long ((v9 <<< ((2 : Int32).toInt64 &&& 63)) + ((v5.toUInt64 >>> ((62 : Int32).toInt64.toUInt64 &&& Int64.toUInt64 63)).toInt64))), (0, .ref h0), (1, .long c1), (3, .int c3), (4, .int c4), (5, .long v5), (7, .long v7), (11, .int v11)]) hx hb dX0_rootOfPositive_54 hl (by decide) rfl (fun ls hl => ?_)
      refine lv_lload hx hb dX0_rootOfPositive_56 (lv_at hl 5 rfl) ?_
      refine lv_iconst (v := 2) hx hb dX0_rootOfPositive_58 (by decide) ?_
      refine lv_lshl hx hb dX0_rootOfPositive_59 rfl ?_
      refine lv_lstore (nL := 14) (lv' := [(5, .long (v5 <<< ((2 : Int32).toInt64 &&& 63))), (9, .long ((v9 <<< ((2 : Int32).toInt64 &&& 63)) + ((v5.toUInt64 >>> ((62 : Int32).toInt64.toUInt64 &&& Int64.toUInt64 63)).toInt64))), (0, .ref h0), (1, .long c1), (3, .int c3), (4, .int c4), (7, .long v7), (11, .int v11)]) hx hb dX0_rootOfPositive_60 hl (by decide) rfl (fun ls hl => ?_)
      refine lv_lload hx hb dX0_rootOfPositive_62 (lv_at hl 6 rfl) ?_
      refine lv_iconst (v := 2) hx hb dX0_rootOfPositive_64 (by decide) ?_
      refine lv_lshl hx hb dX0_rootOfPositive_65 rfl ?_
      refine lv_lconst (v := 1) hx hb dX0_rootOfPositive_66 (by decide) ?_
      refine lv_ladd hx hb dX0_rootOfPositive_67 ?_
      refine lv_lstore (nL := 14) (lv' := [(12, .long ((v7 <<< ((2 : Int32).toInt64 &&& 63)) + (1 : Int64))), (5, .long (v5 <<< ((2 : Int32).toInt64 &&& 63))), (9, .long ((v9 <<< ((2 : Int32).toInt64 &&& 63)) + ((v5.toUInt64 >>> ((62 : Int32).toInt64.toUInt64 &&& Int64.toUInt64 63)).toInt64))), (0, .ref h0), (1, .long c1), (3, .int c3), (4, .int c4), (7, .long v7), (11, .int v11)]) hx hb dX0_rootOfPositive_68 hl (by decide) rfl (fun ls hl => ?_)
      refine lv_lload hx hb dX0_rootOfPositive_70 (lv_at hl 7 rfl) ?_
      refine lv_iconst (v := 1) hx hb dX0_rootOfPositive_72 (by decide) ?_
      refine lv_lshl hx hb dX0_rootOfPositive_73 rfl ?_
      refine lv_lstore (nL := 14) (lv' := [(7, .long (v7 <<< ((1 : Int32).toInt64 &&& 63))), (12, .long ((v7 <<< ((2 : Int32).toInt64 &&& 63)) + (1 : Int64))), (5, .long (v5 <<< ((2 : Int32).toInt64 &&& 63))), (9, .long ((v9 <<< ((2 : Int32).toInt64 &&& 63)) + ((v5.toUInt64 >>> ((62 : Int32).toInt64.toUInt64 &&& Int64.toUInt64 63)).toInt64))), (0, .ref h0), (1, .long c1), (3, .int c3), (4, .int c4), (11, .int v11)]) hx hb dX0_rootOfPositive_74 hl (by decide) rfl (fun ls hl => ?_)
      refine lv_lload hx hb dX0_rootOfPositive_76 (lv_at hl 3 rfl) ?_
      refine lv_lload hx hb dX0_rootOfPositive_78 (lv_at hl 1 rfl) ?_
      refine bw_lc_lt (tgt := 97) hx hb dX0_rootOfPositive_80 dX0_rootOfPositive_81 (by decide) (fun h2 => ?_) (fun h2 => ?_)
      · refine lv_iinc (nL := 14) (k := 8) (v := v11 + (1 : Int32)) (lv' := [(11, .int (v11 + (1 : Int32))), (7, .long (v7 <<< ((1 : Int32).toInt64 &&& 63))), (12, .long ((v7 <<< ((2 : Int32).toInt64 &&& 63)) + (1 : Int64))), (5, .long (v5 <<< ((2 : Int32).toInt64 &&& 63))), (9, .long ((v9 <<< ((2 : Int32).toInt64 &&& 63)) + ((v5.toUInt64 >>> ((62 : Int32).toInt64.toUInt64 &&& Int64.toUInt64 63)).toInt64))), (0, .ref h0), (1, .long c1), (3, .int c3), (4, .int c4)]) hx hb dX0_rootOfPositive_97 hl rfl rfl (by decide) rfl (fun ls hl => ?_)
        refine lv_goto (tgt := 37) hx hb dX0_rootOfPositive_100 (by decide) ?_
        exact ih (v5 <<< ((2 : Int32).toInt64 &&& 63)) (v7 <<< ((1 : Int32).toInt64 &&& 63)) ((v9 <<< ((2 : Int32).toInt64 &&& 63)) + ((v5.toUInt64 >>> ((62 : Int32).toInt64.toUInt64 &&& Int64.toUInt64 63)).toInt64)) (v11 + (1 : Int32)) ls r (lv_sub hl [5, 6, 7, 8, 3, 1, 4, 0] rfl) (bl_stepL (s := (v5, v7, v9, v11)) (show bl_cr_b v5 v7 v9 v11 = .inl (v5 <<< ((2 : Int32).toInt64 &&& 63), v7 <<< ((1 : Int32).toInt64 &&& 63), (v9 <<< ((2 : Int32).toInt64 &&& 63)) + ((v5.toUInt64 >>> ((62 : Int32).toInt64.toUInt64 &&& Int64.toUInt64 63)).toInt64), v11 + (1 : Int32)) by rw [bl_cr_b, if_neg h1, if_pos h2]) h) kk
      · refine lv_lload hx hb dX0_rootOfPositive_84 (lv_at hl 3 rfl) ?_
        refine lv_lload hx hb dX0_rootOfPositive_86 (lv_at hl 1 rfl) ?_
        refine lv_lsub hx hb dX0_rootOfPositive_88 ?_
        refine lv_lstore (nL := 14) (lv' := [(9, .long (((v9 <<< ((2 : Int32).toInt64 &&& 63)) + ((v5.toUInt64 >>> ((62 : Int32).toInt64.toUInt64 &&& Int64.toUInt64 63)).toInt64)) - ((v7 <<< ((2 : Int32).toInt64 &&& 63)) + (1 : Int64)))), (7, .long (v7 <<< ((1 : Int32).toInt64 &&& 63))), (12, .long ((v7 <<< ((2 : Int32).toInt64 &&& 63)) + (1 : Int64))), (5, .long (v5 <<< ((2 : Int32).toInt64 &&& 63))), (0, .ref h0), (1, .long c1), (3, .int c3), (4, .int c4), (11, .int v11)]) hx hb dX0_rootOfPositive_89 hl (by decide) rfl (fun ls hl => ?_)
        refine lv_lload hx hb dX0_rootOfPositive_91 (lv_at hl 1 rfl) ?_
        refine lv_lconst (v := 1) hx hb dX0_rootOfPositive_93 (by decide) ?_
        refine lv_ladd hx hb dX0_rootOfPositive_94 ?_
        refine lv_lstore (nL := 14) (lv' := [(7, .long ((v7 <<< ((1 : Int32).toInt64 &&& 63)) + (1 : Int64))), (9, .long (((v9 <<< ((2 : Int32).toInt64 &&& 63)) + ((v5.toUInt64 >>> ((62 : Int32).toInt64.toUInt64 &&& Int64.toUInt64 63)).toInt64)) - ((v7 <<< ((2 : Int32).toInt64 &&& 63)) + (1 : Int64)))), (12, .long ((v7 <<< ((2 : Int32).toInt64 &&& 63)) + (1 : Int64))), (5, .long (v5 <<< ((2 : Int32).toInt64 &&& 63))), (0, .ref h0), (1, .long c1), (3, .int c3), (4, .int c4), (11, .int v11)]) hx hb dX0_rootOfPositive_95 hl (by decide) rfl (fun ls hl => ?_)
        refine lv_iinc (nL := 14) (k := 8) (v := v11 + (1 : Int32)) (lv' := [(11, .int (v11 + (1 : Int32))), (7, .long ((v7 <<< ((1 : Int32).toInt64 &&& 63)) + (1 : Int64))), (9, .long (((v9 <<< ((2 : Int32).toInt64 &&& 63)) + ((v5.toUInt64 >>> ((62 : Int32).toInt64.toUInt64 &&& Int64.toUInt64 63)).toInt64)) - ((v7 <<< ((2 : Int32).toInt64 &&& 63)) + (1 : Int64)))), (12, .long ((v7 <<< ((2 : Int32).toInt64 &&& 63)) + (1 : Int64))), (5, .long (v5 <<< ((2 : Int32).toInt64 &&& 63))), (0, .ref h0), (1, .long c1), (3, .int c3), (4, .int c4)]) hx hb dX0_rootOfPositive_97 hl rfl rfl (by decide) rfl (fun ls hl => ?_)
        refine lv_goto (tgt := 37) hx hb dX0_rootOfPositive_100 (by decide) ?_
        exact ih (v5 <<< ((2 : Int32).toInt64 &&& 63)) ((v7 <<< ((1 : Int32).toInt64 &&& 63)) + (1 : Int64)) (((v9 <<< ((2 : Int32).toInt64 &&& 63)) + ((v5.toUInt64 >>> ((62 : Int32).toInt64.toUInt64 &&& Int64.toUInt64 63)).toInt64)) - ((v7 <<< ((2 : Int32).toInt64 &&& 63)) + (1 : Int64))) (v11 + (1 : Int32)) ls r (lv_sub hl [5, 6, 7, 8, 4, 1, 2, 0] rfl) (bl_stepL (s := (v5, v7, v9, v11)) (show bl_cr_b v5 v7 v9 v11 = .inl (v5 <<< ((2 : Int32).toInt64 &&& 63), (v7 <<< ((1 : Int32).toInt64 &&& 63)) + (1 : Int64), ((v9 <<< ((2 : Int32).toInt64 &&& 63)) + ((v5.toUInt64 >>> ((62 : Int32).toInt64.toUInt64 &&& Int64.toUInt64 63)).toInt64)) - ((v7 <<< ((2 : Int32).toInt64 &&& 63)) + (1 : Int64)), v11 + (1 : Int32)) by rw [bl_cr_b, if_neg h1, if_neg h2]) h) kk
set_option maxHeartbeats 4000000 in
set_option maxRecDepth 100000 in
theorem bc_rootOfPositive (l : Launch) (dC : Nat → ClassId) (dI : Nat → Nat → Nat) (h0 a0 : Nat) (sz : Nat) (f1 : Int32) (f2 : Int32) (x1 : Int64) : Met l yX0_rootOfPositive wsX0_rootOfPositive ({ frames := 4, cells := 0, slots := 0, locals := 86 }) (va_Pc [.ref h0, .long x1] (bw_I1 (dC, dI) vwCl sz h0 (.inr (0, [.ref a0, .int f1, .int f2])))) (va_Ql (fun (r : Int64) (u : Int32 × Int32) => (r, u) = bf_rootOfPositive f1 f2 x1) (fun u t => bw_O1 (dC, dI) vwCl (va_A [(h0, .inr (0, [.ref a0, .int f1, .int f2]))] sz) h0 (.inr (0, [.ref a0, .int u.1, .int u.2])) t) (va_A [(h0, .inr (0, [.ref a0, .int f1, .int f2]))] sz)) 0 0 (va_A [(h0, .inr (0, [.ref a0, .int f1, .int f2]))] sz) := by
  refine Met.ofW (cc := cX0_rootOfPositive) (maxL := 14) (ret := (some .long)) (by decide) rfl ?_
  intro p e s m args below meth c s₁ B hml hv
  obtain ⟨rfl, hsz, hP, hK, hD0⟩ := hv
  have hx := B.exec
  have hb := B.bytes
  have hr := B.returns
  have hts := atoms_spec (ws := wsX0_rootOfPositive) B.pre
  have hown : s.vm.findClass RX0 = some m.cls := findClass_of_methodNamed B.named
  have hlocks := B.notSynchronized
  subst hsz
  have hD := hD0.self (sz := s.heap.size)
  generalize hAe : va_A [(h0, .inr (0, [.ref a0, .int f1, .int f2]))] s.heap.size = A at hD ⊢
  have hA : ∀ q : Nat, s.heap.size ≤ q → A q := fun q h => by rw [← hAe]; exact Or.inr h
  have hS : va_S A s.heap s.heap [] := va_S.rf
  have hP : va_P (dC, dI) vwCl [(h0, .inr (0, [.ref a0, .int f1, .int f2]))] s.heap := hP
  have hl := lv_entry ([.ref h0, .long x1]) (n := 14) (Nat.le_of_ble_eq_true rfl)
  rw [lg_entry_eq]
  generalize (lg_sl ([.ref h0, .long x1]) ++ List.replicate (14 - (lg_sl ([.ref h0, .long x1])).length) Slot.unset).toArray = ls at hl ⊢
  have hl : lv_has ls 14 [(0, .ref h0), (1, .long x1)] := hl
  refine lv_lload_n hx hb dX0_rootOfPositive_0 rfl (lv_at hl 1 rfl) ?_
  refine bw_csi (rest := []) ⟨hx, hb, hml, hown, hts⟩ (bc_fullPower l x1) (va_cwS 1 hts gX0_rootOfPositive_X0_fullPower rfl rfl rfl (by decide +kernel) ⟨Nat.le_of_ble_eq_true rfl, Nat.le_of_ble_eq_true rfl⟩) rfl hl.1 rfl (Nat.le_of_ble_eq_true rfl) dX0_rootOfPositive_1 (Nat.zero_le _) (Nat.zero_le _) ?_
  refine lv_iconst (v := 1) hx hb dX0_rootOfPositive_4 (by decide) ?_
  refine lv_iand hx hb dX0_rootOfPositive_5 ?_
  refine lv_istore_n (nL := 14) (lv' := [(3, .int ((bf_fullPower x1) &&& (1 : Int32))), (0, .ref h0), (1, .long x1)]) hx hb dX0_rootOfPositive_6 rfl hl (by decide) rfl (fun ls hl => ?_)
  refine lv_lload_n hx hb dX0_rootOfPositive_7 rfl (lv_at hl 2 rfl) ?_
  refine bw_csi (rest := []) ⟨hx, hb, hml, hown, hts⟩ (bc_fullPower l x1) (va_cwS 1 hts gX0_rootOfPositive_X0_fullPower rfl rfl rfl (by decide +kernel) ⟨Nat.le_of_ble_eq_true rfl, Nat.le_of_ble_eq_true rfl⟩) rfl hl.1 rfl (Nat.le_of_ble_eq_true rfl) dX0_rootOfPositive_8 (Nat.zero_le _) (Nat.zero_le _) ?_
  refine lv_iload_n hx hb dX0_rootOfPositive_11 rfl (lv_at hl 0 rfl) ?_
  refine lv_isub hx hb dX0_rootOfPositive_12 ?_
  refine lv_iconst (v := 2) hx hb dX0_rootOfPositive_13 (by decide) ?_
  refine lv_idiv hx hb dX0_rootOfPositive_14 (by decide) ?_
  refine lv_istore (nL := 14) (lv' := [(4, .int (((bf_fullPower x1) - ((bf_fullPower x1) &&& (1 : Int32))) / (2 : Int32))), (3, .int ((bf_fullPower x1) &&& (1 : Int32))), (0, .ref h0), (1, .long x1)]) hx hb dX0_rootOfPositive_15 hl (by decide) rfl (fun ls hl => ?_)
  refine lv_lload_n hx hb dX0_rootOfPositive_17 rfl (lv_at hl 3 rfl) ?_
  refine bw_csl (rest := []) ⟨hx, hb, hml, hown, hts⟩ (bc_fullSignificand l x1) (va_cwS 1 hts gX0_rootOfPositive_X0_fullSignificand rfl rfl rfl (by decide +kernel) ⟨Nat.le_of_ble_eq_true rfl, Nat.le_of_ble_eq_true rfl⟩) rfl hl.1 rfl (Nat.le_of_ble_eq_true rfl) dX0_rootOfPositive_18 (Nat.zero_le _) (Nat.zero_le _) ?_
  refine lv_bipush (v := 10) hx hb dX0_rootOfPositive_21 (by decide) ?_
  refine lv_iload_n hx hb dX0_rootOfPositive_23 rfl (lv_at hl 1 rfl) ?_
  refine lv_iadd hx hb dX0_rootOfPositive_24 ?_
  refine lv_lshl hx hb dX0_rootOfPositive_25 rfl ?_
  refine lv_lstore (nL := 14) (lv' := [(5, .long ((bf_fullSignificand x1) <<< (((10 : Int32) + ((bf_fullPower x1) &&& (1 : Int32))).toInt64 &&& 63))), (4, .int (((bf_fullPower x1) - ((bf_fullPower x1) &&& (1 : Int32))) / (2 : Int32))), (3, .int ((bf_fullPower x1) &&& (1 : Int32))), (0, .ref h0), (1, .long x1)]) hx hb dX0_rootOfPositive_26 hl (by decide) rfl (fun ls hl => ?_)
  refine lv_lconst (v := 0) hx hb dX0_rootOfPositive_28 (by decide) ?_
  refine lv_lstore (nL := 14) (lv' := [(7, .long (0 : Int64)), (5, .long ((bf_fullSignificand x1) <<< (((10 : Int32) + ((bf_fullPower x1) &&& (1 : Int32))).toInt64 &&& 63))), (4, .int (((bf_fullPower x1) - ((bf_fullPower x1) &&& (1 : Int32))) / (2 : Int32))), (3, .int ((bf_fullPower x1) &&& (1 : Int32))), (0, .ref h0), (1, .long x1)]) hx hb dX0_rootOfPositive_29 hl (by decide) rfl (fun ls hl => ?_)
  refine lv_lconst (v := 0) hx hb dX0_rootOfPositive_31 (by decide) ?_
  refine lv_lstore (nL := 14) (lv' := [(9, .long (0 : Int64)), (7, .long (0 : Int64)), (5, .long ((bf_fullSignificand x1) <<< (((10 : Int32) + ((bf_fullPower x1) &&& (1 : Int32))).toInt64 &&& 63))), (4, .int (((bf_fullPower x1) - ((bf_fullPower x1) &&& (1 : Int32))) / (2 : Int32))), (3, .int ((bf_fullPower x1) &&& (1 : Int32))), (0, .ref h0), (1, .long x1)]) hx hb dX0_rootOfPositive_32 hl (by decide) rfl (fun ls hl => ?_)
  refine lv_iconst (v := 0) hx hb dX0_rootOfPositive_34 (by decide) ?_
  refine lv_istore (nL := 14) (lv' := [(11, .int (0 : Int32)), (9, .long (0 : Int64)), (7, .long (0 : Int64)), (5, .long ((bf_fullSignificand x1) <<< (((10 : Int32) + ((bf_fullPower x1) &&& (1 : Int32))).toInt64 &&& 63))), (4, .int (((bf_fullPower x1) - ((bf_fullPower x1) &&& (1 : Int32))) / (2 : Int32))), (3, .int ((bf_fullPower x1) &&& (1 : Int32))), (0, .ref h0), (1, .long x1)]) hx hb dX0_rootOfPositive_35 hl (by decide) rfl (fun ls hl => ?_)
  obtain ⟨n3, e3⟩ := bl_cr_ok ((bf_fullSignificand x1) <<< (((10 : Int32) + ((bf_fullPower x1) &&& (1 : Int32))).toInt64 &&& 63), (0 : Int64), (0 : Int64), (0 : Int32))
  refine bl_cr_w hx hb hml hown hts n3 ((bf_fullSignificand x1) <<< (((10 : Int32) + ((bf_fullPower x1) &&& (1 : Int32))).toInt64 &&& 63)) (0 : Int64) (0 : Int64) (0 : Int32) ls _ (lv_sub hl [6, 7, 5, 4, 3, 2, 1, 0] rfl) e3 (fun ls hl => ?_)
  have hl : lv_has ls 14 [(0, .ref h0), (1, .long x1), (3, .int ((bf_fullPower x1) &&& (1 : Int32))), (4, .int (((bf_fullPower x1) - ((bf_fullPower x1) &&& (1 : Int32))) / (2 : Int32))), (5, .long ((bl_cr ((bf_fullSignificand x1) <<< (((10 : Int32) + ((bf_fullPower x1) &&& (1 : Int32))).toInt64 &&& 63), (0 : Int64), (0 : Int64), (0 : Int32))).1)), (7, .long ((bl_cr ((bf_fullSignificand x1) <<< (((10 : Int32) + ((bf_fullPower x1) &&& (1 : Int32))).toInt64 &&& 63), (0 : Int64), (0 : Int64), (0 : Int32))).2.1)), (9, .long ((bl_cr ((bf_fullSignificand x1) <<< (((10 : Int32) + ((bf_fullPower x1) &&& (1 : Int32))).toInt64 &&& 63), (0 : Int64), (0 : Int64), (0 : Int32))).2.2.1)), (11, .int ((bl_cr ((bf_fullSignificand x1) <<< (((10 : Int32) + ((bf_fullPower x1) &&& (1 : Int32))).toInt64 &&& 63), (0 : Int64), (0 : Int64), (0 : Int32))).2.2.2))] := hl
  obtain ⟨r4, e4⟩ : ∃ r, (bl_cr ((bf_fullSignificand x1) <<< (((10 : Int32) + ((bf_fullPower x1) &&& (1 : Int32))).toInt64 &&& 63), (0 : Int64), (0 : Int64), (0 : Int32))) = r := ⟨_, rfl⟩
  rw [e4] at hl
  refine lv_lload hx hb dX0_rootOfPositive_103 (lv_at hl 5 rfl) ?_
  refine lv_lconst (v := 1) hx hb dX0_rootOfPositive_105 (by decide) ?_
  refine lv_land hx hb dX0_rootOfPositive_106 ?_
  refine lv_lstore (nL := 14) (lv' := [(11, .long (r4.2.1 &&& (1 : Int64))), (0, .ref h0), (1, .long x1), (3, .int ((bf_fullPower x1) &&& (1 : Int32))), (4, .int (((bf_fullPower x1) - ((bf_fullPower x1) &&& (1 : Int32))) / (2 : Int32))), (5, .long r4.1), (7, .long r4.2.1), (9, .long r4.2.2.1)]) hx hb dX0_rootOfPositive_107 hl (by decide) rfl (fun ls hl => ?_)
  refine lv_lload hx hb dX0_rootOfPositive_109 (lv_at hl 0 rfl) ?_
  refine lv_lconst (v := 0) hx hb dX0_rootOfPositive_111 (by decide) ?_
  refine bw_lc_ne (tgt := 123) hx hb dX0_rootOfPositive_112 dX0_rootOfPositive_113 (by decide) (fun h5 => ?_) (fun h5 => ?_)
  · refine lv_aload_n hx hb dX0_rootOfPositive_123 rfl (lv_at hl 1 rfl) ?_
    refine lv_iconst (v := 2) hx hb dX0_rootOfPositive_124 (by decide) ?_
    refine bw_vv1 (rest := []) 0 ⟨hx, hb, hml, hown, hts⟩ (bc_raise l dC dI h0 a0 s.heap.size f1 f2 (2 : Int32)) (cwV 1 hts gX0_rootOfPositive_X0_raise rfl rfl rfl (by decide +kernel) ⟨Nat.le_of_ble_eq_true rfl, Nat.le_of_ble_eq_true rfl⟩) hK hP hD hS hA rfl rfl rfl hl.1 rfl (Nat.le_of_ble_eq_true rfl) dX0_rootOfPositive_125 (Nat.zero_le _) (Nat.zero_le _) (fun H locs hP hD hS => ?_)
    have hP : va_P (dC, dI) vwCl [(h0, .inr (0, [.ref a0, .int ((bf_raise f1 f2 (2 : Int32)).1), .int ((bf_raise f1 f2 (2 : Int32)).2)]))] H := hP
    have hD : va_D A [(h0, .inr (0, [.ref a0, .int ((bf_raise f1 f2 (2 : Int32)).1), .int ((bf_raise f1 f2 (2 : Int32)).2)]))] := hD
    obtain ⟨r6, e6⟩ : ∃ r, (bf_raise f1 f2 (2 : Int32)) = r := ⟨_, rfl⟩
    rw [e6] at hP hD
    refine lv_lload hx hb dX0_rootOfPositive_128 (lv_at hl 6 rfl) ?_
    refine lv_iconst (v := 1) hx hb dX0_rootOfPositive_130 (by decide) ?_
    refine lv_lshr hx hb dX0_rootOfPositive_131 rfl ?_
    refine lv_lload hx hb dX0_rootOfPositive_132 (lv_at hl 0 rfl) ?_
    refine lv_ladd hx hb dX0_rootOfPositive_134 ?_
    refine lv_iload hx hb dX0_rootOfPositive_135 (lv_at hl 4 rfl) ?_
    refine lv_bipush (v := 26) hx hb dX0_rootOfPositive_137 (by decide) ?_
    refine lv_isub hx hb dX0_rootOfPositive_139 ?_
    refine bw_csl (rest := []) ⟨hx, hb, hml, hown, hts⟩ (bc_pattern l ((r4.2.1 >>> ((1 : Int32).toInt64 &&& 63)) + (r4.2.1 &&& (1 : Int64))) ((((bf_fullPower x1) - ((bf_fullPower x1) &&& (1 : Int32))) / (2 : Int32)) - (26 : Int32))) (va_cwS 2 hts gX0_rootOfPositive_X0_pattern rfl rfl rfl (by decide +kernel) ⟨Nat.le_of_ble_eq_true rfl, Nat.le_of_ble_eq_true rfl⟩) rfl hl.1 rfl (Nat.le_of_ble_eq_true rfl) dX0_rootOfPositive_140 (Nat.zero_le _) (Nat.zero_le _) ?_
    exact W.lret (v := bf_pattern ((r4.2.1 >>> ((1 : Int32).toInt64 &&& 63)) + (r4.2.1 &&& (1 : Int64))) ((((bf_fullPower x1) - ((bf_fullPower x1) &&& (1 : Int32))) / (2 : Int32)) - (26 : Int32))) hx hb hr (fun t ht hW => ⟨⟨bf_pattern ((r4.2.1 >>> ((1 : Int32).toInt64 &&& 63)) + (r4.2.1 &&& (1 : Int64))) ((((bf_fullPower x1) - ((bf_fullPower x1) &&& (1 : Int32))) / (2 : Int32)) - (26 : Int32)), (r6.1, r6.2), rfl, by rw [bf_rootOfPositive, e4, bf_rootOfPositive_k1, if_neg h5, e6, bf_rootOfPositive_k2], by rw [ht]; exact hP, va_K.moved hW.alike hK, hD⟩, hS.F ht⟩) hS.2.2 dX0_rootOfPositive_143
  · refine lv_lload hx hb dX0_rootOfPositive_116 (lv_at hl 7 rfl) ?_
    refine lv_lconst (v := 0) hx hb dX0_rootOfPositive_118 (by decide) ?_
    refine bw_lc_eq (tgt := 128) hx hb dX0_rootOfPositive_119 dX0_rootOfPositive_120 (by decide) (fun h7 => ?_) (fun h7 => ?_)
    · refine lv_lload hx hb dX0_rootOfPositive_128 (lv_at hl 6 rfl) ?_
      refine lv_iconst (v := 1) hx hb dX0_rootOfPositive_130 (by decide) ?_
      refine lv_lshr hx hb dX0_rootOfPositive_131 rfl ?_
      refine lv_lload hx hb dX0_rootOfPositive_132 (lv_at hl 0 rfl) ?_
      refine lv_ladd hx hb dX0_rootOfPositive_134 ?_
      refine lv_iload hx hb dX0_rootOfPositive_135 (lv_at hl 4 rfl) ?_
      refine lv_bipush (v := 26) hx hb dX0_rootOfPositive_137 (by decide) ?_
      refine lv_isub hx hb dX0_rootOfPositive_139 ?_
      refine bw_csl (rest := []) ⟨hx, hb, hml, hown, hts⟩ (bc_pattern l ((r4.2.1 >>> ((1 : Int32).toInt64 &&& 63)) + (r4.2.1 &&& (1 : Int64))) ((((bf_fullPower x1) - ((bf_fullPower x1) &&& (1 : Int32))) / (2 : Int32)) - (26 : Int32))) (va_cwS 2 hts gX0_rootOfPositive_X0_pattern rfl rfl rfl (by decide +kernel) ⟨Nat.le_of_ble_eq_true rfl, Nat.le_of_ble_eq_true rfl⟩) rfl hl.1 rfl (Nat.le_of_ble_eq_true rfl) dX0_rootOfPositive_140 (Nat.zero_le _) (Nat.zero_le _) ?_
      exact W.lret (v := bf_pattern ((r4.2.1 >>> ((1 : Int32).toInt64 &&& 63)) + (r4.2.1 &&& (1 : Int64))) ((((bf_fullPower x1) - ((bf_fullPower x1) &&& (1 : Int32))) / (2 : Int32)) - (26 : Int32))) hx hb hr (fun t ht hW => ⟨⟨bf_pattern ((r4.2.1 >>> ((1 : Int32).toInt64 &&& 63)) + (r4.2.1 &&& (1 : Int64))) ((((bf_fullPower x1) - ((bf_fullPower x1) &&& (1 : Int32))) / (2 : Int32)) - (26 : Int32)), (f1, f2), rfl, by rw [bf_rootOfPositive, e4, bf_rootOfPositive_k1, if_pos h5, if_pos h7], by rw [ht]; exact hP, va_K.moved hW.alike hK, hD⟩, hS.F ht⟩) hS.2.2 dX0_rootOfPositive_143
    · refine lv_aload_n hx hb dX0_rootOfPositive_123 rfl (lv_at hl 1 rfl) ?_
      refine lv_iconst (v := 2) hx hb dX0_rootOfPositive_124 (by decide) ?_
      refine bw_vv1 (rest := []) 0 ⟨hx, hb, hml, hown, hts⟩ (bc_raise l dC dI h0 a0 s.heap.size f1 f2 (2 : Int32)) (cwV 1 hts gX0_rootOfPositive_X0_raise rfl rfl rfl (by decide +kernel) ⟨Nat.le_of_ble_eq_true rfl, Nat.le_of_ble_eq_true rfl⟩) hK hP hD hS hA rfl rfl rfl hl.1 rfl (Nat.le_of_ble_eq_true rfl) dX0_rootOfPositive_125 (Nat.zero_le _) (Nat.zero_le _) (fun H locs hP hD hS => ?_)
      have hP : va_P (dC, dI) vwCl [(h0, .inr (0, [.ref a0, .int ((bf_raise f1 f2 (2 : Int32)).1), .int ((bf_raise f1 f2 (2 : Int32)).2)]))] H := hP
      have hD : va_D A [(h0, .inr (0, [.ref a0, .int ((bf_raise f1 f2 (2 : Int32)).1), .int ((bf_raise f1 f2 (2 : Int32)).2)]))] := hD
      obtain ⟨r8, e8⟩ : ∃ r, (bf_raise f1 f2 (2 : Int32)) = r := ⟨_, rfl⟩
      rw [e8] at hP hD
      refine lv_lload hx hb dX0_rootOfPositive_128 (lv_at hl 6 rfl) ?_
      refine lv_iconst (v := 1) hx hb dX0_rootOfPositive_130 (by decide) ?_
      refine lv_lshr hx hb dX0_rootOfPositive_131 rfl ?_
      refine lv_lload hx hb dX0_rootOfPositive_132 (lv_at hl 0 rfl) ?_
      refine lv_ladd hx hb dX0_rootOfPositive_134 ?_
      refine lv_iload hx hb dX0_rootOfPositive_135 (lv_at hl 4 rfl) ?_
      refine lv_bipush (v := 26) hx hb dX0_rootOfPositive_137 (by decide) ?_
      refine lv_isub hx hb dX0_rootOfPositive_139 ?_
      refine bw_csl (rest := []) ⟨hx, hb, hml, hown, hts⟩ (bc_pattern l ((r4.2.1 >>> ((1 : Int32).toInt64 &&& 63)) + (r4.2.1 &&& (1 : Int64))) ((((bf_fullPower x1) - ((bf_fullPower x1) &&& (1 : Int32))) / (2 : Int32)) - (26 : Int32))) (va_cwS 2 hts gX0_rootOfPositive_X0_pattern rfl rfl rfl (by decide +kernel) ⟨Nat.le_of_ble_eq_true rfl, Nat.le_of_ble_eq_true rfl⟩) rfl hl.1 rfl (Nat.le_of_ble_eq_true rfl) dX0_rootOfPositive_140 (Nat.zero_le _) (Nat.zero_le _) ?_
      exact W.lret (v := bf_pattern ((r4.2.1 >>> ((1 : Int32).toInt64 &&& 63)) + (r4.2.1 &&& (1 : Int64))) ((((bf_fullPower x1) - ((bf_fullPower x1) &&& (1 : Int32))) / (2 : Int32)) - (26 : Int32))) hx hb hr (fun t ht hW => ⟨⟨bf_pattern ((r4.2.1 >>> ((1 : Int32).toInt64 &&& 63)) + (r4.2.1 &&& (1 : Int64))) ((((bf_fullPower x1) - ((bf_fullPower x1) &&& (1 : Int32))) / (2 : Int32)) - (26 : Int32)), (r8.1, r8.2), rfl, by rw [bf_rootOfPositive, e4, bf_rootOfPositive_k1, if_pos h5, if_neg h7, e8, bf_rootOfPositive_k3], by rw [ht]; exact hP, va_K.moved hW.alike hK, hD⟩, hS.F ht⟩) hS.2.2 dX0_rootOfPositive_143
set_option maxHeartbeats 4000000 in
set_option maxRecDepth 100000 in
theorem bc_squareRoot (l : Launch) (dC : Nat → ClassId) (dI : Nat → Nat → Nat) (h0 a0 : Nat) (sz : Nat) (f1 : Int32) (f2 : Int32) (x1 : Int64) : Met l yX0_squareRoot wsX0_squareRoot ({ frames := 5, cells := 0, slots := 0, locals := 119 }) (va_Pc [.ref h0, .long x1] (bw_I1 (dC, dI) vwCl sz h0 (.inr (0, [.ref a0, .int f1, .int f2])))) (va_Ql (fun (r : Int64) (u : Int32 × Int32) => (r, u) = bf_squareRoot f1 f2 x1) (fun u t => bw_O1 (dC, dI) vwCl (va_A [(h0, .inr (0, [.ref a0, .int f1, .int f2]))] sz) h0 (.inr (0, [.ref a0, .int u.1, .int u.2])) t) (va_A [(h0, .inr (0, [.ref a0, .int f1, .int f2]))] sz)) 0 0 (va_A [(h0, .inr (0, [.ref a0, .int f1, .int f2]))] sz) := by
  refine Met.ofW (cc := cX0_squareRoot) (maxL := 3) (ret := (some .long)) (by decide) rfl ?_
  intro p e s m args below meth c s₁ B hml hv
  obtain ⟨rfl, hsz, hP, hK, hD0⟩ := hv
  have hx := B.exec
  have hb := B.bytes
  have hr := B.returns
  have hts := atoms_spec (ws := wsX0_squareRoot) B.pre
  have hown : s.vm.findClass RX0 = some m.cls := findClass_of_methodNamed B.named
  have hlocks := B.notSynchronized
  subst hsz
  have hD := hD0.self (sz := s.heap.size)
  generalize hAe : va_A [(h0, .inr (0, [.ref a0, .int f1, .int f2]))] s.heap.size = A at hD ⊢
  have hA : ∀ q : Nat, s.heap.size ≤ q → A q := fun q h => by rw [← hAe]; exact Or.inr h
  have hS : va_S A s.heap s.heap [] := va_S.rf
  have hP : va_P (dC, dI) vwCl [(h0, .inr (0, [.ref a0, .int f1, .int f2]))] s.heap := hP
  have hl := lv_entry ([.ref h0, .long x1]) (n := 3) (Nat.le_of_ble_eq_true rfl)
  rw [lg_entry_eq]
  generalize (lg_sl ([.ref h0, .long x1]) ++ List.replicate (3 - (lg_sl ([.ref h0, .long x1])).length) Slot.unset).toArray = ls at hl ⊢
  have hl : lv_has ls 3 [(0, .ref h0), (1, .long x1)] := hl
  refine lv_lload_n hx hb dX0_squareRoot_0 rfl (lv_at hl 1 rfl) ?_
  refine bw_csi (rest := []) ⟨hx, hb, hml, hown, hts⟩ (bc_isNan l x1) (va_cwS 1 hts gX0_squareRoot_X0_isNan rfl rfl rfl (by decide +kernel) ⟨Nat.le_of_ble_eq_true rfl, Nat.le_of_ble_eq_true rfl⟩) rfl hl.1 rfl (Nat.le_of_ble_eq_true rfl) dX0_squareRoot_1 (Nat.zero_le _) (Nat.zero_le _) ?_
  refine lv_if_eq (tgt := 11) hx hb dX0_squareRoot_4 (by decide) (fun h1 => ?_) (fun h1 => ?_)
  · refine lv_lload_n hx hb dX0_squareRoot_11 rfl (lv_at hl 1 rfl) ?_
    refine bw_csi (rest := []) ⟨hx, hb, hml, hown, hts⟩ (bc_isZero l x1) (va_cwS 1 hts gX0_squareRoot_X0_isZero rfl rfl rfl (by decide +kernel) ⟨Nat.le_of_ble_eq_true rfl, Nat.le_of_ble_eq_true rfl⟩) rfl hl.1 rfl (Nat.le_of_ble_eq_true rfl) dX0_squareRoot_12 (Nat.zero_le _) (Nat.zero_le _) ?_
    refine lv_if_ne (tgt := 26) hx hb dX0_squareRoot_15 (by decide) (fun h2 => ?_) (fun h2 => ?_)
    · refine lv_lload_n hx hb dX0_squareRoot_26 rfl (lv_at hl 1 rfl) ?_
      exact W.lret (v := x1) hx hb hr (fun t ht hW => ⟨⟨x1, (f1, f2), rfl, by rw [bf_squareRoot, if_pos h1, if_neg h2], by rw [ht]; exact hP, va_K.moved hW.alike hK, hD⟩, hS.F ht⟩) hS.2.2 dX0_squareRoot_27
    · refine lv_lload_n hx hb dX0_squareRoot_18 rfl (lv_at hl 1 rfl) ?_
      refine lv_ldc2 hx hb hown (hts (.constantLong RX0 67 9218868437227405312) (by decide +kernel)) dX0_squareRoot_19 ?_
      refine bw_lc_ne (tgt := 28) hx hb dX0_squareRoot_22 dX0_squareRoot_23 (by decide) (fun h3 => ?_) (fun h3 => ?_)
      · refine lv_lload_n hx hb dX0_squareRoot_28 rfl (lv_at hl 1 rfl) ?_
        refine lv_lconst (v := 0) hx hb dX0_squareRoot_29 (by decide) ?_
        refine bw_lc_ge (tgt := 43) hx hb dX0_squareRoot_30 dX0_squareRoot_31 (by decide) (fun h4 => ?_) (fun h4 => ?_)
        · refine lv_aload_n hx hb dX0_squareRoot_43 rfl (lv_at hl 0 rfl) ?_
          refine lv_lload_n hx hb dX0_squareRoot_44 rfl (lv_at hl 1 rfl) ?_
          refine bw_vl1 (rest := []) 0 ⟨hx, hb, hml, hown, hts⟩ (bc_rootOfPositive l dC dI h0 a0 s.heap.size f1 f2 x1) (cwV 1 hts gX0_squareRoot_X0_rootOfPositive rfl rfl rfl (by decide +kernel) ⟨Nat.le_of_ble_eq_true rfl, Nat.le_of_ble_eq_true rfl⟩) hK hP hD hS hA rfl rfl rfl hl.1 rfl (Nat.le_of_ble_eq_true rfl) dX0_squareRoot_45 (Nat.zero_le _) (Nat.zero_le _) (fun H locs hP hD hS => ?_)
          have hP : va_P (dC, dI) vwCl [(h0, .inr (0, [.ref a0, .int ((bf_rootOfPositive f1 f2 x1).2.1), .int ((bf_rootOfPositive f1 f2 x1).2.2)]))] H := hP
          have hD : va_D A [(h0, .inr (0, [.ref a0, .int ((bf_rootOfPositive f1 f2 x1).2.1), .int ((bf_rootOfPositive f1 f2 x1).2.2)]))] := hD
          obtain ⟨r5, e5⟩ : ∃ r, (bf_rootOfPositive f1 f2 x1) = r := ⟨_, rfl⟩
          rw [e5] at hP hD ⊢
          exact W.lret (v := r5.1) hx hb hr (fun t ht hW => ⟨⟨r5.1, (r5.2.1, r5.2.2), rfl, by rw [bf_squareRoot, if_pos h1, if_pos h2, if_neg h3, if_pos h4, e5, bf_squareRoot_k1], by rw [ht]; exact hP, va_K.moved hW.alike hK, hD⟩, hS.F ht⟩) hS.2.2 dX0_squareRoot_48
        · refine lv_aload_n hx hb dX0_squareRoot_34 rfl (lv_at hl 0 rfl) ?_
          refine lv_iconst (v := 1) hx hb dX0_squareRoot_35 (by decide) ?_
          refine bw_vv1 (rest := []) 0 ⟨hx, hb, hml, hown, hts⟩ (bc_raise l dC dI h0 a0 s.heap.size f1 f2 (1 : Int32)) (cwV 1 hts gX0_squareRoot_X0_raise rfl rfl rfl (by decide +kernel) ⟨Nat.le_of_ble_eq_true rfl, Nat.le_of_ble_eq_true rfl⟩) hK hP hD hS hA rfl rfl rfl hl.1 rfl (Nat.le_of_ble_eq_true rfl) dX0_squareRoot_36 (Nat.zero_le _) (Nat.zero_le _) (fun H locs hP hD hS => ?_)
          have hP : va_P (dC, dI) vwCl [(h0, .inr (0, [.ref a0, .int ((bf_raise f1 f2 (1 : Int32)).1), .int ((bf_raise f1 f2 (1 : Int32)).2)]))] H := hP
          have hD : va_D A [(h0, .inr (0, [.ref a0, .int ((bf_raise f1 f2 (1 : Int32)).1), .int ((bf_raise f1 f2 (1 : Int32)).2)]))] := hD
          obtain ⟨r6, e6⟩ : ∃ r, (bf_raise f1 f2 (1 : Int32)) = r := ⟨_, rfl⟩
          rw [e6] at hP hD
          refine lv_ldc2 hx hb hown (hts (.constantLong RX0 101 9221120237041090560) (by decide +kernel)) dX0_squareRoot_39 ?_
          exact W.lret (v := (9221120237041090560 : Int64)) hx hb hr (fun t ht hW => ⟨⟨(9221120237041090560 : Int64), (r6.1, r6.2), rfl, by rw [bf_squareRoot, if_pos h1, if_pos h2, if_neg h3, if_neg h4, e6, bf_squareRoot_k2], by rw [ht]; exact hP, va_K.moved hW.alike hK, hD⟩, hS.F ht⟩) hS.2.2 dX0_squareRoot_42
      · refine lv_lload_n hx hb dX0_squareRoot_26 rfl (lv_at hl 1 rfl) ?_
        exact W.lret (v := x1) hx hb hr (fun t ht hW => ⟨⟨x1, (f1, f2), rfl, by rw [bf_squareRoot, if_pos h1, if_pos h2, if_pos h3], by rw [ht]; exact hP, va_K.moved hW.alike hK, hD⟩, hS.F ht⟩) hS.2.2 dX0_squareRoot_27
  · refine lv_ldc2 hx hb hown (hts (.constantLong RX0 101 9221120237041090560) (by decide +kernel)) dX0_squareRoot_7 ?_
    exact W.lret (v := (9221120237041090560 : Int64)) hx hb hr (fun t ht hW => ⟨⟨(9221120237041090560 : Int64), (f1, f2), rfl, by rw [bf_squareRoot, if_neg h1], by rw [ht]; exact hP, va_K.moved hW.alike hK, hD⟩, hS.F ht⟩) hS.2.2 dX0_squareRoot_10
set_option maxHeartbeats 4000000 in
set_option maxRecDepth 100000 in
theorem bc_madeWhole (l : Launch) (dC : Nat → ClassId) (dI : Nat → Nat → Nat) (h0 a0 : Nat) (sz : Nat) (f1 : Int32) (f2 : Int32) (x1 : Int64) (x2 : Int32) : Met l yX0_madeWhole wsX0_madeWhole ({ frames := 3, cells := 0, slots := 0, locals := 67 }) (va_Pc [.ref h0, .long x1, .int x2] (bw_I1 (dC, dI) vwCl sz h0 (.inr (0, [.ref a0, .int f1, .int f2])))) (va_Ql (fun (r : Int64) (u : Int32 × Int32) => (r, u) = bf_madeWhole f1 f2 x1 x2) (fun u t => bw_O1 (dC, dI) vwCl (va_A [(h0, .inr (0, [.ref a0, .int f1, .int f2]))] sz) h0 (.inr (0, [.ref a0, .int u.1, .int u.2])) t) (va_A [(h0, .inr (0, [.ref a0, .int f1, .int f2]))] sz)) 0 0 (va_A [(h0, .inr (0, [.ref a0, .int f1, .int f2]))] sz) := by
  refine Met.ofW (cc := cX0_madeWhole) (maxL := 7) (ret := (some .long)) (by decide) rfl ?_
  intro p e s m args below meth c s₁ B hml hv
  obtain ⟨rfl, hsz, hP, hK, hD0⟩ := hv
  have hx := B.exec
  have hb := B.bytes
  have hr := B.returns
  have hts := atoms_spec (ws := wsX0_madeWhole) B.pre
  have hown : s.vm.findClass RX0 = some m.cls := findClass_of_methodNamed B.named
  have hlocks := B.notSynchronized
  subst hsz
  have hD := hD0.self (sz := s.heap.size)
  generalize hAe : va_A [(h0, .inr (0, [.ref a0, .int f1, .int f2]))] s.heap.size = A at hD ⊢
  have hA : ∀ q : Nat, s.heap.size ≤ q → A q := fun q h => by rw [← hAe]; exact Or.inr h
  have hS : va_S A s.heap s.heap [] := va_S.rf
  have hP : va_P (dC, dI) vwCl [(h0, .inr (0, [.ref a0, .int f1, .int f2]))] s.heap := hP
  have hl := lv_entry ([.ref h0, .long x1, .int x2]) (n := 7) (Nat.le_of_ble_eq_true rfl)
  rw [lg_entry_eq]
  generalize (lg_sl ([.ref h0, .long x1, .int x2]) ++ List.replicate (7 - (lg_sl ([.ref h0, .long x1, .int x2])).length) Slot.unset).toArray = ls at hl ⊢
  have hl : lv_has ls 7 [(0, .ref h0), (1, .long x1), (3, .int x2)] := hl
  refine lv_lload_n hx hb dX0_madeWhole_0 rfl (lv_at hl 1 rfl) ?_
  refine bw_csi (rest := []) ⟨hx, hb, hml, hown, hts⟩ (bc_isNan l x1) (va_cwS 1 hts gX0_madeWhole_X0_isNan rfl rfl rfl (by decide +kernel) ⟨Nat.le_of_ble_eq_true rfl, Nat.le_of_ble_eq_true rfl⟩) rfl hl.1 rfl (Nat.le_of_ble_eq_true rfl) dX0_madeWhole_1 (Nat.zero_le _) (Nat.zero_le _) ?_
  refine lv_if_eq (tgt := 11) hx hb dX0_madeWhole_4 (by decide) (fun h1 => ?_) (fun h1 => ?_)
  · refine lv_lload_n hx hb dX0_madeWhole_11 rfl (lv_at hl 1 rfl) ?_
    refine bw_csi (rest := []) ⟨hx, hb, hml, hown, hts⟩ (bc_isZero l x1) (va_cwS 1 hts gX0_madeWhole_X0_isZero rfl rfl rfl (by decide +kernel) ⟨Nat.le_of_ble_eq_true rfl, Nat.le_of_ble_eq_true rfl⟩) rfl hl.1 rfl (Nat.le_of_ble_eq_true rfl) dX0_madeWhole_12 (Nat.zero_le _) (Nat.zero_le _) ?_
    refine lv_if_ne (tgt := 32) hx hb dX0_madeWhole_15 (by decide) (fun h2 => ?_) (fun h2 => ?_)
    · refine lv_lload_n hx hb dX0_madeWhole_32 rfl (lv_at hl 1 rfl) ?_
      exact W.lret (v := x1) hx hb hr (fun t ht hW => ⟨⟨x1, (f1, f2), rfl, by rw [bf_madeWhole, if_pos h1, if_neg h2], by rw [ht]; exact hP, va_K.moved hW.alike hK, hD⟩, hS.F ht⟩) hS.2.2 dX0_madeWhole_33
    · refine lv_lload_n hx hb dX0_madeWhole_18 rfl (lv_at hl 1 rfl) ?_
      refine bw_csi (rest := []) ⟨hx, hb, hml, hown, hts⟩ (bc_isInfinity l x1) (va_cwS 1 hts gX0_madeWhole_X0_isInfinity rfl rfl rfl (by decide +kernel) ⟨Nat.le_of_ble_eq_true rfl, Nat.le_of_ble_eq_true rfl⟩) rfl hl.1 rfl (Nat.le_of_ble_eq_true rfl) dX0_madeWhole_19 (Nat.zero_le _) (Nat.zero_le _) ?_
      refine lv_if_ne (tgt := 32) hx hb dX0_madeWhole_22 (by decide) (fun h3 => ?_) (fun h3 => ?_)
      · refine lv_lload_n hx hb dX0_madeWhole_32 rfl (lv_at hl 1 rfl) ?_
        exact W.lret (v := x1) hx hb hr (fun t ht hW => ⟨⟨x1, (f1, f2), rfl, by rw [bf_madeWhole, if_pos h1, if_pos h2, if_neg h3], by rw [ht]; exact hP, va_K.moved hW.alike hK, hD⟩, hS.F ht⟩) hS.2.2 dX0_madeWhole_33
      · refine lv_lload_n hx hb dX0_madeWhole_25 rfl (lv_at hl 1 rfl) ?_
        refine bw_csi (rest := []) ⟨hx, hb, hml, hown, hts⟩ (bc_power l x1) (va_cwS 1 hts gX0_madeWhole_X0_power rfl rfl rfl (by decide +kernel) ⟨Nat.le_of_ble_eq_true rfl, Nat.le_of_ble_eq_true rfl⟩) rfl hl.1 rfl (Nat.le_of_ble_eq_true rfl) dX0_madeWhole_26 (Nat.zero_le _) (Nat.zero_le _) ?_
        refine lv_if_lt (tgt := 34) hx hb dX0_madeWhole_29 (by decide) (fun h4 => ?_) (fun h4 => ?_)
        · refine lv_lload_n hx hb dX0_madeWhole_34 rfl (lv_at hl 1 rfl) ?_
          refine bw_csi (rest := []) ⟨hx, hb, hml, hown, hts⟩ (bc_power l x1) (va_cwS 1 hts gX0_madeWhole_X0_power rfl rfl rfl (by decide +kernel) ⟨Nat.le_of_ble_eq_true rfl, Nat.le_of_ble_eq_true rfl⟩) rfl hl.1 rfl (Nat.le_of_ble_eq_true rfl) dX0_madeWhole_35 (Nat.zero_le _) (Nat.zero_le _) ?_
          refine lv_ineg hx hb dX0_madeWhole_38 ?_
          refine lv_bipush (v := 60) hx hb dX0_madeWhole_39 (by decide) ?_
          refine va_mmin (rest := []) hx hb (hml.trans hl.1.symm) hown (hts (.methodLink RX0 98 Lib.Math.min.name) (by decide +kernel)) (hts (.static Lib.Math.min.name) (by decide +kernel)) (hts (.initialized "java/lang/Math") (by decide +kernel)) (hts (.code Lib.Math.min.name Lib.Math.min.code 2 (some .int)) (by decide +kernel)) (Nat.le_of_ble_eq_true rfl) (Nat.le_of_ble_eq_true rfl) (Nat.zero_le _) (Nat.zero_le _) dX0_madeWhole_41 ?_
          refine lv_istore (nL := 7) (lv' := [(4, .int (if (60 : Int32) < (-(bf_power x1)) then (60 : Int32) else (-(bf_power x1)))), (0, .ref h0), (1, .long x1), (3, .int x2)]) hx hb dX0_madeWhole_44 hl (by decide) rfl (fun ls hl => ?_)
          refine lv_lload_n hx hb dX0_madeWhole_46 rfl (lv_at hl 2 rfl) ?_
          refine bw_csl (rest := []) ⟨hx, hb, hml, hown, hts⟩ (bc_signOf l x1) (va_cwS 1 hts gX0_madeWhole_X0_signOf rfl rfl rfl (by decide +kernel) ⟨Nat.le_of_ble_eq_true rfl, Nat.le_of_ble_eq_true rfl⟩) rfl hl.1 rfl (Nat.le_of_ble_eq_true rfl) dX0_madeWhole_47 (Nat.zero_le _) (Nat.zero_le _) ?_
          refine lv_lload_n hx hb dX0_madeWhole_50 rfl (lv_at hl 2 rfl) ?_
          refine bw_csl (rest := [.long (bf_signOf x1)]) ⟨hx, hb, hml, hown, hts⟩ (bc_significand l x1) (va_cwS 1 hts gX0_madeWhole_X0_significand rfl rfl rfl (by decide +kernel) ⟨Nat.le_of_ble_eq_true rfl, Nat.le_of_ble_eq_true rfl⟩) rfl hl.1 rfl (Nat.le_of_ble_eq_true rfl) dX0_madeWhole_51 (Nat.zero_le _) (Nat.zero_le _) ?_
          refine lv_iload hx hb dX0_madeWhole_54 (lv_at hl 0 rfl) ?_
          refine lv_lload_n hx hb dX0_madeWhole_56 rfl (lv_at hl 2 rfl) ?_
          refine lv_lconst (v := 0) hx hb dX0_madeWhole_57 (by decide) ?_
          refine bw_lc_ge (tgt := 66) hx hb dX0_madeWhole_58 dX0_madeWhole_59 (by decide) (fun h5 => ?_) (fun h5 => ?_)
          · refine lv_iconst (v := 0) hx hb dX0_madeWhole_66 (by decide) ?_
            refine lv_iload_n hx hb dX0_madeWhole_67 rfl (lv_at hl 3 rfl) ?_
            refine bw_csl (rest := [.long (bf_signOf x1)]) ⟨hx, hb, hml, hown, hts⟩ (bc_wholeAmount l (bf_significand x1) (if (60 : Int32) < (-(bf_power x1)) then (60 : Int32) else (-(bf_power x1))) (0 : Int32) x2) (va_cwS 4 hts gX0_madeWhole_X0_wholeAmount rfl rfl rfl (by decide +kernel) ⟨Nat.le_of_ble_eq_true rfl, Nat.le_of_ble_eq_true rfl⟩) rfl hl.1 rfl (Nat.le_of_ble_eq_true rfl) dX0_madeWhole_68 (Nat.zero_le _) (Nat.zero_le _) ?_
            refine lv_iconst (v := 0) hx hb dX0_madeWhole_71 (by decide) ?_
            refine bw_csl (rest := [.long (bf_signOf x1)]) ⟨hx, hb, hml, hown, hts⟩ (bc_pattern l (bf_wholeAmount (bf_significand x1) (if (60 : Int32) < (-(bf_power x1)) then (60 : Int32) else (-(bf_power x1))) (0 : Int32) x2) (0 : Int32)) (va_cwS 2 hts gX0_madeWhole_X0_pattern rfl rfl rfl (by decide +kernel) ⟨Nat.le_of_ble_eq_true rfl, Nat.le_of_ble_eq_true rfl⟩) rfl hl.1 rfl (Nat.le_of_ble_eq_true rfl) dX0_madeWhole_72 (Nat.zero_le _) (Nat.zero_le _) ?_
            refine lv_lor hx hb dX0_madeWhole_75 ?_
            refine lv_lstore (nL := 7) (lv' := [(5, .long ((bf_signOf x1) ||| (bf_pattern (bf_wholeAmount (bf_significand x1) (if (60 : Int32) < (-(bf_power x1)) then (60 : Int32) else (-(bf_power x1))) (0 : Int32) x2) (0 : Int32)))), (4, .int (if (60 : Int32) < (-(bf_power x1)) then (60 : Int32) else (-(bf_power x1)))), (0, .ref h0), (1, .long x1), (3, .int x2)]) hx hb dX0_madeWhole_76 hl (by decide) rfl (fun ls hl => ?_)
            refine lv_iload_n hx hb dX0_madeWhole_78 rfl (lv_at hl 4 rfl) ?_
            refine lv_if_ne (tgt := 94) hx hb dX0_madeWhole_79 (by decide) (fun h6 => ?_) (fun h6 => ?_)
            · refine lv_lload hx hb dX0_madeWhole_94 (lv_at hl 0 rfl) ?_
              exact W.lret (v := (bf_signOf x1) ||| (bf_pattern (bf_wholeAmount (bf_significand x1) (if (60 : Int32) < (-(bf_power x1)) then (60 : Int32) else (-(bf_power x1))) (0 : Int32) x2) (0 : Int32))) hx hb hr (fun t ht hW => ⟨⟨(bf_signOf x1) ||| (bf_pattern (bf_wholeAmount (bf_significand x1) (if (60 : Int32) < (-(bf_power x1)) then (60 : Int32) else (-(bf_power x1))) (0 : Int32) x2) (0 : Int32)), (f1, f2), rfl, by rw [bf_madeWhole, if_pos h1, if_pos h2, if_pos h3, if_pos h4, if_pos h5, if_neg h6], by rw [ht]; exact hP, va_K.moved hW.alike hK, hD⟩, hS.F ht⟩) hS.2.2 dX0_madeWhole_96
            · refine lv_lload hx hb dX0_madeWhole_82 (lv_at hl 0 rfl) ?_
              refine lv_lload_n hx hb dX0_madeWhole_84 rfl (lv_at hl 3 rfl) ?_
              refine bw_lc_eq (tgt := 94) hx hb dX0_madeWhole_85 dX0_madeWhole_86 (by decide) (fun h7 => ?_) (fun h7 => ?_)
              · refine lv_lload hx hb dX0_madeWhole_94 (lv_at hl 0 rfl) ?_
                exact W.lret (v := (bf_signOf x1) ||| (bf_pattern (bf_wholeAmount (bf_significand x1) (if (60 : Int32) < (-(bf_power x1)) then (60 : Int32) else (-(bf_power x1))) (0 : Int32) x2) (0 : Int32))) hx hb hr (fun t ht hW => ⟨⟨(bf_signOf x1) ||| (bf_pattern (bf_wholeAmount (bf_significand x1) (if (60 : Int32) < (-(bf_power x1)) then (60 : Int32) else (-(bf_power x1))) (0 : Int32) x2) (0 : Int32)), (f1, f2), rfl, by rw [bf_madeWhole, if_pos h1, if_pos h2, if_pos h3, if_pos h4, if_pos h5, if_pos h6, if_pos h7], by rw [ht]; exact hP, va_K.moved hW.alike hK, hD⟩, hS.F ht⟩) hS.2.2 dX0_madeWhole_96
              · refine lv_aload_n hx hb dX0_madeWhole_89 rfl (lv_at hl 2 rfl) ?_
                refine lv_iconst (v := 2) hx hb dX0_madeWhole_90 (by decide) ?_
                refine bw_vv1 (rest := []) 0 ⟨hx, hb, hml, hown, hts⟩ (bc_raise l dC dI h0 a0 s.heap.size f1 f2 (2 : Int32)) (cwV 1 hts gX0_madeWhole_X0_raise rfl rfl rfl (by decide +kernel) ⟨Nat.le_of_ble_eq_true rfl, Nat.le_of_ble_eq_true rfl⟩) hK hP hD hS hA rfl rfl rfl hl.1 rfl (Nat.le_of_ble_eq_true rfl) dX0_madeWhole_91 (Nat.zero_le _) (Nat.zero_le _) (fun H locs hP hD hS => ?_)
                have hP : va_P (dC, dI) vwCl [(h0, .inr (0, [.ref a0, .int ((bf_raise f1 f2 (2 : Int32)).1), .int ((bf_raise f1 f2 (2 : Int32)).2)]))] H := hP
                have hD : va_D A [(h0, .inr (0, [.ref a0, .int ((bf_raise f1 f2 (2 : Int32)).1), .int ((bf_raise f1 f2 (2 : Int32)).2)]))] := hD
                obtain ⟨r8, e8⟩ : ∃ r, (bf_raise f1 f2 (2 : Int32)) = r := ⟨_, rfl⟩
                rw [e8] at hP hD
                refine lv_lload hx hb dX0_madeWhole_94 (lv_at hl 0 rfl) ?_
                exact W.lret (v := (bf_signOf x1) ||| (bf_pattern (bf_wholeAmount (bf_significand x1) (if (60 : Int32) < (-(bf_power x1)) then (60 : Int32) else (-(bf_power x1))) (0 : Int32) x2) (0 : Int32))) hx hb hr (fun t ht hW => ⟨⟨(bf_signOf x1) ||| (bf_pattern (bf_wholeAmount (bf_significand x1) (if (60 : Int32) < (-(bf_power x1)) then (60 : Int32) else (-(bf_power x1))) (0 : Int32) x2) (0 : Int32)), (r8.1, r8.2), rfl, by rw [bf_madeWhole, if_pos h1, if_pos h2, if_pos h3, if_pos h4, if_pos h5, if_pos h6, if_neg h7, e8, bf_madeWhole_k1], by rw [ht]; exact hP, va_K.moved hW.alike hK, hD⟩, hS.F ht⟩) hS.2.2 dX0_madeWhole_96
          · refine lv_iconst (v := 1) hx hb dX0_madeWhole_62 (by decide) ?_
            refine lv_goto (tgt := 67) hx hb dX0_madeWhole_63 (by decide) ?_
            refine lv_iload_n hx hb dX0_madeWhole_67 rfl (lv_at hl 3 rfl) ?_
            refine bw_csl (rest := [.long (bf_signOf x1)]) ⟨hx, hb, hml, hown, hts⟩ (bc_wholeAmount l (bf_significand x1) (if (60 : Int32) < (-(bf_power x1)) then (60 : Int32) else (-(bf_power x1))) (1 : Int32) x2) (va_cwS 4 hts gX0_madeWhole_X0_wholeAmount rfl rfl rfl (by decide +kernel) ⟨Nat.le_of_ble_eq_true rfl, Nat.le_of_ble_eq_true rfl⟩) rfl hl.1 rfl (Nat.le_of_ble_eq_true rfl) dX0_madeWhole_68 (Nat.zero_le _) (Nat.zero_le _) ?_
            refine lv_iconst (v := 0) hx hb dX0_madeWhole_71 (by decide) ?_
            refine bw_csl (rest := [.long (bf_signOf x1)]) ⟨hx, hb, hml, hown, hts⟩ (bc_pattern l (bf_wholeAmount (bf_significand x1) (if (60 : Int32) < (-(bf_power x1)) then (60 : Int32) else (-(bf_power x1))) (1 : Int32) x2) (0 : Int32)) (va_cwS 2 hts gX0_madeWhole_X0_pattern rfl rfl rfl (by decide +kernel) ⟨Nat.le_of_ble_eq_true rfl, Nat.le_of_ble_eq_true rfl⟩) rfl hl.1 rfl (Nat.le_of_ble_eq_true rfl) dX0_madeWhole_72 (Nat.zero_le _) (Nat.zero_le _) ?_
            refine lv_lor hx hb dX0_madeWhole_75 ?_
            refine lv_lstore (nL := 7) (lv' := [(5, .long ((bf_signOf x1) ||| (bf_pattern (bf_wholeAmount (bf_significand x1) (if (60 : Int32) < (-(bf_power x1)) then (60 : Int32) else (-(bf_power x1))) (1 : Int32) x2) (0 : Int32)))), (4, .int (if (60 : Int32) < (-(bf_power x1)) then (60 : Int32) else (-(bf_power x1)))), (0, .ref h0), (1, .long x1), (3, .int x2)]) hx hb dX0_madeWhole_76 hl (by decide) rfl (fun ls hl => ?_)
            refine lv_iload_n hx hb dX0_madeWhole_78 rfl (lv_at hl 4 rfl) ?_
            refine lv_if_ne (tgt := 94) hx hb dX0_madeWhole_79 (by decide) (fun h9 => ?_) (fun h9 => ?_)
            · refine lv_lload hx hb dX0_madeWhole_94 (lv_at hl 0 rfl) ?_
              exact W.lret (v := (bf_signOf x1) ||| (bf_pattern (bf_wholeAmount (bf_significand x1) (if (60 : Int32) < (-(bf_power x1)) then (60 : Int32) else (-(bf_power x1))) (1 : Int32) x2) (0 : Int32))) hx hb hr (fun t ht hW => ⟨⟨(bf_signOf x1) ||| (bf_pattern (bf_wholeAmount (bf_significand x1) (if (60 : Int32) < (-(bf_power x1)) then (60 : Int32) else (-(bf_power x1))) (1 : Int32) x2) (0 : Int32)), (f1, f2), rfl, by rw [bf_madeWhole, if_pos h1, if_pos h2, if_pos h3, if_pos h4, if_neg h5, if_neg h9], by rw [ht]; exact hP, va_K.moved hW.alike hK, hD⟩, hS.F ht⟩) hS.2.2 dX0_madeWhole_96
            · refine lv_lload hx hb dX0_madeWhole_82 (lv_at hl 0 rfl) ?_
              refine lv_lload_n hx hb dX0_madeWhole_84 rfl (lv_at hl 3 rfl) ?_
              refine bw_lc_eq (tgt := 94) hx hb dX0_madeWhole_85 dX0_madeWhole_86 (by decide) (fun h10 => ?_) (fun h10 => ?_)
              · refine lv_lload hx hb dX0_madeWhole_94 (lv_at hl 0 rfl) ?_
                exact W.lret (v := (bf_signOf x1) ||| (bf_pattern (bf_wholeAmount (bf_significand x1) (if (60 : Int32) < (-(bf_power x1)) then (60 : Int32) else (-(bf_power x1))) (1 : Int32) x2) (0 : Int32))) hx hb hr (fun t ht hW => ⟨⟨(bf_signOf x1) ||| (bf_pattern (bf_wholeAmount (bf_significand x1) (if (60 : Int32) < (-(bf_power x1)) then (60 : Int32) else (-(bf_power x1))) (1 : Int32) x2) (0 : Int32)), (f1, f2), rfl, by rw [bf_madeWhole, if_pos h1, if_pos h2, if_pos h3, if_pos h4, if_neg h5, if_pos h9, if_pos h10], by rw [ht]; exact hP, va_K.moved hW.alike hK, hD⟩, hS.F ht⟩) hS.2.2 dX0_madeWhole_96
              · refine lv_aload_n hx hb dX0_madeWhole_89 rfl (lv_at hl 2 rfl) ?_
                refine lv_iconst (v := 2) hx hb dX0_madeWhole_90 (by decide) ?_
                refine bw_vv1 (rest := []) 0 ⟨hx, hb, hml, hown, hts⟩ (bc_raise l dC dI h0 a0 s.heap.size f1 f2 (2 : Int32)) (cwV 1 hts gX0_madeWhole_X0_raise rfl rfl rfl (by decide +kernel) ⟨Nat.le_of_ble_eq_true rfl, Nat.le_of_ble_eq_true rfl⟩) hK hP hD hS hA rfl rfl rfl hl.1 rfl (Nat.le_of_ble_eq_true rfl) dX0_madeWhole_91 (Nat.zero_le _) (Nat.zero_le _) (fun H locs hP hD hS => ?_)
                have hP : va_P (dC, dI) vwCl [(h0, .inr (0, [.ref a0, .int ((bf_raise f1 f2 (2 : Int32)).1), .int ((bf_raise f1 f2 (2 : Int32)).2)]))] H := hP
                have hD : va_D A [(h0, .inr (0, [.ref a0, .int ((bf_raise f1 f2 (2 : Int32)).1), .int ((bf_raise f1 f2 (2 : Int32)).2)]))] := hD
                obtain ⟨r11, e11⟩ : ∃ r, (bf_raise f1 f2 (2 : Int32)) = r := ⟨_, rfl⟩
                rw [e11] at hP hD
                refine lv_lload hx hb dX0_madeWhole_94 (lv_at hl 0 rfl) ?_
                exact W.lret (v := (bf_signOf x1) ||| (bf_pattern (bf_wholeAmount (bf_significand x1) (if (60 : Int32) < (-(bf_power x1)) then (60 : Int32) else (-(bf_power x1))) (1 : Int32) x2) (0 : Int32))) hx hb hr (fun t ht hW => ⟨⟨(bf_signOf x1) ||| (bf_pattern (bf_wholeAmount (bf_significand x1) (if (60 : Int32) < (-(bf_power x1)) then (60 : Int32) else (-(bf_power x1))) (1 : Int32) x2) (0 : Int32)), (r11.1, r11.2), rfl, by rw [bf_madeWhole, if_pos h1, if_pos h2, if_pos h3, if_pos h4, if_neg h5, if_pos h9, if_neg h10, e11, bf_madeWhole_k2], by rw [ht]; exact hP, va_K.moved hW.alike hK, hD⟩, hS.F ht⟩) hS.2.2 dX0_madeWhole_96
        · refine lv_lload_n hx hb dX0_madeWhole_32 rfl (lv_at hl 1 rfl) ?_
          exact W.lret (v := x1) hx hb hr (fun t ht hW => ⟨⟨x1, (f1, f2), rfl, by rw [bf_madeWhole, if_pos h1, if_pos h2, if_pos h3, if_neg h4], by rw [ht]; exact hP, va_K.moved hW.alike hK, hD⟩, hS.F ht⟩) hS.2.2 dX0_madeWhole_33
  · refine lv_ldc2 hx hb hown (hts (.constantLong RX0 101 9221120237041090560) (by decide +kernel)) dX0_madeWhole_7 ?_
    exact W.lret (v := (9221120237041090560 : Int64)) hx hb hr (fun t ht hW => ⟨⟨(9221120237041090560 : Int64), (f1, f2), rfl, by rw [bf_madeWhole, if_neg h1], by rw [ht]; exact hP, va_K.moved hW.alike hK, hD⟩, hS.F ht⟩) hS.2.2 dX0_madeWhole_10
end
section
/-! walks: the class, remainders -/
set_option maxHeartbeats 4000000 in
set_option maxRecDepth 100000 in
theorem bl_cd_w {p : Program} {l : Launch} {e : Env} {R : Room} {s : State} {m : MethodId} {args : Array Value} {below : List Frame} {meth : Method} {c : Code} {H : Heap} {locs : List Loc} {Q : State → Prop} (hx : p.tables.exec = Jvm.exec) (hb : c.code = cX0_remainderOfFinite) (hml : c.maxLocals = 18) (hown : s.vm.findClass RX0 = some m.cls) (hts : ∀ w ∈ wsX0_remainderOfFinite, w.before args s = true) (hRf : 1 ≤ R.frames) (hRl : 13 ≤ R.locals) (c7 : Int64) (hnz : ¬ c7 = 0) {h0 : Nat} {c1 : Int64} {c3 : Int64} {c5 : Int32} {c6 : Int32} {c9 : Int32} : ∀ (n : Nat) (v10 : Int64) (v12 : Int64) (v14 : Int32) (ls : Array Slot) (r : Int64 × Int64 × Int32), lv_has ls 18 [(0, .ref h0), (1, .long c1), (3, .long c3), (5, .int c5), (6, .int c6), (7, .long c7), (9, .int c9), (10, .long v10), (12, .long v12), (14, .int v14)] → bl_it (bl_cd_st c7) n (v10, v12, v14) = some r → (∀ (ls : Array Slot), lv_has ls 18 [(0, .ref h0), (1, .long c1), (3, .long c3), (5, .int c5), (6, .int c6), (7, .long c7), (9, .int c9), (10, .long r.1), (12, .long r.2.1), (14, .int r.2.2)] → W p l e R s m args below meth c H locs 0 0 Q (F0 m 96 ls [])) → W p l e R s m args below meth c H locs 0 0 Q (F0 m 49 ls []) := by
  intro n
  induction n with
  | zero => intro v10 v12 v14 ls r hl h; cases h
  | succ n ih =>
    intro v10 v12 v14 ls r hl h kk
    refine lv_iload hx hb dX0_remainderOfFinite_49 (lv_at hl 9 rfl) ?_
    refine lv_if_le (tgt := 96) hx hb dX0_remainderOfFinite_51 (by decide) (fun h1 => ?_) (fun h1 => ?_)
    · obtain rfl := bl_stepR (s := (v10, v12, v14)) (show bl_cd_b c7 v10 v12 v14 = .inr (v10, v12, v14) by rw [bl_cd_b, if_pos h1]) h
      exact kk ls (lv_sub hl [0, 1, 2, 3, 4, 5, 6, 7, 8, 9] rfl)
    · refine lv_iload hx hb dX0_remainderOfFinite_54 (lv_at hl 9 rfl) ?_
      refine lv_bipush (v := 10) hx hb dX0_remainderOfFinite_56 (by decide) ?_
      refine va_mmin (rest := []) hx hb (hml.trans hl.1.symm) hown (hts (.methodLink RX0 98 Lib.Math.min.name) (by decide +kernel)) (hts (.static Lib.Math.min.name) (by decide +kernel)) (hts (.initialized "java/lang/Math") (by decide +kernel)) (hts (.code Lib.Math.min.name Lib.Math.min.code 2 (some .int)) (by decide +kernel)) (Nat.le_trans (Nat.le_of_ble_eq_true rfl) hRf) (Nat.le_trans (Nat.le_of_ble_eq_true rfl) hRl) (Nat.zero_le _) (Nat.zero_le _) dX0_remainderOfFinite_58 ?_
      refine lv_istore (nL := 18) (lv' := [(15, .int (if (10 : Int32) < v14 then (10 : Int32) else v14)), (0, .ref h0), (1, .long c1), (3, .long c3), (5, .int c5), (6, .int c6), (7, .long c7), (9, .int c9), (10, .long v10), (12, .long v12), (14, .int v14)]) hx hb dX0_remainderOfFinite_61 hl (by decide) rfl (fun ls hl => ?_)
      refine lv_lload hx hb dX0_remainderOfFinite_63 (lv_at hl 9 rfl) ?_
      refine lv_iload hx hb dX0_remainderOfFinite_65 (lv_at hl 0 rfl) ?_
      refine lv_lshl hx hb dX0_remainderOfFinite_67 rfl ?_
      refine lv_lstore (nL := 18) (lv' := [(16, .long (v12 <<< ((if (10 : Int32) < v14 then (10 : Int32) else v14).toInt64 &&& 63))), (15, .int (if (10 : Int32) < v14 then (10 : Int32) else v14)), (0, .ref h0), (1, .long c1), (3, .long c3), (5, .int c5), (6, .int c6), (7, .long c7), (9, .int c9), (10, .long v10), (12, .long v12), (14, .int v14)]) hx hb dX0_remainderOfFinite_68 hl (by decide) rfl (fun ls hl => ?_)
      refine lv_lload hx hb dX0_remainderOfFinite_70 (lv_at hl 9 rfl) ?_
      refine lv_iload hx hb dX0_remainderOfFinite_72 (lv_at hl 1 rfl) ?_
      refine lv_lshl hx hb dX0_remainderOfFinite_74 rfl ?_
      refine lv_lload hx hb dX0_remainderOfFinite_75 (lv_at hl 0 rfl) ?_
      refine lv_lload hx hb dX0_remainderOfFinite_77 (lv_at hl 7 rfl) ?_
      refine lv_ldiv hx hb dX0_remainderOfFinite_79 hnz ?_
      refine lv_ladd hx hb dX0_remainderOfFinite_80 ?_
      refine lv_lstore (nL := 18) (lv' := [(10, .long ((v10 <<< ((if (10 : Int32) < v14 then (10 : Int32) else v14).toInt64 &&& 63)) + ((v12 <<< ((if (10 : Int32) < v14 then (10 : Int32) else v14).toInt64 &&& 63)) / c7))), (16, .long (v12 <<< ((if (10 : Int32) < v14 then (10 : Int32) else v14).toInt64 &&& 63))), (15, .int (if (10 : Int32) < v14 then (10 : Int32) else v14)), (0, .ref h0), (1, .long c1), (3, .long c3), (5, .int c5), (6, .int c6), (7, .long c7), (9, .int c9), (12, .long v12), (14, .int v14)]) hx hb dX0_remainderOfFinite_81 hl (by decide) rfl (fun ls hl => ?_)
      refine lv_lload hx hb dX0_remainderOfFinite_83 (lv_at hl 1 rfl) ?_
      refine lv_lload hx hb dX0_remainderOfFinite_85 (lv_at hl 8 rfl) ?_
      refine lv_lrem hx hb dX0_remainderOfFinite_87 hnz ?_
      refine lv_lstore (nL := 18) (lv' := [(12, .long ((v12 <<< ((if (10 : Int32) < v14 then (10 : Int32) else v14).toInt64 &&& 63)) - (v12 <<< ((if (10 : Int32) < v14 then (10 : Int32) else v14).toInt64 &&& 63)) / c7 * c7)), (10, .long ((v10 <<< ((if (10 : Int32) < v14 then (10 : Int32) else v14).toInt64 &&& 63)) + ((v12 <<< ((if (10 : Int32) < v14 then (10 : Int32) else v14).toInt64 &&& 63)) / c7))), (16, .long (v12 <<< ((if (10 : Int32) < v14 then (10 : Int32) else v14).toInt64 &&& 63))), (15, .int (if (10 : Int32) < v14 then (10 : Int32) else v14)), (0, .ref h0), (1, .long c1), (3, .long c3), (5, .int c5), (6, .int c6), (7, .long c7), (9, .int c9), (14, .int v14)]) hx hb dX0_remainderOfFinite_88 hl (by decide) rfl (fun ls hl => ?_)
      refine lv_iinc (nL := 18) (k := 11) (v := v14 + (-10 : Int32)) (lv' := [(14, .int (v14 + (-10 : Int32))), (12, .long ((v12 <<< ((if (10 : Int32) < v14 then (10 : Int32) else v14).toInt64 &&& 63)) - (v12 <<< ((if (10 : Int32) < v14 then (10 : Int32) else v14).toInt64 &&& 63)) / c7 * c7)), (10, .long ((v10 <<< ((if (10 : Int32) < v14 then (10 : Int32) else v14).toInt64 &&& 63)) + ((v12 <<< ((if (10 : Int32) < v14 then (10 : Int32) else v14).toInt64 &&& 63)) / c7))), (16, .long (v12 <<< ((if (10 : Int32) < v14 then (10 : Int32) else v14).toInt64 &&& 63))), (15, .int (if (10 : Int32) < v14 then (10 : Int32) else v14)), (0, .ref h0), (1, .long c1), (3, .long c3), (5, .int c5), (6, .int c6), (7, .long c7), (9, .int c9)]) hx hb dX0_remainderOfFinite_90 hl rfl rfl (by decide) rfl (fun ls hl => ?_)
      refine lv_goto (tgt := 49) hx hb dX0_remainderOfFinite_93 (by decide) ?_
      exact ih ((v10 <<< ((if (10 : Int32) < v14 then (10 : Int32) else v14).toInt64 &&& 63)) + ((v12 <<< ((if (10 : Int32) < v14 then (10 : Int32) else v14).toInt64 &&& 63)) / c7)) ((v12 <<< ((if (10 : Int32) < v14 then (10 : Int32) else v14).toInt64 &&& 63)) - (v12 <<< ((if (10 : Int32) < v14 then (10 : Int32) else v14).toInt64 &&& 63)) / c7 * c7) (v14 + (-10 : Int32)) ls r (lv_sub hl [5, 6, 7, 8, 9, 10, 11, 2, 1, 0] rfl) (bl_stepL (s := (v10, v12, v14)) (show bl_cd_b c7 v10 v12 v14 = .inl ((v10 <<< ((if (10 : Int32) < v14 then (10 : Int32) else v14).toInt64 &&& 63)) + ((v12 <<< ((if (10 : Int32) < v14 then (10 : Int32) else v14).toInt64 &&& 63)) / c7), (v12 <<< ((if (10 : Int32) < v14 then (10 : Int32) else v14).toInt64 &&& 63)) - (v12 <<< ((if (10 : Int32) < v14 then (10 : Int32) else v14).toInt64 &&& 63)) / c7 * c7, v14 + (-10 : Int32)) by rw [bl_cd_b, if_neg h1]) h) kk
set_option maxHeartbeats 4000000 in
set_option maxRecDepth 100000 in
theorem bc_remainderOfFinite (l : Launch) (dC : Nat → ClassId) (dI : Nat → Nat → Nat) (h0 a0 : Nat) (sz : Nat) (f1 : Int32) (f2 : Int32) (x1 : Int64) (x2 : Int64) (x3 : Int32) (x4 : Int32) (hnz : ¬ ((bf_significand x2) <<< ((if (-x3) < (0 : Int32) then (0 : Int32) else (-x3)).toInt64 &&& 63)) = 0) : Met l yX0_remainderOfFinite wsX0_remainderOfFinite ({ frames := 3, cells := 0, slots := 0, locals := 67 }) (va_Pc [.ref h0, .long x1, .long x2, .int x3, .int x4] (bw_I1 (dC, dI) vwCl sz h0 (.inr (0, [.ref a0, .int f1, .int f2])))) (va_Ql (fun (r : Int64) (u : Int32 × Int32) => (r, u) = bf_remainderOfFinite f1 f2 x1 x2 x3 x4) (fun u t => bw_O1 (dC, dI) vwCl (va_A [(h0, .inr (0, [.ref a0, .int f1, .int f2]))] sz) h0 (.inr (0, [.ref a0, .int u.1, .int u.2])) t) (va_A [(h0, .inr (0, [.ref a0, .int f1, .int f2]))] sz)) 0 0 (va_A [(h0, .inr (0, [.ref a0, .int f1, .int f2]))] sz) := by
  refine Met.ofW (cc := cX0_remainderOfFinite) (maxL := 18) (ret := (some .long)) (by decide) rfl ?_
  intro p e s m args below meth c s₁ B hml hv
  obtain ⟨rfl, hsz, hP, hK, hD0⟩ := hv
  have hx := B.exec
  have hb := B.bytes
  have hr := B.returns
  have hts := atoms_spec (ws := wsX0_remainderOfFinite) B.pre
  have hown : s.vm.findClass RX0 = some m.cls := findClass_of_methodNamed B.named
  have hlocks := B.notSynchronized
  subst hsz
  have hD := hD0.self (sz := s.heap.size)
  generalize hAe : va_A [(h0, .inr (0, [.ref a0, .int f1, .int f2]))] s.heap.size = A at hD ⊢
  have hA : ∀ q : Nat, s.heap.size ≤ q → A q := fun q h => by rw [← hAe]; exact Or.inr h
  have hS : va_S A s.heap s.heap [] := va_S.rf
  have hP : va_P (dC, dI) vwCl [(h0, .inr (0, [.ref a0, .int f1, .int f2]))] s.heap := hP
  have hin0 : ∀ w ∈ u_ws RX0 TX0 3, w ∈ wsX0_remainderOfFinite := by decide +kernel
  have hl := lv_entry ([.ref h0, .long x1, .long x2, .int x3, .int x4]) (n := 18) (Nat.le_of_ble_eq_true rfl)
  rw [lg_entry_eq]
  generalize (lg_sl ([.ref h0, .long x1, .long x2, .int x3, .int x4]) ++ List.replicate (18 - (lg_sl ([.ref h0, .long x1, .long x2, .int x3, .int x4])).length) Slot.unset).toArray = ls at hl ⊢
  have hl : lv_has ls 18 [(0, .ref h0), (1, .long x1), (3, .long x2), (5, .int x3), (6, .int x4)] := hl
  refine lv_lload_n hx hb dX0_remainderOfFinite_0 rfl (lv_at hl 2 rfl) ?_
  refine bw_csl (rest := []) ⟨hx, hb, hml, hown, hts⟩ (bc_significand l x2) (va_cwS 1 hts gX0_remainderOfFinite_X0_significand rfl rfl rfl (by decide +kernel) ⟨Nat.le_of_ble_eq_true rfl, Nat.le_of_ble_eq_true rfl⟩) rfl hl.1 rfl (Nat.le_of_ble_eq_true rfl) dX0_remainderOfFinite_1 (Nat.zero_le _) (Nat.zero_le _) ?_
  refine lv_iload hx hb dX0_remainderOfFinite_4 (lv_at hl 3 rfl) ?_
  refine lv_ineg hx hb dX0_remainderOfFinite_6 ?_
  refine lv_iconst (v := 0) hx hb dX0_remainderOfFinite_7 (by decide) ?_
  refine va_mmax (rest := [.long (bf_significand x2)]) hx hb (hml.trans hl.1.symm) hown (hts (.methodLink RX0 78 Lib.Math.max.name) (by decide +kernel)) (hts (.static Lib.Math.max.name) (by decide +kernel)) (hts (.initialized "java/lang/Math") (by decide +kernel)) (hts (.code Lib.Math.max.name Lib.Math.max.code 2 (some .int)) (by decide +kernel)) (Nat.le_of_ble_eq_true rfl) (Nat.le_of_ble_eq_true rfl) (Nat.zero_le _) (Nat.zero_le _) dX0_remainderOfFinite_8 ?_
  refine lv_lshl hx hb dX0_remainderOfFinite_11 rfl ?_
  refine lv_lstore (nL := 18) (lv' := [(7, .long ((bf_significand x2) <<< ((if (-x3) < (0 : Int32) then (0 : Int32) else (-x3)).toInt64 &&& 63))), (0, .ref h0), (1, .long x1), (3, .long x2), (5, .int x3), (6, .int x4)]) hx hb dX0_remainderOfFinite_12 hl (by decide) rfl (fun ls hl => ?_)
  refine lv_lload_n hx hb dX0_remainderOfFinite_14 rfl (lv_at hl 2 rfl) ?_
  refine bw_csi (rest := []) ⟨hx, hb, hml, hown, hts⟩ (bc_power l x1) (va_cwS 1 hts gX0_remainderOfFinite_X0_power rfl rfl rfl (by decide +kernel) ⟨Nat.le_of_ble_eq_true rfl, Nat.le_of_ble_eq_true rfl⟩) rfl hl.1 rfl (Nat.le_of_ble_eq_true rfl) dX0_remainderOfFinite_15 (Nat.zero_le _) (Nat.zero_le _) ?_
  refine lv_lload_n hx hb dX0_remainderOfFinite_18 rfl (lv_at hl 3 rfl) ?_
  refine bw_csi (rest := [.int (bf_power x1)]) ⟨hx, hb, hml, hown, hts⟩ (bc_power l x2) (va_cwS 1 hts gX0_remainderOfFinite_X0_power rfl rfl rfl (by decide +kernel) ⟨Nat.le_of_ble_eq_true rfl, Nat.le_of_ble_eq_true rfl⟩) rfl hl.1 rfl (Nat.le_of_ble_eq_true rfl) dX0_remainderOfFinite_19 (Nat.zero_le _) (Nat.zero_le _) ?_
  refine va_mmin (rest := []) hx hb (hml.trans hl.1.symm) hown (hts (.methodLink RX0 98 Lib.Math.min.name) (by decide +kernel)) (hts (.static Lib.Math.min.name) (by decide +kernel)) (hts (.initialized "java/lang/Math") (by decide +kernel)) (hts (.code Lib.Math.min.name Lib.Math.min.code 2 (some .int)) (by decide +kernel)) (Nat.le_of_ble_eq_true rfl) (Nat.le_of_ble_eq_true rfl) (Nat.zero_le _) (Nat.zero_le _) dX0_remainderOfFinite_22 ?_
  refine lv_istore (nL := 18) (lv' := [(9, .int (if (bf_power x2) < (bf_power x1) then (bf_power x2) else (bf_power x1))), (7, .long ((bf_significand x2) <<< ((if (-x3) < (0 : Int32) then (0 : Int32) else (-x3)).toInt64 &&& 63))), (0, .ref h0), (1, .long x1), (3, .long x2), (5, .int x3), (6, .int x4)]) hx hb dX0_remainderOfFinite_25 hl (by decide) rfl (fun ls hl => ?_)
  refine lv_lload_n hx hb dX0_remainderOfFinite_27 rfl (lv_at hl 3 rfl) ?_
  refine bw_csl (rest := []) ⟨hx, hb, hml, hown, hts⟩ (bc_significand l x1) (va_cwS 1 hts gX0_remainderOfFinite_X0_significand rfl rfl rfl (by decide +kernel) ⟨Nat.le_of_ble_eq_true rfl, Nat.le_of_ble_eq_true rfl⟩) rfl hl.1 rfl (Nat.le_of_ble_eq_true rfl) dX0_remainderOfFinite_28 (Nat.zero_le _) (Nat.zero_le _) ?_
  refine lv_lload hx hb dX0_remainderOfFinite_31 (lv_at hl 1 rfl) ?_
  refine lv_ldiv hx hb dX0_remainderOfFinite_33 hnz ?_
  refine lv_lstore (nL := 18) (lv' := [(10, .long ((bf_significand x1) / ((bf_significand x2) <<< ((if (-x3) < (0 : Int32) then (0 : Int32) else (-x3)).toInt64 &&& 63)))), (9, .int (if (bf_power x2) < (bf_power x1) then (bf_power x2) else (bf_power x1))), (7, .long ((bf_significand x2) <<< ((if (-x3) < (0 : Int32) then (0 : Int32) else (-x3)).toInt64 &&& 63))), (0, .ref h0), (1, .long x1), (3, .long x2), (5, .int x3), (6, .int x4)]) hx hb dX0_remainderOfFinite_34 hl (by decide) rfl (fun ls hl => ?_)
  refine lv_lload_n hx hb dX0_remainderOfFinite_36 rfl (lv_at hl 4 rfl) ?_
  refine bw_csl (rest := []) ⟨hx, hb, hml, hown, hts⟩ (bc_significand l x1) (va_cwS 1 hts gX0_remainderOfFinite_X0_significand rfl rfl rfl (by decide +kernel) ⟨Nat.le_of_ble_eq_true rfl, Nat.le_of_ble_eq_true rfl⟩) rfl hl.1 rfl (Nat.le_of_ble_eq_true rfl) dX0_remainderOfFinite_37 (Nat.zero_le _) (Nat.zero_le _) ?_
  refine lv_lload hx hb dX0_remainderOfFinite_40 (lv_at hl 2 rfl) ?_
  refine lv_lrem hx hb dX0_remainderOfFinite_42 hnz ?_
  refine lv_lstore (nL := 18) (lv' := [(12, .long ((bf_significand x1) - (bf_significand x1) / ((bf_significand x2) <<< ((if (-x3) < (0 : Int32) then (0 : Int32) else (-x3)).toInt64 &&& 63)) * ((bf_significand x2) <<< ((if (-x3) < (0 : Int32) then (0 : Int32) else (-x3)).toInt64 &&& 63)))), (10, .long ((bf_significand x1) / ((bf_significand x2) <<< ((if (-x3) < (0 : Int32) then (0 : Int32) else (-x3)).toInt64 &&& 63)))), (9, .int (if (bf_power x2) < (bf_power x1) then (bf_power x2) else (bf_power x1))), (7, .long ((bf_significand x2) <<< ((if (-x3) < (0 : Int32) then (0 : Int32) else (-x3)).toInt64 &&& 63))), (0, .ref h0), (1, .long x1), (3, .long x2), (5, .int x3), (6, .int x4)]) hx hb dX0_remainderOfFinite_43 hl (by decide) rfl (fun ls hl => ?_)
  refine lv_iload hx hb dX0_remainderOfFinite_45 (lv_at hl 7 rfl) ?_
  refine lv_istore (nL := 18) (lv' := [(14, .int x3), (12, .long ((bf_significand x1) - (bf_significand x1) / ((bf_significand x2) <<< ((if (-x3) < (0 : Int32) then (0 : Int32) else (-x3)).toInt64 &&& 63)) * ((bf_significand x2) <<< ((if (-x3) < (0 : Int32) then (0 : Int32) else (-x3)).toInt64 &&& 63)))), (10, .long ((bf_significand x1) / ((bf_significand x2) <<< ((if (-x3) < (0 : Int32) then (0 : Int32) else (-x3)).toInt64 &&& 63)))), (9, .int (if (bf_power x2) < (bf_power x1) then (bf_power x2) else (bf_power x1))), (7, .long ((bf_significand x2) <<< ((if (-x3) < (0 : Int32) then (0 : Int32) else (-x3)).toInt64 &&& 63))), (0, .ref h0), (1, .long x1), (3, .long x2), (5, .int x3), (6, .int x4)]) hx hb dX0_remainderOfFinite_47 hl (by decide) rfl (fun ls hl => ?_)
  obtain ⟨n2, e2⟩ := bl_cd_ok ((bf_significand x2) <<< ((if (-x3) < (0 : Int32) then (0 : Int32) else (-x3)).toInt64 &&& 63)) ((bf_significand x1) / ((bf_significand x2) <<< ((if (-x3) < (0 : Int32) then (0 : Int32) else (-x3)).toInt64 &&& 63)), (bf_significand x1) - (bf_significand x1) / ((bf_significand x2) <<< ((if (-x3) < (0 : Int32) then (0 : Int32) else (-x3)).toInt64 &&& 63)) * ((bf_significand x2) <<< ((if (-x3) < (0 : Int32) then (0 : Int32) else (-x3)).toInt64 &&& 63)), x3)
  refine bl_cd_w hx hb hml hown hts (Nat.le_of_ble_eq_true rfl) (Nat.le_of_ble_eq_true rfl) ((bf_significand x2) <<< ((if (-x3) < (0 : Int32) then (0 : Int32) else (-x3)).toInt64 &&& 63)) hnz n2 ((bf_significand x1) / ((bf_significand x2) <<< ((if (-x3) < (0 : Int32) then (0 : Int32) else (-x3)).toInt64 &&& 63))) ((bf_significand x1) - (bf_significand x1) / ((bf_significand x2) <<< ((if (-x3) < (0 : Int32) then (0 : Int32) else (-x3)).toInt64 &&& 63)) * ((bf_significand x2) <<< ((if (-x3) < (0 : Int32) then (0 : Int32) else (-x3)).toInt64 &&& 63))) x3 ls _ (lv_sub hl [5, 6, 7, 8, 9, 4, 3, 2, 1, 0] rfl) e2 (fun ls hl => ?_)
  have hl : lv_has ls 18 [(0, .ref h0), (1, .long x1), (3, .long x2), (5, .int x3), (6, .int x4), (7, .long ((bf_significand x2) <<< ((if (-x3) < (0 : Int32) then (0 : Int32) else (-x3)).toInt64 &&& 63))), (9, .int (if (bf_power x2) < (bf_power x1) then (bf_power x2) else (bf_power x1))), (10, .long ((bl_cd ((bf_significand x2) <<< ((if (-x3) < (0 : Int32) then (0 : Int32) else (-x3)).toInt64 &&& 63)) ((bf_significand x1) / ((bf_significand x2) <<< ((if (-x3) < (0 : Int32) then (0 : Int32) else (-x3)).toInt64 &&& 63)), (bf_significand x1) - (bf_significand x1) / ((bf_significand x2) <<< ((if (-x3) < (0 : Int32) then (0 : Int32) else (-x3)).toInt64 &&& 63)) * ((bf_significand x2) <<< ((if (-x3) < (0 : Int32) then (0 : Int32) else (-x3)).toInt64 &&& 63)), x3)).1)), (12, .long ((bl_cd ((bf_significand x2) <<< ((if (-x3) < (0 : Int32) then (0 : Int32) else (-x3)).toInt64 &&& 63)) ((bf_significand x1) / ((bf_significand x2) <<< ((if (-x3) < (0 : Int32) then (0 : Int32) else (-x3)).toInt64 &&& 63)), (bf_significand x1) - (bf_significand x1) / ((bf_significand x2) <<< ((if (-x3) < (0 : Int32) then (0 : Int32) else (-x3)).toInt64 &&& 63)) * ((bf_significand x2) <<< ((if (-x3) < (0 : Int32) then (0 : Int32) else (-x3)).toInt64 &&& 63)), x3)).2.1)), (14, .int ((bl_cd ((bf_significand x2) <<< ((if (-x3) < (0 : Int32) then (0 : Int32) else (-x3)).toInt64 &&& 63)) ((bf_significand x1) / ((bf_significand x2) <<< ((if (-x3) < (0 : Int32) then (0 : Int32) else (-x3)).toInt64 &&& 63)), (bf_significand x1) - (bf_significand x1) / ((bf_significand x2) <<< ((if (-x3) < (0 : Int32) then (0 : Int32) else (-x3)).toInt64 &&& 63)) * ((bf_significand x2) <<< ((if (-x3) < (0 : Int32) then (0 : Int32) else (-x3)).toInt64 &&& 63)), x3)).2.2))] := hl
  obtain ⟨r3, e3⟩ : ∃ r, (bl_cd ((bf_significand x2) <<< ((if (-x3) < (0 : Int32) then (0 : Int32) else (-x3)).toInt64 &&& 63)) ((bf_significand x1) / ((bf_significand x2) <<< ((if (-x3) < (0 : Int32) then (0 : Int32) else (-x3)).toInt64 &&& 63)), (bf_significand x1) - (bf_significand x1) / ((bf_significand x2) <<< ((if (-x3) < (0 : Int32) then (0 : Int32) else (-x3)).toInt64 &&& 63)) * ((bf_significand x2) <<< ((if (-x3) < (0 : Int32) then (0 : Int32) else (-x3)).toInt64 &&& 63)), x3)) = r := ⟨_, rfl⟩
  rw [e3] at hl
  refine lv_lload_n hx hb dX0_remainderOfFinite_96 rfl (lv_at hl 1 rfl) ?_
  refine bw_csl (rest := []) ⟨hx, hb, hml, hown, hts⟩ (bc_signOf l x1) (va_cwS 1 hts gX0_remainderOfFinite_X0_signOf rfl rfl rfl (by decide +kernel) ⟨Nat.le_of_ble_eq_true rfl, Nat.le_of_ble_eq_true rfl⟩) rfl hl.1 rfl (Nat.le_of_ble_eq_true rfl) dX0_remainderOfFinite_97 (Nat.zero_le _) (Nat.zero_le _) ?_
  refine lv_lstore (nL := 18) (lv' := [(14, .long (bf_signOf x1)), (0, .ref h0), (1, .long x1), (3, .long x2), (5, .int x3), (6, .int x4), (7, .long ((bf_significand x2) <<< ((if (-x3) < (0 : Int32) then (0 : Int32) else (-x3)).toInt64 &&& 63))), (9, .int (if (bf_power x2) < (bf_power x1) then (bf_power x2) else (bf_power x1))), (10, .long r3.1), (12, .long r3.2.1)]) hx hb dX0_remainderOfFinite_100 hl (by decide) rfl (fun ls hl => ?_)
  refine lv_lload hx hb dX0_remainderOfFinite_102 (lv_at hl 9 rfl) ?_
  refine lv_iconst (v := 1) hx hb dX0_remainderOfFinite_104 (by decide) ?_
  refine lv_lshl hx hb dX0_remainderOfFinite_105 rfl ?_
  refine lv_lstore (nL := 18) (lv' := [(16, .long (r3.2.1 <<< ((1 : Int32).toInt64 &&& 63))), (14, .long (bf_signOf x1)), (0, .ref h0), (1, .long x1), (3, .long x2), (5, .int x3), (6, .int x4), (7, .long ((bf_significand x2) <<< ((if (-x3) < (0 : Int32) then (0 : Int32) else (-x3)).toInt64 &&& 63))), (9, .int (if (bf_power x2) < (bf_power x1) then (bf_power x2) else (bf_power x1))), (10, .long r3.1), (12, .long r3.2.1)]) hx hb dX0_remainderOfFinite_106 hl (by decide) rfl (fun ls hl => ?_)
  refine lv_iload hx hb dX0_remainderOfFinite_108 (lv_at hl 6 rfl) ?_
  refine lv_if_eq (tgt := 159) hx hb dX0_remainderOfFinite_110 (by decide) (fun h4 => ?_) (fun h4 => ?_)
  · refine lv_aload_n hx hb dX0_remainderOfFinite_159 rfl (lv_at hl 2 rfl) ?_
    refine lv_lload hx hb dX0_remainderOfFinite_160 (lv_at hl 9 rfl) ?_
    refine lv_ldc2 hx hb hown (hts (.constantLong RX0 130 7) (by decide +kernel)) dX0_remainderOfFinite_162 ?_
    refine lv_land hx hb dX0_remainderOfFinite_165 ?_
    refine lv_l2i hx hb dX0_remainderOfFinite_166 rfl ?_
    refine va_put (D := (dC, dI)) (ci := 0) (v := .int ((r3.1 &&& (7 : Int64)).toInt32)) (ty := .int) (C := RX0) (T := TX0) (N := 3) hx hb hts hin0 tyX0 tyX0_ok nmX0 hown hK hP hD hS 0 rfl rfl 2 (by decide) (hts (.fieldLink RX0 17 "BinaryFunctions" "lastQuotient" "I") (by decide +kernel)) (fun _ h9 => h9) rfl (by decide +kernel) rfl rfl (Nat.le_of_ble_eq_true rfl) dX0_remainderOfFinite_167 (fun H locs hP hD hS => ?_)
    have hP : va_P (dC, dI) vwCl [(h0, .inr (0, [.ref a0, .int f1, .int ((r3.1 &&& (7 : Int64)).toInt32)]))] H := hP
    have hD : va_D A [(h0, .inr (0, [.ref a0, .int f1, .int ((r3.1 &&& (7 : Int64)).toInt32)]))] := hD
    refine lv_lload hx hb dX0_remainderOfFinite_170 (lv_at hl 1 rfl) ?_
    refine lv_lload hx hb dX0_remainderOfFinite_172 (lv_at hl 10 rfl) ?_
    refine lv_iload hx hb dX0_remainderOfFinite_174 (lv_at hl 8 rfl) ?_
    refine bw_csl (rest := [.long (bf_signOf x1)]) ⟨hx, hb, hml, hown, hts⟩ (bc_pattern l r3.2.1 (if (bf_power x2) < (bf_power x1) then (bf_power x2) else (bf_power x1))) (va_cwS 2 hts gX0_remainderOfFinite_X0_pattern rfl rfl rfl (by decide +kernel) ⟨Nat.le_of_ble_eq_true rfl, Nat.le_of_ble_eq_true rfl⟩) rfl hl.1 rfl (Nat.le_of_ble_eq_true rfl) dX0_remainderOfFinite_176 (Nat.zero_le _) (Nat.zero_le _) ?_
    refine lv_lor hx hb dX0_remainderOfFinite_179 ?_
    exact W.lret (v := (bf_signOf x1) ||| (bf_pattern r3.2.1 (if (bf_power x2) < (bf_power x1) then (bf_power x2) else (bf_power x1)))) hx hb hr (fun t ht hW => ⟨⟨(bf_signOf x1) ||| (bf_pattern r3.2.1 (if (bf_power x2) < (bf_power x1) then (bf_power x2) else (bf_power x1))), (f1, (r3.1 &&& (7 : Int64)).toInt32), rfl, by rw [bf_remainderOfFinite, e3, bf_remainderOfFinite_k1, if_pos h4], by rw [ht]; exact hP, va_K.moved hW.alike hK, hD⟩, hS.F ht⟩) hS.2.2 dX0_remainderOfFinite_180
  · refine lv_lload hx hb dX0_remainderOfFinite_113 (lv_at hl 0 rfl) ?_
    refine lv_lload hx hb dX0_remainderOfFinite_115 (lv_at hl 7 rfl) ?_
    refine bw_lc_gt (tgt := 138) hx hb dX0_remainderOfFinite_117 dX0_remainderOfFinite_118 (by decide) (fun h5 => ?_) (fun h5 => ?_)
    · refine lv_lload hx hb dX0_remainderOfFinite_138 (lv_at hl 9 rfl) ?_
      refine lv_lconst (v := 1) hx hb dX0_remainderOfFinite_140 (by decide) ?_
      refine lv_ladd hx hb dX0_remainderOfFinite_141 ?_
      refine lv_lstore (nL := 18) (lv' := [(10, .long (r3.1 + (1 : Int64))), (16, .long (r3.2.1 <<< ((1 : Int32).toInt64 &&& 63))), (14, .long (bf_signOf x1)), (0, .ref h0), (1, .long x1), (3, .long x2), (5, .int x3), (6, .int x4), (7, .long ((bf_significand x2) <<< ((if (-x3) < (0 : Int32) then (0 : Int32) else (-x3)).toInt64 &&& 63))), (9, .int (if (bf_power x2) < (bf_power x1) then (bf_power x2) else (bf_power x1))), (12, .long r3.2.1)]) hx hb dX0_remainderOfFinite_142 hl (by decide) rfl (fun ls hl => ?_)
      refine lv_lload hx hb dX0_remainderOfFinite_144 (lv_at hl 8 rfl) ?_
      refine lv_lload hx hb dX0_remainderOfFinite_146 (lv_at hl 10 rfl) ?_
      refine lv_lsub hx hb dX0_remainderOfFinite_148 ?_
      refine lv_lstore (nL := 18) (lv' := [(12, .long (((bf_significand x2) <<< ((if (-x3) < (0 : Int32) then (0 : Int32) else (-x3)).toInt64 &&& 63)) - r3.2.1)), (10, .long (r3.1 + (1 : Int64))), (16, .long (r3.2.1 <<< ((1 : Int32).toInt64 &&& 63))), (14, .long (bf_signOf x1)), (0, .ref h0), (1, .long x1), (3, .long x2), (5, .int x3), (6, .int x4), (7, .long ((bf_significand x2) <<< ((if (-x3) < (0 : Int32) then (0 : Int32) else (-x3)).toInt64 &&& 63))), (9, .int (if (bf_power x2) < (bf_power x1) then (bf_power x2) else (bf_power x1)))]) hx hb dX0_remainderOfFinite_149 hl (by decide) rfl (fun ls hl => ?_)
      refine lv_lload hx hb dX0_remainderOfFinite_151 (lv_at hl 3 rfl) ?_
      refine lv_ldc2 hx hb hown (hts (.constantLong RX0 69 (-9223372036854775808)) (by decide +kernel)) dX0_remainderOfFinite_153 ?_
      refine lv_lxor hx hb dX0_remainderOfFinite_156 ?_
      refine lv_lstore (nL := 18) (lv' := [(14, .long ((bf_signOf x1) ^^^ (-9223372036854775808 : Int64))), (12, .long (((bf_significand x2) <<< ((if (-x3) < (0 : Int32) then (0 : Int32) else (-x3)).toInt64 &&& 63)) - r3.2.1)), (10, .long (r3.1 + (1 : Int64))), (16, .long (r3.2.1 <<< ((1 : Int32).toInt64 &&& 63))), (0, .ref h0), (1, .long x1), (3, .long x2), (5, .int x3), (6, .int x4), (7, .long ((bf_significand x2) <<< ((if (-x3) < (0 : Int32) then (0 : Int32) else (-x3)).toInt64 &&& 63))), (9, .int (if (bf_power x2) < (bf_power x1) then (bf_power x2) else (bf_power x1)))]) hx hb dX0_remainderOfFinite_157 hl (by decide) rfl (fun ls hl => ?_)
      refine lv_aload_n hx hb dX0_remainderOfFinite_159 rfl (lv_at hl 4 rfl) ?_
      refine lv_lload hx hb dX0_remainderOfFinite_160 (lv_at hl 2 rfl) ?_
      refine lv_ldc2 hx hb hown (hts (.constantLong RX0 130 7) (by decide +kernel)) dX0_remainderOfFinite_162 ?_
      refine lv_land hx hb dX0_remainderOfFinite_165 ?_
      refine lv_l2i hx hb dX0_remainderOfFinite_166 rfl ?_
      refine va_put (D := (dC, dI)) (ci := 0) (v := .int (((r3.1 + (1 : Int64)) &&& (7 : Int64)).toInt32)) (ty := .int) (C := RX0) (T := TX0) (N := 3) hx hb hts hin0 tyX0 tyX0_ok nmX0 hown hK hP hD hS 0 rfl rfl 2 (by decide) (hts (.fieldLink RX0 17 "BinaryFunctions" "lastQuotient" "I") (by decide +kernel)) (fun _ h9 => h9) rfl (by decide +kernel) rfl rfl (Nat.le_of_ble_eq_true rfl) dX0_remainderOfFinite_167 (fun H locs hP hD hS => ?_)
      have hP : va_P (dC, dI) vwCl [(h0, .inr (0, [.ref a0, .int f1, .int (((r3.1 + (1 : Int64)) &&& (7 : Int64)).toInt32)]))] H := hP
      have hD : va_D A [(h0, .inr (0, [.ref a0, .int f1, .int (((r3.1 + (1 : Int64)) &&& (7 : Int64)).toInt32)]))] := hD
      refine lv_lload hx hb dX0_remainderOfFinite_170 (lv_at hl 0 rfl) ?_
      refine lv_lload hx hb dX0_remainderOfFinite_172 (lv_at hl 1 rfl) ?_
      refine lv_iload hx hb dX0_remainderOfFinite_174 (lv_at hl 10 rfl) ?_
      refine bw_csl (rest := [.long ((bf_signOf x1) ^^^ (-9223372036854775808 : Int64))]) ⟨hx, hb, hml, hown, hts⟩ (bc_pattern l (((bf_significand x2) <<< ((if (-x3) < (0 : Int32) then (0 : Int32) else (-x3)).toInt64 &&& 63)) - r3.2.1) (if (bf_power x2) < (bf_power x1) then (bf_power x2) else (bf_power x1))) (va_cwS 2 hts gX0_remainderOfFinite_X0_pattern rfl rfl rfl (by decide +kernel) ⟨Nat.le_of_ble_eq_true rfl, Nat.le_of_ble_eq_true rfl⟩) rfl hl.1 rfl (Nat.le_of_ble_eq_true rfl) dX0_remainderOfFinite_176 (Nat.zero_le _) (Nat.zero_le _) ?_
      refine lv_lor hx hb dX0_remainderOfFinite_179 ?_
      exact W.lret (v := ((bf_signOf x1) ^^^ (-9223372036854775808 : Int64)) ||| (bf_pattern (((bf_significand x2) <<< ((if (-x3) < (0 : Int32) then (0 : Int32) else (-x3)).toInt64 &&& 63)) - r3.2.1) (if (bf_power x2) < (bf_power x1) then (bf_power x2) else (bf_power x1)))) hx hb hr (fun t ht hW => ⟨⟨((bf_signOf x1) ^^^ (-9223372036854775808 : Int64)) ||| (bf_pattern (((bf_significand x2) <<< ((if (-x3) < (0 : Int32) then (0 : Int32) else (-x3)).toInt64 &&& 63)) - r3.2.1) (if (bf_power x2) < (bf_power x1) then (bf_power x2) else (bf_power x1))), (f1, ((r3.1 + (1 : Int64)) &&& (7 : Int64)).toInt32), rfl, by rw [bf_remainderOfFinite, e3, bf_remainderOfFinite_k1, if_neg h4, if_pos h5], by rw [ht]; exact hP, va_K.moved hW.alike hK, hD⟩, hS.F ht⟩) hS.2.2 dX0_remainderOfFinite_180
    · refine lv_lload hx hb dX0_remainderOfFinite_121 (lv_at hl 0 rfl) ?_
      refine lv_lload hx hb dX0_remainderOfFinite_123 (lv_at hl 7 rfl) ?_
      refine bw_lc_ne (tgt := 159) hx hb dX0_remainderOfFinite_125 dX0_remainderOfFinite_126 (by decide) (fun h6 => ?_) (fun h6 => ?_)
      · refine lv_aload_n hx hb dX0_remainderOfFinite_159 rfl (lv_at hl 2 rfl) ?_
        refine lv_lload hx hb dX0_remainderOfFinite_160 (lv_at hl 9 rfl) ?_
        refine lv_ldc2 hx hb hown (hts (.constantLong RX0 130 7) (by decide +kernel)) dX0_remainderOfFinite_162 ?_
        refine lv_land hx hb dX0_remainderOfFinite_165 ?_
        refine lv_l2i hx hb dX0_remainderOfFinite_166 rfl ?_
        refine va_put (D := (dC, dI)) (ci := 0) (v := .int ((r3.1 &&& (7 : Int64)).toInt32)) (ty := .int) (C := RX0) (T := TX0) (N := 3) hx hb hts hin0 tyX0 tyX0_ok nmX0 hown hK hP hD hS 0 rfl rfl 2 (by decide) (hts (.fieldLink RX0 17 "BinaryFunctions" "lastQuotient" "I") (by decide +kernel)) (fun _ h9 => h9) rfl (by decide +kernel) rfl rfl (Nat.le_of_ble_eq_true rfl) dX0_remainderOfFinite_167 (fun H locs hP hD hS => ?_)
        have hP : va_P (dC, dI) vwCl [(h0, .inr (0, [.ref a0, .int f1, .int ((r3.1 &&& (7 : Int64)).toInt32)]))] H := hP
        have hD : va_D A [(h0, .inr (0, [.ref a0, .int f1, .int ((r3.1 &&& (7 : Int64)).toInt32)]))] := hD
        refine lv_lload hx hb dX0_remainderOfFinite_170 (lv_at hl 1 rfl) ?_
        refine lv_lload hx hb dX0_remainderOfFinite_172 (lv_at hl 10 rfl) ?_
        refine lv_iload hx hb dX0_remainderOfFinite_174 (lv_at hl 8 rfl) ?_
        refine bw_csl (rest := [.long (bf_signOf x1)]) ⟨hx, hb, hml, hown, hts⟩ (bc_pattern l r3.2.1 (if (bf_power x2) < (bf_power x1) then (bf_power x2) else (bf_power x1))) (va_cwS 2 hts gX0_remainderOfFinite_X0_pattern rfl rfl rfl (by decide +kernel) ⟨Nat.le_of_ble_eq_true rfl, Nat.le_of_ble_eq_true rfl⟩) rfl hl.1 rfl (Nat.le_of_ble_eq_true rfl) dX0_remainderOfFinite_176 (Nat.zero_le _) (Nat.zero_le _) ?_
        refine lv_lor hx hb dX0_remainderOfFinite_179 ?_
        exact W.lret (v := (bf_signOf x1) ||| (bf_pattern r3.2.1 (if (bf_power x2) < (bf_power x1) then (bf_power x2) else (bf_power x1)))) hx hb hr (fun t ht hW => ⟨⟨(bf_signOf x1) ||| (bf_pattern r3.2.1 (if (bf_power x2) < (bf_power x1) then (bf_power x2) else (bf_power x1))), (f1, (r3.1 &&& (7 : Int64)).toInt32), rfl, by rw [bf_remainderOfFinite, e3, bf_remainderOfFinite_k1, if_neg h4, if_neg h5, if_neg h6], by rw [ht]; exact hP, va_K.moved hW.alike hK, hD⟩, hS.F ht⟩) hS.2.2 dX0_remainderOfFinite_180
      · refine lv_lload hx hb dX0_remainderOfFinite_129 (lv_at hl 9 rfl) ?_
        refine lv_lconst (v := 1) hx hb dX0_remainderOfFinite_131 (by decide) ?_
        refine lv_land hx hb dX0_remainderOfFinite_132 ?_
        refine lv_lconst (v := 1) hx hb dX0_remainderOfFinite_133 (by decide) ?_
        refine bw_lc_ne (tgt := 159) hx hb dX0_remainderOfFinite_134 dX0_remainderOfFinite_135 (by decide) (fun h7 => ?_) (fun h7 => ?_)
        · refine lv_aload_n hx hb dX0_remainderOfFinite_159 rfl (lv_at hl 2 rfl) ?_
          refine lv_lload hx hb dX0_remainderOfFinite_160 (lv_at hl 9 rfl) ?_
          refine lv_ldc2 hx hb hown (hts (.constantLong RX0 130 7) (by decide +kernel)) dX0_remainderOfFinite_162 ?_
          refine lv_land hx hb dX0_remainderOfFinite_165 ?_
          refine lv_l2i hx hb dX0_remainderOfFinite_166 rfl ?_
          refine va_put (D := (dC, dI)) (ci := 0) (v := .int ((r3.1 &&& (7 : Int64)).toInt32)) (ty := .int) (C := RX0) (T := TX0) (N := 3) hx hb hts hin0 tyX0 tyX0_ok nmX0 hown hK hP hD hS 0 rfl rfl 2 (by decide) (hts (.fieldLink RX0 17 "BinaryFunctions" "lastQuotient" "I") (by decide +kernel)) (fun _ h9 => h9) rfl (by decide +kernel) rfl rfl (Nat.le_of_ble_eq_true rfl) dX0_remainderOfFinite_167 (fun H locs hP hD hS => ?_)
          have hP : va_P (dC, dI) vwCl [(h0, .inr (0, [.ref a0, .int f1, .int ((r3.1 &&& (7 : Int64)).toInt32)]))] H := hP
          have hD : va_D A [(h0, .inr (0, [.ref a0, .int f1, .int ((r3.1 &&& (7 : Int64)).toInt32)]))] := hD
          refine lv_lload hx hb dX0_remainderOfFinite_170 (lv_at hl 1 rfl) ?_
          refine lv_lload hx hb dX0_remainderOfFinite_172 (lv_at hl 10 rfl) ?_
          refine lv_iload hx hb dX0_remainderOfFinite_174 (lv_at hl 8 rfl) ?_
          refine bw_csl (rest := [.long (bf_signOf x1)]) ⟨hx, hb, hml, hown, hts⟩ (bc_pattern l r3.2.1 (if (bf_power x2) < (bf_power x1) then (bf_power x2) else (bf_power x1))) (va_cwS 2 hts gX0_remainderOfFinite_X0_pattern rfl rfl rfl (by decide +kernel) ⟨Nat.le_of_ble_eq_true rfl, Nat.le_of_ble_eq_true rfl⟩) rfl hl.1 rfl (Nat.le_of_ble_eq_true rfl) dX0_remainderOfFinite_176 (Nat.zero_le _) (Nat.zero_le _) ?_
          refine lv_lor hx hb dX0_remainderOfFinite_179 ?_
          exact W.lret (v := (bf_signOf x1) ||| (bf_pattern r3.2.1 (if (bf_power x2) < (bf_power x1) then (bf_power x2) else (bf_power x1)))) hx hb hr (fun t ht hW => ⟨⟨(bf_signOf x1) ||| (bf_pattern r3.2.1 (if (bf_power x2) < (bf_power x1) then (bf_power x2) else (bf_power x1))), (f1, (r3.1 &&& (7 : Int64)).toInt32), rfl, by rw [bf_remainderOfFinite, e3, bf_remainderOfFinite_k1, if_neg h4, if_neg h5, if_pos h6, if_neg h7], by rw [ht]; exact hP, va_K.moved hW.alike hK, hD⟩, hS.F ht⟩) hS.2.2 dX0_remainderOfFinite_180
        · refine lv_lload hx hb dX0_remainderOfFinite_138 (lv_at hl 9 rfl) ?_
          refine lv_lconst (v := 1) hx hb dX0_remainderOfFinite_140 (by decide) ?_
          refine lv_ladd hx hb dX0_remainderOfFinite_141 ?_
          refine lv_lstore (nL := 18) (lv' := [(10, .long (r3.1 + (1 : Int64))), (16, .long (r3.2.1 <<< ((1 : Int32).toInt64 &&& 63))), (14, .long (bf_signOf x1)), (0, .ref h0), (1, .long x1), (3, .long x2), (5, .int x3), (6, .int x4), (7, .long ((bf_significand x2) <<< ((if (-x3) < (0 : Int32) then (0 : Int32) else (-x3)).toInt64 &&& 63))), (9, .int (if (bf_power x2) < (bf_power x1) then (bf_power x2) else (bf_power x1))), (12, .long r3.2.1)]) hx hb dX0_remainderOfFinite_142 hl (by decide) rfl (fun ls hl => ?_)
          refine lv_lload hx hb dX0_remainderOfFinite_144 (lv_at hl 8 rfl) ?_
          refine lv_lload hx hb dX0_remainderOfFinite_146 (lv_at hl 10 rfl) ?_
          refine lv_lsub hx hb dX0_remainderOfFinite_148 ?_
          refine lv_lstore (nL := 18) (lv' := [(12, .long (((bf_significand x2) <<< ((if (-x3) < (0 : Int32) then (0 : Int32) else (-x3)).toInt64 &&& 63)) - r3.2.1)), (10, .long (r3.1 + (1 : Int64))), (16, .long (r3.2.1 <<< ((1 : Int32).toInt64 &&& 63))), (14, .long (bf_signOf x1)), (0, .ref h0), (1, .long x1), (3, .long x2), (5, .int x3), (6, .int x4), (7, .long ((bf_significand x2) <<< ((if (-x3) < (0 : Int32) then (0 : Int32) else (-x3)).toInt64 &&& 63))), (9, .int (if (bf_power x2) < (bf_power x1) then (bf_power x2) else (bf_power x1)))]) hx hb dX0_remainderOfFinite_149 hl (by decide) rfl (fun ls hl => ?_)
          refine lv_lload hx hb dX0_remainderOfFinite_151 (lv_at hl 3 rfl) ?_
          refine lv_ldc2 hx hb hown (hts (.constantLong RX0 69 (-9223372036854775808)) (by decide +kernel)) dX0_remainderOfFinite_153 ?_
          refine lv_lxor hx hb dX0_remainderOfFinite_156 ?_
          refine lv_lstore (nL := 18) (lv' := [(14, .long ((bf_signOf x1) ^^^ (-9223372036854775808 : Int64))), (12, .long (((bf_significand x2) <<< ((if (-x3) < (0 : Int32) then (0 : Int32) else (-x3)).toInt64 &&& 63)) - r3.2.1)), (10, .long (r3.1 + (1 : Int64))), (16, .long (r3.2.1 <<< ((1 : Int32).toInt64 &&& 63))), (0, .ref h0), (1, .long x1), (3, .long x2), (5, .int x3), (6, .int x4), (7, .long ((bf_significand x2) <<< ((if (-x3) < (0 : Int32) then (0 : Int32) else (-x3)).toInt64 &&& 63))), (9, .int (if (bf_power x2) < (bf_power x1) then (bf_power x2) else (bf_power x1)))]) hx hb dX0_remainderOfFinite_157 hl (by decide) rfl (fun ls hl => ?_)
          refine lv_aload_n hx hb dX0_remainderOfFinite_159 rfl (lv_at hl 4 rfl) ?_
          refine lv_lload hx hb dX0_remainderOfFinite_160 (lv_at hl 2 rfl) ?_
          refine lv_ldc2 hx hb hown (hts (.constantLong RX0 130 7) (by decide +kernel)) dX0_remainderOfFinite_162 ?_
          refine lv_land hx hb dX0_remainderOfFinite_165 ?_
          refine lv_l2i hx hb dX0_remainderOfFinite_166 rfl ?_
          refine va_put (D := (dC, dI)) (ci := 0) (v := .int (((r3.1 + (1 : Int64)) &&& (7 : Int64)).toInt32)) (ty := .int) (C := RX0) (T := TX0) (N := 3) hx hb hts hin0 tyX0 tyX0_ok nmX0 hown hK hP hD hS 0 rfl rfl 2 (by decide) (hts (.fieldLink RX0 17 "BinaryFunctions" "lastQuotient" "I") (by decide +kernel)) (fun _ h9 => h9) rfl (by decide +kernel) rfl rfl (Nat.le_of_ble_eq_true rfl) dX0_remainderOfFinite_167 (fun H locs hP hD hS => ?_)
          have hP : va_P (dC, dI) vwCl [(h0, .inr (0, [.ref a0, .int f1, .int (((r3.1 + (1 : Int64)) &&& (7 : Int64)).toInt32)]))] H := hP
          have hD : va_D A [(h0, .inr (0, [.ref a0, .int f1, .int (((r3.1 + (1 : Int64)) &&& (7 : Int64)).toInt32)]))] := hD
          refine lv_lload hx hb dX0_remainderOfFinite_170 (lv_at hl 0 rfl) ?_
          refine lv_lload hx hb dX0_remainderOfFinite_172 (lv_at hl 1 rfl) ?_
          refine lv_iload hx hb dX0_remainderOfFinite_174 (lv_at hl 10 rfl) ?_
          refine bw_csl (rest := [.long ((bf_signOf x1) ^^^ (-9223372036854775808 : Int64))]) ⟨hx, hb, hml, hown, hts⟩ (bc_pattern l (((bf_significand x2) <<< ((if (-x3) < (0 : Int32) then (0 : Int32) else (-x3)).toInt64 &&& 63)) - r3.2.1) (if (bf_power x2) < (bf_power x1) then (bf_power x2) else (bf_power x1))) (va_cwS 2 hts gX0_remainderOfFinite_X0_pattern rfl rfl rfl (by decide +kernel) ⟨Nat.le_of_ble_eq_true rfl, Nat.le_of_ble_eq_true rfl⟩) rfl hl.1 rfl (Nat.le_of_ble_eq_true rfl) dX0_remainderOfFinite_176 (Nat.zero_le _) (Nat.zero_le _) ?_
          refine lv_lor hx hb dX0_remainderOfFinite_179 ?_
          exact W.lret (v := ((bf_signOf x1) ^^^ (-9223372036854775808 : Int64)) ||| (bf_pattern (((bf_significand x2) <<< ((if (-x3) < (0 : Int32) then (0 : Int32) else (-x3)).toInt64 &&& 63)) - r3.2.1) (if (bf_power x2) < (bf_power x1) then (bf_power x2) else (bf_power x1)))) hx hb hr (fun t ht hW => ⟨⟨((bf_signOf x1) ^^^ (-9223372036854775808 : Int64)) ||| (bf_pattern (((bf_significand x2) <<< ((if (-x3) < (0 : Int32) then (0 : Int32) else (-x3)).toInt64 &&& 63)) - r3.2.1) (if (bf_power x2) < (bf_power x1) then (bf_power x2) else (bf_power x1))), (f1, ((r3.1 + (1 : Int64)) &&& (7 : Int64)).toInt32), rfl, by rw [bf_remainderOfFinite, e3, bf_remainderOfFinite_k1, if_neg h4, if_neg h5, if_pos h6, if_pos h7], by rw [ht]; exact hP, va_K.moved hW.alike hK, hD⟩, hS.F ht⟩) hS.2.2 dX0_remainderOfFinite_180
set_option maxHeartbeats 4000000 in
set_option maxRecDepth 100000 in
theorem bc_remainder (l : Launch) (dC : Nat → ClassId) (dI : Nat → Nat → Nat) (h0 a0 : Nat) (sz : Nat) (f1 : Int32) (f2 : Int32) (x1 : Int64) (x2 : Int64) (x3 : Int32) : Met l yX0_remainder wsX0_remainder ({ frames := 4, cells := 0, slots := 0, locals := 104 }) (va_Pc [.ref h0, .long x1, .long x2, .int x3] (bw_I1 (dC, dI) vwCl sz h0 (.inr (0, [.ref a0, .int f1, .int f2])))) (va_Ql (fun (r : Int64) (u : Int32 × Int32) => (r, u) = bf_remainder f1 f2 x1 x2 x3) (fun u t => bw_O1 (dC, dI) vwCl (va_A [(h0, .inr (0, [.ref a0, .int f1, .int f2]))] sz) h0 (.inr (0, [.ref a0, .int u.1, .int u.2])) t) (va_A [(h0, .inr (0, [.ref a0, .int f1, .int f2]))] sz)) 0 0 (va_A [(h0, .inr (0, [.ref a0, .int f1, .int f2]))] sz) := by
  refine Met.ofW (cc := cX0_remainder) (maxL := 7) (ret := (some .long)) (by decide) rfl ?_
  intro p e s m args below meth c s₁ B hml hv
  obtain ⟨rfl, hsz, hP, hK, hD0⟩ := hv
  have hx := B.exec
  have hb := B.bytes
  have hr := B.returns
  have hts := atoms_spec (ws := wsX0_remainder) B.pre
  have hown : s.vm.findClass RX0 = some m.cls := findClass_of_methodNamed B.named
  have hlocks := B.notSynchronized
  subst hsz
  have hD := hD0.self (sz := s.heap.size)
  generalize hAe : va_A [(h0, .inr (0, [.ref a0, .int f1, .int f2]))] s.heap.size = A at hD ⊢
  have hA : ∀ q : Nat, s.heap.size ≤ q → A q := fun q h => by rw [← hAe]; exact Or.inr h
  have hS : va_S A s.heap s.heap [] := va_S.rf
  have hP : va_P (dC, dI) vwCl [(h0, .inr (0, [.ref a0, .int f1, .int f2]))] s.heap := hP
  have hin0 : ∀ w ∈ u_ws RX0 TX0 3, w ∈ wsX0_remainder := by decide +kernel
  have hl := lv_entry ([.ref h0, .long x1, .long x2, .int x3]) (n := 7) (Nat.le_of_ble_eq_true rfl)
  rw [lg_entry_eq]
  generalize (lg_sl ([.ref h0, .long x1, .long x2, .int x3]) ++ List.replicate (7 - (lg_sl ([.ref h0, .long x1, .long x2, .int x3])).length) Slot.unset).toArray = ls at hl ⊢
  have hl : lv_has ls 7 [(0, .ref h0), (1, .long x1), (3, .long x2), (5, .int x3)] := hl
  refine lv_aload_n hx hb dX0_remainder_0 rfl (lv_at hl 0 rfl) ?_
  refine lv_iconst (v := 0) hx hb dX0_remainder_1 (by decide) ?_
  refine va_put (D := (dC, dI)) (ci := 0) (v := .int (0 : Int32)) (ty := .int) (C := RX0) (T := TX0) (N := 3) hx hb hts hin0 tyX0 tyX0_ok nmX0 hown hK hP hD hS 0 rfl rfl 2 (by decide) (hts (.fieldLink RX0 17 "BinaryFunctions" "lastQuotient" "I") (by decide +kernel)) (fun _ h9 => h9) rfl (by decide +kernel) rfl rfl (Nat.le_of_ble_eq_true rfl) dX0_remainder_2 (fun H locs hP hD hS => ?_)
  have hP : va_P (dC, dI) vwCl [(h0, .inr (0, [.ref a0, .int f1, .int (0 : Int32)]))] H := hP
  have hD : va_D A [(h0, .inr (0, [.ref a0, .int f1, .int (0 : Int32)]))] := hD
  refine lv_lload_n hx hb dX0_remainder_5 rfl (lv_at hl 1 rfl) ?_
  refine bw_csi (rest := []) ⟨hx, hb, hml, hown, hts⟩ (bc_isNan l x1) (va_cwS 1 hts gX0_remainder_X0_isNan rfl rfl rfl (by decide +kernel) ⟨Nat.le_of_ble_eq_true rfl, Nat.le_of_ble_eq_true rfl⟩) rfl hl.1 rfl (Nat.le_of_ble_eq_true rfl) dX0_remainder_6 (Nat.zero_le _) (Nat.zero_le _) ?_
  refine lv_if_ne (tgt := 19) hx hb dX0_remainder_9 (by decide) (fun h1 => ?_) (fun h1 => ?_)
  · refine lv_ldc2 hx hb hown (hts (.constantLong RX0 101 9221120237041090560) (by decide +kernel)) dX0_remainder_19 ?_
    exact W.lret (v := (9221120237041090560 : Int64)) hx hb hr (fun t ht hW => ⟨⟨(9221120237041090560 : Int64), (f1, (0 : Int32)), rfl, by rw [bf_remainder, if_neg h1], by rw [ht]; exact hP, va_K.moved hW.alike hK, hD⟩, hS.F ht⟩) hS.2.2 dX0_remainder_22
  · refine lv_lload_n hx hb dX0_remainder_12 rfl (lv_at hl 2 rfl) ?_
    refine bw_csi (rest := []) ⟨hx, hb, hml, hown, hts⟩ (bc_isNan l x2) (va_cwS 1 hts gX0_remainder_X0_isNan rfl rfl rfl (by decide +kernel) ⟨Nat.le_of_ble_eq_true rfl, Nat.le_of_ble_eq_true rfl⟩) rfl hl.1 rfl (Nat.le_of_ble_eq_true rfl) dX0_remainder_13 (Nat.zero_le _) (Nat.zero_le _) ?_
    refine lv_if_eq (tgt := 23) hx hb dX0_remainder_16 (by decide) (fun h2 => ?_) (fun h2 => ?_)
    · refine lv_lload_n hx hb dX0_remainder_23 rfl (lv_at hl 1 rfl) ?_
      refine bw_csi (rest := []) ⟨hx, hb, hml, hown, hts⟩ (bc_isInfinity l x1) (va_cwS 1 hts gX0_remainder_X0_isInfinity rfl rfl rfl (by decide +kernel) ⟨Nat.le_of_ble_eq_true rfl, Nat.le_of_ble_eq_true rfl⟩) rfl hl.1 rfl (Nat.le_of_ble_eq_true rfl) dX0_remainder_24 (Nat.zero_le _) (Nat.zero_le _) ?_
      refine lv_if_ne (tgt := 37) hx hb dX0_remainder_27 (by decide) (fun h3 => ?_) (fun h3 => ?_)
      · refine lv_aload_n hx hb dX0_remainder_37 rfl (lv_at hl 0 rfl) ?_
        refine lv_iconst (v := 1) hx hb dX0_remainder_38 (by decide) ?_
        refine bw_vv1 (rest := []) 0 ⟨hx, hb, hml, hown, hts⟩ (bc_raise l dC dI h0 a0 H.size f1 (0 : Int32) (1 : Int32)) (cwV 1 hts gX0_remainder_X0_raise rfl rfl rfl (by decide +kernel) ⟨Nat.le_of_ble_eq_true rfl, Nat.le_of_ble_eq_true rfl⟩) hK hP hD hS hA rfl rfl rfl hl.1 rfl (Nat.le_of_ble_eq_true rfl) dX0_remainder_39 (Nat.zero_le _) (Nat.zero_le _) (fun H locs hP hD hS => ?_)
        have hP : va_P (dC, dI) vwCl [(h0, .inr (0, [.ref a0, .int ((bf_raise f1 (0 : Int32) (1 : Int32)).1), .int ((bf_raise f1 (0 : Int32) (1 : Int32)).2)]))] H := hP
        have hD : va_D A [(h0, .inr (0, [.ref a0, .int ((bf_raise f1 (0 : Int32) (1 : Int32)).1), .int ((bf_raise f1 (0 : Int32) (1 : Int32)).2)]))] := hD
        obtain ⟨r4, e4⟩ : ∃ r, (bf_raise f1 (0 : Int32) (1 : Int32)) = r := ⟨_, rfl⟩
        rw [e4] at hP hD
        refine lv_ldc2 hx hb hown (hts (.constantLong RX0 101 9221120237041090560) (by decide +kernel)) dX0_remainder_42 ?_
        exact W.lret (v := (9221120237041090560 : Int64)) hx hb hr (fun t ht hW => ⟨⟨(9221120237041090560 : Int64), (r4.1, r4.2), rfl, by rw [bf_remainder, if_pos h1, if_pos h2, if_neg h3, e4, bf_remainder_k1], by rw [ht]; exact hP, va_K.moved hW.alike hK, hD⟩, hS.F ht⟩) hS.2.2 dX0_remainder_45
      · refine lv_lload_n hx hb dX0_remainder_30 rfl (lv_at hl 2 rfl) ?_
        refine bw_csi (rest := []) ⟨hx, hb, hml, hown, hts⟩ (bc_isZero l x2) (va_cwS 1 hts gX0_remainder_X0_isZero rfl rfl rfl (by decide +kernel) ⟨Nat.le_of_ble_eq_true rfl, Nat.le_of_ble_eq_true rfl⟩) rfl hl.1 rfl (Nat.le_of_ble_eq_true rfl) dX0_remainder_31 (Nat.zero_le _) (Nat.zero_le _) ?_
        refine lv_if_eq (tgt := 46) hx hb dX0_remainder_34 (by decide) (fun h5 => ?_) (fun h5 => ?_)
        · refine lv_lload_n hx hb dX0_remainder_46 rfl (lv_at hl 2 rfl) ?_
          refine bw_csi (rest := []) ⟨hx, hb, hml, hown, hts⟩ (bc_isInfinity l x2) (va_cwS 1 hts gX0_remainder_X0_isInfinity rfl rfl rfl (by decide +kernel) ⟨Nat.le_of_ble_eq_true rfl, Nat.le_of_ble_eq_true rfl⟩) rfl hl.1 rfl (Nat.le_of_ble_eq_true rfl) dX0_remainder_47 (Nat.zero_le _) (Nat.zero_le _) ?_
          refine lv_if_ne (tgt := 60) hx hb dX0_remainder_50 (by decide) (fun h6 => ?_) (fun h6 => ?_)
          · refine lv_lload_n hx hb dX0_remainder_60 rfl (lv_at hl 1 rfl) ?_
            exact W.lret (v := x1) hx hb hr (fun t ht hW => ⟨⟨x1, (f1, (0 : Int32)), rfl, by rw [bf_remainder, if_pos h1, if_pos h2, if_pos h3, if_pos h5, if_neg h6], by rw [ht]; exact hP, va_K.moved hW.alike hK, hD⟩, hS.F ht⟩) hS.2.2 dX0_remainder_61
          · refine lv_lload_n hx hb dX0_remainder_53 rfl (lv_at hl 1 rfl) ?_
            refine bw_csi (rest := []) ⟨hx, hb, hml, hown, hts⟩ (bc_isZero l x1) (va_cwS 1 hts gX0_remainder_X0_isZero rfl rfl rfl (by decide +kernel) ⟨Nat.le_of_ble_eq_true rfl, Nat.le_of_ble_eq_true rfl⟩) rfl hl.1 rfl (Nat.le_of_ble_eq_true rfl) dX0_remainder_54 (Nat.zero_le _) (Nat.zero_le _) ?_
            refine lv_if_eq (tgt := 62) hx hb dX0_remainder_57 (by decide) (fun h7 => ?_) (fun h7 => ?_)
            · refine lv_lload_n hx hb dX0_remainder_62 rfl (lv_at hl 1 rfl) ?_
              refine bw_csi (rest := []) ⟨hx, hb, hml, hown, hts⟩ (bc_power l x1) (va_cwS 1 hts gX0_remainder_X0_power rfl rfl rfl (by decide +kernel) ⟨Nat.le_of_ble_eq_true rfl, Nat.le_of_ble_eq_true rfl⟩) rfl hl.1 rfl (Nat.le_of_ble_eq_true rfl) dX0_remainder_63 (Nat.zero_le _) (Nat.zero_le _) ?_
              refine lv_lload_n hx hb dX0_remainder_66 rfl (lv_at hl 2 rfl) ?_
              refine bw_csi (rest := [.int (bf_power x1)]) ⟨hx, hb, hml, hown, hts⟩ (bc_power l x2) (va_cwS 1 hts gX0_remainder_X0_power rfl rfl rfl (by decide +kernel) ⟨Nat.le_of_ble_eq_true rfl, Nat.le_of_ble_eq_true rfl⟩) rfl hl.1 rfl (Nat.le_of_ble_eq_true rfl) dX0_remainder_67 (Nat.zero_le _) (Nat.zero_le _) ?_
              refine lv_isub hx hb dX0_remainder_70 ?_
              refine lv_istore (nL := 7) (lv' := [(6, .int ((bf_power x1) - (bf_power x2))), (0, .ref h0), (1, .long x1), (3, .long x2), (5, .int x3)]) hx hb dX0_remainder_71 hl (by decide) rfl (fun ls hl => ?_)
              refine lv_iload hx hb dX0_remainder_73 (lv_at hl 0 rfl) ?_
              refine lv_iconst (v := -1) hx hb dX0_remainder_75 (by decide) ?_
              refine lv_icmp_ge (tgt := 81) hx hb dX0_remainder_76 (by decide) (fun h8 => ?_) (fun h8 => ?_)
              · refine lv_aload_n hx hb dX0_remainder_81 rfl (lv_at hl 1 rfl) ?_
                refine lv_lload_n hx hb dX0_remainder_82 rfl (lv_at hl 2 rfl) ?_
                refine lv_lload_n hx hb dX0_remainder_83 rfl (lv_at hl 3 rfl) ?_
                refine lv_iload hx hb dX0_remainder_84 (lv_at hl 0 rfl) ?_
                refine lv_iload hx hb dX0_remainder_86 (lv_at hl 4 rfl) ?_
                refine bw_vl1 (rest := []) 0 ⟨hx, hb, hml, hown, hts⟩ (bc_remainderOfFinite l dC dI h0 a0 H.size f1 (0 : Int32) x1 x2 ((bf_power x1) - (bf_power x2)) x3 (bs_nz0 h5 h8)) (cwV 4 hts gX0_remainder_X0_remainderOfFinite rfl rfl rfl (by decide +kernel) ⟨Nat.le_of_ble_eq_true rfl, Nat.le_of_ble_eq_true rfl⟩) hK hP hD hS hA rfl rfl rfl hl.1 rfl (Nat.le_of_ble_eq_true rfl) dX0_remainder_88 (Nat.zero_le _) (Nat.zero_le _) (fun H locs hP hD hS => ?_)
                have hP : va_P (dC, dI) vwCl [(h0, .inr (0, [.ref a0, .int ((bf_remainderOfFinite f1 (0 : Int32) x1 x2 ((bf_power x1) - (bf_power x2)) x3).2.1), .int ((bf_remainderOfFinite f1 (0 : Int32) x1 x2 ((bf_power x1) - (bf_power x2)) x3).2.2)]))] H := hP
                have hD : va_D A [(h0, .inr (0, [.ref a0, .int ((bf_remainderOfFinite f1 (0 : Int32) x1 x2 ((bf_power x1) - (bf_power x2)) x3).2.1), .int ((bf_remainderOfFinite f1 (0 : Int32) x1 x2 ((bf_power x1) - (bf_power x2)) x3).2.2)]))] := hD
                obtain ⟨r9, e9⟩ : ∃ r, (bf_remainderOfFinite f1 (0 : Int32) x1 x2 ((bf_power x1) - (bf_power x2)) x3) = r := ⟨_, rfl⟩
                rw [e9] at hP hD ⊢
                exact W.lret (v := r9.1) hx hb hr (fun t ht hW => ⟨⟨r9.1, (r9.2.1, r9.2.2), rfl, by rw [bf_remainder, if_pos h1, if_pos h2, if_pos h3, if_pos h5, if_pos h6, if_pos h7, if_pos h8, e9, bf_remainder_k2], by rw [ht]; exact hP, va_K.moved hW.alike hK, hD⟩, hS.F ht⟩) hS.2.2 dX0_remainder_91
              · refine lv_lload_n hx hb dX0_remainder_79 rfl (lv_at hl 2 rfl) ?_
                exact W.lret (v := x1) hx hb hr (fun t ht hW => ⟨⟨x1, (f1, (0 : Int32)), rfl, by rw [bf_remainder, if_pos h1, if_pos h2, if_pos h3, if_pos h5, if_pos h6, if_pos h7, if_neg h8], by rw [ht]; exact hP, va_K.moved hW.alike hK, hD⟩, hS.F ht⟩) hS.2.2 dX0_remainder_80
            · refine lv_lload_n hx hb dX0_remainder_60 rfl (lv_at hl 1 rfl) ?_
              exact W.lret (v := x1) hx hb hr (fun t ht hW => ⟨⟨x1, (f1, (0 : Int32)), rfl, by rw [bf_remainder, if_pos h1, if_pos h2, if_pos h3, if_pos h5, if_pos h6, if_neg h7], by rw [ht]; exact hP, va_K.moved hW.alike hK, hD⟩, hS.F ht⟩) hS.2.2 dX0_remainder_61
        · refine lv_aload_n hx hb dX0_remainder_37 rfl (lv_at hl 0 rfl) ?_
          refine lv_iconst (v := 1) hx hb dX0_remainder_38 (by decide) ?_
          refine bw_vv1 (rest := []) 0 ⟨hx, hb, hml, hown, hts⟩ (bc_raise l dC dI h0 a0 H.size f1 (0 : Int32) (1 : Int32)) (cwV 1 hts gX0_remainder_X0_raise rfl rfl rfl (by decide +kernel) ⟨Nat.le_of_ble_eq_true rfl, Nat.le_of_ble_eq_true rfl⟩) hK hP hD hS hA rfl rfl rfl hl.1 rfl (Nat.le_of_ble_eq_true rfl) dX0_remainder_39 (Nat.zero_le _) (Nat.zero_le _) (fun H locs hP hD hS => ?_)
          have hP : va_P (dC, dI) vwCl [(h0, .inr (0, [.ref a0, .int ((bf_raise f1 (0 : Int32) (1 : Int32)).1), .int ((bf_raise f1 (0 : Int32) (1 : Int32)).2)]))] H := hP
          have hD : va_D A [(h0, .inr (0, [.ref a0, .int ((bf_raise f1 (0 : Int32) (1 : Int32)).1), .int ((bf_raise f1 (0 : Int32) (1 : Int32)).2)]))] := hD
          obtain ⟨r10, e10⟩ : ∃ r, (bf_raise f1 (0 : Int32) (1 : Int32)) = r := ⟨_, rfl⟩
          rw [e10] at hP hD
          refine lv_ldc2 hx hb hown (hts (.constantLong RX0 101 9221120237041090560) (by decide +kernel)) dX0_remainder_42 ?_
          exact W.lret (v := (9221120237041090560 : Int64)) hx hb hr (fun t ht hW => ⟨⟨(9221120237041090560 : Int64), (r10.1, r10.2), rfl, by rw [bf_remainder, if_pos h1, if_pos h2, if_pos h3, if_neg h5, e10, bf_remainder_k3], by rw [ht]; exact hP, va_K.moved hW.alike hK, hD⟩, hS.F ht⟩) hS.2.2 dX0_remainder_45
    · refine lv_ldc2 hx hb hown (hts (.constantLong RX0 101 9221120237041090560) (by decide +kernel)) dX0_remainder_19 ?_
      exact W.lret (v := (9221120237041090560 : Int64)) hx hb hr (fun t ht hW => ⟨⟨(9221120237041090560 : Int64), (f1, (0 : Int32)), rfl, by rw [bf_remainder, if_pos h1, if_neg h2], by rw [ht]; exact hP, va_K.moved hW.alike hK, hD⟩, hS.F ht⟩) hS.2.2 dX0_remainder_22
end
section
/-! walks: the class, scaling -/
set_option maxHeartbeats 4000000 in
set_option maxRecDepth 100000 in
theorem bc_roundedToLeastPower (l : Launch) (dC : Nat → ClassId) (dI : Nat → Nat → Nat) (h0 a0 : Nat) (sz : Nat) (f1 : Int32) (f2 : Int32) (x1 : Int64) (x2 : Int32) : Met l yX0_roundedToLeastPower wsX0_roundedToLeastPower ({ frames := 3, cells := 0, slots := 0, locals := 67 }) (va_Pc [.ref h0, .long x1, .int x2] (bw_I1 (dC, dI) vwCl sz h0 (.inr (0, [.ref a0, .int f1, .int f2])))) (va_Ql (fun (r : Int64) (u : Int32 × Int32) => (r, u) = bf_roundedToLeastPower f1 f2 x1 x2) (fun u t => bw_O1 (dC, dI) vwCl (va_A [(h0, .inr (0, [.ref a0, .int f1, .int f2]))] sz) h0 (.inr (0, [.ref a0, .int u.1, .int u.2])) t) (va_A [(h0, .inr (0, [.ref a0, .int f1, .int f2]))] sz)) 0 0 (va_A [(h0, .inr (0, [.ref a0, .int f1, .int f2]))] sz) := by
  refine Met.ofW (cc := cX0_roundedToLeastPower) (maxL := 6) (ret := (some .long)) (by decide) rfl ?_
  intro p e s m args below meth c s₁ B hml hv
  obtain ⟨rfl, hsz, hP, hK, hD0⟩ := hv
  have hx := B.exec
  have hb := B.bytes
  have hr := B.returns
  have hts := atoms_spec (ws := wsX0_roundedToLeastPower) B.pre
  have hown : s.vm.findClass RX0 = some m.cls := findClass_of_methodNamed B.named
  have hlocks := B.notSynchronized
  subst hsz
  have hD := hD0.self (sz := s.heap.size)
  generalize hAe : va_A [(h0, .inr (0, [.ref a0, .int f1, .int f2]))] s.heap.size = A at hD ⊢
  have hA : ∀ q : Nat, s.heap.size ≤ q → A q := fun q h => by rw [← hAe]; exact Or.inr h
  have hS : va_S A s.heap s.heap [] := va_S.rf
  have hP : va_P (dC, dI) vwCl [(h0, .inr (0, [.ref a0, .int f1, .int f2]))] s.heap := hP
  have hl := lv_entry ([.ref h0, .long x1, .int x2]) (n := 6) (Nat.le_of_ble_eq_true rfl)
  rw [lg_entry_eq]
  generalize (lg_sl ([.ref h0, .long x1, .int x2]) ++ List.replicate (6 - (lg_sl ([.ref h0, .long x1, .int x2])).length) Slot.unset).toArray = ls at hl ⊢
  have hl : lv_has ls 6 [(0, .ref h0), (1, .long x1), (3, .int x2)] := hl
  refine lv_lload_n hx hb dX0_roundedToLeastPower_0 rfl (lv_at hl 1 rfl) ?_
  refine lv_iload_n hx hb dX0_roundedToLeastPower_1 rfl (lv_at hl 2 rfl) ?_
  refine bw_csl (rest := []) ⟨hx, hb, hml, hown, hts⟩ (bc_nearestShifted l x1 x2) (va_cwS 2 hts gX0_roundedToLeastPower_X0_nearestShifted rfl rfl rfl (by decide +kernel) ⟨Nat.le_of_ble_eq_true rfl, Nat.le_of_ble_eq_true rfl⟩) rfl hl.1 rfl (Nat.le_of_ble_eq_true rfl) dX0_roundedToLeastPower_2 (Nat.zero_le _) (Nat.zero_le _) ?_
  refine lv_lstore (nL := 6) (lv' := [(4, .long (bf_nearestShifted x1 x2)), (0, .ref h0), (1, .long x1), (3, .int x2)]) hx hb dX0_roundedToLeastPower_5 hl (by decide) rfl (fun ls hl => ?_)
  refine lv_lload hx hb dX0_roundedToLeastPower_7 (lv_at hl 0 rfl) ?_
  refine lv_iload_n hx hb dX0_roundedToLeastPower_9 rfl (lv_at hl 3 rfl) ?_
  refine lv_lshl hx hb dX0_roundedToLeastPower_10 rfl ?_
  refine lv_lload_n hx hb dX0_roundedToLeastPower_11 rfl (lv_at hl 2 rfl) ?_
  refine bw_lc_eq (tgt := 35) hx hb dX0_roundedToLeastPower_12 dX0_roundedToLeastPower_13 (by decide) (fun h1 => ?_) (fun h1 => ?_)
  · refine lv_lload hx hb dX0_roundedToLeastPower_35 (lv_at hl 0 rfl) ?_
    refine lv_sipush (v := -1074) hx hb dX0_roundedToLeastPower_37 (by decide) ?_
    refine bw_csl (rest := []) ⟨hx, hb, hml, hown, hts⟩ (bc_pattern l (bf_nearestShifted x1 x2) (-1074 : Int32)) (va_cwS 2 hts gX0_roundedToLeastPower_X0_pattern rfl rfl rfl (by decide +kernel) ⟨Nat.le_of_ble_eq_true rfl, Nat.le_of_ble_eq_true rfl⟩) rfl hl.1 rfl (Nat.le_of_ble_eq_true rfl) dX0_roundedToLeastPower_40 (Nat.zero_le _) (Nat.zero_le _) ?_
    exact W.lret (v := bf_pattern (bf_nearestShifted x1 x2) (-1074 : Int32)) hx hb hr (fun t ht hW => ⟨⟨bf_pattern (bf_nearestShifted x1 x2) (-1074 : Int32), (f1, f2), rfl, by rw [bf_roundedToLeastPower, if_pos h1], by rw [ht]; exact hP, va_K.moved hW.alike hK, hD⟩, hS.F ht⟩) hS.2.2 dX0_roundedToLeastPower_43
  · refine lv_aload_n hx hb dX0_roundedToLeastPower_16 rfl (lv_at hl 1 rfl) ?_
    refine lv_lload hx hb dX0_roundedToLeastPower_17 (lv_at hl 0 rfl) ?_
    refine lv_ldc2 hx hb hown (hts (.constantLong RX0 71 4503599627370496) (by decide +kernel)) dX0_roundedToLeastPower_19 ?_
    refine bw_lc_ge (tgt := 31) hx hb dX0_roundedToLeastPower_22 dX0_roundedToLeastPower_23 (by decide) (fun h2 => ?_) (fun h2 => ?_)
    · refine lv_iconst (v := 2) hx hb dX0_roundedToLeastPower_31 (by decide) ?_
      refine bw_vv1 (rest := []) 0 ⟨hx, hb, hml, hown, hts⟩ (bc_raise l dC dI h0 a0 s.heap.size f1 f2 (2 : Int32)) (cwV 1 hts gX0_roundedToLeastPower_X0_raise rfl rfl rfl (by decide +kernel) ⟨Nat.le_of_ble_eq_true rfl, Nat.le_of_ble_eq_true rfl⟩) hK hP hD hS hA rfl rfl rfl hl.1 rfl (Nat.le_of_ble_eq_true rfl) dX0_roundedToLeastPower_32 (Nat.zero_le _) (Nat.zero_le _) (fun H locs hP hD hS => ?_)
      have hP : va_P (dC, dI) vwCl [(h0, .inr (0, [.ref a0, .int ((bf_raise f1 f2 (2 : Int32)).1), .int ((bf_raise f1 f2 (2 : Int32)).2)]))] H := hP
      have hD : va_D A [(h0, .inr (0, [.ref a0, .int ((bf_raise f1 f2 (2 : Int32)).1), .int ((bf_raise f1 f2 (2 : Int32)).2)]))] := hD
      obtain ⟨r3, e3⟩ : ∃ r, (bf_raise f1 f2 (2 : Int32)) = r := ⟨_, rfl⟩
      rw [e3] at hP hD
      refine lv_lload hx hb dX0_roundedToLeastPower_35 (lv_at hl 0 rfl) ?_
      refine lv_sipush (v := -1074) hx hb dX0_roundedToLeastPower_37 (by decide) ?_
      refine bw_csl (rest := []) ⟨hx, hb, hml, hown, hts⟩ (bc_pattern l (bf_nearestShifted x1 x2) (-1074 : Int32)) (va_cwS 2 hts gX0_roundedToLeastPower_X0_pattern rfl rfl rfl (by decide +kernel) ⟨Nat.le_of_ble_eq_true rfl, Nat.le_of_ble_eq_true rfl⟩) rfl hl.1 rfl (Nat.le_of_ble_eq_true rfl) dX0_roundedToLeastPower_40 (Nat.zero_le _) (Nat.zero_le _) ?_
      exact W.lret (v := bf_pattern (bf_nearestShifted x1 x2) (-1074 : Int32)) hx hb hr (fun t ht hW => ⟨⟨bf_pattern (bf_nearestShifted x1 x2) (-1074 : Int32), (r3.1, r3.2), rfl, by rw [bf_roundedToLeastPower, if_neg h1, if_pos h2, e3, bf_roundedToLeastPower_k1], by rw [ht]; exact hP, va_K.moved hW.alike hK, hD⟩, hS.F ht⟩) hS.2.2 dX0_roundedToLeastPower_43
    · refine lv_bipush (v := 10) hx hb dX0_roundedToLeastPower_26 (by decide) ?_
      refine lv_goto (tgt := 32) hx hb dX0_roundedToLeastPower_28 (by decide) ?_
      refine bw_vv1 (rest := []) 0 ⟨hx, hb, hml, hown, hts⟩ (bc_raise l dC dI h0 a0 s.heap.size f1 f2 (10 : Int32)) (cwV 1 hts gX0_roundedToLeastPower_X0_raise rfl rfl rfl (by decide +kernel) ⟨Nat.le_of_ble_eq_true rfl, Nat.le_of_ble_eq_true rfl⟩) hK hP hD hS hA rfl rfl rfl hl.1 rfl (Nat.le_of_ble_eq_true rfl) dX0_roundedToLeastPower_32 (Nat.zero_le _) (Nat.zero_le _) (fun H locs hP hD hS => ?_)
      have hP : va_P (dC, dI) vwCl [(h0, .inr (0, [.ref a0, .int ((bf_raise f1 f2 (10 : Int32)).1), .int ((bf_raise f1 f2 (10 : Int32)).2)]))] H := hP
      have hD : va_D A [(h0, .inr (0, [.ref a0, .int ((bf_raise f1 f2 (10 : Int32)).1), .int ((bf_raise f1 f2 (10 : Int32)).2)]))] := hD
      obtain ⟨r4, e4⟩ : ∃ r, (bf_raise f1 f2 (10 : Int32)) = r := ⟨_, rfl⟩
      rw [e4] at hP hD
      refine lv_lload hx hb dX0_roundedToLeastPower_35 (lv_at hl 0 rfl) ?_
      refine lv_sipush (v := -1074) hx hb dX0_roundedToLeastPower_37 (by decide) ?_
      refine bw_csl (rest := []) ⟨hx, hb, hml, hown, hts⟩ (bc_pattern l (bf_nearestShifted x1 x2) (-1074 : Int32)) (va_cwS 2 hts gX0_roundedToLeastPower_X0_pattern rfl rfl rfl (by decide +kernel) ⟨Nat.le_of_ble_eq_true rfl, Nat.le_of_ble_eq_true rfl⟩) rfl hl.1 rfl (Nat.le_of_ble_eq_true rfl) dX0_roundedToLeastPower_40 (Nat.zero_le _) (Nat.zero_le _) ?_
      exact W.lret (v := bf_pattern (bf_nearestShifted x1 x2) (-1074 : Int32)) hx hb hr (fun t ht hW => ⟨⟨bf_pattern (bf_nearestShifted x1 x2) (-1074 : Int32), (r4.1, r4.2), rfl, by rw [bf_roundedToLeastPower, if_neg h1, if_neg h2, e4, bf_roundedToLeastPower_k2], by rw [ht]; exact hP, va_K.moved hW.alike hK, hD⟩, hS.F ht⟩) hS.2.2 dX0_roundedToLeastPower_43
set_option maxHeartbeats 4000000 in
set_option maxRecDepth 100000 in
theorem bc_timesPowerOfTwo (l : Launch) (dC : Nat → ClassId) (dI : Nat → Nat → Nat) (h0 a0 : Nat) (sz : Nat) (f1 : Int32) (f2 : Int32) (x1 : Int64) (x2 : Int32) : Met l yX0_timesPowerOfTwo wsX0_timesPowerOfTwo ({ frames := 4, cells := 0, slots := 0, locals := 92 }) (va_Pc [.ref h0, .long x1, .int x2] (bw_I1 (dC, dI) vwCl sz h0 (.inr (0, [.ref a0, .int f1, .int f2])))) (va_Ql (fun (r : Int64) (u : Int32 × Int32) => (r, u) = bf_timesPowerOfTwo f1 f2 x1 x2) (fun u t => bw_O1 (dC, dI) vwCl (va_A [(h0, .inr (0, [.ref a0, .int f1, .int f2]))] sz) h0 (.inr (0, [.ref a0, .int u.1, .int u.2])) t) (va_A [(h0, .inr (0, [.ref a0, .int f1, .int f2]))] sz)) 0 0 (va_A [(h0, .inr (0, [.ref a0, .int f1, .int f2]))] sz) := by
  refine Met.ofW (cc := cX0_timesPowerOfTwo) (maxL := 7) (ret := (some .long)) (by decide) rfl ?_
  intro p e s m args below meth c s₁ B hml hv
  obtain ⟨rfl, hsz, hP, hK, hD0⟩ := hv
  have hx := B.exec
  have hb := B.bytes
  have hr := B.returns
  have hts := atoms_spec (ws := wsX0_timesPowerOfTwo) B.pre
  have hown : s.vm.findClass RX0 = some m.cls := findClass_of_methodNamed B.named
  have hlocks := B.notSynchronized
  subst hsz
  have hD := hD0.self (sz := s.heap.size)
  generalize hAe : va_A [(h0, .inr (0, [.ref a0, .int f1, .int f2]))] s.heap.size = A at hD ⊢
  have hA : ∀ q : Nat, s.heap.size ≤ q → A q := fun q h => by rw [← hAe]; exact Or.inr h
  have hS : va_S A s.heap s.heap [] := va_S.rf
  have hP : va_P (dC, dI) vwCl [(h0, .inr (0, [.ref a0, .int f1, .int f2]))] s.heap := hP
  have hl := lv_entry ([.ref h0, .long x1, .int x2]) (n := 7) (Nat.le_of_ble_eq_true rfl)
  rw [lg_entry_eq]
  generalize (lg_sl ([.ref h0, .long x1, .int x2]) ++ List.replicate (7 - (lg_sl ([.ref h0, .long x1, .int x2])).length) Slot.unset).toArray = ls at hl ⊢
  have hl : lv_has ls 7 [(0, .ref h0), (1, .long x1), (3, .int x2)] := hl
  refine lv_lload_n hx hb dX0_timesPowerOfTwo_0 rfl (lv_at hl 1 rfl) ?_
  refine bw_csi (rest := []) ⟨hx, hb, hml, hown, hts⟩ (bc_isNan l x1) (va_cwS 1 hts gX0_timesPowerOfTwo_X0_isNan rfl rfl rfl (by decide +kernel) ⟨Nat.le_of_ble_eq_true rfl, Nat.le_of_ble_eq_true rfl⟩) rfl hl.1 rfl (Nat.le_of_ble_eq_true rfl) dX0_timesPowerOfTwo_1 (Nat.zero_le _) (Nat.zero_le _) ?_
  refine lv_if_eq (tgt := 11) hx hb dX0_timesPowerOfTwo_4 (by decide) (fun h1 => ?_) (fun h1 => ?_)
  · refine lv_lload_n hx hb dX0_timesPowerOfTwo_11 rfl (lv_at hl 1 rfl) ?_
    refine bw_csi (rest := []) ⟨hx, hb, hml, hown, hts⟩ (bc_isZero l x1) (va_cwS 1 hts gX0_timesPowerOfTwo_X0_isZero rfl rfl rfl (by decide +kernel) ⟨Nat.le_of_ble_eq_true rfl, Nat.le_of_ble_eq_true rfl⟩) rfl hl.1 rfl (Nat.le_of_ble_eq_true rfl) dX0_timesPowerOfTwo_12 (Nat.zero_le _) (Nat.zero_le _) ?_
    refine lv_if_ne (tgt := 25) hx hb dX0_timesPowerOfTwo_15 (by decide) (fun h2 => ?_) (fun h2 => ?_)
    · refine lv_lload_n hx hb dX0_timesPowerOfTwo_25 rfl (lv_at hl 1 rfl) ?_
      exact W.lret (v := x1) hx hb hr (fun t ht hW => ⟨⟨x1, (f1, f2), rfl, by rw [bf_timesPowerOfTwo, if_pos h1, if_neg h2], by rw [ht]; exact hP, va_K.moved hW.alike hK, hD⟩, hS.F ht⟩) hS.2.2 dX0_timesPowerOfTwo_26
    · refine lv_lload_n hx hb dX0_timesPowerOfTwo_18 rfl (lv_at hl 1 rfl) ?_
      refine bw_csi (rest := []) ⟨hx, hb, hml, hown, hts⟩ (bc_isInfinity l x1) (va_cwS 1 hts gX0_timesPowerOfTwo_X0_isInfinity rfl rfl rfl (by decide +kernel) ⟨Nat.le_of_ble_eq_true rfl, Nat.le_of_ble_eq_true rfl⟩) rfl hl.1 rfl (Nat.le_of_ble_eq_true rfl) dX0_timesPowerOfTwo_19 (Nat.zero_le _) (Nat.zero_le _) ?_
      refine lv_if_eq (tgt := 27) hx hb dX0_timesPowerOfTwo_22 (by decide) (fun h3 => ?_) (fun h3 => ?_)
      · refine lv_lload_n hx hb dX0_timesPowerOfTwo_27 rfl (lv_at hl 1 rfl) ?_
        refine bw_csi (rest := []) ⟨hx, hb, hml, hown, hts⟩ (bc_fullPower l x1) (va_cwS 1 hts gX0_timesPowerOfTwo_X0_fullPower rfl rfl rfl (by decide +kernel) ⟨Nat.le_of_ble_eq_true rfl, Nat.le_of_ble_eq_true rfl⟩) rfl hl.1 rfl (Nat.le_of_ble_eq_true rfl) dX0_timesPowerOfTwo_28 (Nat.zero_le _) (Nat.zero_le _) ?_
        refine lv_i2l hx hb dX0_timesPowerOfTwo_31 rfl ?_
        refine lv_iload_n hx hb dX0_timesPowerOfTwo_32 rfl (lv_at hl 2 rfl) ?_
        refine lv_i2l hx hb dX0_timesPowerOfTwo_33 rfl ?_
        refine lv_ladd hx hb dX0_timesPowerOfTwo_34 ?_
        refine lv_lstore (nL := 7) (lv' := [(4, .long (((bf_fullPower x1).toInt64) + x2.toInt64)), (0, .ref h0), (1, .long x1), (3, .int x2)]) hx hb dX0_timesPowerOfTwo_35 hl (by decide) rfl (fun ls hl => ?_)
        refine lv_lload hx hb dX0_timesPowerOfTwo_37 (lv_at hl 0 rfl) ?_
        refine lv_ldc2 hx hb hown (hts (.constantLong RX0 132 971) (by decide +kernel)) dX0_timesPowerOfTwo_39 ?_
        refine bw_lc_le (tgt := 61) hx hb dX0_timesPowerOfTwo_42 dX0_timesPowerOfTwo_43 (by decide) (fun h4 => ?_) (fun h4 => ?_)
        · refine lv_lload hx hb dX0_timesPowerOfTwo_61 (lv_at hl 0 rfl) ?_
          refine lv_ldc2 hx hb hown (hts (.constantLong RX0 134 (-1074)) (by decide +kernel)) dX0_timesPowerOfTwo_63 ?_
          refine bw_lc_lt (tgt := 86) hx hb dX0_timesPowerOfTwo_66 dX0_timesPowerOfTwo_67 (by decide) (fun h5 => ?_) (fun h5 => ?_)
          · refine lv_ldc2 hx hb hown (hts (.constantLong RX0 134 (-1074)) (by decide +kernel)) dX0_timesPowerOfTwo_86 ?_
            refine lv_lload hx hb dX0_timesPowerOfTwo_89 (lv_at hl 0 rfl) ?_
            refine lv_lsub hx hb dX0_timesPowerOfTwo_91 ?_
            refine lv_ldc2 hx hb hown (hts (.constantLong RX0 136 60) (by decide +kernel)) dX0_timesPowerOfTwo_92 ?_
            refine va_mmin_long (rest := []) hx hb (hml.trans hl.1.symm) hown (hts (.methodLink RX0 138 Lib.MathLoose.min_long.x) (by decide +kernel)) (hts (.static Lib.MathLoose.min_long.x) (by decide +kernel)) (hts (.initialized "java/lang/Math") (by decide +kernel)) (hts (.code Lib.MathLoose.min_long.x Lib.MathLoose.min_long.code 4 (some .long)) (by decide +kernel)) (Nat.le_of_ble_eq_true rfl) (Nat.le_of_ble_eq_true rfl) (Nat.zero_le _) (Nat.zero_le _) dX0_timesPowerOfTwo_95 ?_
            refine lv_l2i hx hb dX0_timesPowerOfTwo_98 rfl ?_
            refine lv_istore (nL := 7) (lv' := [(6, .int ((if (60 : Int64) < ((-1074 : Int64) - (((bf_fullPower x1).toInt64) + x2.toInt64)) then (60 : Int64) else ((-1074 : Int64) - (((bf_fullPower x1).toInt64) + x2.toInt64))).toInt32)), (4, .long (((bf_fullPower x1).toInt64) + x2.toInt64)), (0, .ref h0), (1, .long x1), (3, .int x2)]) hx hb dX0_timesPowerOfTwo_99 hl (by decide) rfl (fun ls hl => ?_)
            refine lv_lload_n hx hb dX0_timesPowerOfTwo_101 rfl (lv_at hl 3 rfl) ?_
            refine bw_csl (rest := []) ⟨hx, hb, hml, hown, hts⟩ (bc_signOf l x1) (va_cwS 1 hts gX0_timesPowerOfTwo_X0_signOf rfl rfl rfl (by decide +kernel) ⟨Nat.le_of_ble_eq_true rfl, Nat.le_of_ble_eq_true rfl⟩) rfl hl.1 rfl (Nat.le_of_ble_eq_true rfl) dX0_timesPowerOfTwo_102 (Nat.zero_le _) (Nat.zero_le _) ?_
            refine lv_aload_n hx hb dX0_timesPowerOfTwo_105 rfl (lv_at hl 2 rfl) ?_
            refine lv_lload_n hx hb dX0_timesPowerOfTwo_106 rfl (lv_at hl 3 rfl) ?_
            refine bw_csl (rest := [.ref h0, .long (bf_signOf x1)]) ⟨hx, hb, hml, hown, hts⟩ (bc_fullSignificand l x1) (va_cwS 1 hts gX0_timesPowerOfTwo_X0_fullSignificand rfl rfl rfl (by decide +kernel) ⟨Nat.le_of_ble_eq_true rfl, Nat.le_of_ble_eq_true rfl⟩) rfl hl.1 rfl (Nat.le_of_ble_eq_true rfl) dX0_timesPowerOfTwo_107 (Nat.zero_le _) (Nat.zero_le _) ?_
            refine lv_iload hx hb dX0_timesPowerOfTwo_110 (lv_at hl 0 rfl) ?_
            refine bw_vl1 (rest := [.long (bf_signOf x1)]) 0 ⟨hx, hb, hml, hown, hts⟩ (bc_roundedToLeastPower l dC dI h0 a0 s.heap.size f1 f2 (bf_fullSignificand x1) ((if (60 : Int64) < ((-1074 : Int64) - (((bf_fullPower x1).toInt64) + x2.toInt64)) then (60 : Int64) else ((-1074 : Int64) - (((bf_fullPower x1).toInt64) + x2.toInt64))).toInt32)) (cwV 2 hts gX0_timesPowerOfTwo_X0_roundedToLeastPower rfl rfl rfl (by decide +kernel) ⟨Nat.le_of_ble_eq_true rfl, Nat.le_of_ble_eq_true rfl⟩) hK hP hD hS hA rfl rfl rfl hl.1 rfl (Nat.le_of_ble_eq_true rfl) dX0_timesPowerOfTwo_112 (Nat.zero_le _) (Nat.zero_le _) (fun H locs hP hD hS => ?_)
            have hP : va_P (dC, dI) vwCl [(h0, .inr (0, [.ref a0, .int ((bf_roundedToLeastPower f1 f2 (bf_fullSignificand x1) ((if (60 : Int64) < ((-1074 : Int64) - (((bf_fullPower x1).toInt64) + x2.toInt64)) then (60 : Int64) else ((-1074 : Int64) - (((bf_fullPower x1).toInt64) + x2.toInt64))).toInt32)).2.1), .int ((bf_roundedToLeastPower f1 f2 (bf_fullSignificand x1) ((if (60 : Int64) < ((-1074 : Int64) - (((bf_fullPower x1).toInt64) + x2.toInt64)) then (60 : Int64) else ((-1074 : Int64) - (((bf_fullPower x1).toInt64) + x2.toInt64))).toInt32)).2.2)]))] H := hP
            have hD : va_D A [(h0, .inr (0, [.ref a0, .int ((bf_roundedToLeastPower f1 f2 (bf_fullSignificand x1) ((if (60 : Int64) < ((-1074 : Int64) - (((bf_fullPower x1).toInt64) + x2.toInt64)) then (60 : Int64) else ((-1074 : Int64) - (((bf_fullPower x1).toInt64) + x2.toInt64))).toInt32)).2.1), .int ((bf_roundedToLeastPower f1 f2 (bf_fullSignificand x1) ((if (60 : Int64) < ((-1074 : Int64) - (((bf_fullPower x1).toInt64) + x2.toInt64)) then (60 : Int64) else ((-1074 : Int64) - (((bf_fullPower x1).toInt64) + x2.toInt64))).toInt32)).2.2)]))] := hD
            obtain ⟨r6, e6⟩ : ∃ r, (bf_roundedToLeastPower f1 f2 (bf_fullSignificand x1) ((if (60 : Int64) < ((-1074 : Int64) - (((bf_fullPower x1).toInt64) + x2.toInt64)) then (60 : Int64) else ((-1074 : Int64) - (((bf_fullPower x1).toInt64) + x2.toInt64))).toInt32)) = r := ⟨_, rfl⟩
            rw [e6] at hP hD ⊢
            refine lv_lor hx hb dX0_timesPowerOfTwo_115 ?_
            exact W.lret (v := (bf_signOf x1) ||| r6.1) hx hb hr (fun t ht hW => ⟨⟨(bf_signOf x1) ||| r6.1, (r6.2.1, r6.2.2), rfl, by rw [bf_timesPowerOfTwo, if_pos h1, if_pos h2, if_pos h3, if_pos h4, if_pos h5, e6, bf_timesPowerOfTwo_k1], by rw [ht]; exact hP, va_K.moved hW.alike hK, hD⟩, hS.F ht⟩) hS.2.2 dX0_timesPowerOfTwo_116
          · refine lv_lload_n hx hb dX0_timesPowerOfTwo_70 rfl (lv_at hl 2 rfl) ?_
            refine bw_csl (rest := []) ⟨hx, hb, hml, hown, hts⟩ (bc_signOf l x1) (va_cwS 1 hts gX0_timesPowerOfTwo_X0_signOf rfl rfl rfl (by decide +kernel) ⟨Nat.le_of_ble_eq_true rfl, Nat.le_of_ble_eq_true rfl⟩) rfl hl.1 rfl (Nat.le_of_ble_eq_true rfl) dX0_timesPowerOfTwo_71 (Nat.zero_le _) (Nat.zero_le _) ?_
            refine lv_lload_n hx hb dX0_timesPowerOfTwo_74 rfl (lv_at hl 2 rfl) ?_
            refine bw_csl (rest := [.long (bf_signOf x1)]) ⟨hx, hb, hml, hown, hts⟩ (bc_fullSignificand l x1) (va_cwS 1 hts gX0_timesPowerOfTwo_X0_fullSignificand rfl rfl rfl (by decide +kernel) ⟨Nat.le_of_ble_eq_true rfl, Nat.le_of_ble_eq_true rfl⟩) rfl hl.1 rfl (Nat.le_of_ble_eq_true rfl) dX0_timesPowerOfTwo_75 (Nat.zero_le _) (Nat.zero_le _) ?_
            refine lv_lload hx hb dX0_timesPowerOfTwo_78 (lv_at hl 0 rfl) ?_
            refine lv_l2i hx hb dX0_timesPowerOfTwo_80 rfl ?_
            refine bw_csl (rest := [.long (bf_signOf x1)]) ⟨hx, hb, hml, hown, hts⟩ (bc_pattern l (bf_fullSignificand x1) ((((bf_fullPower x1).toInt64) + x2.toInt64).toInt32)) (va_cwS 2 hts gX0_timesPowerOfTwo_X0_pattern rfl rfl rfl (by decide +kernel) ⟨Nat.le_of_ble_eq_true rfl, Nat.le_of_ble_eq_true rfl⟩) rfl hl.1 rfl (Nat.le_of_ble_eq_true rfl) dX0_timesPowerOfTwo_81 (Nat.zero_le _) (Nat.zero_le _) ?_
            refine lv_lor hx hb dX0_timesPowerOfTwo_84 ?_
            exact W.lret (v := (bf_signOf x1) ||| (bf_pattern (bf_fullSignificand x1) ((((bf_fullPower x1).toInt64) + x2.toInt64).toInt32))) hx hb hr (fun t ht hW => ⟨⟨(bf_signOf x1) ||| (bf_pattern (bf_fullSignificand x1) ((((bf_fullPower x1).toInt64) + x2.toInt64).toInt32)), (f1, f2), rfl, by rw [bf_timesPowerOfTwo, if_pos h1, if_pos h2, if_pos h3, if_pos h4, if_neg h5], by rw [ht]; exact hP, va_K.moved hW.alike hK, hD⟩, hS.F ht⟩) hS.2.2 dX0_timesPowerOfTwo_85
        · refine lv_aload_n hx hb dX0_timesPowerOfTwo_46 rfl (lv_at hl 1 rfl) ?_
          refine lv_bipush (v := 6) hx hb dX0_timesPowerOfTwo_47 (by decide) ?_
          refine bw_vv1 (rest := []) 0 ⟨hx, hb, hml, hown, hts⟩ (bc_raise l dC dI h0 a0 s.heap.size f1 f2 (6 : Int32)) (cwV 1 hts gX0_timesPowerOfTwo_X0_raise rfl rfl rfl (by decide +kernel) ⟨Nat.le_of_ble_eq_true rfl, Nat.le_of_ble_eq_true rfl⟩) hK hP hD hS hA rfl rfl rfl hl.1 rfl (Nat.le_of_ble_eq_true rfl) dX0_timesPowerOfTwo_49 (Nat.zero_le _) (Nat.zero_le _) (fun H locs hP hD hS => ?_)
          have hP : va_P (dC, dI) vwCl [(h0, .inr (0, [.ref a0, .int ((bf_raise f1 f2 (6 : Int32)).1), .int ((bf_raise f1 f2 (6 : Int32)).2)]))] H := hP
          have hD : va_D A [(h0, .inr (0, [.ref a0, .int ((bf_raise f1 f2 (6 : Int32)).1), .int ((bf_raise f1 f2 (6 : Int32)).2)]))] := hD
          obtain ⟨r7, e7⟩ : ∃ r, (bf_raise f1 f2 (6 : Int32)) = r := ⟨_, rfl⟩
          rw [e7] at hP hD
          refine lv_lload_n hx hb dX0_timesPowerOfTwo_52 rfl (lv_at hl 2 rfl) ?_
          refine bw_csl (rest := []) ⟨hx, hb, hml, hown, hts⟩ (bc_signOf l x1) (va_cwS 1 hts gX0_timesPowerOfTwo_X0_signOf rfl rfl rfl (by decide +kernel) ⟨Nat.le_of_ble_eq_true rfl, Nat.le_of_ble_eq_true rfl⟩) rfl hl.1 rfl (Nat.le_of_ble_eq_true rfl) dX0_timesPowerOfTwo_53 (Nat.zero_le _) (Nat.zero_le _) ?_
          refine lv_ldc2 hx hb hown (hts (.constantLong RX0 67 9218868437227405312) (by decide +kernel)) dX0_timesPowerOfTwo_56 ?_
          refine lv_lor hx hb dX0_timesPowerOfTwo_59 ?_
          exact W.lret (v := (bf_signOf x1) ||| (9218868437227405312 : Int64)) hx hb hr (fun t ht hW => ⟨⟨(bf_signOf x1) ||| (9218868437227405312 : Int64), (r7.1, r7.2), rfl, by rw [bf_timesPowerOfTwo, if_pos h1, if_pos h2, if_pos h3, if_neg h4, e7, bf_timesPowerOfTwo_k2], by rw [ht]; exact hP, va_K.moved hW.alike hK, hD⟩, hS.F ht⟩) hS.2.2 dX0_timesPowerOfTwo_60
      · refine lv_lload_n hx hb dX0_timesPowerOfTwo_25 rfl (lv_at hl 1 rfl) ?_
        exact W.lret (v := x1) hx hb hr (fun t ht hW => ⟨⟨x1, (f1, f2), rfl, by rw [bf_timesPowerOfTwo, if_pos h1, if_pos h2, if_neg h3], by rw [ht]; exact hP, va_K.moved hW.alike hK, hD⟩, hS.F ht⟩) hS.2.2 dX0_timesPowerOfTwo_26
  · refine lv_ldc2 hx hb hown (hts (.constantLong RX0 101 9221120237041090560) (by decide +kernel)) dX0_timesPowerOfTwo_7 ?_
    exact W.lret (v := (9221120237041090560 : Int64)) hx hb hr (fun t ht hW => ⟨⟨(9221120237041090560 : Int64), (f1, f2), rfl, by rw [bf_timesPowerOfTwo, if_neg h1], by rw [ht]; exact hP, va_K.moved hW.alike hK, hD⟩, hS.F ht⟩) hS.2.2 dX0_timesPowerOfTwo_10
end
