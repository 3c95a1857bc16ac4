/-! ===== the classes and the links of the program, written by a program ===== -/
def xcC : Nat → String
  | 0 => RX0
  | 1 => RX1
  | 2 => RX2
  | 3 => RX4
  | 4 => RX5
  | _ => RX6
def xcT : Nat → u_T
  | 0 => TX0
  | 1 => TX1
  | 2 => TX2
  | 3 => TX4
  | 4 => TX5
  | _ => TX6
def xcY : Nat → (Nat → FieldType)
  | 0 => tyX0
  | 1 => tyX1
  | 2 => tyX2
  | 3 => tyX4
  | 4 => tyX5
  | _ => tyX6
def xcN : Nat → Nat
  | 0 => 3
  | 1 => 3
  | 2 => 9
  | 3 => 3
  | 4 => 4
  | _ => 7
def x_kd : Nat → List Nat
  | 0 => [2, 2, 0]
  | 1 => [2, 2, 0]
  | 2 => [2, 2, 2, 2, 0, 0, 2, 2, 2]
  | 3 => [2, 2, 2]
  | 4 => [1, 1, 1, 0]
  | _ => [2, 2, 2, 2, 2, 2, 2]
def xcn : Nat → String
  | 0 => RX0
  | 1 => RX1
  | 2 => RX2
  | 3 => RX3
  | 4 => RX4
  | 5 => RX5
  | 6 => RX6
  | 7 => RX7
  | 8 => RL
  | 9 => RJ7
  | 10 => RJ6
  | _ => RJ13
def xFL : List (Nat × Nat × Nat × Nat) := [(0, 9, 0, 0), (0, 15, 0, 1), (0, 19, 0, 2), (1, 17, 1, 0), (1, 21, 1, 1), (1, 30, 1, 2), (2, 9, 2, 0), (2, 15, 2, 1), (2, 18, 2, 2), (2, 21, 2, 3), (2, 24, 2, 4), (2, 28, 2, 5), (2, 34, 2, 6), (2, 38, 2, 7), (2, 41, 2, 8), (4, 12, 3, 0), (4, 18, 3, 1), (4, 21, 3, 2), (5, 9, 4, 0), (5, 15, 4, 3), (5, 21, 4, 1), (5, 26, 4, 2), (6, 9, 5, 0), (6, 13, 5, 1), (6, 16, 5, 2), (6, 22, 5, 3), (6, 29, 5, 4), (6, 36, 5, 5), (6, 43, 5, 6)]
def xML : List (Nat × Nat × Nat × Nat) := [(0, 23, 48, 0), (0, 29, 47, 0), (0, 32, 50, 0), (0, 36, 49, 0), (0, 39, 5, 1), (1, 34, 48, 0), (1, 40, 50, 0), (1, 44, 14, 1), (1, 47, 11, 1), (1, 50, 12, 1), (1, 54, 13, 1), (1, 57, 15, 1), (1, 65, 18, 0), (1, 69, 10, 0), (1, 73, 112, 0), (2, 44, 47, 0), (2, 50, 4, 1), (2, 53, 5, 1), (2, 57, 43, 1), (2, 61, 24, 1), (2, 65, 40, 1), (2, 69, 22, 1), (2, 73, 34, 1), (2, 76, 23, 1), (2, 79, 42, 1), (2, 83, 28, 1), (2, 86, 49, 0), (2, 90, 32, 1), (2, 94, 30, 1), (2, 97, 1, 1), (2, 100, 3, 1), (2, 103, 7, 1), (2, 107, 6, 1), (2, 116, 111, 0), (2, 121, 36, 1), (2, 124, 41, 1), (2, 128, 39, 1), (2, 134, 38, 1), (2, 137, 35, 1), (2, 140, 26, 1), (2, 143, 44, 1), (2, 146, 45, 0), (2, 157, 46, 1), (2, 161, 2, 1), (2, 167, 51, 0), (3, 10, 113, 0), (4, 9, 8, 2), (4, 24, 14, 1), (4, 27, 15, 1), (4, 31, 58, 1), (4, 34, 11, 1), (4, 38, 12, 1), (4, 42, 13, 1), (4, 47, 9, 0), (4, 51, 10, 0), (5, 29, 62, 1), (5, 32, 66, 1), (6, 47, 8, 2), (6, 50, 92, 0), (6, 53, 47, 0), (6, 59, 49, 0), (6, 64, 95, 0), (6, 68, 27, 1), (6, 72, 102, 1), (6, 76, 97, 1), (6, 80, 105, 0), (6, 91, 103, 1), (6, 95, 63, 1), (6, 98, 60, 1), (6, 103, 54, 1), (6, 106, 9, 0), (6, 110, 55, 1), (6, 114, 104, 1), (6, 117, 93, 0), (6, 120, 96, 1), (6, 123, 28, 1), (6, 126, 99, 1), (6, 130, 100, 1), (6, 134, 109, 1), (6, 138, 29, 1), (6, 141, 106, 0), (6, 145, 110, 1), (6, 154, 31, 1), (6, 157, 30, 1), (6, 160, 57, 1), (6, 164, 33, 1), (6, 167, 112, 0), (6, 173, 19, 1), (6, 179, 35, 1), (6, 182, 37, 1), (6, 186, 22, 1), (6, 189, 94, 0), (6, 192, 98, 1), (6, 195, 23, 1), (6, 198, 24, 1), (6, 202, 107, 1), (6, 205, 108, 1), (6, 208, 65, 1), (6, 214, 61, 1), (6, 218, 64, 1), (6, 222, 20, 1), (6, 225, 11, 1), (6, 230, 12, 1), (6, 233, 13, 1), (6, 236, 10, 0), (6, 257, 48, 0), (6, 260, 101, 1), (6, 265, 25, 1), (6, 270, 50, 0), (6, 273, 53, 1), (6, 277, 17, 1), (6, 283, 16, 1), (6, 309, 56, 1), (8, 7, 69, 1), (8, 13, 71, 1), (8, 17, 72, 1), (8, 20, 70, 1), (8, 23, 77, 1), (8, 27, 78, 1), (8, 30, 80, 1), (8, 33, 84, 1), (8, 36, 74, 1), (8, 40, 75, 1), (8, 43, 76, 1), (8, 46, 79, 1), (8, 50, 81, 1), (8, 53, 85, 1), (8, 56, 114, 0), (8, 62, 115, 0), (8, 72, 73, 1), (8, 78, 68, 1), (8, 82, 82, 1), (8, 85, 83, 1), (8, 91, 116, 0), (8, 94, 88, 1), (8, 98, 86, 1), (8, 105, 87, 1), (8, 108, 90, 1), (8, 113, 91, 1), (8, 119, 89, 1), (8, 122, 67, 2), (8, 123, 118, 0), (8, 128, 117, 0), (8, 131, 119, 0)]
def xKI : List (Nat × Nat × Int32) := [(3, 9, 1048576), (6, 63, 1000000), (6, 102, (-1000000)), (6, 201, 65535), (8, 76, 3810017), (8, 77, 164083), (8, 127, 134217727)]
def xKL : List (Nat × Nat × Int64) := [(1, 24, 550293209600), (1, 26, 1023), (1, 28, 512), (1, 61, (-100000000)), (1, 63, 100000000), (2, 165, 1000000), (4, 45, 550293209600), (5, 19, (-1099511627776)), (5, 24, 1099511627776), (5, 42, 1048576), (5, 44, (-1048576)), (5, 46, 2), (6, 287, (-268435456)), (6, 289, 268435456), (6, 291, 1048575), (6, 295, (-1099511627776)), (6, 302, 1099511627776), (6, 307, 550293209600), (8, 89, 1000000), (8, 101, (-268435456)), (8, 103, 268435456), (8, 111, 1000), (8, 117, 500)]
def xCL : List (Nat × Nat × Nat) := [(2, 31, 0), (4, 7, 1), (6, 20, 1), (6, 26, 2), (6, 33, 4), (6, 40, 3), (8, 8, 5)]
def xNS : List (Nat × Nat × Nat) := [(2, 33, 0), (6, 28, 21), (6, 35, 59), (6, 42, 52)]
def xTH : List (Nat × Nat × Nat × Nat × Nat × Nat × String) := [(2, 150, 3, 152, 154, 2, "the ordinal does not fit"), (6, 84, 2, 86, 88, 2, "the number is not from -256 to 256"), (6, 84, 2, 247, 88, 2, "out of its range"), (6, 149, 3, 151, 153, 2, "ordinals have no difference here"), (6, 149, 3, 177, 153, 2, "0 has no step"), (6, 149, 3, 212, 153, 2, "no whole number of parts lies between"), (6, 149, 3, 228, 153, 2, "not so many parts"), (6, 149, 3, 249, 153, 2, "nothing, or unlike things"), (6, 149, 3, 251, 153, 2, "no ordinal"), (6, 149, 3, 253, 153, 2, "not so many powers"), (6, 149, 3, 255, 153, 2, "no number"), (6, 149, 3, 263, 153, 3, "no growth"), (6, 149, 3, 268, 153, 3, "the number does not fit"), (6, 149, 3, 281, 153, 3, "the growth does not fit"), (6, 149, 3, 293, 153, 3, "no whole number of parts"), (6, 240, 1, 242, 244, 2, "no such place"), (6, 240, 1, 245, 244, 2, "a number of a row is below 0")]
def xmls : List Nat := [1, 1, 2, 2, 1, 4, 6, 4, 2, 4, 3, 1, 2, 2, 1, 5, 3, 3, 5, 12, 1, 1, 2, 3, 3, 1, 1, 3, 8, 6, 8, 5, 8, 3, 7, 3, 6, 8, 3, 3, 5, 4, 5, 3, 4, 3, 6, 2, 2, 3, 4, 2, 1, 1, 1, 5, 7, 8, 7, 1, 1, 1, 1, 4, 6, 7, 9, 2, 2, 3, 3, 6, 4, 7, 5, 5, 5, 7, 5, 4, 5, 4, 2, 3, 4, 8, 2, 5, 2, 2, 2, 5, 1, 3, 1, 3, 4, 2, 4, 2, 3, 2, 3, 4, 4, 2, 6, 5, 5, 4, 4, 2, 4, 3, 5, 5, 6, 8, 2, 11, 15]
def xml (j : Nat) : Nat := xmls.getD j 0
def xhss : List (List (Nat × Nat × Nat × Nat × Nat × Nat)) := [[], [], [], [], [], [], [], [], [], [], [], [], [], [], [], [], [], [], [], [], [], [], [], [], [], [], [], [], [], [], [], [], [], [], [], [], [], [], [], [], [], [], [], [], [], [], [], [], [], [], [], [], [], [], [], [], [], [], [], [], [], [], [], [], [], [], [], [], [], [], [], [], [], [], [], [], [], [], [], [], [], [], [], [], [], [], [], [], [], [], [], [], [], [], [], [], [], [], [], [], [], [], [], [], [], [], [], [], [], [], [], [], [], [], [], [], [(0, 9, 10, 1, 5, 2), (0, 9, 16, 2, 5, 2), (0, 9, 22, 3, 5, 2)], [(0, 14, 15, 1, 7, 2), (0, 14, 21, 2, 7, 2)], [], [], []]
def xhs (j : Nat) : List (Nat × Nat × Nat × Nat × Nat × Nat) := xhss.getD j []
def xys : List MethodName := [yX0_init, yX0_count, yX0_timesAt, yX0_exponentAt, yX0_restart, yX0_add, yX0_insert, yX0_raise, yX1_init, yX1_keyOf, yX1_exponentIn, yX1_count, yX1_timesAt, yX1_keyAt, yX1_restart, yX1_add, yX1_copy, yX1_fits, yX1_exponentsFit, yX1_comparedWith, yX1_limit, yX2_init, yX2_powersOf, yX2_timesOf, yX2_exponentOf, yX2_keep, yX2_forget, yX2_powerOf, yX2_added, yX2_multiplied, yX2_naturallyAdded, yX2_naturallyMultiplied, yX2_addPair, yX2_compared, yX2_order, yX2_stepped, yX2_lower, yX2_stepsToZero, yX2_lessened, yX2_finiteTail, yX2_powersAbove, yX2_draftLess, yX2_draftPowers, yX2_made, yX2_depthOf, yX2_powersFit, yX2_write, yX3_at, yX3_at_, yX3_put, yX3_put_, yX3_withRoom, yX4_init, yX4_growth, yX4_restart, yX4_addPart, yX4_addMultiple, yX4_addSlopes, yX4_addRow, yX5_init, yX5_value, yX5_length, yX5_restart, yX5_along, yX5_toward, yX5_between, yX5_goes, yX6_init, yX6_kind, yX6_finite, yX6_omega, yX6_number, yX6_signs, yX6_term, yX6_sum, yX6_product, yX6_difference, yX6_natural, yX6_derive, yX6_compare, yX6_step, yX6_descent, yX6_powers, yX6_times, yX6_exponent, yX6_cut, yX6_birthday, yX6_signOf, yX6_parts, yX6_tends, yX6_terms, yX6_part, yX6_needPlace, yX6_needThree, yX6_needRow, yX6_needRange, yX6_commonKind, yX6_ordinalAt, yX6_ordinalWithPower, yX6_numberAt, yX6_growthAt, yX6_growthRow, yX6_keepOrdinal, yX6_keepNumber, yX6_keepGrowth, yX6_numberFits, yX6_multipliedNumbers, yX6_greatestOf, yX6_leastOf, yX6_addGrowths, yX6_multiplyGrowths, yJ6_compare_7cf53, yJ13_compare_74951, yJ7_copyOf_59c91, yL_makes, yL_call, yL_ask, yL_term, yL_draw, yL_isFine, yL_law]
def xy (j : Nat) : MethodName := xys.getD j objectInit
def xbs : List ByteArray := [cX0_init, cX0_count, cX0_timesAt, cX0_exponentAt, cX0_restart, cX0_add, cX0_insert, cX0_raise, cX1_init, cX1_keyOf, cX1_exponentIn, cX1_count, cX1_timesAt, cX1_keyAt, cX1_restart, cX1_add, cX1_copy, cX1_fits, cX1_exponentsFit, cX1_comparedWith, cX1_limit, cX2_init, cX2_powersOf, cX2_timesOf, cX2_exponentOf, cX2_keep, cX2_forget, cX2_powerOf, cX2_added, cX2_multiplied, cX2_naturallyAdded, cX2_naturallyMultiplied, cX2_addPair, cX2_compared, cX2_order, cX2_stepped, cX2_lower, cX2_stepsToZero, cX2_lessened, cX2_finiteTail, cX2_powersAbove, cX2_draftLess, cX2_draftPowers, cX2_made, cX2_depthOf, cX2_powersFit, cX2_write, cX3_at, cX3_at_, cX3_put, cX3_put_, cX3_withRoom, cX4_init, cX4_growth, cX4_restart, cX4_addPart, cX4_addMultiple, cX4_addSlopes, cX4_addRow, cX5_init, cX5_value, cX5_length, cX5_restart, cX5_along, cX5_toward, cX5_between, cX5_goes, cX6_init, cX6_kind, cX6_finite, cX6_omega, cX6_number, cX6_signs, cX6_term, cX6_sum, cX6_product, cX6_difference, cX6_natural, cX6_derive, cX6_compare, cX6_step, cX6_descent, cX6_powers, cX6_times, cX6_exponent, cX6_cut, cX6_birthday, cX6_signOf, cX6_parts, cX6_tends, cX6_terms, cX6_part, cX6_needPlace, cX6_needThree, cX6_needRow, cX6_needRange, cX6_commonKind, cX6_ordinalAt, cX6_ordinalWithPower, cX6_numberAt, cX6_growthAt, cX6_growthRow, cX6_keepOrdinal, cX6_keepNumber, cX6_keepGrowth, cX6_numberFits, cX6_multipliedNumbers, cX6_greatestOf, cX6_leastOf, cX6_addGrowths, cX6_multiplyGrowths, cJ6_compare_7cf53, cJ13_compare_74951, cJ7_copyOf_59c91, cL_makes, cL_call, cL_ask, cL_term, cL_draw, cL_isFine, cL_law]
def xb (j : Nat) : ByteArray := xbs.getD j ⟨#[]⟩
def xrs : List (Option FieldType) := [none, some .int, some .long, some .int, none, none, none, none, none, some .long, some .int, some .int, some .long, some .long, none, none, none, some .boolean, some .boolean, some .int, some .int, none, some .int, some .int, some .int, none, none, some .int, some .int, some .int, some .int, some .int, none, some .int, some .int, some .int, some .int, some .int, some .int, some .int, some .int, none, none, some .int, some .int, some .boolean, none, some .int, some .long, none, none, (some (.array .int)), none, (some (.object "Transseria$Growth")), none, none, none, none, none, none, some .long, some .int, none, none, none, some .boolean, some .boolean, none, some .int, none, none, none, none, none, some .int, some .int, some .int, none, none, some .int, none, some .int, some .int, some .long, none, some .int, some .int, some .int, some .long, some .int, some .int, some .long, none, none, none, none, some .int, some .int, some .int, some .long, (some (.object "Transseria$Growth")), (some (.object "Transseria$Growth")), none, none, none, some .boolean, some .long, some .long, some .long, none, none, some .int, some .int, (some (.array .int)), none, some .int, some .int, some .int, some .int, some .boolean, some .boolean]
def xr (j : Nat) : Option FieldType := xrs.getD j none
def xos : List Nat := [0, 0, 0, 0, 0, 0, 0, 0, 1, 1, 1, 1, 1, 1, 1, 1, 1, 1, 1, 1, 1, 2, 2, 2, 2, 2, 2, 2, 2, 2, 2, 2, 2, 2, 2, 2, 2, 2, 2, 2, 2, 2, 2, 2, 2, 2, 2, 3, 3, 3, 3, 3, 4, 4, 4, 4, 4, 4, 4, 5, 5, 5, 5, 5, 5, 5, 5, 6, 6, 6, 6, 6, 6, 6, 6, 6, 6, 6, 6, 6, 6, 6, 6, 6, 6, 6, 6, 6, 6, 6, 6, 6, 6, 6, 6, 6, 6, 6, 6, 6, 6, 6, 6, 6, 6, 6, 6, 6, 6, 6, 6, 10, 11, 9, 8, 8, 8, 8, 8, 8, 8]
def xo (j : Nat) : Nat := xos.getD j 0
def xhrs : List (List (Nat × Nat × Nat × Nat)) := [[], [], [], [], [], [], [], [], [], [], [], [], [], [], [], [], [], [], [], [], [], [], [], [], [], [], [], [], [], [], [], [], [], [], [], [], [], [], [], [], [], [], [], [], [], [], [], [], [], [], [], [], [], [], [], [], [], [], [], [], [], [], [], [], [], [], [], [], [], [], [], [], [], [], [], [], [], [], [], [], [], [], [], [], [], [], [], [], [], [], [], [], [], [], [], [], [], [], [], [], [], [], [], [], [], [], [], [], [], [], [], [], [], [], [], [], [(0, 9, 10, 66), (0, 9, 16, 68), (0, 9, 22, 70)], [(0, 14, 15, 66), (0, 14, 21, 68)], [], [], []]
def xhr (j : Nat) : List (Nat × Nat × Nat × Nat) := xhrs.getD j []
