/-! ===== the start: what the statement says, by its places (tables written by gen6.py) ===== -/
def lwF : List Cond := flatC (Jvm.Cond.and given_1 narrow_1)
def tmS (i : Nat) : Term := match i with
  | 0 => .string "BracketRoom$World" 76
  | 1 => .string "BracketRoom$World" 101
  | 2 => .string "BracketRoom$World" 117
  | 3 => .string "BracketRoom$World" 119
  | 4 => .string "BracketRoom$World" 124
  | 5 => .string "BracketRoom$World" 129
  | 6 => .string "BracketRoom$Script" 50
  | 7 => .string "BracketRoom$Script" 81
  | 8 => .string "BracketRoom$Script" 114
  | 9 => .string "BracketRoom$Script" 98
  | _ => .string "BracketRoom$Script" 105
def lenS : List Nat := [5, 4, 7, 5, 4, 2, 3, 44, 52, 2, 2]
def bytS : List (List Int32) := [[112, 114, 105, 109, 101], [115, 105, 122, 101], [98, 114, 97, 99, 107, 101, 116], [103, 105, 118, 101, 115], [108, 101, 115, 115], [111, 102], [101, 110, 100], [115, 119, 97, 112, 32, 115, 99, 97, 108, 101, 32, 97, 100, 100, 32, 107, 101, 101, 112, 32, 116, 97, 107, 101, 32, 115, 117, 109, 32, 119, 104, 101, 110, 32, 108, 111, 111, 112, 32, 115, 116, 111, 112, 32], [108, 97, 119, 102, 117, 108, 32, 97, 98, 101, 108, 105, 97, 110, 32, 110, 105, 108, 112, 111, 116, 101, 110, 116, 32, 115, 111, 108, 118, 97, 98, 108, 101, 32, 100, 101, 114, 105, 118, 101, 100, 32, 115, 105, 122, 101, 32, 115, 97, 109, 101, 32], [98, 121], [116, 111]]
theorem lenS_eq : (List.range 11).map strL = lenS := by decide +kernel
theorem bytS_eq : (List.range 11).map strB = bytS := by decide +kernel
theorem fx_ex : ∀ i, i < 11 → lwF[([76, 85, 94, 107, 119, 131, 142, 155, 210, 274, 305] : List Nat).getD i 0]? = some (Cond.exactly (tmS i) "java/lang/String") := by decide +kernel
theorem fx_co : ∀ i, i < 11 → lwF[([77, 86, 95, 108, 120, 132, 143, 156, 211, 275, 306] : List Nat).getD i 0]? = some (Cond.eq (.field (tmS i) "java/lang/String" "coder" "B") (.int 0)) := by decide +kernel
theorem fx_ar : ∀ i, i < 11 → lwF[([78, 87, 96, 109, 121, 133, 144, 157, 212, 276, 307] : List Nat).getD i 0]? = some (Cond.arrayOf (.field (tmS i) "java/lang/String" "value" "[B") .byte) := by decide +kernel
theorem fx_le : ∀ i, i < 11 → lwF[([79, 88, 97, 110, 122, 134, 145, 158, 213, 277, 308] : List Nat).getD i 0]? = some (Cond.eq (.length (.field (tmS i) "java/lang/String" "value" "[B")) (.int (Int32.ofNat (lenS.getD i 0)))) := by decide +kernel
theorem fx_el : ∀ i, i < 11 → ∀ j, j < lenS.getD i 0 → lwF[(([[80, 81, 82, 83, 84], [89, 90, 91, 92], [98, 99, 100, 101, 102, 103, 104], [111, 112, 113, 114, 115], [123, 124, 125, 126], [135, 136], [146, 147, 148], [159, 160, 161, 162, 163, 164, 165, 166, 167, 168, 169, 170, 171, 172, 173, 174, 175, 176, 177, 178, 179, 180, 181, 182, 183, 184, 185, 186, 187, 188, 189, 190, 191, 192, 193, 194, 195, 196, 197, 198, 199, 200, 201, 202], [214, 215, 216, 217, 218, 219, 220, 221, 222, 223, 224, 225, 226, 227, 228, 229, 230, 231, 232, 233, 234, 235, 236, 237, 238, 239, 240, 241, 242, 243, 244, 245, 246, 247, 248, 249, 250, 251, 252, 253, 254, 255, 256, 257, 258, 259, 260, 261, 262, 263, 264, 265], [278, 279], [309, 310]] : List (List Nat)).getD i []).getD j 0]? = some (Cond.eq (.elem (.field (tmS i) "java/lang/String" "value" "[B") (.int (Int32.ofNat j))) (.int ((bytS.getD i []).getD j 0))) := by decide +kernel
theorem fx_ne : ∀ i, i < 11 → ∀ j, j < 11 → i ≠ j → lwF[(([[0, 93, 105, 116, 127, 137, 149, 203, 266, 280, 311], [93, 0, 106, 117, 128, 138, 150, 204, 267, 281, 312], [105, 106, 0, 118, 129, 139, 151, 205, 268, 282, 313], [116, 117, 118, 0, 130, 140, 152, 206, 269, 283, 314], [127, 128, 129, 130, 0, 141, 153, 207, 270, 284, 315], [137, 138, 139, 140, 141, 0, 154, 208, 271, 285, 316], [149, 150, 151, 152, 153, 154, 0, 209, 272, 286, 317], [203, 204, 205, 206, 207, 208, 209, 0, 273, 287, 318], [266, 267, 268, 269, 270, 271, 272, 273, 0, 288, 319], [280, 281, 282, 283, 284, 285, 286, 287, 288, 0, 320], [311, 312, 313, 314, 315, 316, 317, 318, 319, 320, 0]] : List (List Nat)).getD i []).getD j 0]? = some (Cond.not (Cond.eq (tmS i) (tmS j))) ∨ lwF[(([[0, 93, 105, 116, 127, 137, 149, 203, 266, 280, 311], [93, 0, 106, 117, 128, 138, 150, 204, 267, 281, 312], [105, 106, 0, 118, 129, 139, 151, 205, 268, 282, 313], [116, 117, 118, 0, 130, 140, 152, 206, 269, 283, 314], [127, 128, 129, 130, 0, 141, 153, 207, 270, 284, 315], [137, 138, 139, 140, 141, 0, 154, 208, 271, 285, 316], [149, 150, 151, 152, 153, 154, 0, 209, 272, 286, 317], [203, 204, 205, 206, 207, 208, 209, 0, 273, 287, 318], [266, 267, 268, 269, 270, 271, 272, 273, 0, 288, 319], [280, 281, 282, 283, 284, 285, 286, 287, 288, 0, 320], [311, 312, 313, 314, 315, 316, 317, 318, 319, 320, 0]] : List (List Nat)).getD i []).getD j 0]? = some (Cond.not (Cond.eq (tmS j) (tmS i))) := by decide +kernel
theorem fx_of : lwF[300]? = some (Cond.eq (tmS 5) (.string "BracketRoom$Script" 103)) := by decide +kernel
abbrev tmU : Term := .static "BracketRoom" "UNITS" "[I"
theorem fx_ue : ∀ j, j < 25 → lwF[([12, 13, 14, 15, 16, 17, 18, 19, 20, 21, 22, 23, 24, 25, 26, 27, 28, 29, 30, 31, 32, 33, 34, 35, 36] : List Nat).getD j 0]? = some (Cond.eq (.elem tmU (.int (Int32.ofNat j))) (.int (Int32.ofInt (unitv j)))) := by decide +kernel
theorem fx_ul : lwF[11]? = some (Cond.eq (.length tmU) (.int 25)) := by decide +kernel
theorem fx_ua : lwF[10]? = some (Cond.arrayOf tmU .int) := by decide +kernel
theorem fx_cs : lwF[4]? = some (Cond.eq (.static "java/lang/String" "COMPACT_STRINGS" "Z") (.int 1)) := by decide +kernel
theorem fx_sf : lwF[5]? = some (Cond.isRef (.static "jdk/internal/util/Preconditions" "SIOOBE_FORMATTER" "Ljava/util/function/BiFunction;")) := by decide +kernel
