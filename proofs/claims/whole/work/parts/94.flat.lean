/-! What the start gives -/
def fC : List Cond := flatC (Jvm.Cond.and given_1 narrow_1)
def fcA : List Nat := [182, 195, 208, 224, 5]
def fcL : List Nat := [183, 196, 209, 225, 6]
def fcE : List (List Nat) := [[184, 185, 186, 187, 188, 189, 190, 191, 192, 193], [197, 198, 199, 200, 201, 202, 203, 204, 205, 206], [210, 211, 212, 213, 214, 215, 216, 217, 218, 219, 220, 221, 222], [226, 227, 228, 229, 230, 231, 232, 233, 234, 235, 236, 237, 238], [7, 8, 9, 10, 11, 12, 13, 14, 15, 16, 17, 18, 19, 20, 21, 22, 23, 24, 25, 26, 27, 28, 29, 30, 31, 32, 33, 34, 35, 36, 37, 38, 39, 40, 41, 42, 43, 44, 45, 46, 47, 48, 49, 50, 51, 52, 53, 54, 55, 56, 57, 58, 59, 60, 61, 62, 63, 64, 65, 66, 67, 68, 69, 70, 71, 72, 73, 74, 75, 76, 77, 78, 79, 80, 81, 82, 83, 84, 85, 86, 87, 88, 89, 90, 91, 92, 93, 94, 95, 96, 97, 98, 99, 100, 101, 102, 103, 104, 105, 106, 107, 108, 109, 110, 111, 112, 113, 114, 115, 116, 117, 118, 119, 120, 121, 122, 123, 124, 125, 126, 127, 128, 129, 130, 131, 132, 133, 134, 135, 136, 137, 138, 139, 140, 141, 142, 143, 144, 145, 146, 147, 148, 149, 150, 151, 152, 153, 154, 155, 156, 157, 158, 159, 160, 161, 162, 163, 164, 165, 166, 167, 168, 169, 170, 171, 172, 173, 174, 175]]
def fsX : List Nat := [239, 249, 260, 272, 283, 299, 314, 328, 346]
def fsC : List Nat := [240, 250, 261, 273, 284, 300, 315, 329, 347]
def fsA : List Nat := [241, 251, 262, 274, 285, 301, 316, 330, 348]
def fsL : List Nat := [242, 252, 263, 275, 286, 302, 317, 331, 349]
def fsE : List (List Nat) := [[243, 244, 245, 246, 247, 248], [253, 254, 255, 256, 257, 258], [264, 265, 266, 267, 268, 269], [276, 277, 278, 279], [287, 288, 289, 290, 291, 292, 293, 294], [303, 304, 305, 306, 307, 308], [318, 319, 320, 321], [332, 333, 334, 335, 336, 337, 338], [350, 351, 352, 353]]
def fsN : List (List Nat) := [[0, 259, 270, 280, 295, 309, 322, 339, 354], [0, 0, 271, 281, 296, 310, 323, 340, 355], [0, 0, 0, 282, 297, 311, 324, 341, 356], [0, 0, 0, 0, 298, 312, 325, 342, 357], [0, 0, 0, 0, 0, 313, 326, 343, 358], [0, 0, 0, 0, 0, 0, 327, 344, 359], [0, 0, 0, 0, 0, 0, 0, 345, 360], [0, 0, 0, 0, 0, 0, 0, 0, 361], [0, 0, 0, 0, 0, 0, 0, 0, 0]]
def stT (i : Nat) : Term := .static (nthD stN i ("", "")).1 (nthD stN i ("", "")).2 "[I"
def srT (i : Nat) : Term := .string RX6 (nthD sidx i 0)
theorem fc_arr : ∀ i, i < 5 → fC[nthD fcA i 0]? = some (.arrayOf (stT i) .int) := by decide +kernel
theorem fc_len : ∀ i, i < 5 → fC[nthD fcL i 0]? = some (.eq (.length (stT i)) (.int (Int32.ofNat (nthD clen i 0)))) := by decide +kernel
theorem fc_el : ∀ i, i < 5 → ∀ j, j < nthD clen i 0 → fC[nthD (nthD fcE i []) j 0]? = some (.eq (.elem (stT i) (.int (Int32.ofNat j))) (.int (nthD (nthD ctab i []) j 0))) := by decide +kernel
theorem fs_ex : ∀ i, i < 9 → fC[nthD fsX i 0]? = some (.exactly (srT i) "java/lang/String") := by decide +kernel
theorem fs_co : ∀ i, i < 9 → fC[nthD fsC i 0]? = some (.eq (.field (srT i) "java/lang/String" "coder" "B") (.int 0)) := by decide +kernel
theorem fs_ar : ∀ i, i < 9 → fC[nthD fsA i 0]? = some (.arrayOf (.field (srT i) "java/lang/String" "value" "[B") .byte) := by decide +kernel
theorem fs_le : ∀ i, i < 9 → fC[nthD fsL i 0]? = some (.eq (.length (.field (srT i) "java/lang/String" "value" "[B")) (.int (Int32.ofNat (slen.getD i 0)))) := by decide +kernel
theorem fs_el : ∀ i, i < 9 → ∀ j, j < slen.getD i 0 → fC[nthD (nthD fsE i []) j 0]? = some (.eq (.elem (.field (srT i) "java/lang/String" "value" "[B") (.int (Int32.ofNat j))) (.int ((stxt.getD i []).getD j 0))) := by decide +kernel
theorem fs_ne : ∀ i, i < 9 → ∀ j, j < 9 → i < j → fC[nthD (nthD fsN i []) j 0]? = some (.not (.eq (srT i) (srT j))) := by decide +kernel
theorem fs_sl : ∀ i, i < 9 → slen.getD i 0 < 2 ^ 31 := by decide +kernel
theorem fc_cs : fC[176]? = some (.eq (.static "java/lang/String" "COMPACT_STRINGS" "Z") (.int 1)) := by decide +kernel
theorem fc_si : fC[177]? = some (.isRef (.static "jdk/internal/util/Preconditions" "SIOOBE_FORMATTER" "Ljava/util/function/BiFunction;")) := by decide +kernel
def lyP : List Nat := [583, 585, 655, 665, 180]
def inP : List Nat := [57, 57, 64, 64, 62]
theorem ly_at : ∀ i, i < 5 → lw_tbl[nthD lyP i 0]? = some (.laysStatic (nthD stN i ("", "")).1 (nthD stN i ("", "")).2 "[I") := by decide +kernel
theorem in_at : ∀ i, i < 5 → lw_tbl[nthD inP i 0]? = some (.initialized (nthD stN i ("", "")).1) := by decide +kernel
def srP : List Nat := [376, 449, 450, 451, 452, 453, 454, 455, 456]
theorem sr_at : ∀ i, i < 9 → lw_tbl[nthD srP i 0]? = some (.stringRef RX6 (nthD sidx i 0) (nthD snam i "")) := by decide +kernel
