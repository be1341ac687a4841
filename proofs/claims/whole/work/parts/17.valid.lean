/-! ## 17 every table is checked by the kernel (printed by wip/whole; am_ol: the class of each method) -/
def am_ol : List Nat := [0, 0, 0, 0, 0, 0, 0, 1, 1, 1, 1, 1, 1, 1, 1, 1, 1, 1, 1, 1, 1, 1, 1, 1, 1, 1, 1, 1, 1, 1, 1, 1, 1, 1, 2, 2, 2, 2, 2, 2, 2, 2, 2, 2, 2, 2, 3, 3, 3, 3, 3, 3, 3, 3, 3, 4, 4, 5, 5, 5, 5, 5, 5, 5, 5, 5, 5, 5, 5, 5, 5, 5, 5, 6, 6, 6, 6, 6, 7, 7, 7, 7, 7, 7, 7, 7, 7, 7, 7, 7, 7, 7, 7, 7, 7, 7, 7, 7, 7, 7, 7, 8, 8, 8, 8, 8, 9, 9, 9, 9, 9, 9, 9, 10, 10, 10, 10, 10, 10, 10, 10, 10, 10, 10, 10, 10, 10, 10, 11, 11, 11, 11, 11, 11, 11, 11, 11, 11, 11, 11, 11, 11, 11, 11, 11, 11, 11, 11, 11, 11, 11, 11, 11, 11, 11, 11, 11, 11, 11, 11, 11, 11, 11, 11, 11, 11, 11, 11, 11, 11, 11, 12, 12, 12, 12, 12, 12, 12, 12, 12, 12, 12, 12, 12, 12, 12, 12, 12, 12, 12, 12, 12, 12, 12, 12, 12, 12, 12, 12, 12, 12, 12, 12, 12, 12, 12, 12, 12, 12, 12, 12, 12, 12, 12, 12, 12, 12, 12, 12, 12, 12, 12, 12, 12, 12, 12, 12, 12, 12, 12, 12, 12, 12, 12, 12, 12, 12, 12, 12, 12, 12, 12, 12, 12, 12, 12, 12, 12, 12, 12, 12, 12, 12, 12, 12, 12, 12, 12, 12, 12, 12, 12, 12, 12, 12, 12, 12, 12, 12, 12, 12, 12, 12, 12, 12, 13, 13, 13, 13, 13, 13, 13, 13, 13, 13, 13, 13, 13, 13, 13, 13, 13, 13, 13, 13, 13, 13, 13, 13, 13, 13]
def am_ckM (y : Nat) : Bool := match am_Ml[y]?, am_ol[y]?, am_TT y with
  | some q, some own, some t => decide (q.1.cls = am_cn own) && (Nat.beq t.2.1 q.2.2.1 && (am_ckH own t.2.2 q.2.2.2.2 && t.1.all fun e => am_ckE am_TT own q.2.1 q.2.2.2.1 (decide (q.1.name = "<init>")) e.1 e.2))
  | _, _, _ => false
set_option maxRecDepth 1000000 in
theorem am_v0 : ∀ y ∈ [0, 1, 2, 3, 4], am_ckM y = true := by decide +kernel
set_option maxRecDepth 1000000 in
theorem am_v5 : ∀ y ∈ [5, 6, 7, 8, 9], am_ckM y = true := by decide +kernel
set_option maxRecDepth 1000000 in
theorem am_v10 : ∀ y ∈ [10, 11, 12, 13, 14], am_ckM y = true := by decide +kernel
set_option maxRecDepth 1000000 in
theorem am_v15 : ∀ y ∈ [15, 16, 17, 18, 19], am_ckM y = true := by decide +kernel
set_option maxRecDepth 1000000 in
theorem am_v20 : ∀ y ∈ [20, 21, 22, 23, 24], am_ckM y = true := by decide +kernel
set_option maxRecDepth 1000000 in
theorem am_v25 : ∀ y ∈ [25, 26, 27, 28, 29], am_ckM y = true := by decide +kernel
set_option maxRecDepth 1000000 in
theorem am_v30 : ∀ y ∈ [30, 31, 32, 33, 34], am_ckM y = true := by decide +kernel
set_option maxRecDepth 1000000 in
theorem am_v35 : ∀ y ∈ [35, 36, 37, 38, 39], am_ckM y = true := by decide +kernel
set_option maxRecDepth 1000000 in
theorem am_v40 : ∀ y ∈ [40, 41, 42, 43, 44], am_ckM y = true := by decide +kernel
set_option maxRecDepth 1000000 in
theorem am_v45 : ∀ y ∈ [45, 46, 47, 48, 49], am_ckM y = true := by decide +kernel
set_option maxRecDepth 1000000 in
theorem am_v50 : ∀ y ∈ [50, 51, 52, 53, 54], am_ckM y = true := by decide +kernel
set_option maxRecDepth 1000000 in
theorem am_v55 : ∀ y ∈ [55, 56, 57, 58, 59], am_ckM y = true := by decide +kernel
set_option maxRecDepth 1000000 in
theorem am_v60 : ∀ y ∈ [60, 61, 62, 63, 64], am_ckM y = true := by decide +kernel
set_option maxRecDepth 1000000 in
theorem am_v65 : ∀ y ∈ [65, 66, 67, 68, 69], am_ckM y = true := by decide +kernel
set_option maxRecDepth 1000000 in
theorem am_v70 : ∀ y ∈ [70, 71, 72, 73, 74], am_ckM y = true := by decide +kernel
set_option maxRecDepth 1000000 in
theorem am_v75 : ∀ y ∈ [75, 76, 77, 78, 79], am_ckM y = true := by decide +kernel
set_option maxRecDepth 1000000 in
theorem am_v80 : ∀ y ∈ [80, 81, 82, 83, 84], am_ckM y = true := by decide +kernel
set_option maxRecDepth 1000000 in
theorem am_v85 : ∀ y ∈ [85, 86, 87, 88, 89], am_ckM y = true := by decide +kernel
set_option maxRecDepth 1000000 in
theorem am_v90 : ∀ y ∈ [90, 91, 92, 93, 94], am_ckM y = true := by decide +kernel
set_option maxRecDepth 1000000 in
theorem am_v95 : ∀ y ∈ [95, 96, 97, 98, 99], am_ckM y = true := by decide +kernel
set_option maxRecDepth 1000000 in
theorem am_v100 : ∀ y ∈ [100, 101, 102, 103, 104], am_ckM y = true := by decide +kernel
set_option maxRecDepth 1000000 in
theorem am_v105 : ∀ y ∈ [105, 106, 107, 108, 109], am_ckM y = true := by decide +kernel
set_option maxRecDepth 1000000 in
theorem am_v110 : ∀ y ∈ [110, 111, 112, 113, 114], am_ckM y = true := by decide +kernel
set_option maxRecDepth 1000000 in
theorem am_v115 : ∀ y ∈ [115, 116, 117, 118, 119], am_ckM y = true := by decide +kernel
set_option maxRecDepth 1000000 in
theorem am_v120 : ∀ y ∈ [120, 121, 122, 123, 124], am_ckM y = true := by decide +kernel
set_option maxRecDepth 1000000 in
theorem am_v125 : ∀ y ∈ [125, 126, 127, 128, 129], am_ckM y = true := by decide +kernel
set_option maxRecDepth 1000000 in
theorem am_v130 : ∀ y ∈ [130, 131, 132, 133, 134], am_ckM y = true := by decide +kernel
set_option maxRecDepth 1000000 in
theorem am_v135 : ∀ y ∈ [135, 136, 137, 138, 139], am_ckM y = true := by decide +kernel
set_option maxRecDepth 1000000 in
theorem am_v140 : ∀ y ∈ [140, 141, 142, 143, 144], am_ckM y = true := by decide +kernel
set_option maxRecDepth 1000000 in
theorem am_v145 : ∀ y ∈ [145, 146, 147, 148, 149], am_ckM y = true := by decide +kernel
set_option maxRecDepth 1000000 in
theorem am_v150 : ∀ y ∈ [150, 151, 152, 153, 154], am_ckM y = true := by decide +kernel
set_option maxRecDepth 1000000 in
theorem am_v155 : ∀ y ∈ [155, 156, 157, 158, 159], am_ckM y = true := by decide +kernel
set_option maxRecDepth 1000000 in
theorem am_v160 : ∀ y ∈ [160, 161, 162, 163, 164], am_ckM y = true := by decide +kernel
set_option maxRecDepth 1000000 in
theorem am_v165 : ∀ y ∈ [165, 166, 167, 168, 169], am_ckM y = true := by decide +kernel
set_option maxRecDepth 1000000 in
theorem am_v170 : ∀ y ∈ [170, 171, 172, 173, 174], am_ckM y = true := by decide +kernel
set_option maxRecDepth 1000000 in
theorem am_v175 : ∀ y ∈ [175, 176, 177, 178, 179], am_ckM y = true := by decide +kernel
set_option maxRecDepth 1000000 in
theorem am_v180 : ∀ y ∈ [180, 181, 182, 183, 184], am_ckM y = true := by decide +kernel
set_option maxRecDepth 1000000 in
theorem am_v185 : ∀ y ∈ [185, 186, 187, 188, 189], am_ckM y = true := by decide +kernel
set_option maxRecDepth 1000000 in
theorem am_v190 : ∀ y ∈ [190, 191, 192, 193, 194], am_ckM y = true := by decide +kernel
set_option maxRecDepth 1000000 in
theorem am_v195 : ∀ y ∈ [195, 196, 197, 198, 199], am_ckM y = true := by decide +kernel
set_option maxRecDepth 1000000 in
theorem am_v200 : ∀ y ∈ [200, 201, 202, 203, 204], am_ckM y = true := by decide +kernel
set_option maxRecDepth 1000000 in
theorem am_v205 : ∀ y ∈ [205, 206, 207, 208, 209], am_ckM y = true := by decide +kernel
set_option maxRecDepth 1000000 in
theorem am_v210 : ∀ y ∈ [210, 211, 212, 213, 214], am_ckM y = true := by decide +kernel
set_option maxRecDepth 1000000 in
theorem am_v215 : ∀ y ∈ [215, 216, 217, 218, 219], am_ckM y = true := by decide +kernel
set_option maxRecDepth 1000000 in
theorem am_v220 : ∀ y ∈ [220, 221, 222, 223, 224], am_ckM y = true := by decide +kernel
set_option maxRecDepth 1000000 in
theorem am_v225 : ∀ y ∈ [225, 226, 227, 228, 229], am_ckM y = true := by decide +kernel
set_option maxRecDepth 1000000 in
theorem am_v230 : ∀ y ∈ [230, 231, 232, 233, 234], am_ckM y = true := by decide +kernel
set_option maxRecDepth 1000000 in
theorem am_v235 : ∀ y ∈ [235, 236, 237, 238, 239], am_ckM y = true := by decide +kernel
set_option maxRecDepth 1000000 in
theorem am_v240 : ∀ y ∈ [240, 241, 242, 243, 244], am_ckM y = true := by decide +kernel
set_option maxRecDepth 1000000 in
theorem am_v245 : ∀ y ∈ [245, 246, 247, 248, 249], am_ckM y = true := by decide +kernel
set_option maxRecDepth 1000000 in
theorem am_v250 : ∀ y ∈ [250, 251, 252, 253, 254], am_ckM y = true := by decide +kernel
set_option maxRecDepth 1000000 in
theorem am_v255 : ∀ y ∈ [255, 256, 257, 258, 259], am_ckM y = true := by decide +kernel
set_option maxRecDepth 1000000 in
theorem am_v260 : ∀ y ∈ [260, 261, 262, 263, 264], am_ckM y = true := by decide +kernel
set_option maxRecDepth 1000000 in
theorem am_v265 : ∀ y ∈ [265, 266, 267, 268, 269], am_ckM y = true := by decide +kernel
set_option maxRecDepth 1000000 in
theorem am_v270 : ∀ y ∈ [270, 271, 272, 273, 274], am_ckM y = true := by decide +kernel
set_option maxRecDepth 1000000 in
theorem am_v275 : ∀ y ∈ [275, 276, 277, 278, 279], am_ckM y = true := by decide +kernel
set_option maxRecDepth 1000000 in
theorem am_v280 : ∀ y ∈ [280, 281, 282, 283, 284], am_ckM y = true := by decide +kernel
set_option maxRecDepth 1000000 in
theorem am_v285 : ∀ y ∈ [285, 286, 287, 288, 289], am_ckM y = true := by decide +kernel
set_option maxRecDepth 1000000 in
theorem am_v290 : ∀ y ∈ [290, 291, 292, 293, 294], am_ckM y = true := by decide +kernel
set_option maxRecDepth 1000000 in
theorem am_v295 : ∀ y ∈ [295, 296, 297, 298, 299], am_ckM y = true := by decide +kernel
