def st_N : Cond := Jvm.Cond.and given_1 narrow_1
theorem st_sub {N : Cond} {ps : List Nat} {ws : List Cond} (h : ws = ps.filterMap (fun i => (flatC N)[i]?)) : ∀ w ∈ ws, w ∈ flatC N := fun w hw => by
  rw [h] at hw
  obtain ⟨i, -, hi⟩ := List.mem_filterMap.mp hw
  exact List.mem_of_getElem? hi
def st_tARGUMENTS : List Int32 := ([0, 4, 6, 4, 5, 5, 3, 2, 2, 6, 2, 8, 6, 1, 1, 1, 2, 3, 5, 2, 6, 2, 0, 1, 4, 5] : List Int32)
theorem st_sARGUMENTS_0 : ∀ w ∈ (List.range 26).map (fun j => Cond.eq (.elem (Term.static "DrawingMachine" "ARGUMENTS" "[I") (.int (Int32.ofNat (0 + j)))) (.int (st_tARGUMENTS.getD (0 + j) 0))), w ∈ flatC st_N := st_sub (ps := [220, 221, 222, 223, 224, 225, 226, 227, 228, 229, 230, 231, 232, 233, 234, 235, 236, 237, 238, 239, 240, 241, 242, 243, 244, 245]) (by decide +kernel)
theorem st_kARGUMENTS : ∀ j : Nat, j < 26 → Cond.eq (.elem (Term.static "DrawingMachine" "ARGUMENTS" "[I") (.int (Int32.ofNat j))) (.int (st_tARGUMENTS.getD j 0)) ∈ flatC st_N := by
  intro j hj
  obtain ⟨i, rfl⟩ : ∃ i, j = 0 + i := ⟨j - 0, by omega⟩
  exact st_sARGUMENTS_0 _ (List.mem_map.mpr ⟨i, List.mem_range.mpr (by omega), rfl⟩)
theorem st_aARGUMENTS : ∀ w ∈ ([Cond.arrayOf (Term.static "DrawingMachine" "ARGUMENTS" "[I") .int, Cond.eq (.length (Term.static "DrawingMachine" "ARGUMENTS" "[I")) (.int (Int32.ofNat 26))] : List Cond), w ∈ flatC st_N := st_sub (ps := [218, 219]) (by decide +kernel)
theorem st_lARGUMENTS : Cond.laysStatic "DrawingMachine" "ARGUMENTS" "[I" ∈ lw_tbl := List.mem_append_right _ (List.mem_of_getElem? (i := 950) (by decide +kernel))
def st_tBOUNDS_AT : List Int32 := ([0, 0, 4, 10, 14, 19, 24, 27, 29, 31, 37, 39, 47, 53, 54, 55, 56, 58, 61, 66, 68, 74, 76, 76, 77, 81] : List Int32)
theorem st_sBOUNDS_AT_0 : ∀ w ∈ (List.range 26).map (fun j => Cond.eq (.elem (Term.static "DrawingMachine" "BOUNDS_AT" "[I") (.int (Int32.ofNat (0 + j)))) (.int (st_tBOUNDS_AT.getD (0 + j) 0))), w ∈ flatC st_N := st_sub (ps := [249, 250, 251, 252, 253, 254, 255, 256, 257, 258, 259, 260, 261, 262, 263, 264, 265, 266, 267, 268, 269, 270, 271, 272, 273, 274]) (by decide +kernel)
theorem st_kBOUNDS_AT : ∀ j : Nat, j < 26 → Cond.eq (.elem (Term.static "DrawingMachine" "BOUNDS_AT" "[I") (.int (Int32.ofNat j))) (.int (st_tBOUNDS_AT.getD j 0)) ∈ flatC st_N := by
  intro j hj
  obtain ⟨i, rfl⟩ : ∃ i, j = 0 + i := ⟨j - 0, by omega⟩
  exact st_sBOUNDS_AT_0 _ (List.mem_map.mpr ⟨i, List.mem_range.mpr (by omega), rfl⟩)
theorem st_aBOUNDS_AT : ∀ w ∈ ([Cond.arrayOf (Term.static "DrawingMachine" "BOUNDS_AT" "[I") .int, Cond.eq (.length (Term.static "DrawingMachine" "BOUNDS_AT" "[I")) (.int (Int32.ofNat 26))] : List Cond), w ∈ flatC st_N := st_sub (ps := [247, 248]) (by decide +kernel)
theorem st_lBOUNDS_AT : Cond.laysStatic "DrawingMachine" "BOUNDS_AT" "[I" ∈ lw_tbl := List.mem_append_right _ (List.mem_of_getElem? (i := 960) (by decide +kernel))
def st_tCHANNEL_BITS : List Int32 := ([8, 8, 8, 8, 5, 6, 5, 0, 4, 4, 4, 4, 5, 5, 5, 1, 8, 8, 8, 0, 0, 0, 0, 8, 8, 8, 8, 8, 4, 4, 4, 0] : List Int32)
theorem st_sCHANNEL_BITS_0 : ∀ w ∈ (List.range 30).map (fun j => Cond.eq (.elem (Term.static "DrawingMachine" "CHANNEL_BITS" "[I") (.int (Int32.ofNat (0 + j)))) (.int (st_tCHANNEL_BITS.getD (0 + j) 0))), w ∈ flatC st_N := st_sub (ps := [518, 519, 520, 521, 522, 523, 524, 525, 526, 527, 528, 529, 530, 531, 532, 533, 534, 535, 536, 537, 538, 539, 540, 541, 542, 543, 544, 545, 546, 547]) (by decide +kernel)
theorem st_sCHANNEL_BITS_30 : ∀ w ∈ (List.range 2).map (fun j => Cond.eq (.elem (Term.static "DrawingMachine" "CHANNEL_BITS" "[I") (.int (Int32.ofNat (30 + j)))) (.int (st_tCHANNEL_BITS.getD (30 + j) 0))), w ∈ flatC st_N := st_sub (ps := [548, 549]) (by decide +kernel)
theorem st_kCHANNEL_BITS : ∀ j : Nat, j < 32 → Cond.eq (.elem (Term.static "DrawingMachine" "CHANNEL_BITS" "[I") (.int (Int32.ofNat j))) (.int (st_tCHANNEL_BITS.getD j 0)) ∈ flatC st_N := by
  intro j hj
  by_cases h0 : j < 30
  · obtain ⟨i, rfl⟩ : ∃ i, j = 0 + i := ⟨j - 0, by omega⟩
    exact st_sCHANNEL_BITS_0 _ (List.mem_map.mpr ⟨i, List.mem_range.mpr (by omega), rfl⟩)
  obtain ⟨i, rfl⟩ : ∃ i, j = 30 + i := ⟨j - 30, by omega⟩
  exact st_sCHANNEL_BITS_30 _ (List.mem_map.mpr ⟨i, List.mem_range.mpr (by omega), rfl⟩)
theorem st_aCHANNEL_BITS : ∀ w ∈ ([Cond.arrayOf (Term.static "DrawingMachine" "CHANNEL_BITS" "[I") .int, Cond.eq (.length (Term.static "DrawingMachine" "CHANNEL_BITS" "[I")) (.int (Int32.ofNat 32))] : List Cond), w ∈ flatC st_N := st_sub (ps := [516, 517]) (by decide +kernel)
theorem st_lCHANNEL_BITS : Cond.laysStatic "DrawingMachine" "CHANNEL_BITS" "[I" ∈ lw_tbl := List.mem_append_right _ (List.mem_of_getElem? (i := 1074) (by decide +kernel))
def st_tCHANNEL_SHIFT : List Int32 := ([0, 8, 16, 24, 0, 5, 11, 0, 0, 4, 8, 12, 0, 5, 10, 15, 0, 0, 0, 0, 0, 0, 0, 0, 0, 0, 0, 8, 0, 0, 0, 0] : List Int32)
theorem st_sCHANNEL_SHIFT_0 : ∀ w ∈ (List.range 30).map (fun j => Cond.eq (.elem (Term.static "DrawingMachine" "CHANNEL_SHIFT" "[I") (.int (Int32.ofNat (0 + j)))) (.int (st_tCHANNEL_SHIFT.getD (0 + j) 0))), w ∈ flatC st_N := st_sub (ps := [553, 554, 555, 556, 557, 558, 559, 560, 561, 562, 563, 564, 565, 566, 567, 568, 569, 570, 571, 572, 573, 574, 575, 576, 577, 578, 579, 580, 581, 582]) (by decide +kernel)
theorem st_sCHANNEL_SHIFT_30 : ∀ w ∈ (List.range 2).map (fun j => Cond.eq (.elem (Term.static "DrawingMachine" "CHANNEL_SHIFT" "[I") (.int (Int32.ofNat (30 + j)))) (.int (st_tCHANNEL_SHIFT.getD (30 + j) 0))), w ∈ flatC st_N := st_sub (ps := [583, 584]) (by decide +kernel)
theorem st_kCHANNEL_SHIFT : ∀ j : Nat, j < 32 → Cond.eq (.elem (Term.static "DrawingMachine" "CHANNEL_SHIFT" "[I") (.int (Int32.ofNat j))) (.int (st_tCHANNEL_SHIFT.getD j 0)) ∈ flatC st_N := by
  intro j hj
  by_cases h0 : j < 30
  · obtain ⟨i, rfl⟩ : ∃ i, j = 0 + i := ⟨j - 0, by omega⟩
    exact st_sCHANNEL_SHIFT_0 _ (List.mem_map.mpr ⟨i, List.mem_range.mpr (by omega), rfl⟩)
  obtain ⟨i, rfl⟩ : ∃ i, j = 30 + i := ⟨j - 30, by omega⟩
  exact st_sCHANNEL_SHIFT_30 _ (List.mem_map.mpr ⟨i, List.mem_range.mpr (by omega), rfl⟩)
theorem st_aCHANNEL_SHIFT : ∀ w ∈ ([Cond.arrayOf (Term.static "DrawingMachine" "CHANNEL_SHIFT" "[I") .int, Cond.eq (.length (Term.static "DrawingMachine" "CHANNEL_SHIFT" "[I")) (.int (Int32.ofNat 32))] : List Cond), w ∈ flatC st_N := st_sub (ps := [551, 552]) (by decide +kernel)
theorem st_lCHANNEL_SHIFT : Cond.laysStatic "DrawingMachine" "CHANNEL_SHIFT" "[I" ∈ lw_tbl := List.mem_append_right _ (List.mem_of_getElem? (i := 1076) (by decide +kernel))
def st_tFILE_AT : List Int32 := ([0, 64, 96, 224] : List Int32)
theorem st_sFILE_AT_0 : ∀ w ∈ (List.range 4).map (fun j => Cond.eq (.elem (Term.static "DrawingMachine" "FILE_AT" "[I") (.int (Int32.ofNat (0 + j)))) (.int (st_tFILE_AT.getD (0 + j) 0))), w ∈ flatC st_N := st_sub (ps := [500, 501, 502, 503]) (by decide +kernel)
theorem st_kFILE_AT : ∀ j : Nat, j < 4 → Cond.eq (.elem (Term.static "DrawingMachine" "FILE_AT" "[I") (.int (Int32.ofNat j))) (.int (st_tFILE_AT.getD j 0)) ∈ flatC st_N := by
  intro j hj
  obtain ⟨i, rfl⟩ : ∃ i, j = 0 + i := ⟨j - 0, by omega⟩
  exact st_sFILE_AT_0 _ (List.mem_map.mpr ⟨i, List.mem_range.mpr (by omega), rfl⟩)
theorem st_aFILE_AT : ∀ w ∈ ([Cond.arrayOf (Term.static "DrawingMachine" "FILE_AT" "[I") .int, Cond.eq (.length (Term.static "DrawingMachine" "FILE_AT" "[I")) (.int (Int32.ofNat 4))] : List Cond), w ∈ flatC st_N := st_sub (ps := [498, 499]) (by decide +kernel)
theorem st_lFILE_AT : Cond.laysStatic "DrawingMachine" "FILE_AT" "[I" ∈ lw_tbl := List.mem_append_right _ (List.mem_of_getElem? (i := 1042) (by decide +kernel))
def st_tKEPT_AT : List Int32 := ([(-1), (-1), 0, 6, 10, 42, (-1), (-1), (-1), 170, 190, 192, 206, 212, 213, 214, 215, (-1), (-1), (-1), (-1), (-1), (-1), (-1), 217, 229] : List Int32)
theorem st_sKEPT_AT_0 : ∀ w ∈ (List.range 26).map (fun j => Cond.eq (.elem (Term.static "DrawingMachine" "KEPT_AT" "[I") (.int (Int32.ofNat (0 + j)))) (.int (st_tKEPT_AT.getD (0 + j) 0))), w ∈ flatC st_N := st_sub (ps := [588, 589, 590, 591, 592, 593, 594, 595, 596, 597, 598, 599, 600, 601, 602, 603, 604, 605, 606, 607, 608, 609, 610, 611, 612, 613]) (by decide +kernel)
theorem st_kKEPT_AT : ∀ j : Nat, j < 26 → Cond.eq (.elem (Term.static "DrawingMachine" "KEPT_AT" "[I") (.int (Int32.ofNat j))) (.int (st_tKEPT_AT.getD j 0)) ∈ flatC st_N := by
  intro j hj
  obtain ⟨i, rfl⟩ : ∃ i, j = 0 + i := ⟨j - 0, by omega⟩
  exact st_sKEPT_AT_0 _ (List.mem_map.mpr ⟨i, List.mem_range.mpr (by omega), rfl⟩)
theorem st_aKEPT_AT : ∀ w ∈ ([Cond.arrayOf (Term.static "DrawingMachine" "KEPT_AT" "[I") .int, Cond.eq (.length (Term.static "DrawingMachine" "KEPT_AT" "[I")) (.int (Int32.ofNat 26))] : List Cond), w ∈ flatC st_N := st_sub (ps := [586, 587]) (by decide +kernel)
theorem st_lKEPT_AT : Cond.laysStatic "DrawingMachine" "KEPT_AT" "[I" ∈ lw_tbl := List.mem_append_right _ (List.mem_of_getElem? (i := 1368) (by decide +kernel))
def st_tKEPT_BY_FIRST : List Int32 := ([0, 0, 0, 0, 1, 1, 0, 0, 0, 1, 0, 1, 0, 0, 0, 0, 0, 0, 0, 0, 0, 0, 0, 0, 1, 1] : List Int32)
theorem st_sKEPT_BY_FIRST_0 : ∀ w ∈ (List.range 26).map (fun j => Cond.eq (.elem (Term.static "DrawingMachine" "KEPT_BY_FIRST" "[I") (.int (Int32.ofNat (0 + j)))) (.int (st_tKEPT_BY_FIRST.getD (0 + j) 0))), w ∈ flatC st_N := st_sub (ps := [617, 618, 619, 620, 621, 622, 623, 624, 625, 626, 627, 628, 629, 630, 631, 632, 633, 634, 635, 636, 637, 638, 639, 640, 641, 642]) (by decide +kernel)
theorem st_kKEPT_BY_FIRST : ∀ j : Nat, j < 26 → Cond.eq (.elem (Term.static "DrawingMachine" "KEPT_BY_FIRST" "[I") (.int (Int32.ofNat j))) (.int (st_tKEPT_BY_FIRST.getD j 0)) ∈ flatC st_N := by
  intro j hj
  obtain ⟨i, rfl⟩ : ∃ i, j = 0 + i := ⟨j - 0, by omega⟩
  exact st_sKEPT_BY_FIRST_0 _ (List.mem_map.mpr ⟨i, List.mem_range.mpr (by omega), rfl⟩)
theorem st_aKEPT_BY_FIRST : ∀ w ∈ ([Cond.arrayOf (Term.static "DrawingMachine" "KEPT_BY_FIRST" "[I") .int, Cond.eq (.length (Term.static "DrawingMachine" "KEPT_BY_FIRST" "[I")) (.int (Int32.ofNat 26))] : List Cond), w ∈ flatC st_N := st_sub (ps := [615, 616]) (by decide +kernel)
theorem st_lKEPT_BY_FIRST : Cond.laysStatic "DrawingMachine" "KEPT_BY_FIRST" "[I" ∈ lw_tbl := List.mem_append_right _ (List.mem_of_getElem? (i := 1370) (by decide +kernel))
def st_tLEAST : List Int32 := ([0, (-2147483648), 0, 0, (-1023), (-1023), 1, 1, 0, 0, (-2147483648), (-2147483648), (-2147483648), (-2147483648), 0, 0, 0, 0, 0, 0, (-2147483648), (-2147483648), (-2147483648), (-2147483648), 0, 0, 0, 0, 1, 0, 1, 0, 0, 0, 0, 1, 0, (-1), 0, 0, (-1), 0, 0, 0, 0, 0, 0, 0, 0, 0, 0, (-1), 0, (-2147483648), (-1), 0, 0, 0, 0, 0, 0, 0, 0, 0, 0, (-2147483648), 0, 0, 0, 0, 1, 1, 0, 0, 0, 0, 0, 0, 0, 0, 0, 0, (-2147483648), (-2147483648), (-2147483648), (-2147483648)] : List Int32)
theorem st_sLEAST_0 : ∀ w ∈ (List.range 30).map (fun j => Cond.eq (.elem (Term.static "DrawingMachine" "LEAST" "[I") (.int (Int32.ofNat (0 + j)))) (.int (st_tLEAST.getD (0 + j) 0))), w ∈ flatC st_N := st_sub (ps := [278, 279, 280, 281, 282, 283, 284, 285, 286, 287, 288, 289, 290, 291, 292, 293, 294, 295, 296, 297, 298, 299, 300, 301, 302, 303, 304, 305, 306, 307]) (by decide +kernel)
theorem st_sLEAST_30 : ∀ w ∈ (List.range 30).map (fun j => Cond.eq (.elem (Term.static "DrawingMachine" "LEAST" "[I") (.int (Int32.ofNat (30 + j)))) (.int (st_tLEAST.getD (30 + j) 0))), w ∈ flatC st_N := st_sub (ps := [308, 309, 310, 311, 312, 313, 314, 315, 316, 317, 318, 319, 320, 321, 322, 323, 324, 325, 326, 327, 328, 329, 330, 331, 332, 333, 334, 335, 336, 337]) (by decide +kernel)
theorem st_sLEAST_60 : ∀ w ∈ (List.range 26).map (fun j => Cond.eq (.elem (Term.static "DrawingMachine" "LEAST" "[I") (.int (Int32.ofNat (60 + j)))) (.int (st_tLEAST.getD (60 + j) 0))), w ∈ flatC st_N := st_sub (ps := [338, 339, 340, 341, 342, 343, 344, 345, 346, 347, 348, 349, 350, 351, 352, 353, 354, 355, 356, 357, 358, 359, 360, 361, 362, 363]) (by decide +kernel)
theorem st_kLEAST : ∀ j : Nat, j < 86 → Cond.eq (.elem (Term.static "DrawingMachine" "LEAST" "[I") (.int (Int32.ofNat j))) (.int (st_tLEAST.getD j 0)) ∈ flatC st_N := by
  intro j hj
  by_cases h0 : j < 30
  · obtain ⟨i, rfl⟩ : ∃ i, j = 0 + i := ⟨j - 0, by omega⟩
    exact st_sLEAST_0 _ (List.mem_map.mpr ⟨i, List.mem_range.mpr (by omega), rfl⟩)
  by_cases h30 : j < 60
  · obtain ⟨i, rfl⟩ : ∃ i, j = 30 + i := ⟨j - 30, by omega⟩
    exact st_sLEAST_30 _ (List.mem_map.mpr ⟨i, List.mem_range.mpr (by omega), rfl⟩)
  obtain ⟨i, rfl⟩ : ∃ i, j = 60 + i := ⟨j - 60, by omega⟩
  exact st_sLEAST_60 _ (List.mem_map.mpr ⟨i, List.mem_range.mpr (by omega), rfl⟩)
theorem st_aLEAST : ∀ w ∈ ([Cond.arrayOf (Term.static "DrawingMachine" "LEAST" "[I") .int, Cond.eq (.length (Term.static "DrawingMachine" "LEAST" "[I")) (.int (Int32.ofNat 86))] : List Cond), w ∈ flatC st_N := st_sub (ps := [276, 277]) (by decide +kernel)
theorem st_lLEAST : Cond.laysStatic "DrawingMachine" "LEAST" "[I" ∈ lw_tbl := List.mem_append_right _ (List.mem_of_getElem? (i := 962) (by decide +kernel))
def st_tMOST : List Int32 := ([7, 2147483647, 16777215, 255, 1023, 1023, 1024, 1024, 16777215, 16777215, 2147483647, 2147483647, 2147483647, 2147483647, 7, 1048576, 1024, 4, 3, 31, 2147483647, 2147483647, 2147483647, 2147483647, 31, 32, 1048576, 1048576, 256, 1048576, 256, 3, 1048576, 10, 10, 11, 7, 7, 1, 1, 7, 255, 255, 255, 7, 7, 7, 14, 14, 14, 14, 4, 4, 2147483647, 15, 15, 3, 1, 2, 1048576, 4096, 2, 1048576, 4096, 2, 2147483647, 7, 1, 127, 127, 128, 128, 1048576, 2, 1048576, 256, 1048576, 3, 3, 3, 3, 3, 2147483647, 2147483647, 2147483647, 2147483647] : List Int32)
theorem st_sMOST_0 : ∀ w ∈ (List.range 30).map (fun j => Cond.eq (.elem (Term.static "DrawingMachine" "MOST" "[I") (.int (Int32.ofNat (0 + j)))) (.int (st_tMOST.getD (0 + j) 0))), w ∈ flatC st_N := st_sub (ps := [367, 368, 369, 370, 371, 372, 373, 374, 375, 376, 377, 378, 379, 380, 381, 382, 383, 384, 385, 386, 387, 388, 389, 390, 391, 392, 393, 394, 395, 396]) (by decide +kernel)
theorem st_sMOST_30 : ∀ w ∈ (List.range 30).map (fun j => Cond.eq (.elem (Term.static "DrawingMachine" "MOST" "[I") (.int (Int32.ofNat (30 + j)))) (.int (st_tMOST.getD (30 + j) 0))), w ∈ flatC st_N := st_sub (ps := [397, 398, 399, 400, 401, 402, 403, 404, 405, 406, 407, 408, 409, 410, 411, 412, 413, 414, 415, 416, 417, 418, 419, 420, 421, 422, 423, 424, 425, 426]) (by decide +kernel)
theorem st_sMOST_60 : ∀ w ∈ (List.range 26).map (fun j => Cond.eq (.elem (Term.static "DrawingMachine" "MOST" "[I") (.int (Int32.ofNat (60 + j)))) (.int (st_tMOST.getD (60 + j) 0))), w ∈ flatC st_N := st_sub (ps := [427, 428, 429, 430, 431, 432, 433, 434, 435, 436, 437, 438, 439, 440, 441, 442, 443, 444, 445, 446, 447, 448, 449, 450, 451, 452]) (by decide +kernel)
theorem st_kMOST : ∀ j : Nat, j < 86 → Cond.eq (.elem (Term.static "DrawingMachine" "MOST" "[I") (.int (Int32.ofNat j))) (.int (st_tMOST.getD j 0)) ∈ flatC st_N := by
  intro j hj
  by_cases h0 : j < 30
  · obtain ⟨i, rfl⟩ : ∃ i, j = 0 + i := ⟨j - 0, by omega⟩
    exact st_sMOST_0 _ (List.mem_map.mpr ⟨i, List.mem_range.mpr (by omega), rfl⟩)
  by_cases h30 : j < 60
  · obtain ⟨i, rfl⟩ : ∃ i, j = 30 + i := ⟨j - 30, by omega⟩
    exact st_sMOST_30 _ (List.mem_map.mpr ⟨i, List.mem_range.mpr (by omega), rfl⟩)
  obtain ⟨i, rfl⟩ : ∃ i, j = 60 + i := ⟨j - 60, by omega⟩
  exact st_sMOST_60 _ (List.mem_map.mpr ⟨i, List.mem_range.mpr (by omega), rfl⟩)
theorem st_aMOST : ∀ w ∈ ([Cond.arrayOf (Term.static "DrawingMachine" "MOST" "[I") .int, Cond.eq (.length (Term.static "DrawingMachine" "MOST" "[I")) (.int (Int32.ofNat 86))] : List Cond), w ∈ flatC st_N := st_sub (ps := [365, 366]) (by decide +kernel)
theorem st_lMOST : Cond.laysStatic "DrawingMachine" "MOST" "[I" ∈ lw_tbl := List.mem_append_right _ (List.mem_of_getElem? (i := 964) (by decide +kernel))
def st_tSOURCES : List Int32 := ([0, 1, 2, 2, 2, 3, 2, 2, 2, 2, 1, 1, 1, 1, 1, 1, 2, 2, 2, 2, 3, 3, 2, 2, 2, 2, 1, 2, 2, 2, 1, 1, 1, 1, 0, 0, 1, 0, 1, 1, 1] : List Int32)
theorem st_sSOURCES_0 : ∀ w ∈ (List.range 30).map (fun j => Cond.eq (.elem (Term.static "DrawingMachine" "SOURCES" "[I") (.int (Int32.ofNat (0 + j)))) (.int (st_tSOURCES.getD (0 + j) 0))), w ∈ flatC st_N := st_sub (ps := [456, 457, 458, 459, 460, 461, 462, 463, 464, 465, 466, 467, 468, 469, 470, 471, 472, 473, 474, 475, 476, 477, 478, 479, 480, 481, 482, 483, 484, 485]) (by decide +kernel)
theorem st_sSOURCES_30 : ∀ w ∈ (List.range 11).map (fun j => Cond.eq (.elem (Term.static "DrawingMachine" "SOURCES" "[I") (.int (Int32.ofNat (30 + j)))) (.int (st_tSOURCES.getD (30 + j) 0))), w ∈ flatC st_N := st_sub (ps := [486, 487, 488, 489, 490, 491, 492, 493, 494, 495, 496]) (by decide +kernel)
theorem st_kSOURCES : ∀ j : Nat, j < 41 → Cond.eq (.elem (Term.static "DrawingMachine" "SOURCES" "[I") (.int (Int32.ofNat j))) (.int (st_tSOURCES.getD j 0)) ∈ flatC st_N := by
  intro j hj
  by_cases h0 : j < 30
  · obtain ⟨i, rfl⟩ : ∃ i, j = 0 + i := ⟨j - 0, by omega⟩
    exact st_sSOURCES_0 _ (List.mem_map.mpr ⟨i, List.mem_range.mpr (by omega), rfl⟩)
  obtain ⟨i, rfl⟩ : ∃ i, j = 30 + i := ⟨j - 30, by omega⟩
  exact st_sSOURCES_30 _ (List.mem_map.mpr ⟨i, List.mem_range.mpr (by omega), rfl⟩)
theorem st_aSOURCES : ∀ w ∈ ([Cond.arrayOf (Term.static "DrawingMachine" "SOURCES" "[I") .int, Cond.eq (.length (Term.static "DrawingMachine" "SOURCES" "[I")) (.int (Int32.ofNat 41))] : List Cond), w ∈ flatC st_N := st_sub (ps := [454, 455]) (by decide +kernel)
theorem st_lSOURCES : Cond.laysStatic "DrawingMachine" "SOURCES" "[I" ∈ lw_tbl := List.mem_append_right _ (List.mem_of_getElem? (i := 1031) (by decide +kernel))
def st_tTEXEL_BITS : List Int32 := ([32, 16, 16, 16, 8, 8, 16, 4] : List Int32)
theorem st_sTEXEL_BITS_0 : ∀ w ∈ (List.range 8).map (fun j => Cond.eq (.elem (Term.static "DrawingMachine" "TEXEL_BITS" "[I") (.int (Int32.ofNat (0 + j)))) (.int (st_tTEXEL_BITS.getD (0 + j) 0))), w ∈ flatC st_N := st_sub (ps := [507, 508, 509, 510, 511, 512, 513, 514]) (by decide +kernel)
theorem st_kTEXEL_BITS : ∀ j : Nat, j < 8 → Cond.eq (.elem (Term.static "DrawingMachine" "TEXEL_BITS" "[I") (.int (Int32.ofNat j))) (.int (st_tTEXEL_BITS.getD j 0)) ∈ flatC st_N := by
  intro j hj
  obtain ⟨i, rfl⟩ : ∃ i, j = 0 + i := ⟨j - 0, by omega⟩
  exact st_sTEXEL_BITS_0 _ (List.mem_map.mpr ⟨i, List.mem_range.mpr (by omega), rfl⟩)
theorem st_aTEXEL_BITS : ∀ w ∈ ([Cond.arrayOf (Term.static "DrawingMachine" "TEXEL_BITS" "[I") .int, Cond.eq (.length (Term.static "DrawingMachine" "TEXEL_BITS" "[I")) (.int (Int32.ofNat 8))] : List Cond), w ∈ flatC st_N := st_sub (ps := [505, 506]) (by decide +kernel)
theorem st_lTEXEL_BITS : Cond.laysStatic "DrawingMachine" "TEXEL_BITS" "[I" ∈ lw_tbl := List.mem_append_right _ (List.mem_of_getElem? (i := 1071) (by decide +kernel))
theorem st_ex : ∀ w ∈ ([Cond.isRef (.static "java/lang/Throwable" "UNASSIGNED_STACK" "[Ljava/lang/StackTraceElement;"), Cond.isRef (.static "java/lang/Throwable" "SUPPRESSED_SENTINEL" "Ljava/util/List;")] : List Cond), w ∈ flatC st_N := st_sub (ps := [4, 5]) (by decide +kernel)
theorem st_nc : ∀ w ∈ ([Cond.not (.castable "java/lang/IndexOutOfBoundsException" "java/lang/IllegalArgumentException"), Cond.not (.castable "java/lang/IllegalStateException" "java/lang/IllegalArgumentException")] : List Cond), w ∈ flatC st_N := st_sub (ps := [665, 667]) (by decide +kernel)
theorem st_str : ∀ x ∈ tx_strs, Cond.exactly (.string "DrawingMachine" x.1) "java/lang/String" ∈ flatC st_N := fun x hx => st_sub (N := st_N) (ps := [742, 846, 868, 897, 941, 961, 990, 1031, 1072, 1102, 1145, 1177]) (ws := tx_strs.map (fun x => Cond.exactly (.string "DrawingMachine" x.1) "java/lang/String")) (by decide +kernel) _ (List.mem_map.mpr ⟨x, hx, rfl⟩)
theorem st_strt : ∀ x ∈ tx_strs, Cond.stringRef "DrawingMachine" x.1 x.2 ∈ lw_tbl := by
  have h : tx_strs.map (fun x => Cond.stringRef "DrawingMachine" x.1 x.2) = ([528, 848, 876, 907, 916, 926, 1383, 1391, 1392, 1400, 1408, 1416] : List Nat).filterMap (fun i => tables_1[i]?) := by decide +kernel
  intro x hx
  have h1 : Cond.stringRef "DrawingMachine" x.1 x.2 ∈ tx_strs.map (fun x => Cond.stringRef "DrawingMachine" x.1 x.2) := List.mem_map.mpr ⟨x, hx, rfl⟩
  rw [h] at h1
  obtain ⟨i, -, hi⟩ := List.mem_filterMap.mp h1
  exact List.mem_append_right _ (List.mem_of_getElem? hi)
theorem st_ls2 : Cond.laysStatic "java/lang/Throwable" "UNASSIGNED_STACK" "[Ljava/lang/StackTraceElement;" ∈ lw_tbl := List.mem_append_right _ (List.mem_of_getElem? (i := 512) (by decide +kernel))
theorem st_ls3 : Cond.laysStatic "java/lang/Throwable" "SUPPRESSED_SENTINEL" "Ljava/util/List;" ∈ lw_tbl := List.mem_append_right _ (List.mem_of_getElem? (i := 514) (by decide +kernel))
theorem st_it : Cond.initialized "java/lang/Throwable" ∈ lw_tbl := List.mem_append_right _ (List.mem_of_getElem? (i := 21) (by decide +kernel))
theorem st_K {s : State} {args : Array Value} (htw : ∀ w ∈ tw, w.before args s = true) (hao : (Cond.arrayOver (.array .int)).before args s = true) : ∃ (D : va_G) (τ : ClassId × ClassId × ClassId), va_K D classes (TY τ) s := by
  have h1 : ∀ q ∈ classes, ∃ (cC : ClassId) (iS : Nat → Nat), u_Kn s q.1 q.2.1 q.2.2 cC iS := List.forall_mem_cons.mpr ⟨u_known htw i_DM (htw _ k41), List.forall_mem_cons.mpr ⟨u_known htw i_Told (htw _ k49), List.forall_mem_cons.mpr ⟨u_known htw i_Pic (htw _ k73), List.forall_mem_cons.mpr ⟨u_known htw i_Cou (htw _ k105), List.forall_mem_cons.mpr ⟨u_known htw i_Chk (htw _ k169), List.forall_mem_cons.mpr ⟨u_known htw i_Drw (htw _ k200), List.forall_mem_cons.mpr ⟨u_known htw i_Pro (htw _ k206), List.forall_mem_cons.mpr ⟨u_known htw i_Tex (htw _ k212), List.forall_mem_cons.mpr ⟨u_known htw i_Ver (htw _ k266), List.forall_mem_cons.mpr ⟨u_known htw i_Sha (htw _ k279), List.forall_mem_cons.mpr ⟨u_known htw i_Cov (htw _ k318), List.forall_mem_cons.mpr ⟨u_known htw i_Prg (htw _ k405), List.forall_mem_cons.mpr ⟨u_known htw i_Mod (htw _ k1418), List.forall_mem_cons.mpr ⟨u_known htw i_Cmd (htw _ k1424), List.forall_mem_cons.mpr ⟨u_known htw i_Txm (htw _ k1508), List.forall_mem_cons.mpr ⟨u_known htw i_Shm (htw _ k1548), List.forall_mem_cons.mpr ⟨u_known htw i_Vwm (htw _ k1615), List.forall_mem_cons.mpr ⟨u_known htw i_Erm (htw _ k1662), List.forall_mem_cons.mpr ⟨u_known htw i_Ptm (htw _ k1692), fun _ h => absurd h List.not_mem_nil⟩⟩⟩⟩⟩⟩⟩⟩⟩⟩⟩⟩⟩⟩⟩⟩⟩⟩⟩
  have h2 : ∀ c : Nat, ∃ y : ClassId × (Nat → Nat), ∀ q, classes[c]? = some q → u_Kn s q.1 q.2.1 q.2.2 y.1 y.2 := by
    intro c
    cases h : classes[c]? with
    | none => exact ⟨((0 : Nat), fun _ => 0), fun q hq => by cases hq⟩
    | some q =>
      obtain ⟨a, b, hab⟩ := h1 q (List.mem_of_getElem? h)
      exact ⟨(a, b), fun q' hq' => by cases hq'; exact hab⟩
  obtain ⟨f, hf⟩ := Classical.axiomOfChoice h2
  obtain ⟨cI, kI, cmI, i1, i2, i3⟩ := Cond.arrayClass_spec (htw _ k71)
  obtain ⟨cL, kL, cmL, l1, l2, l3⟩ := Cond.arrayClass_spec (htw _ k198)
  obtain ⟨comp, cA, kA, a1, -, a2, a3, a4⟩ := arrayOverA_spec hao
  refine ⟨(fun c => (f c).1, fun c => (f c).2), (cI, cL, cA), fun c q hq => hf c q hq, fun k q hq => ?_⟩
  match k, hq with
  | 0, hq => cases hq; exact ⟨fun n z => ⟨fun k h => (by cases h), kI, i2, cmI, i3⟩, i1⟩
  | 1, hq => cases hq; exact ⟨fun n z => ⟨fun k h => (by cases h), kL, l2, cmL, l3⟩, l1⟩
  | 2, hq => cases hq; exact ⟨fun n z => ⟨fun k h => (by cases h), kA, a2, comp, a3⟩, a4⟩
  | k + 3, hq => simp at hq
theorem st_TARGUMENTS {s : State} {args : Array Value} (hts : ∀ w ∈ lw_tbl, w.before args s = true) (hf : ∀ w ∈ flatC st_N, w.before args s = true) : ∃ a : Nat, va_Z "DrawingMachine" "ARGUMENTS" "[I" (.ref a) (fun q => s.heap.size ≤ q) s s.heap ∧ va_T .int a 26 (fun j => .int (st_tARGUMENTS.getD j 0)) (fun q => s.heap.size ≤ q) s s.heap := by
  have hA : ∀ a : Nat, a < s.heap.size → ¬ (s.heap.size ≤ a) := fun a h => Nat.not_le.mpr h
  obtain ⟨t, ht, hT⟩ := va_Tof (N := 26) (f := fun j => .int (st_tARGUMENTS.getD j 0)) (A := fun q => s.heap.size ≤ q) (by decide) (hf _ (st_aARGUMENTS _ (List.mem_of_getElem? (i := 0) rfl))) (va_eqt (hf _ (st_aARGUMENTS _ (List.mem_of_getElem? (i := 1) rfl)))) (fun j hj => va_eqt (hf _ (st_kARGUMENTS j hj))) hA
  exact ⟨t, va_Zof (hts _ st_lARGUMENTS) (hts _ (tw_tbl _ k1)) ht hA, hT⟩
theorem st_TBOUNDS_AT {s : State} {args : Array Value} (hts : ∀ w ∈ lw_tbl, w.before args s = true) (hf : ∀ w ∈ flatC st_N, w.before args s = true) : ∃ a : Nat, va_Z "DrawingMachine" "BOUNDS_AT" "[I" (.ref a) (fun q => s.heap.size ≤ q) s s.heap ∧ va_T .int a 26 (fun j => .int (st_tBOUNDS_AT.getD j 0)) (fun q => s.heap.size ≤ q) s s.heap := by
  have hA : ∀ a : Nat, a < s.heap.size → ¬ (s.heap.size ≤ a) := fun a h => Nat.not_le.mpr h
  obtain ⟨t, ht, hT⟩ := va_Tof (N := 26) (f := fun j => .int (st_tBOUNDS_AT.getD j 0)) (A := fun q => s.heap.size ≤ q) (by decide) (hf _ (st_aBOUNDS_AT _ (List.mem_of_getElem? (i := 0) rfl))) (va_eqt (hf _ (st_aBOUNDS_AT _ (List.mem_of_getElem? (i := 1) rfl)))) (fun j hj => va_eqt (hf _ (st_kBOUNDS_AT j hj))) hA
  exact ⟨t, va_Zof (hts _ st_lBOUNDS_AT) (hts _ (tw_tbl _ k1)) ht hA, hT⟩
theorem st_TCHANNEL_BITS {s : State} {args : Array Value} (hts : ∀ w ∈ lw_tbl, w.before args s = true) (hf : ∀ w ∈ flatC st_N, w.before args s = true) : ∃ a : Nat, va_Z "DrawingMachine" "CHANNEL_BITS" "[I" (.ref a) (fun q => s.heap.size ≤ q) s s.heap ∧ va_T .int a 32 (fun j => .int (st_tCHANNEL_BITS.getD j 0)) (fun q => s.heap.size ≤ q) s s.heap := by
  have hA : ∀ a : Nat, a < s.heap.size → ¬ (s.heap.size ≤ a) := fun a h => Nat.not_le.mpr h
  obtain ⟨t, ht, hT⟩ := va_Tof (N := 32) (f := fun j => .int (st_tCHANNEL_BITS.getD j 0)) (A := fun q => s.heap.size ≤ q) (by decide) (hf _ (st_aCHANNEL_BITS _ (List.mem_of_getElem? (i := 0) rfl))) (va_eqt (hf _ (st_aCHANNEL_BITS _ (List.mem_of_getElem? (i := 1) rfl)))) (fun j hj => va_eqt (hf _ (st_kCHANNEL_BITS j hj))) hA
  exact ⟨t, va_Zof (hts _ st_lCHANNEL_BITS) (hts _ (tw_tbl _ k1)) ht hA, hT⟩
theorem st_TCHANNEL_SHIFT {s : State} {args : Array Value} (hts : ∀ w ∈ lw_tbl, w.before args s = true) (hf : ∀ w ∈ flatC st_N, w.before args s = true) : ∃ a : Nat, va_Z "DrawingMachine" "CHANNEL_SHIFT" "[I" (.ref a) (fun q => s.heap.size ≤ q) s s.heap ∧ va_T .int a 32 (fun j => .int (st_tCHANNEL_SHIFT.getD j 0)) (fun q => s.heap.size ≤ q) s s.heap := by
  have hA : ∀ a : Nat, a < s.heap.size → ¬ (s.heap.size ≤ a) := fun a h => Nat.not_le.mpr h
  obtain ⟨t, ht, hT⟩ := va_Tof (N := 32) (f := fun j => .int (st_tCHANNEL_SHIFT.getD j 0)) (A := fun q => s.heap.size ≤ q) (by decide) (hf _ (st_aCHANNEL_SHIFT _ (List.mem_of_getElem? (i := 0) rfl))) (va_eqt (hf _ (st_aCHANNEL_SHIFT _ (List.mem_of_getElem? (i := 1) rfl)))) (fun j hj => va_eqt (hf _ (st_kCHANNEL_SHIFT j hj))) hA
  exact ⟨t, va_Zof (hts _ st_lCHANNEL_SHIFT) (hts _ (tw_tbl _ k1)) ht hA, hT⟩
theorem st_TFILE_AT {s : State} {args : Array Value} (hts : ∀ w ∈ lw_tbl, w.before args s = true) (hf : ∀ w ∈ flatC st_N, w.before args s = true) : ∃ a : Nat, va_Z "DrawingMachine" "FILE_AT" "[I" (.ref a) (fun q => s.heap.size ≤ q) s s.heap ∧ va_T .int a 4 (fun j => .int (st_tFILE_AT.getD j 0)) (fun q => s.heap.size ≤ q) s s.heap := by
  have hA : ∀ a : Nat, a < s.heap.size → ¬ (s.heap.size ≤ a) := fun a h => Nat.not_le.mpr h
  obtain ⟨t, ht, hT⟩ := va_Tof (N := 4) (f := fun j => .int (st_tFILE_AT.getD j 0)) (A := fun q => s.heap.size ≤ q) (by decide) (hf _ (st_aFILE_AT _ (List.mem_of_getElem? (i := 0) rfl))) (va_eqt (hf _ (st_aFILE_AT _ (List.mem_of_getElem? (i := 1) rfl)))) (fun j hj => va_eqt (hf _ (st_kFILE_AT j hj))) hA
  exact ⟨t, va_Zof (hts _ st_lFILE_AT) (hts _ (tw_tbl _ k1)) ht hA, hT⟩
theorem st_TKEPT_AT {s : State} {args : Array Value} (hts : ∀ w ∈ lw_tbl, w.before args s = true) (hf : ∀ w ∈ flatC st_N, w.before args s = true) : ∃ a : Nat, va_Z "DrawingMachine" "KEPT_AT" "[I" (.ref a) (fun q => s.heap.size ≤ q) s s.heap ∧ va_T .int a 26 (fun j => .int (st_tKEPT_AT.getD j 0)) (fun q => s.heap.size ≤ q) s s.heap := by
  have hA : ∀ a : Nat, a < s.heap.size → ¬ (s.heap.size ≤ a) := fun a h => Nat.not_le.mpr h
  obtain ⟨t, ht, hT⟩ := va_Tof (N := 26) (f := fun j => .int (st_tKEPT_AT.getD j 0)) (A := fun q => s.heap.size ≤ q) (by decide) (hf _ (st_aKEPT_AT _ (List.mem_of_getElem? (i := 0) rfl))) (va_eqt (hf _ (st_aKEPT_AT _ (List.mem_of_getElem? (i := 1) rfl)))) (fun j hj => va_eqt (hf _ (st_kKEPT_AT j hj))) hA
  exact ⟨t, va_Zof (hts _ st_lKEPT_AT) (hts _ (tw_tbl _ k1)) ht hA, hT⟩
theorem st_TKEPT_BY_FIRST {s : State} {args : Array Value} (hts : ∀ w ∈ lw_tbl, w.before args s = true) (hf : ∀ w ∈ flatC st_N, w.before args s = true) : ∃ a : Nat, va_Z "DrawingMachine" "KEPT_BY_FIRST" "[I" (.ref a) (fun q => s.heap.size ≤ q) s s.heap ∧ va_T .int a 26 (fun j => .int (st_tKEPT_BY_FIRST.getD j 0)) (fun q => s.heap.size ≤ q) s s.heap := by
  have hA : ∀ a : Nat, a < s.heap.size → ¬ (s.heap.size ≤ a) := fun a h => Nat.not_le.mpr h
  obtain ⟨t, ht, hT⟩ := va_Tof (N := 26) (f := fun j => .int (st_tKEPT_BY_FIRST.getD j 0)) (A := fun q => s.heap.size ≤ q) (by decide) (hf _ (st_aKEPT_BY_FIRST _ (List.mem_of_getElem? (i := 0) rfl))) (va_eqt (hf _ (st_aKEPT_BY_FIRST _ (List.mem_of_getElem? (i := 1) rfl)))) (fun j hj => va_eqt (hf _ (st_kKEPT_BY_FIRST j hj))) hA
  exact ⟨t, va_Zof (hts _ st_lKEPT_BY_FIRST) (hts _ (tw_tbl _ k1)) ht hA, hT⟩
theorem st_TLEAST {s : State} {args : Array Value} (hts : ∀ w ∈ lw_tbl, w.before args s = true) (hf : ∀ w ∈ flatC st_N, w.before args s = true) : ∃ a : Nat, va_Z "DrawingMachine" "LEAST" "[I" (.ref a) (fun q => s.heap.size ≤ q) s s.heap ∧ va_T .int a 86 (fun j => .int (st_tLEAST.getD j 0)) (fun q => s.heap.size ≤ q) s s.heap := by
  have hA : ∀ a : Nat, a < s.heap.size → ¬ (s.heap.size ≤ a) := fun a h => Nat.not_le.mpr h
  obtain ⟨t, ht, hT⟩ := va_Tof (N := 86) (f := fun j => .int (st_tLEAST.getD j 0)) (A := fun q => s.heap.size ≤ q) (by decide) (hf _ (st_aLEAST _ (List.mem_of_getElem? (i := 0) rfl))) (va_eqt (hf _ (st_aLEAST _ (List.mem_of_getElem? (i := 1) rfl)))) (fun j hj => va_eqt (hf _ (st_kLEAST j hj))) hA
  exact ⟨t, va_Zof (hts _ st_lLEAST) (hts _ (tw_tbl _ k1)) ht hA, hT⟩
theorem st_TMOST {s : State} {args : Array Value} (hts : ∀ w ∈ lw_tbl, w.before args s = true) (hf : ∀ w ∈ flatC st_N, w.before args s = true) : ∃ a : Nat, va_Z "DrawingMachine" "MOST" "[I" (.ref a) (fun q => s.heap.size ≤ q) s s.heap ∧ va_T .int a 86 (fun j => .int (st_tMOST.getD j 0)) (fun q => s.heap.size ≤ q) s s.heap := by
  have hA : ∀ a : Nat, a < s.heap.size → ¬ (s.heap.size ≤ a) := fun a h => Nat.not_le.mpr h
  obtain ⟨t, ht, hT⟩ := va_Tof (N := 86) (f := fun j => .int (st_tMOST.getD j 0)) (A := fun q => s.heap.size ≤ q) (by decide) (hf _ (st_aMOST _ (List.mem_of_getElem? (i := 0) rfl))) (va_eqt (hf _ (st_aMOST _ (List.mem_of_getElem? (i := 1) rfl)))) (fun j hj => va_eqt (hf _ (st_kMOST j hj))) hA
  exact ⟨t, va_Zof (hts _ st_lMOST) (hts _ (tw_tbl _ k1)) ht hA, hT⟩
theorem st_TSOURCES {s : State} {args : Array Value} (hts : ∀ w ∈ lw_tbl, w.before args s = true) (hf : ∀ w ∈ flatC st_N, w.before args s = true) : ∃ a : Nat, va_Z "DrawingMachine" "SOURCES" "[I" (.ref a) (fun q => s.heap.size ≤ q) s s.heap ∧ va_T .int a 41 (fun j => .int (st_tSOURCES.getD j 0)) (fun q => s.heap.size ≤ q) s s.heap := by
  have hA : ∀ a : Nat, a < s.heap.size → ¬ (s.heap.size ≤ a) := fun a h => Nat.not_le.mpr h
  obtain ⟨t, ht, hT⟩ := va_Tof (N := 41) (f := fun j => .int (st_tSOURCES.getD j 0)) (A := fun q => s.heap.size ≤ q) (by decide) (hf _ (st_aSOURCES _ (List.mem_of_getElem? (i := 0) rfl))) (va_eqt (hf _ (st_aSOURCES _ (List.mem_of_getElem? (i := 1) rfl)))) (fun j hj => va_eqt (hf _ (st_kSOURCES j hj))) hA
  exact ⟨t, va_Zof (hts _ st_lSOURCES) (hts _ (tw_tbl _ k1)) ht hA, hT⟩
theorem st_TTEXEL_BITS {s : State} {args : Array Value} (hts : ∀ w ∈ lw_tbl, w.before args s = true) (hf : ∀ w ∈ flatC st_N, w.before args s = true) : ∃ a : Nat, va_Z "DrawingMachine" "TEXEL_BITS" "[I" (.ref a) (fun q => s.heap.size ≤ q) s s.heap ∧ va_T .int a 8 (fun j => .int (st_tTEXEL_BITS.getD j 0)) (fun q => s.heap.size ≤ q) s s.heap := by
  have hA : ∀ a : Nat, a < s.heap.size → ¬ (s.heap.size ≤ a) := fun a h => Nat.not_le.mpr h
  obtain ⟨t, ht, hT⟩ := va_Tof (N := 8) (f := fun j => .int (st_tTEXEL_BITS.getD j 0)) (A := fun q => s.heap.size ≤ q) (by decide) (hf _ (st_aTEXEL_BITS _ (List.mem_of_getElem? (i := 0) rfl))) (va_eqt (hf _ (st_aTEXEL_BITS _ (List.mem_of_getElem? (i := 1) rfl)))) (fun j hj => va_eqt (hf _ (st_kTEXEL_BITS j hj))) hA
  exact ⟨t, va_Zof (hts _ st_lTEXEL_BITS) (hts _ (tw_tbl _ k1)) ht hA, hT⟩
theorem st_C {s : State} {args : Array Value} (hts : ∀ w ∈ lw_tbl, w.before args s = true) (hg : (Jvm.Cond.and given_1 narrow_1).before args s = true) : ∃ (D : va_G) (τ : ClassId × ClassId × ClassId), wC D τ s.heap.size (fun q => s.heap.size ≤ q) s := by
  have htw : ∀ w ∈ tw, w.before args s = true := fun w hw => hts w (tw_tbl w hw)
  have hf := flat_of_before st_N hg
  obtain ⟨D, τ, hK⟩ := st_K htw (hts _ ao_tbl)
  refine ⟨D, τ, hK, ⟨fun w hw => va_tabs (nw_on w hw) rfl (hts w (nw_tbl w hw)), ?_⟩, ⟨wLs_of (hts _ st_ls2) (hf _ (st_ex _ (List.mem_of_getElem? (i := 0) rfl))) rfl, wLs_of (hts _ st_ls3) (hf _ (st_ex _ (List.mem_of_getElem? (i := 1) rfl))) rfl, ?_, fun x hx => ?_, ?_, va_tabs rfl rfl (hts _ st_it)⟩, fun q hq => hq, fun q hq => hq, Nat.le_refl _⟩
  · have h := hts _ ao_tbl
    simp only [Cond.before, Cond.holds, Cond.value] at h ⊢
    exact h
  · exact List.forall_mem_cons.mpr ⟨st_TARGUMENTS hts hf, List.forall_mem_cons.mpr ⟨st_TBOUNDS_AT hts hf, List.forall_mem_cons.mpr ⟨st_TCHANNEL_BITS hts hf, List.forall_mem_cons.mpr ⟨st_TCHANNEL_SHIFT hts hf, List.forall_mem_cons.mpr ⟨st_TFILE_AT hts hf, List.forall_mem_cons.mpr ⟨st_TKEPT_AT hts hf, List.forall_mem_cons.mpr ⟨st_TKEPT_BY_FIRST hts hf, List.forall_mem_cons.mpr ⟨st_TLEAST hts hf, List.forall_mem_cons.mpr ⟨st_TMOST hts hf, List.forall_mem_cons.mpr ⟨st_TSOURCES hts hf, List.forall_mem_cons.mpr ⟨st_TTEXEL_BITS hts hf, fun _ h => absurd h List.not_mem_nil⟩⟩⟩⟩⟩⟩⟩⟩⟩⟩⟩
  · obtain ⟨a, c, cA, kA, q1, -⟩ := Cond.exactly_spec (args := args) (first := s) (o := none) (s := s) (idx := []) (hf _ (st_str x hx))
    exact ⟨a, vk_R.of (hts _ (st_strt x hx)) q1⟩
  · exact List.forall_mem_cons.mpr ⟨va_Nc.of (hf _ (st_nc _ (List.mem_of_getElem? (i := 0) rfl))), List.forall_mem_cons.mpr ⟨va_Nc.of (hf _ (st_nc _ (List.mem_of_getElem? (i := 1) rfl))), fun _ h => absurd h List.not_mem_nil⟩⟩
