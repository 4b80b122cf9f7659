theorem sub_app {T a b : List Cond} (ha : ∀ w ∈ a, w ∈ T) (hb : ∀ w ∈ b, w ∈ T) : ∀ w ∈ a ++ b, w ∈ T := fun w h => (List.mem_append.mp h).elim (ha w) (hb w)
set_option maxRecDepth 20000 in
theorem lwin_wsL_law_r1 : ∀ w ∈ wsL_law_r1, w ∈ lw_tbl := fun w h => (goodIn_r wsL_law_r1 [55, 56, 45, 106, 581, 57, 58, 59, 60, 61, 62, 63, 64, 46, 208, 107, 108, 47, 209, 142, 143, 49, 210, 174] (by decide +kernel) (by decide +kernel) w h).1
set_option maxRecDepth 20000 in
theorem lwin_wsL_law_r2 : ∀ w ∈ wsL_law_r2, w ∈ lw_tbl := fun w h => (goodIn_r wsL_law_r2 [175, 50, 211, 194, 195, 51, 212, 213, 214, 66, 67, 68, 69, 73, 75, 77, 80, 81, 84, 86, 110, 111, 112, 113] (by decide +kernel) (by decide +kernel) w h).1
set_option maxRecDepth 20000 in
theorem lwin_wsL_law_r3 : ∀ w ∈ wsL_law_r3, w ∈ lw_tbl := fun w h => (goodIn_r wsL_law_r3 [114, 48, 135, 136, 116, 117, 118, 122, 125, 145, 146, 147, 173, 148, 177, 178, 179, 180, 183, 197, 198, 199, 200, 202] (by decide +kernel) (by decide +kernel) w h).1
set_option maxRecDepth 20000 in
theorem lwin_wsL_law_r4 : ∀ w ∈ wsL_law_r4, w ∈ lw_tbl := fun w h => (goodIn_r wsL_law_r4 [344, 345, 44, 346, 347, 348, 349, 350, 351, 352, 361, 362, 363, 356, 357, 358, 359, 360, 275, 276, 277, 278, 281, 5] (by decide +kernel) (by decide +kernel) w h).1
set_option maxRecDepth 20000 in
theorem lwin_wsL_law_r5 : ∀ w ∈ wsL_law_r5, w ∈ lw_tbl := fun w h => (goodIn_r wsL_law_r5 [282, 71, 283, 285, 6, 286, 239, 0, 240, 184, 185, 241, 243, 1, 244, 245, 246, 52, 247, 250, 2, 251, 252, 254] (by decide +kernel) (by decide +kernel) w h).1
set_option maxRecDepth 20000 in
theorem lwin_wsL_law_r6 : ∀ w ∈ wsL_law_r6, w ∈ lw_tbl := fun w h => (goodIn_r wsL_law_r6 [253, 53, 262, 263, 52, 264, 265, 266, 267, 255, 257, 3, 258, 260, 261, 289, 7, 290, 273, 274, 292, 294, 8, 295] (by decide +kernel) (by decide +kernel) w h).1
set_option maxRecDepth 20000 in
theorem lwin_wsL_law_r7 : ∀ w ∈ wsL_law_r7, w ∈ lw_tbl := fun w h => (goodIn_r wsL_law_r7 [296, 298, 9, 299, 300, 270, 4, 271, 301, 303, 10, 304, 305, 307, 11, 308, 309, 310, 54, 311, 312, 313, 314, 315] (by decide +kernel) (by decide +kernel) w h).1
set_option maxRecDepth 20000 in
theorem lwin_wsL_law_r8 : ∀ w ∈ wsL_law_r8, w ∈ lw_tbl := fun w h => (goodIn_r wsL_law_r8 [316, 317, 318, 335, 336, 337, 338, 329, 13, 330, 342, 15, 343, 353, 354, 355, 319, 320, 321, 322, 325, 12, 326, 327] (by decide +kernel) (by decide +kernel) w h).1
set_option maxRecDepth 20000 in
theorem lwin_big : Cond.code yL_same cL_same 21 (some .boolean) ∈ lw_tbl := List.mem_of_getElem? (i := 366) rfl
set_option maxRecDepth 20000 in
theorem lwin_wsL_law_r9 : ∀ w ∈ wsL_law_r9, w ∈ lw_tbl := fun w h => by
  have h : w ∈ [Cond.instanceMethod yX4_fadeCells, Cond.selects RX4 yX4_fadeCells yX4_fadeCells, Cond.code yX4_fadeCells cX4_fadeCells 6 (some .int), Cond.methodLink RL 124 yX6_set, Cond.instanceMethod yX6_set, Cond.selects RX6 yX6_set yX6_set, Cond.code yX6_set cX6_set 4 (some .int), Cond.methodLink RX6 51 yX6_mostOf, Cond.static yX6_mostOf, Cond.code yX6_mostOf cX6_mostOf 1 (some .int), Cond.methodLink RX6 65 yX6_setValue, Cond.methodLink RL 127 yL_same, Cond.static yL_same] ++ (Cond.code yL_same cL_same 21 (some .boolean) :: [Cond.constantLong RL 61 (3), Cond.constantLong RL 66 (-5), Cond.constantLong RL 72 (2), Cond.methodLink RL 51 yL_load, Cond.static yL_load, Cond.code yL_load cL_load 11 (some .long), Cond.constantLong RL 46 (-6), Cond.methodLink RL 43 yL_how, Cond.static yL_how, Cond.code yL_how cL_how 8 (some .int)]) := h
  rcases List.mem_append.mp h with h | h
  · exact (goodIn_r [Cond.instanceMethod yX4_fadeCells, Cond.selects RX4 yX4_fadeCells yX4_fadeCells, Cond.code yX4_fadeCells cX4_fadeCells 6 (some .int), Cond.methodLink RL 124 yX6_set, Cond.instanceMethod yX6_set, Cond.selects RX6 yX6_set yX6_set, Cond.code yX6_set cX6_set 4 (some .int), Cond.methodLink RX6 51 yX6_mostOf, Cond.static yX6_mostOf, Cond.code yX6_mostOf cX6_mostOf 1 (some .int), Cond.methodLink RX6 65 yX6_setValue, Cond.methodLink RL 127 yL_same, Cond.static yL_same] [333, 14, 334, 230, 231, 232, 233, 234, 235, 236, 272, 364, 365] (by decide +kernel) (by decide +kernel) w h).1
  · rcases List.mem_cons.mp h with h | h
    · rw [h]; exact lwin_big
    · exact (goodIn_r [Cond.constantLong RL 61 (3), Cond.constantLong RL 66 (-5), Cond.constantLong RL 72 (2), Cond.methodLink RL 51 yL_load, Cond.static yL_load, Cond.code yL_load cL_load 11 (some .long), Cond.constantLong RL 46 (-6), Cond.methodLink RL 43 yL_how, Cond.static yL_how, Cond.code yL_how cL_how 8 (some .int)] [475, 493, 500, 367, 368, 369, 388, 370, 371, 372] (by decide +kernel) (by decide +kernel) w h).1
set_option maxRecDepth 20000 in
theorem lwin_wsL_law_r10 : ∀ w ∈ wsL_law_r10, w ∈ lw_tbl := fun w h => (goodIn_r wsL_law_r10 [373, 374, 375, 376, 377, 378, 379, 380, 381, 382, 383, 384, 385, 386, 387, 389, 390, 391, 392, 394, 396, 398, 16, 399] (by decide +kernel) (by decide +kernel) w h).1
set_option maxRecDepth 20000 in
theorem lwin_wsL_law_r11 : ∀ w ∈ wsL_law_r11, w ∈ lw_tbl := fun w h => (goodIn_r wsL_law_r11 [402, 17, 403, 408, 18, 409, 119, 410, 412, 19, 413, 415, 416, 121, 417, 419, 20, 420, 423, 21, 424, 429, 22, 430] (by decide +kernel) (by decide +kernel) w h).1
set_option maxRecDepth 20000 in
theorem lwin_wsL_law_r12 : ∀ w ∈ wsL_law_r12, w ∈ lw_tbl := fun w h => (goodIn_r wsL_law_r12 [433, 23, 434, 435, 437, 24, 438, 439, 441, 25, 442, 443, 445, 26, 446, 447, 449, 27, 450, 453, 28, 454, 456, 458] (by decide +kernel) (by decide +kernel) w h).1
set_option maxRecDepth 20000 in
theorem lwin_wsL_law_r13 : ∀ w ∈ wsL_law_r13, w ∈ lw_tbl := fun w h => (goodIn_r wsL_law_r13 [29, 459, 461, 463, 30, 464, 469, 31, 470, 473, 32, 474, 476, 477, 478, 479, 480, 481, 482, 483, 484, 487, 33, 488] (by decide +kernel) (by decide +kernel) w h).1
set_option maxRecDepth 20000 in
theorem lwin_wsL_law_r14 : ∀ w ∈ wsL_law_r14, w ∈ lw_tbl := fun w h => (goodIn_r wsL_law_r14 [489, 491, 34, 492, 494, 495, 496, 497, 501, 502, 503, 504, 507, 35, 508, 509, 511, 36, 512, 513, 515, 37, 516, 517] (by decide +kernel) (by decide +kernel) w h).1
set_option maxRecDepth 20000 in
theorem lwin_wsL_law_r15 : ∀ w ∈ wsL_law_r15, w ∈ lw_tbl := fun w h => (goodIn_r wsL_law_r15 [520, 521, 522, 523, 524, 525, 526, 529, 38, 530, 531, 533, 39, 534, 536, 537, 538, 535, 539, 540, 541, 542, 543, 544] (by decide +kernel) (by decide +kernel) w h).1
set_option maxRecDepth 20000 in
theorem lwin_wsL_law_r16 : ∀ w ∈ wsL_law_r16, w ∈ lw_tbl := fun w h => (goodIn_r wsL_law_r16 [545, 546, 548, 549, 550, 551, 552, 553, 554, 555, 556, 557, 558, 559, 561, 40, 562, 563, 564, 565, 566, 567, 569, 571] (by decide +kernel) (by decide +kernel) w h).1
set_option maxRecDepth 20000 in
theorem lwin_wsL_law_r17 : ∀ w ∈ wsL_law_r17, w ∈ lw_tbl := fun w h => (goodIn_r wsL_law_r17 [41, 572, 575, 42, 576, 579, 43, 580] (by decide +kernel) (by decide +kernel) w h).1
set_option maxRecDepth 20000 in
theorem lwin_wsX60 : ∀ w ∈ wsX60, w ∈ lw_tbl := fun w h => (goodIn_r wsX60 [215, 217, 219, 221, 223, 225, 227] (by decide +kernel) (by decide +kernel) w h).1
set_option maxRecDepth 20000 in
theorem lwin_wsX40 : ∀ w ∈ wsX40, w ∈ lw_tbl := fun w h => (goodIn_r wsX40 [87, 89, 91, 93, 95, 97, 99, 101, 103] (by decide +kernel) (by decide +kernel) w h).1
set_option maxRecDepth 20000 in
theorem lwin_wsX00 : ∀ w ∈ wsX00, w ∈ lw_tbl := fun w h => (goodIn_r wsX00 [137, 139] (by decide +kernel) (by decide +kernel) w h).1
set_option maxRecDepth 20000 in
theorem lwin_wsX20 : ∀ w ∈ wsX20, w ∈ lw_tbl := fun w h => (goodIn_r wsX20 [150, 152, 154, 156, 158, 160, 162, 164, 166, 168, 170] (by decide +kernel) (by decide +kernel) w h).1
set_option maxRecDepth 20000 in
theorem lwin_wsX10 : ∀ w ∈ wsX10, w ∈ lw_tbl := fun w h => (goodIn_r wsX10 [187, 189, 191] (by decide +kernel) (by decide +kernel) w h).1
set_option maxRecDepth 20000 in
theorem lwin_wsX30 : ∀ w ∈ wsX30, w ∈ lw_tbl := fun w h => (goodIn_r wsX30 [203, 205] (by decide +kernel) (by decide +kernel) w h).1
set_option maxRecDepth 20000 in
theorem lwin_wsX50 : ∀ w ∈ wsX50, w ∈ lw_tbl := fun w h => (goodIn_r wsX50 [126, 128, 130, 132] (by decide +kernel) (by decide +kernel) w h).1
theorem wsL_law_in : ∀ w ∈ wsL_law, w ∈ lw_tbl := sub_app (sub_app (sub_app (sub_app (sub_app (sub_app (sub_app (sub_app (sub_app lwin_wsL_law_r1 (sub_app lwin_wsL_law_r2 (sub_app lwin_wsL_law_r3 (sub_app lwin_wsL_law_r4 (sub_app lwin_wsL_law_r5 (sub_app lwin_wsL_law_r6 (sub_app lwin_wsL_law_r7 (sub_app lwin_wsL_law_r8 (sub_app lwin_wsL_law_r9 (sub_app lwin_wsL_law_r10 (sub_app lwin_wsL_law_r11 (sub_app lwin_wsL_law_r12 (sub_app lwin_wsL_law_r13 (sub_app lwin_wsL_law_r14 (sub_app lwin_wsL_law_r15 (sub_app lwin_wsL_law_r16 (lwin_wsL_law_r17))))))))))))))))) lwin_wsX60) lwin_wsX40) lwin_wsX00) lwin_wsX20) lwin_wsX10) lwin_wsX30) lwin_wsX50) (fun _ h => absurd h List.not_mem_nil)
theorem inX6 : ∀ w ∈ wsX60, w ∈ lw_tbl := lwin_wsX60
theorem inX4 : ∀ w ∈ wsX40, w ∈ lw_tbl := lwin_wsX40
theorem inX0 : ∀ w ∈ wsX00, w ∈ lw_tbl := lwin_wsX00
theorem inX2 : ∀ w ∈ wsX20, w ∈ lw_tbl := lwin_wsX20
theorem inX1 : ∀ w ∈ wsX10, w ∈ lw_tbl := lwin_wsX10
theorem inX3 : ∀ w ∈ wsX30, w ∈ lw_tbl := lwin_wsX30
theorem inX5 : ∀ w ∈ wsX50, w ∈ lw_tbl := lwin_wsX50
set_option maxRecDepth 20000 in
theorem nx_in : nx_ws = [70, 72, 74, 76, 78, 79, 82, 83, 85, 120, 123, 124, 149, 186, 65, 109, 115, 144, 176, 182, 196, 201, 237, 248, 259, 268, 279, 287, 291, 323, 331, 339, 340, 393, 395, 400, 404, 405, 406, 414, 421, 425, 426, 427, 431, 451, 455, 460, 465, 466, 467, 471, 485, 498, 499, 505, 518, 519, 527, 547, 568, 573, 577].filterMap (fun i => lw_tbl[i]?) := by decide +kernel
theorem nx_in_tbl : ∀ w ∈ nx_ws, w ∈ lw_tbl := fun w h => by
  rw [nx_in] at h
  obtain ⟨i, -, hi⟩ := List.mem_filterMap.mp h
  first | exact List.mem_of_getElem? hi | exact List.getElem?_mem hi
theorem lwa_long : (Cond.arrayClass .long) ∈ lw_tbl := List.mem_of_getElem? (i := 581) (by decide +kernel)
theorem lwa_int : (Cond.arrayClass .int) ∈ lw_tbl := List.mem_of_getElem? (i := 106) (by decide +kernel)
theorem lwa_char : (Cond.arrayClass .char) ∈ lw_tbl := List.mem_of_getElem? (i := 173) (by decide +kernel)
theorem lwa_Tape : (Cond.arrayOver (.object "CassetteTones$Tape")) ∈ lw_tbl := List.mem_of_getElem? (i := 181) (by decide +kernel)
