theorem sub_app {T a b : List Cond} (ha : ∀ w ∈ a, w ∈ T) (hb : ∀ w ∈ b, w ∈ T) : ∀ w ∈ a ++ b, w ∈ T := fun w h => (List.mem_append.mp h).elim (ha w) (hb w)
set_option maxRecDepth 20000 in
theorem lwin_wsL_law_r1 : ∀ w ∈ wsL_law_r1, w ∈ lw_tbl := fun w h => (goodIn_r wsL_law_r1 [113, 114, 103, 656, 657, 109, 996, 115, 116, 117, 118, 119, 120, 121, 122, 104, 280, 169, 170, 105, 281, 209, 210, 107] (by decide +kernel) (by decide +kernel) w h).1
set_option maxRecDepth 20000 in
theorem lwin_wsL_law_r2 : ∀ w ∈ wsL_law_r2, w ∈ lw_tbl := fun w h => (goodIn_r wsL_law_r2 [282, 260, 261, 108, 283, 284, 302, 285, 168, 286, 124, 125, 126, 127, 131, 133, 135, 138, 141, 144, 147, 172, 173, 174] (by decide +kernel) (by decide +kernel) w h).1
set_option maxRecDepth 20000 in
theorem lwin_wsL_law_r3 : ∀ w ∈ wsL_law_r3, w ∈ lw_tbl := fun w h => (goodIn_r wsL_law_r3 [175, 176, 106, 198, 199, 200, 178, 179, 180, 184, 187, 212, 213, 214, 259, 215, 263, 264, 265, 266, 269, 658, 659, 660] (by decide +kernel) (by decide +kernel) w h).1
set_option maxRecDepth 20000 in
theorem lwin_wsL_law_r4 : ∀ w ∈ wsL_law_r4, w ∈ lw_tbl := fun w h => (goodIn_r wsL_law_r4 [661, 662, 663, 665, 666, 667, 669, 673, 303, 304, 305, 306, 307, 308, 309, 312, 0, 313, 270, 271, 316, 1, 317, 129] (by decide +kernel) (by decide +kernel) w h).1
set_option maxRecDepth 20000 in
theorem lwin_wsL_law_r5 : ∀ w ∈ wsL_law_r5, w ∈ lw_tbl := fun w h => (goodIn_r wsL_law_r5 [318, 320, 319, 110, 321, 323, 2, 324, 702, 703, 704, 705, 706, 707, 708, 709, 710, 711, 712, 714, 55, 715, 664, 716] (by decide +kernel) (by decide +kernel) w h).1
set_option maxRecDepth 20000 in
theorem lwin_wsL_law_r6 : ∀ w ∈ wsL_law_r6, w ∈ lw_tbl := fun w h => (goodIn_r wsL_law_r6 [717, 718, 325, 326, 327, 328, 331, 3, 332, 333, 335, 4, 336, 339, 5, 340, 341, 343, 6, 344, 345, 347, 7, 348] (by decide +kernel) (by decide +kernel) w h).1
set_option maxRecDepth 20000 in
theorem lwin_wsL_law_r7 : ∀ w ∈ wsL_law_r7, w ∈ lw_tbl := fun w h => (goodIn_r wsL_law_r7 [349, 351, 8, 352, 353, 354, 111, 355, 356, 357, 358, 719, 720, 721, 722, 731, 723, 725, 56, 726, 727, 729, 57, 730] (by decide +kernel) (by decide +kernel) w h).1
set_option maxRecDepth 20000 in
theorem lwin_wsL_law_r8 : ∀ w ∈ wsL_law_r8, w ∈ lw_tbl := fun w h => (goodIn_r wsL_law_r8 [732, 734, 58, 735, 736, 738, 59, 739, 740, 742, 60, 743, 744, 746, 61, 747, 748, 750, 62, 751, 359, 360, 361, 362] (by decide +kernel) (by decide +kernel) w h).1
set_option maxRecDepth 20000 in
theorem lwin_wsL_law_r9 : ∀ w ∈ wsL_law_r9, w ∈ lw_tbl := fun w h => (goodIn_r wsL_law_r9 [752, 753, 754, 755, 363, 364, 365, 366, 369, 9, 370, 371, 373, 10, 374, 377, 11, 378, 756, 757, 758, 759, 760, 762] (by decide +kernel) (by decide +kernel) w h).1
set_option maxRecDepth 20000 in
theorem lwin_wsL_law_r10 : ∀ w ∈ wsL_law_r10, w ∈ lw_tbl := fun w h => (goodIn_r wsL_law_r10 [63, 763, 764, 766, 64, 767, 768, 770, 65, 771, 772, 774, 66, 775, 776, 778, 67, 779, 780, 782, 68, 783, 379, 380] (by decide +kernel) (by decide +kernel) w h).1
set_option maxRecDepth 20000 in
theorem lwin_wsL_law_r11 : ∀ w ∈ wsL_law_r11, w ∈ lw_tbl := fun w h => (goodIn_r wsL_law_r11 [381, 382, 386, 12, 387, 784, 785, 786, 787, 788, 790, 69, 791, 388, 389, 390, 391, 393, 395, 13, 396, 399, 14, 400] (by decide +kernel) (by decide +kernel) w h).1
set_option maxRecDepth 20000 in
theorem lwin_wsL_law_r12 : ∀ w ∈ wsL_law_r12, w ∈ lw_tbl := fun w h => (goodIn_r wsL_law_r12 [403, 15, 404, 181, 405, 407, 16, 408, 409, 410, 112, 411, 412, 413, 414, 183, 415, 417, 17, 418, 422, 18, 423, 424] (by decide +kernel) (by decide +kernel) w h).1
set_option maxRecDepth 20000 in
theorem lwin_wsL_law_r13 : ∀ w ∈ wsL_law_r13, w ∈ lw_tbl := fun w h => (goodIn_r wsL_law_r13 [426, 19, 427, 428, 430, 20, 431, 432, 434, 21, 435, 436, 438, 22, 439, 442, 23, 443, 445, 447, 24, 448, 450, 452] (by decide +kernel) (by decide +kernel) w h).1
set_option maxRecDepth 20000 in
theorem lwin_wsL_law_r14 : ∀ w ∈ wsL_law_r14, w ∈ lw_tbl := fun w h => (goodIn_r wsL_law_r14 [25, 453, 458, 26, 459, 462, 27, 463, 792, 793, 794, 795, 796, 798, 70, 799, 800, 802, 71, 803, 804, 806, 72, 807] (by decide +kernel) (by decide +kernel) w h).1
set_option maxRecDepth 20000 in
theorem lwin_wsL_law_r15 : ∀ w ∈ wsL_law_r15, w ∈ lw_tbl := fun w h => (goodIn_r wsL_law_r15 [808, 810, 73, 811, 812, 814, 74, 815, 816, 818, 75, 819, 820, 822, 76, 823, 824, 825, 826, 827, 829, 77, 830, 831] (by decide +kernel) (by decide +kernel) w h).1
set_option maxRecDepth 20000 in
theorem lwin_wsL_law_r16 : ∀ w ∈ wsL_law_r16, w ∈ lw_tbl := fun w h => (goodIn_r wsL_law_r16 [833, 78, 834, 835, 837, 79, 838, 839, 841, 80, 842, 843, 845, 81, 846, 464, 465, 466, 467, 468, 469, 472, 28, 473] (by decide +kernel) (by decide +kernel) w h).1
set_option maxRecDepth 20000 in
theorem lwin_wsL_law_r17 : ∀ w ∈ wsL_law_r17, w ∈ lw_tbl := fun w h => (goodIn_r wsL_law_r17 [474, 476, 29, 477, 847, 848, 849, 850, 851, 852, 478, 479, 480, 481, 853, 854, 855, 856, 484, 485, 486, 487, 490, 30] (by decide +kernel) (by decide +kernel) w h).1
set_option maxRecDepth 20000 in
theorem lwin_wsL_law_r18 : ∀ w ∈ wsL_law_r18, w ∈ lw_tbl := fun w h => (goodIn_r wsL_law_r18 [491, 492, 494, 31, 495, 496, 498, 32, 499, 857, 858, 859, 860, 861, 863, 82, 864, 865, 867, 83, 868, 869, 871, 84] (by decide +kernel) (by decide +kernel) w h).1
set_option maxRecDepth 20000 in
theorem lwin_wsL_law_r19 : ∀ w ∈ wsL_law_r19, w ∈ lw_tbl := fun w h => (goodIn_r wsL_law_r19 [872, 502, 503, 504, 505, 507, 509, 33, 510, 513, 34, 514, 517, 35, 518, 873, 874, 875, 876, 668, 877, 879, 85, 880] (by decide +kernel) (by decide +kernel) w h).1
set_option maxRecDepth 20000 in
theorem lwin_wsL_law_r20 : ∀ w ∈ wsL_law_r20, w ∈ lw_tbl := fun w h => (goodIn_r wsL_law_r20 [881, 883, 86, 884, 885, 887, 87, 888, 519, 520, 521, 522, 523, 524, 525, 889, 890, 891, 892, 893, 895, 88, 896, 526] (by decide +kernel) (by decide +kernel) w h).1
set_option maxRecDepth 20000 in
theorem lwin_wsL_law_r21 : ∀ w ∈ wsL_law_r21, w ∈ lw_tbl := fun w h => (goodIn_r wsL_law_r21 [527, 528, 529, 532, 36, 533, 534, 536, 37, 537, 539, 540, 541, 542, 538, 897, 898, 899, 900, 901, 903, 89, 904, 905] (by decide +kernel) (by decide +kernel) w h).1
set_option maxRecDepth 20000 in
theorem lwin_wsL_law_r22 : ∀ w ∈ wsL_law_r22, w ∈ lw_tbl := fun w h => (goodIn_r wsL_law_r22 [906, 907, 543, 544, 545, 546, 908, 909, 910, 911, 547, 548, 549, 550, 912, 913, 914, 915, 552, 553, 554, 555, 556, 557] (by decide +kernel) (by decide +kernel) w h).1
set_option maxRecDepth 20000 in
theorem lwin_wsL_law_r23 : ∀ w ∈ wsL_law_r23, w ∈ lw_tbl := fun w h => (goodIn_r wsL_law_r23 [559, 38, 560, 916, 917, 918, 919, 920, 922, 90, 923, 561, 562, 563, 564, 567, 39, 568, 571, 40, 572, 216, 924, 925] (by decide +kernel) (by decide +kernel) w h).1
set_option maxRecDepth 20000 in
theorem lwin_wsL_law_r24 : ∀ w ∈ wsL_law_r24, w ∈ lw_tbl := fun w h => (goodIn_r wsL_law_r24 [926, 927, 573, 574, 575, 576, 928, 929, 930, 931, 577, 578, 579, 580, 583, 41, 584, 218, 585, 587, 42, 588, 220, 222] (by decide +kernel) (by decide +kernel) w h).1
set_option maxRecDepth 20000 in
theorem lwin_wsL_law_r25 : ∀ w ∈ wsL_law_r25, w ∈ lw_tbl := fun w h => (goodIn_r wsL_law_r25 [589, 591, 43, 592, 593, 595, 44, 596, 597, 599, 45, 600, 601, 603, 46, 604, 228, 605, 607, 47, 608, 609, 611, 48] (by decide +kernel) (by decide +kernel) w h).1
set_option maxRecDepth 20000 in
theorem lwin_wsL_law_r26 : ∀ w ∈ wsL_law_r26, w ∈ lw_tbl := fun w h => (goodIn_r wsL_law_r26 [612, 230, 232, 234, 613, 615, 49, 616, 617, 619, 50, 620, 224, 226, 932, 933, 934, 935, 936, 938, 91, 939, 670, 940] (by decide +kernel) (by decide +kernel) w h).1
set_option maxRecDepth 20000 in
theorem lwin_wsL_law_r27 : ∀ w ∈ wsL_law_r27, w ∈ lw_tbl := fun w h => (goodIn_r wsL_law_r27 [942, 92, 943, 674, 671, 944, 946, 93, 947, 948, 950, 94, 951, 672, 952, 954, 95, 955, 956, 958, 96, 959, 960, 962] (by decide +kernel) (by decide +kernel) w h).1
set_option maxRecDepth 20000 in
theorem lwin_wsL_law_r28 : ∀ w ∈ wsL_law_r28, w ∈ lw_tbl := fun w h => (goodIn_r wsL_law_r28 [97, 963, 964, 966, 98, 967, 621, 622, 623, 624, 626, 628, 51, 629, 630, 632, 52, 633, 634, 636, 53, 637, 968, 969] (by decide +kernel) (by decide +kernel) w h).1
set_option maxRecDepth 20000 in
theorem lwin_wsL_law_r29 : ∀ w ∈ wsL_law_r29, w ∈ lw_tbl := fun w h => (goodIn_r wsL_law_r29 [970, 971, 972, 974, 99, 975, 976, 978, 100, 979, 980, 982, 101, 983, 639, 640, 641, 642, 645, 54, 646, 984, 985, 986] (by decide +kernel) (by decide +kernel) w h).1
set_option maxRecDepth 20000 in
theorem lwin_wsL_law_r30 : ∀ w ∈ wsL_law_r30, w ∈ lw_tbl := fun w h => (goodIn_r wsL_law_r30 [987, 647, 648, 649, 650, 988, 989, 990, 991, 652, 653, 654, 655, 992, 993, 994, 995] (by decide +kernel) (by decide +kernel) w h).1
set_option maxRecDepth 20000 in
theorem lwin_wsX50 : ∀ w ∈ wsX50, w ∈ lw_tbl := fun w h => (goodIn_r wsX50 [287, 289, 291, 293, 295, 297, 299] (by decide +kernel) (by decide +kernel) w h).1
set_option maxRecDepth 20000 in
theorem lwin_wsX60 : ∀ w ∈ wsX60, w ∈ lw_tbl := fun w h => (goodIn_r wsX60 [675, 677, 679, 681, 683, 685, 687, 689, 691, 693, 695, 697, 699] (by decide +kernel) (by decide +kernel) w h).1
set_option maxRecDepth 20000 in
theorem lwin_wsX30 : ∀ w ∈ wsX30, w ∈ lw_tbl := fun w h => (goodIn_r wsX30 [149, 151, 153, 155, 157, 159, 161, 163, 165] (by decide +kernel) (by decide +kernel) w h).1
set_option maxRecDepth 20000 in
theorem lwin_wsX00 : ∀ w ∈ wsX00, w ∈ lw_tbl := fun w h => (goodIn_r wsX00 [202, 204, 206] (by decide +kernel) (by decide +kernel) w h).1
set_option maxRecDepth 20000 in
theorem lwin_wsX20 : ∀ w ∈ wsX20, w ∈ lw_tbl := fun w h => (goodIn_r wsX20 [236, 238, 240, 242, 244, 246, 248, 250, 252, 254, 256] (by decide +kernel) (by decide +kernel) w h).1
set_option maxRecDepth 20000 in
theorem lwin_wsX10 : ∀ w ∈ wsX10, w ∈ lw_tbl := fun w h => (goodIn_r wsX10 [273, 275, 277] (by decide +kernel) (by decide +kernel) w h).1
set_option maxRecDepth 20000 in
theorem lwin_wsX40 : ∀ w ∈ wsX40, w ∈ lw_tbl := fun w h => (goodIn_r wsX40 [188, 190, 192, 194] (by decide +kernel) (by decide +kernel) w h).1
theorem wsL_law_in : ∀ w ∈ wsL_law, w ∈ lw_tbl := sub_app (sub_app (sub_app (sub_app (sub_app (sub_app (sub_app (sub_app (sub_app lwin_wsL_law_r1 (sub_app lwin_wsL_law_r2 (sub_app lwin_wsL_law_r3 (sub_app lwin_wsL_law_r4 (sub_app lwin_wsL_law_r5 (sub_app lwin_wsL_law_r6 (sub_app lwin_wsL_law_r7 (sub_app lwin_wsL_law_r8 (sub_app lwin_wsL_law_r9 (sub_app lwin_wsL_law_r10 (sub_app lwin_wsL_law_r11 (sub_app lwin_wsL_law_r12 (sub_app lwin_wsL_law_r13 (sub_app lwin_wsL_law_r14 (sub_app lwin_wsL_law_r15 (sub_app lwin_wsL_law_r16 (sub_app lwin_wsL_law_r17 (sub_app lwin_wsL_law_r18 (sub_app lwin_wsL_law_r19 (sub_app lwin_wsL_law_r20 (sub_app lwin_wsL_law_r21 (sub_app lwin_wsL_law_r22 (sub_app lwin_wsL_law_r23 (sub_app lwin_wsL_law_r24 (sub_app lwin_wsL_law_r25 (sub_app lwin_wsL_law_r26 (sub_app lwin_wsL_law_r27 (sub_app lwin_wsL_law_r28 (sub_app lwin_wsL_law_r29 (lwin_wsL_law_r30)))))))))))))))))))))))))))))) lwin_wsX50) lwin_wsX60) lwin_wsX30) lwin_wsX00) lwin_wsX20) lwin_wsX10) lwin_wsX40) (fun _ h => absurd h List.not_mem_nil)
theorem inX5 : ∀ w ∈ wsX50, w ∈ lw_tbl := lwin_wsX50
theorem inX6 : ∀ w ∈ wsX60, w ∈ lw_tbl := lwin_wsX60
theorem inX3 : ∀ w ∈ wsX30, w ∈ lw_tbl := lwin_wsX30
theorem inX0 : ∀ w ∈ wsX00, w ∈ lw_tbl := lwin_wsX00
theorem inX2 : ∀ w ∈ wsX20, w ∈ lw_tbl := lwin_wsX20
theorem inX1 : ∀ w ∈ wsX10, w ∈ lw_tbl := lwin_wsX10
theorem inX4 : ∀ w ∈ wsX40, w ∈ lw_tbl := lwin_wsX40
set_option maxRecDepth 20000 in
theorem nx_in : nx_ws = [128, 130, 132, 134, 136, 137, 139, 140, 142, 143, 145, 146, 148, 182, 185, 186, 201, 217, 219, 221, 223, 225, 227, 229, 231, 233, 235, 272, 123, 171, 177, 211, 262, 268, 310, 314, 329, 337, 367, 375, 383, 384, 392, 397, 401, 419, 420, 440, 444, 449, 454, 455, 456, 460, 470, 482, 483, 488, 500, 501, 506, 511, 515, 530, 551, 565, 569, 581, 625, 638, 643, 651].filterMap (fun i => lw_tbl[i]?) := by decide +kernel
theorem nx_in_tbl : ∀ w ∈ nx_ws, w ∈ lw_tbl := fun w h => by
  rw [nx_in] at h
  obtain ⟨i, -, hi⟩ := List.mem_filterMap.mp h
  first | exact List.mem_of_getElem? hi | exact List.getElem?_mem hi
theorem lwa_int : (Cond.arrayClass .int) ∈ lw_tbl := List.mem_of_getElem? (i := 168) (by decide +kernel)
theorem lwa_char : (Cond.arrayClass .char) ∈ lw_tbl := List.mem_of_getElem? (i := 259) (by decide +kernel)
theorem lwa_boolean : (Cond.arrayClass .boolean) ∈ lw_tbl := List.mem_of_getElem? (i := 302) (by decide +kernel)
theorem lwa_Tape : (Cond.arrayOver (.object "CassetteTones$Tape")) ∈ lw_tbl := List.mem_of_getElem? (i := 267) (by decide +kernel)
theorem lwa_Telling : (Cond.arrayOver (.object "CassetteTones$Telling")) ∈ lw_tbl := List.mem_of_getElem? (i := 197) (by decide +kernel)
