theorem sub_app {T a b : List Cond} (ha : ∀ w ∈ a, w ∈ T) (hb : ∀ w ∈ b, w ∈ T) : ∀ w ∈ a ++ b, w ∈ T := fun w h => (List.mem_append.mp h).elim (ha w) (hb w)
set_option maxRecDepth 20000 in
theorem lwin_wsL_law_r1 : ∀ w ∈ wsL_law_r1, w ∈ lw_tbl := fun w h => (goodIn_r wsL_law_r1 [120, 121, 109, 712, 713, 116, 1052, 122, 123, 124, 125, 126, 127, 128, 129, 110, 294, 172, 173, 111, 295, 207, 208, 113] (by decide +kernel) (by decide +kernel) w h).1
set_option maxRecDepth 20000 in
theorem lwin_wsL_law_r2 : ∀ w ∈ wsL_law_r2, w ∈ lw_tbl := fun w h => (goodIn_r wsL_law_r2 [296, 258, 259, 114, 297, 278, 279, 115, 298, 299, 171, 300, 131, 132, 133, 134, 138, 140, 142, 145, 146, 149, 151, 175] (by decide +kernel) (by decide +kernel) w h).1
set_option maxRecDepth 20000 in
theorem lwin_wsL_law_r3 : ∀ w ∈ wsL_law_r3, w ∈ lw_tbl := fun w h => (goodIn_r wsL_law_r3 [176, 177, 178, 179, 112, 200, 201, 181, 182, 183, 187, 190, 210, 211, 212, 257, 213, 261, 262, 263, 264, 267, 281, 282] (by decide +kernel) (by decide +kernel) w h).1
set_option maxRecDepth 20000 in
theorem lwin_wsL_law_r4 : ∀ w ∈ wsL_law_r4, w ∈ lw_tbl := fun w h => (goodIn_r wsL_law_r4 [283, 284, 286, 714, 715, 716, 717, 718, 719, 721, 722, 723, 725, 729, 316, 317, 318, 319, 320, 321, 322, 325, 0, 326] (by decide +kernel) (by decide +kernel) w h).1
set_option maxRecDepth 20000 in
theorem lwin_wsL_law_r5 : ∀ w ∈ wsL_law_r5, w ∈ lw_tbl := fun w h => (goodIn_r wsL_law_r5 [268, 269, 327, 329, 1, 330, 331, 332, 117, 333, 336, 2, 337, 136, 338, 340, 339, 118, 348, 349, 117, 350, 351, 352] (by decide +kernel) (by decide +kernel) w h).1
set_option maxRecDepth 20000 in
theorem lwin_wsL_law_r6 : ∀ w ∈ wsL_law_r6, w ∈ lw_tbl := fun w h => (goodIn_r wsL_law_r6 [353, 341, 343, 3, 344, 346, 347, 356, 4, 357, 358, 359, 360, 758, 759, 760, 761, 762, 763, 764, 765, 766, 767, 768] (by decide +kernel) (by decide +kernel) w h).1
set_option maxRecDepth 20000 in
theorem lwin_wsL_law_r7 : ∀ w ∈ wsL_law_r7, w ∈ lw_tbl := fun w h => (goodIn_r wsL_law_r7 [770, 61, 771, 720, 772, 773, 774, 361, 362, 363, 364, 367, 5, 368, 369, 371, 6, 372, 375, 7, 376, 378, 380, 8] (by decide +kernel) (by decide +kernel) w h).1
set_option maxRecDepth 20000 in
theorem lwin_wsL_law_r8 : ∀ w ∈ wsL_law_r8, w ∈ lw_tbl := fun w h => (goodIn_r wsL_law_r8 [381, 382, 384, 9, 385, 386, 387, 389, 10, 390, 391, 393, 11, 394, 395, 396, 119, 397, 398, 399, 400, 775, 776, 777] (by decide +kernel) (by decide +kernel) w h).1
set_option maxRecDepth 20000 in
theorem lwin_wsL_law_r9 : ∀ w ∈ wsL_law_r9, w ∈ lw_tbl := fun w h => (goodIn_r wsL_law_r9 [778, 787, 779, 781, 62, 782, 783, 785, 63, 786, 788, 790, 64, 791, 792, 794, 65, 795, 796, 798, 66, 799, 800, 802] (by decide +kernel) (by decide +kernel) w h).1
set_option maxRecDepth 20000 in
theorem lwin_wsL_law_r10 : ∀ w ∈ wsL_law_r10, w ∈ lw_tbl := fun w h => (goodIn_r wsL_law_r10 [67, 803, 804, 806, 68, 807, 401, 402, 403, 404, 808, 809, 810, 811, 405, 406, 407, 408, 411, 12, 412, 413, 415, 13] (by decide +kernel) (by decide +kernel) w h).1
set_option maxRecDepth 20000 in
theorem lwin_wsL_law_r11 : ∀ w ∈ wsL_law_r11, w ∈ lw_tbl := fun w h => (goodIn_r wsL_law_r11 [416, 419, 14, 420, 812, 813, 814, 815, 816, 818, 69, 819, 820, 822, 70, 823, 824, 826, 71, 827, 828, 830, 72, 831] (by decide +kernel) (by decide +kernel) w h).1
set_option maxRecDepth 20000 in
theorem lwin_wsL_law_r12 : ∀ w ∈ wsL_law_r12, w ∈ lw_tbl := fun w h => (goodIn_r wsL_law_r12 [832, 834, 73, 835, 836, 838, 74, 839, 421, 422, 423, 424, 428, 15, 429, 840, 841, 842, 843, 844, 846, 75, 847, 430] (by decide +kernel) (by decide +kernel) w h).1
set_option maxRecDepth 20000 in
theorem lwin_wsL_law_r13 : ∀ w ∈ wsL_law_r13, w ∈ lw_tbl := fun w h => (goodIn_r wsL_law_r13 [431, 432, 433, 435, 437, 439, 16, 440, 443, 17, 444, 449, 18, 450, 184, 451, 453, 19, 454, 456, 457, 186, 458, 460] (by decide +kernel) (by decide +kernel) w h).1
set_option maxRecDepth 20000 in
theorem lwin_wsL_law_r14 : ∀ w ∈ wsL_law_r14, w ∈ lw_tbl := fun w h => (goodIn_r wsL_law_r14 [20, 461, 464, 21, 465, 470, 22, 471, 474, 23, 475, 476, 478, 24, 479, 480, 482, 25, 483, 484, 486, 26, 487, 488] (by decide +kernel) (by decide +kernel) w h).1
set_option maxRecDepth 20000 in
theorem lwin_wsL_law_r15 : ∀ w ∈ wsL_law_r15, w ∈ lw_tbl := fun w h => (goodIn_r wsL_law_r15 [490, 27, 491, 494, 28, 495, 497, 499, 29, 500, 502, 504, 30, 505, 510, 31, 511, 514, 32, 515, 848, 849, 850, 851] (by decide +kernel) (by decide +kernel) w h).1
set_option maxRecDepth 20000 in
theorem lwin_wsL_law_r16 : ∀ w ∈ wsL_law_r16, w ∈ lw_tbl := fun w h => (goodIn_r wsL_law_r16 [852, 854, 76, 855, 856, 858, 77, 859, 860, 862, 78, 863, 864, 866, 79, 867, 868, 870, 80, 871, 872, 874, 81, 875] (by decide +kernel) (by decide +kernel) w h).1
set_option maxRecDepth 20000 in
theorem lwin_wsL_law_r17 : ∀ w ∈ wsL_law_r17, w ∈ lw_tbl := fun w h => (goodIn_r wsL_law_r17 [876, 878, 82, 879, 880, 881, 882, 883, 885, 83, 886, 887, 889, 84, 890, 891, 893, 85, 894, 895, 897, 86, 898, 899] (by decide +kernel) (by decide +kernel) w h).1
set_option maxRecDepth 20000 in
theorem lwin_wsL_law_r18 : ∀ w ∈ wsL_law_r18, w ∈ lw_tbl := fun w h => (goodIn_r wsL_law_r18 [901, 87, 902, 516, 517, 518, 519, 520, 521, 524, 33, 525, 526, 528, 34, 529, 903, 904, 905, 906, 907, 908, 530, 531] (by decide +kernel) (by decide +kernel) w h).1
set_option maxRecDepth 20000 in
theorem lwin_wsL_law_r19 : ∀ w ∈ wsL_law_r19, w ∈ lw_tbl := fun w h => (goodIn_r wsL_law_r19 [532, 533, 909, 910, 911, 912, 536, 537, 538, 539, 542, 35, 543, 544, 546, 36, 547, 548, 550, 37, 551, 552, 913, 914] (by decide +kernel) (by decide +kernel) w h).1
set_option maxRecDepth 20000 in
theorem lwin_wsL_law_r20 : ∀ w ∈ wsL_law_r20, w ∈ lw_tbl := fun w h => (goodIn_r wsL_law_r20 [915, 916, 917, 919, 88, 920, 921, 923, 89, 924, 925, 927, 90, 928, 555, 556, 557, 558, 560, 562, 38, 563, 566, 39] (by decide +kernel) (by decide +kernel) w h).1
set_option maxRecDepth 20000 in
theorem lwin_wsL_law_r21 : ∀ w ∈ wsL_law_r21, w ∈ lw_tbl := fun w h => (goodIn_r wsL_law_r21 [567, 570, 40, 571, 929, 930, 931, 932, 724, 933, 935, 91, 936, 937, 939, 92, 940, 941, 943, 93, 944, 572, 573, 574] (by decide +kernel) (by decide +kernel) w h).1
set_option maxRecDepth 20000 in
theorem lwin_wsL_law_r22 : ∀ w ∈ wsL_law_r22, w ∈ lw_tbl := fun w h => (goodIn_r wsL_law_r22 [575, 576, 577, 578, 945, 946, 947, 948, 949, 951, 94, 952, 579, 580, 581, 582, 585, 41, 586, 587, 589, 42, 590, 592] (by decide +kernel) (by decide +kernel) w h).1
set_option maxRecDepth 20000 in
theorem lwin_wsL_law_r23 : ∀ w ∈ wsL_law_r23, w ∈ lw_tbl := fun w h => (goodIn_r wsL_law_r23 [593, 594, 591, 953, 954, 955, 956, 957, 959, 95, 960, 961, 962, 963, 595, 596, 597, 598, 964, 965, 966, 967, 599, 600] (by decide +kernel) (by decide +kernel) w h).1
set_option maxRecDepth 20000 in
theorem lwin_wsL_law_r24 : ∀ w ∈ wsL_law_r24, w ∈ lw_tbl := fun w h => (goodIn_r wsL_law_r24 [601, 602, 968, 969, 970, 971, 604, 605, 606, 607, 608, 609, 611, 43, 612, 972, 973, 974, 975, 976, 978, 96, 979, 613] (by decide +kernel) (by decide +kernel) w h).1
set_option maxRecDepth 20000 in
theorem lwin_wsL_law_r25 : ∀ w ∈ wsL_law_r25, w ∈ lw_tbl := fun w h => (goodIn_r wsL_law_r25 [614, 615, 616, 619, 44, 620, 623, 45, 624, 214, 980, 981, 982, 983, 625, 626, 627, 628, 984, 985, 986, 987, 629, 630] (by decide +kernel) (by decide +kernel) w h).1
set_option maxRecDepth 20000 in
theorem lwin_wsL_law_r26 : ∀ w ∈ wsL_law_r26, w ∈ lw_tbl := fun w h => (goodIn_r wsL_law_r26 [631, 632, 635, 46, 636, 216, 637, 639, 47, 640, 218, 220, 641, 643, 48, 644, 645, 647, 49, 648, 649, 651, 50, 652] (by decide +kernel) (by decide +kernel) w h).1
set_option maxRecDepth 20000 in
theorem lwin_wsL_law_r27 : ∀ w ∈ wsL_law_r27, w ∈ lw_tbl := fun w h => (goodIn_r wsL_law_r27 [653, 655, 51, 656, 226, 657, 659, 52, 660, 661, 663, 53, 664, 228, 230, 232, 665, 667, 54, 668, 669, 671, 55, 672] (by decide +kernel) (by decide +kernel) w h).1
set_option maxRecDepth 20000 in
theorem lwin_wsL_law_r28 : ∀ w ∈ wsL_law_r28, w ∈ lw_tbl := fun w h => (goodIn_r wsL_law_r28 [222, 224, 988, 989, 990, 991, 992, 994, 97, 995, 726, 996, 998, 98, 999, 730, 727, 1000, 1002, 99, 1003, 1004, 1006, 100] (by decide +kernel) (by decide +kernel) w h).1
set_option maxRecDepth 20000 in
theorem lwin_wsL_law_r29 : ∀ w ∈ wsL_law_r29, w ∈ lw_tbl := fun w h => (goodIn_r wsL_law_r29 [1007, 728, 1008, 1010, 101, 1011, 1012, 1014, 102, 1015, 1016, 1018, 103, 1019, 1020, 1022, 104, 1023, 673, 674, 675, 676, 678, 680] (by decide +kernel) (by decide +kernel) w h).1
set_option maxRecDepth 20000 in
theorem lwin_wsL_law_r30 : ∀ w ∈ wsL_law_r30, w ∈ lw_tbl := fun w h => (goodIn_r wsL_law_r30 [56, 681, 682, 684, 57, 685, 686, 688, 58, 689, 1024, 1025, 1026, 1027, 1028, 1030, 105, 1031, 1032, 1034, 106, 1035, 1036, 1038] (by decide +kernel) (by decide +kernel) w h).1
set_option maxRecDepth 20000 in
theorem lwin_wsL_law_r31 : ∀ w ∈ wsL_law_r31, w ∈ lw_tbl := fun w h => (goodIn_r wsL_law_r31 [107, 1039, 691, 692, 693, 694, 697, 59, 698, 1040, 1041, 1042, 1043, 699, 700, 701, 702, 703, 705, 60, 706, 1044, 1045, 1046] (by decide +kernel) (by decide +kernel) w h).1
set_option maxRecDepth 20000 in
theorem lwin_wsL_law_r32 : ∀ w ∈ wsL_law_r32, w ∈ lw_tbl := fun w h => (goodIn_r wsL_law_r32 [1047, 708, 709, 710, 711, 1048, 1049, 1050, 1051] (by decide +kernel) (by decide +kernel) w h).1
set_option maxRecDepth 20000 in
theorem lwin_wsX60 : ∀ w ∈ wsX60, w ∈ lw_tbl := fun w h => (goodIn_r wsX60 [301, 303, 305, 307, 309, 311, 313] (by decide +kernel) (by decide +kernel) w h).1
set_option maxRecDepth 20000 in
theorem lwin_wsX70 : ∀ w ∈ wsX70, w ∈ lw_tbl := fun w h => (goodIn_r wsX70 [731, 733, 735, 737, 739, 741, 743, 745, 747, 749, 751, 753, 755] (by decide +kernel) (by decide +kernel) w h).1
set_option maxRecDepth 20000 in
theorem lwin_wsX40 : ∀ w ∈ wsX40, w ∈ lw_tbl := fun w h => (goodIn_r wsX40 [152, 154, 156, 158, 160, 162, 164, 166, 168] (by decide +kernel) (by decide +kernel) w h).1
set_option maxRecDepth 20000 in
theorem lwin_wsX00 : ∀ w ∈ wsX00, w ∈ lw_tbl := fun w h => (goodIn_r wsX00 [202, 204] (by decide +kernel) (by decide +kernel) w h).1
set_option maxRecDepth 20000 in
theorem lwin_wsX20 : ∀ w ∈ wsX20, w ∈ lw_tbl := fun w h => (goodIn_r wsX20 [234, 236, 238, 240, 242, 244, 246, 248, 250, 252, 254] (by decide +kernel) (by decide +kernel) w h).1
set_option maxRecDepth 20000 in
theorem lwin_wsX10 : ∀ w ∈ wsX10, w ∈ lw_tbl := fun w h => (goodIn_r wsX10 [271, 273, 275] (by decide +kernel) (by decide +kernel) w h).1
set_option maxRecDepth 20000 in
theorem lwin_wsX30 : ∀ w ∈ wsX30, w ∈ lw_tbl := fun w h => (goodIn_r wsX30 [289, 291] (by decide +kernel) (by decide +kernel) w h).1
set_option maxRecDepth 20000 in
theorem lwin_wsX50 : ∀ w ∈ wsX50, w ∈ lw_tbl := fun w h => (goodIn_r wsX50 [191, 193, 195, 197] (by decide +kernel) (by decide +kernel) w h).1
theorem wsL_law_in : ∀ w ∈ wsL_law, w ∈ lw_tbl := sub_app (sub_app (sub_app (sub_app (sub_app (sub_app (sub_app (sub_app (sub_app (sub_app lwin_wsL_law_r1 (sub_app lwin_wsL_law_r2 (sub_app lwin_wsL_law_r3 (sub_app lwin_wsL_law_r4 (sub_app lwin_wsL_law_r5 (sub_app lwin_wsL_law_r6 (sub_app lwin_wsL_law_r7 (sub_app lwin_wsL_law_r8 (sub_app lwin_wsL_law_r9 (sub_app lwin_wsL_law_r10 (sub_app lwin_wsL_law_r11 (sub_app lwin_wsL_law_r12 (sub_app lwin_wsL_law_r13 (sub_app lwin_wsL_law_r14 (sub_app lwin_wsL_law_r15 (sub_app lwin_wsL_law_r16 (sub_app lwin_wsL_law_r17 (sub_app lwin_wsL_law_r18 (sub_app lwin_wsL_law_r19 (sub_app lwin_wsL_law_r20 (sub_app lwin_wsL_law_r21 (sub_app lwin_wsL_law_r22 (sub_app lwin_wsL_law_r23 (sub_app lwin_wsL_law_r24 (sub_app lwin_wsL_law_r25 (sub_app lwin_wsL_law_r26 (sub_app lwin_wsL_law_r27 (sub_app lwin_wsL_law_r28 (sub_app lwin_wsL_law_r29 (sub_app lwin_wsL_law_r30 (sub_app lwin_wsL_law_r31 (lwin_wsL_law_r32)))))))))))))))))))))))))))))))) lwin_wsX60) lwin_wsX70) lwin_wsX40) lwin_wsX00) lwin_wsX20) lwin_wsX10) lwin_wsX30) lwin_wsX50) (fun _ h => absurd h List.not_mem_nil)
theorem inX6 : ∀ w ∈ wsX60, w ∈ lw_tbl := lwin_wsX60
theorem inX7 : ∀ w ∈ wsX70, w ∈ lw_tbl := lwin_wsX70
theorem inX4 : ∀ w ∈ wsX40, w ∈ lw_tbl := lwin_wsX40
theorem inX0 : ∀ w ∈ wsX00, w ∈ lw_tbl := lwin_wsX00
theorem inX2 : ∀ w ∈ wsX20, w ∈ lw_tbl := lwin_wsX20
theorem inX1 : ∀ w ∈ wsX10, w ∈ lw_tbl := lwin_wsX10
theorem inX3 : ∀ w ∈ wsX30, w ∈ lw_tbl := lwin_wsX30
theorem inX5 : ∀ w ∈ wsX50, w ∈ lw_tbl := lwin_wsX50
set_option maxRecDepth 20000 in
theorem nx_in : nx_ws = [135, 137, 139, 141, 143, 144, 147, 148, 150, 185, 188, 189, 215, 217, 219, 221, 223, 225, 227, 229, 231, 233, 270, 287, 288, 130, 174, 180, 209, 260, 266, 280, 285, 323, 334, 345, 354, 365, 373, 377, 409, 417, 425, 426, 434, 436, 441, 445, 446, 447, 455, 462, 466, 467, 468, 472, 492, 496, 501, 506, 507, 508, 512, 522, 534, 535, 540, 553, 554, 559, 564, 568, 583, 603, 617, 621, 633, 677, 690, 695, 707].filterMap (fun i => lw_tbl[i]?) := by decide +kernel
theorem nx_in_tbl : ∀ w ∈ nx_ws, w ∈ lw_tbl := fun w h => by
  rw [nx_in] at h
  obtain ⟨i, -, hi⟩ := List.mem_filterMap.mp h
  first | exact List.mem_of_getElem? hi | exact List.getElem?_mem hi
theorem lwa_int : (Cond.arrayClass .int) ∈ lw_tbl := List.mem_of_getElem? (i := 171) (by decide +kernel)
theorem lwa_char : (Cond.arrayClass .char) ∈ lw_tbl := List.mem_of_getElem? (i := 257) (by decide +kernel)
theorem lwa_Tape : (Cond.arrayOver (.object "CassetteTones$Tape")) ∈ lw_tbl := List.mem_of_getElem? (i := 265) (by decide +kernel)
