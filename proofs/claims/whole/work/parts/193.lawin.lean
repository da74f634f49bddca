theorem mem_by {big : List Cond} {ws : List Cond} (ps : List Nat) (h : ws = ps.filterMap (fun i => big[i]?)) : ∀ w ∈ ws, w ∈ big := by
  intro w hw
  rw [h] at hw
  obtain ⟨i, -, hi⟩ := List.mem_filterMap.mp hw
  exact List.mem_of_getElem? hi
set_option maxRecDepth 100000 in
theorem linr_1 : ∀ w ∈ wsL_law_r1, w ∈ lw_tbl := mem_by [67, 68, 57, 715, 716, 62, 69, 70, 71, 72, 73, 74, 75, 76, 58, 192, 113, 193, 129, 196, 115, 116, 59, 198] (by decide +kernel)
set_option maxRecDepth 100000 in
theorem linr_2 : ∀ w ∈ wsL_law_r2, w ∈ lw_tbl := mem_by [130, 131, 60, 199, 200, 168, 169, 61, 203, 78, 79, 80, 112, 81, 118, 119, 120, 121, 133, 134, 135, 167, 137, 138] (by decide +kernel)
set_option maxRecDepth 100000 in
theorem linr_3 : ∀ w ∈ wsL_law_r3, w ∈ lw_tbl := mem_by [139, 140, 141, 143, 144, 145, 171, 172, 173, 174, 175, 176, 177, 717, 718, 719, 720, 722, 724, 725, 726, 727, 728, 729] (by decide +kernel)
set_option maxRecDepth 100000 in
theorem linr_4 : ∀ w ∈ wsL_law_r4, w ∈ lw_tbl := mem_by [730, 731, 732, 733, 735, 736, 739, 851, 740, 741, 745, 746, 749, 751, 754, 755, 760, 761, 762, 232, 233, 234, 235, 195] (by decide +kernel)
set_option maxRecDepth 100000 in
theorem linr_5 : ∀ w ∈ wsL_law_r5, w ∈ lw_tbl := mem_by [852, 853, 854, 855, 721, 856, 857, 858, 236, 237, 238, 239, 84, 240, 241, 242, 243, 83, 859, 860, 861, 862, 723, 244] (by decide +kernel)
set_option maxRecDepth 100000 in
theorem linr_6 : ∀ w ∈ wsL_law_r6, w ∈ lw_tbl := mem_by [245, 246, 247, 194, 302, 63, 248, 249, 250, 251, 252, 253, 254, 85, 86, 90, 94, 88, 92, 255, 257, 0, 258, 259] (by decide +kernel)
set_option maxRecDepth 100000 in
theorem linr_7 : ∀ w ∈ wsL_law_r7, w ∈ lw_tbl := mem_by [261, 1, 262, 263, 265, 2, 266, 267, 269, 3, 283, 276, 278, 5, 279, 274, 275, 270, 288, 289, 290, 291, 292, 293] (by decide +kernel)
set_option maxRecDepth 100000 in
theorem linr_8 : ∀ w ∈ wsL_law_r8, w ∈ lw_tbl := mem_by [271, 273, 4, 280, 282, 6, 284, 286, 7, 287, 294, 296, 8, 297, 298, 300, 9, 301, 303, 304, 305, 306, 326, 87] (by decide +kernel)
set_option maxRecDepth 100000 in
theorem linr_9 : ∀ w ∈ wsL_law_r9, w ∈ lw_tbl := mem_by [307, 89, 310, 91, 312, 93, 314, 82, 316, 318, 320, 322, 324, 863, 864, 865, 866, 734, 756, 757, 758, 867, 869, 29] (by decide +kernel)
set_option maxRecDepth 100000 in
theorem linr_10 : ∀ w ∈ wsL_law_r10, w ∈ lw_tbl := mem_by [870, 871, 873, 30, 874, 875, 877, 31, 878, 879, 881, 32, 882, 891, 883, 885, 33, 886, 887, 889, 34, 890, 892, 893] (by decide +kernel)
set_option maxRecDepth 100000 in
theorem linr_11 : ∀ w ∈ wsL_law_r11, w ∈ lw_tbl := mem_by [894, 352, 353, 354, 355, 327, 356, 358, 10, 359, 895, 896, 897, 898, 899, 901, 35, 902, 360, 361, 362, 363, 309, 311] (by decide +kernel)
set_option maxRecDepth 100000 in
theorem linr_12 : ∀ w ∈ wsL_law_r12, w ∈ lw_tbl := mem_by [319, 321, 323, 325, 328, 317, 364, 365, 64, 366, 367, 368, 369, 903, 904, 905, 906, 907, 908, 909, 370, 371, 372, 373] (by decide +kernel)
set_option maxRecDepth 100000 in
theorem linr_13 : ∀ w ∈ wsL_law_r13, w ∈ lw_tbl := mem_by [313, 315, 374, 375, 376, 377, 378, 379, 380, 381, 382, 910, 911, 912, 913, 383, 384, 385, 386, 387, 388, 389, 390, 391] (by decide +kernel)
set_option maxRecDepth 100000 in
theorem linr_14 : ∀ w ∈ wsL_law_r14, w ∈ lw_tbl := mem_by [392, 393, 394, 395, 396, 397, 398, 399, 400, 401, 402, 403, 404, 405, 406, 65, 407, 408, 409, 410, 411, 914, 915, 916] (by decide +kernel)
set_option maxRecDepth 100000 in
theorem linr_15 : ∀ w ∈ wsL_law_r15, w ∈ lw_tbl := mem_by [917, 918, 920, 36, 921, 412, 413, 414, 415, 416, 418, 11, 419, 420, 422, 12, 423, 424, 426, 13, 427, 428, 429, 430] (by decide +kernel)
set_option maxRecDepth 100000 in
theorem linr_16 : ∀ w ∈ wsL_law_r16, w ∈ lw_tbl := mem_by [431, 136, 142, 432, 433, 434, 435, 436, 437, 438, 308, 439, 440, 441, 442, 443, 445, 14, 446, 447, 448, 449, 450, 451] (by decide +kernel)
set_option maxRecDepth 100000 in
theorem linr_17 : ∀ w ∈ wsL_law_r17, w ∈ lw_tbl := mem_by [453, 15, 454, 455, 457, 16, 458, 459, 460, 462, 17, 463, 464, 466, 18, 467, 468, 469, 470, 471, 472, 473, 474, 475] (by decide +kernel)
set_option maxRecDepth 100000 in
theorem linr_18 : ∀ w ∈ wsL_law_r18, w ∈ lw_tbl := mem_by [476, 477, 478, 922, 923, 924, 925, 926, 928, 37, 929, 930, 932, 38, 933, 737, 934, 936, 39, 937, 938, 940, 40, 941] (by decide +kernel)
set_option maxRecDepth 100000 in
theorem linr_19 : ∀ w ∈ wsL_law_r19, w ∈ lw_tbl := mem_by [738, 942, 944, 41, 945, 946, 948, 42, 949, 950, 952, 43, 953, 479, 480, 481, 482, 483, 484, 485, 486, 487, 489, 19] (by decide +kernel)
set_option maxRecDepth 100000 in
theorem linr_20 : ∀ w ∈ wsL_law_r20, w ∈ lw_tbl := mem_by [490, 954, 955, 956, 957, 491, 492, 493, 494, 201, 202, 958, 959, 960, 961, 742, 743, 744, 962, 964, 44, 965, 495, 496] (by decide +kernel)
set_option maxRecDepth 100000 in
theorem linr_21 : ∀ w ∈ wsL_law_r21, w ∈ lw_tbl := mem_by [497, 498, 499, 501, 20, 502, 503, 504, 505, 506, 507, 508, 509, 510, 511, 512, 513, 514, 966, 967, 968, 969, 759, 970] (by decide +kernel)
set_option maxRecDepth 100000 in
theorem linr_22 : ∀ w ∈ wsL_law_r22, w ∈ lw_tbl := mem_by [972, 45, 973, 515, 516, 517, 518, 974, 975, 976, 977, 519, 520, 521, 522, 523, 524, 525, 978, 979, 980, 981, 526, 527] (by decide +kernel)
set_option maxRecDepth 100000 in
theorem linr_23 : ∀ w ∈ wsL_law_r23, w ∈ lw_tbl := mem_by [528, 529, 982, 983, 984, 985, 986, 988, 46, 989, 990, 992, 47, 993, 994, 996, 48, 997, 530, 531, 532, 533, 534, 535] (by decide +kernel)
set_option maxRecDepth 100000 in
theorem linr_24 : ∀ w ∈ wsL_law_r24, w ∈ lw_tbl := mem_by [536, 537, 998, 999, 1000, 1001, 538, 539, 540, 541, 542, 544, 21, 545, 546, 548, 22, 549, 1002, 1003, 1004, 1005, 1006, 1007] (by decide +kernel)
set_option maxRecDepth 100000 in
theorem linr_25 : ∀ w ∈ wsL_law_r25, w ∈ lw_tbl := mem_by [1008, 1009, 550, 551, 552, 553, 554, 555, 556, 557, 558, 560, 23, 561, 562, 563, 565, 24, 566, 1010, 1011, 1012, 1013, 567] (by decide +kernel)
set_option maxRecDepth 100000 in
theorem linr_26 : ∀ w ∈ wsL_law_r26, w ∈ lw_tbl := mem_by [568, 569, 570, 204, 180, 571, 572, 573, 574, 178, 179, 575, 576, 577, 578, 581, 25, 582, 583, 585, 584, 66, 586, 588] (by decide +kernel)
set_option maxRecDepth 100000 in
theorem linr_27 : ∀ w ∈ wsL_law_r27, w ∈ lw_tbl := mem_by [26, 589, 590, 591, 592, 593, 594, 595, 596, 597, 598, 599, 600, 601, 602, 604, 27, 605, 606, 607, 608, 609, 610, 611] (by decide +kernel)
set_option maxRecDepth 100000 in
theorem linr_28 : ∀ w ∈ wsL_law_r28, w ∈ lw_tbl := mem_by [1014, 1015, 1016, 1017, 763, 750, 748, 747, 1018, 1020, 49, 1021, 1022, 1024, 50, 1025, 1026, 1028, 51, 1029, 612, 613, 614, 615] (by decide +kernel)
set_option maxRecDepth 100000 in
theorem linr_29 : ∀ w ∈ wsL_law_r29, w ∈ lw_tbl := mem_by [616, 617, 618, 619, 1030, 1031, 1032, 1033, 620, 621, 622, 623, 197, 1034, 1035, 1036, 1037, 752, 624, 625, 626, 627, 1038, 1039] (by decide +kernel)
set_option maxRecDepth 100000 in
theorem linr_30 : ∀ w ∈ wsL_law_r30, w ∈ lw_tbl := mem_by [1040, 1041, 628, 629, 630, 631, 632, 633, 634, 635, 636, 1042, 1043, 1044, 1045, 1046, 1048, 52, 1049, 637, 638, 639, 640, 641] (by decide +kernel)
set_option maxRecDepth 100000 in
theorem linr_31 : ∀ w ∈ wsL_law_r31, w ∈ lw_tbl := mem_by [642, 643, 644, 645, 646, 647, 1050, 1051, 1052, 1053, 1054, 1055, 1056, 1057, 1059, 53, 1060, 648, 649, 650, 651, 652, 653, 654] (by decide +kernel)
set_option maxRecDepth 100000 in
theorem linr_32 : ∀ w ∈ wsL_law_r32, w ∈ lw_tbl := mem_by [655, 122, 1061, 1062, 1063, 1064, 753, 656, 657, 658, 659, 660, 661, 662, 663, 664, 665, 666, 667, 671, 672, 1065, 1066, 1067] (by decide +kernel)
set_option maxRecDepth 100000 in
theorem linr_33 : ∀ w ∈ wsL_law_r33, w ∈ lw_tbl := mem_by [1068, 1069, 1071, 54, 1072, 673, 674, 675, 676, 677, 678, 1073, 1074, 1075, 1076, 679, 680, 681, 682, 1077, 1078, 1079, 1080, 683] (by decide +kernel)
set_option maxRecDepth 100000 in
theorem linr_34 : ∀ w ∈ wsL_law_r34, w ∈ lw_tbl := mem_by [684, 685, 686, 687, 688, 689, 690, 691, 692, 693, 694, 1081, 1082, 1083, 1084, 695, 696, 697, 698, 699, 700, 701, 702, 1085] (by decide +kernel)
set_option maxRecDepth 100000 in
theorem linr_35 : ∀ w ∈ wsL_law_r35, w ∈ lw_tbl := mem_by [1086, 1087, 1088, 1089, 1091, 55, 1092, 703, 704, 705, 706, 1093, 1094, 1095, 1096, 707, 708, 709, 710, 123, 711, 713, 28, 714] (by decide +kernel)
set_option maxRecDepth 100000 in
theorem linr_36 : ∀ w ∈ wsL_law_r36, w ∈ lw_tbl := mem_by [1097, 1098, 1099, 1100] (by decide +kernel)
set_option maxRecDepth 100000 in
theorem linx_0 : ∀ w ∈ wsX00, w ∈ lw_tbl := mem_by [146, 148, 150, 152, 154, 156, 158, 160, 162, 164] (by decide +kernel)
set_option maxRecDepth 100000 in
theorem linx_1 : ∀ w ∈ wsX10, w ∈ lw_tbl := mem_by [329, 331, 333, 335, 337, 339, 341, 343, 345, 347, 349] (by decide +kernel)
set_option maxRecDepth 100000 in
theorem linx_2 : ∀ w ∈ wsX20, w ∈ lw_tbl := mem_by [124, 126] (by decide +kernel)
set_option maxRecDepth 100000 in
theorem linx_3 : ∀ w ∈ wsX30, w ∈ lw_tbl := mem_by [95, 97, 99, 101, 103, 105, 107, 109] (by decide +kernel)
set_option maxRecDepth 100000 in
theorem linx_4 : ∀ w ∈ wsX40, w ∈ lw_tbl := mem_by [181, 183, 185, 187, 189] (by decide +kernel)
set_option maxRecDepth 100000 in
theorem linx_5 : ∀ w ∈ wsX50, w ∈ lw_tbl := mem_by [205, 207, 209, 211, 213, 215, 217, 219, 221, 223, 225, 227, 229] (by decide +kernel)
set_option maxRecDepth 100000 in
theorem linx_6 : ∀ w ∈ wsX60, w ∈ lw_tbl := mem_by [764, 766, 768, 770, 772, 774, 776, 778, 780, 782, 784, 786, 788, 790, 792, 794, 796, 798, 800, 802, 804, 806, 808, 810, 812, 814, 816, 818, 820, 822, 824, 826, 828, 830, 832, 834, 836, 838, 840, 842, 844, 846, 848] (by decide +kernel)
theorem wsL_law_in : ∀ w ∈ wsL_law, w ∈ lw_tbl := by
  intro w hw
  unfold wsL_law at hw
  simp only [List.mem_append] at hw
  rcases hw with ((((((((h | (h | (h | (h | (h | (h | (h | (h | (h | (h | (h | (h | (h | (h | (h | (h | (h | (h | (h | (h | (h | (h | (h | (h | (h | (h | (h | (h | (h | (h | (h | (h | (h | (h | (h | h))))))))))))))))))))))))))))))))))) | h) | h) | h) | h) | h) | h) | h) | h
  · exact linr_1 w h
  · exact linr_2 w h
  · exact linr_3 w h
  · exact linr_4 w h
  · exact linr_5 w h
  · exact linr_6 w h
  · exact linr_7 w h
  · exact linr_8 w h
  · exact linr_9 w h
  · exact linr_10 w h
  · exact linr_11 w h
  · exact linr_12 w h
  · exact linr_13 w h
  · exact linr_14 w h
  · exact linr_15 w h
  · exact linr_16 w h
  · exact linr_17 w h
  · exact linr_18 w h
  · exact linr_19 w h
  · exact linr_20 w h
  · exact linr_21 w h
  · exact linr_22 w h
  · exact linr_23 w h
  · exact linr_24 w h
  · exact linr_25 w h
  · exact linr_26 w h
  · exact linr_27 w h
  · exact linr_28 w h
  · exact linr_29 w h
  · exact linr_30 w h
  · exact linr_31 w h
  · exact linr_32 w h
  · exact linr_33 w h
  · exact linr_34 w h
  · exact linr_35 w h
  · exact linr_36 w h
  · exact linx_5 w h
  · exact linx_6 w h
  · exact linx_3 w h
  · exact linx_2 w h
  · exact linx_0 w h
  · exact linx_4 w h
  · exact linx_1 w h
  · cases h
