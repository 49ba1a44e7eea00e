theorem goodIn_q {big : List Cond} (ws : List Cond) (pc pn : List Nat) (h1 : ws.filter k2_isCode = pc.filterMap (fun i => big[i]?)) (h2 : ws.filter (fun w => !k2_isCode w) = pn.filterMap (fun i => big[i]?)) (h3 : ws.all goodWord = true) : GoodIn big ws := by
  intro w hw
  have hg := good_of_word (List.all_eq_true.mp h3 w hw)
  by_cases hc : k2_isCode w = true
  · have h : w ∈ ws.filter k2_isCode := List.mem_filter.mpr ⟨hw, hc⟩
    rw [h1] at h
    obtain ⟨i, -, hi⟩ := List.mem_filterMap.mp h
    exact ⟨List.mem_of_getElem? hi, hg⟩
  · have h : w ∈ ws.filter (fun w => !k2_isCode w) := List.mem_filter.mpr ⟨hw, by simpa using hc⟩
    rw [h2] at h
    obtain ⟨i, -, hi⟩ := List.mem_filterMap.mp h
    exact ⟨List.mem_of_getElem? hi, hg⟩
set_option maxRecDepth 20000 in
theorem gg_wsL_law_r1 : GoodIn lw_tbl wsL_law_r1 := goodIn_q _ [78, 81] [74, 75, 59, 842, 843, 66, 76, 77, 79, 80, 82, 83, 60, 266, 267, 268, 134, 135, 61, 270, 181, 182] rfl (by decide +kernel) (by decide +kernel)
set_option maxRecDepth 20000 in
theorem gg_wsL_law_r2 : GoodIn lw_tbl wsL_law_r2 := goodIn_q _ [86] [62, 271, 194, 195, 63, 133, 272, 273, 274, 208, 209, 64, 275, 246, 276, 277, 248, 65, 85, 87, 94, 99, 102] rfl (by decide +kernel) (by decide +kernel)
set_option maxRecDepth 20000 in
theorem gg_wsL_law_r3 : GoodIn lw_tbl wsL_law_r3 := goodIn_q _ [138, 185, 198] [105, 108, 111, 137, 139, 140, 141, 143, 145, 147, 149, 151, 152, 184, 186, 196, 197, 199, 200, 201, 211] rfl (by decide +kernel) (by decide +kernel)
set_option maxRecDepth 20000 in
theorem gg_wsL_law_r4 : GoodIn lw_tbl wsL_law_r4 := goodIn_q _ [212, 251, 846] [213, 214, 217, 218, 250, 252, 253, 257, 844, 845, 847, 896, 897, 898, 900, 901, 903, 904, 908, 909, 910] rfl (by decide +kernel) (by decide +kernel)
set_option maxRecDepth 20000 in
theorem gg_wsL_law_r5 : GoodIn lw_tbl wsL_law_r5 := goodIn_q _ [851] [911, 912, 913, 918, 919, 923, 924, 925, 926, 927, 928, 929, 930, 936, 902, 848, 849, 850, 905, 914, 922, 916, 917] rfl (by decide +kernel) (by decide +kernel)
set_option maxRecDepth 20000 in
theorem gg_wsL_law_r6 : GoodIn lw_tbl wsL_law_r6 := goodIn_q _ [855, 858, 862, 866, 871] [915, 852, 854, 26, 856, 857, 859, 861, 27, 863, 865, 28, 920, 921, 867, 868, 870, 29, 872] rfl (by decide +kernel) (by decide +kernel)
set_option maxRecDepth 20000 in
theorem gg_wsL_law_r7 : GoodIn lw_tbl wsL_law_r7 := goodIn_q _ [875, 878, 882, 886, 890, 894] [874, 30, 876, 877, 879, 881, 31, 883, 885, 32, 887, 889, 33, 891, 893, 34, 303, 304] rfl (by decide +kernel) (by decide +kernel)
set_option maxRecDepth 20000 in
theorem gg_wsL_law_r8 : GoodIn lw_tbl wsL_law_r8 := goodIn_q _ [306, 1028, 310, 313, 1032, 317] [305, 1025, 1026, 1027, 895, 899, 906, 307, 308, 309, 311, 312, 1029, 1030, 1031, 314, 315, 316] rfl (by decide +kernel) (by decide +kernel)
set_option maxRecDepth 20000 in
theorem gg_wsL_law_r9 : GoodIn lw_tbl wsL_law_r9 := goodIn_q _ [320, 324, 1036, 1039, 328, 332] [318, 319, 321, 322, 323, 215, 1033, 1034, 1035, 1037, 1038, 325, 326, 327, 329, 330, 331, 219] rfl (by decide +kernel) (by decide +kernel)
set_option maxRecDepth 20000 in
theorem gg_wsL_law_r10 : GoodIn lw_tbl wsL_law_r10 := goodIn_q _ [336, 339, 342, 346, 350] [220, 224, 221, 333, 335, 0, 222, 337, 338, 340, 341, 343, 345, 1, 347, 349, 2, 352, 353] rfl (by decide +kernel) (by decide +kernel)
set_option maxRecDepth 20000 in
theorem gg_wsL_law_r11 : GoodIn lw_tbl wsL_law_r11 := goodIn_q _ [355, 359, 364, 367, 372] [354, 67, 1269, 356, 357, 358, 360, 1268, 362, 363, 68, 365, 366, 368, 370, 371, 69, 373, 374] rfl (by decide +kernel) (by decide +kernel)
set_option maxRecDepth 20000 in
theorem gg_wsL_law_r12 : GoodIn lw_tbl wsL_law_r12 := goodIn_q _ [375, 378, 381, 385, 394, 398] [70, 376, 377, 379, 380, 382, 383, 384, 386, 388, 390, 392, 393, 395, 397, 3, 223, 399] rfl (by decide +kernel) (by decide +kernel)
set_option maxRecDepth 20000 in
theorem gg_wsL_law_r13 : GoodIn lw_tbl wsL_law_r13 := goodIn_q _ [401, 406, 410, 414, 418, 421] [400, 403, 404, 405, 407, 408, 409, 411, 412, 413, 415, 416, 417, 419, 420, 425, 426, 71] rfl (by decide +kernel) (by decide +kernel)
set_option maxRecDepth 20000 in
theorem gg_wsL_law_r14 : GoodIn lw_tbl wsL_law_r14 := goodIn_q _ [427, 430, 424, 433, 436, 442, 445] [428, 429, 422, 423, 431, 432, 434, 435, 437, 438, 439, 440, 441, 443, 444, 446, 447] rfl (by decide +kernel) (by decide +kernel)
set_option maxRecDepth 20000 in
theorem gg_wsL_law_r15 : GoodIn lw_tbl wsL_law_r15 := goodIn_q _ [448, 451, 454, 457, 460, 463, 467] [449, 450, 452, 453, 455, 456, 458, 459, 72, 461, 462, 464, 465, 466, 468, 469, 471] rfl (by decide +kernel) (by decide +kernel)
set_option maxRecDepth 20000 in
theorem gg_wsL_law_r16 : GoodIn lw_tbl wsL_law_r16 := goodIn_q _ [472, 476, 480, 508, 484, 492] [4, 473, 475, 5, 477, 479, 6, 481, 483, 7, 505, 507, 13, 485, 487, 8, 493, 495] rfl (by decide +kernel) (by decide +kernel)
set_option maxRecDepth 20000 in
theorem gg_wsL_law_r17 : GoodIn lw_tbl wsL_law_r17 := goodIn_q _ [488, 504, 496, 500, 512, 516] [10, 489, 491, 9, 501, 503, 12, 497, 499, 11, 509, 510, 511, 513, 514, 515, 517, 518] rfl (by decide +kernel) (by decide +kernel)
set_option maxRecDepth 20000 in
theorem gg_wsL_law_r18 : GoodIn lw_tbl wsL_law_r18 := goodIn_q _ [527, 1044, 531, 535] [519, 521, 520, 73, 522, 1040, 524, 525, 526, 1041, 1042, 1043, 528, 529, 530, 532, 534, 14, 536, 537] rfl (by decide +kernel) (by decide +kernel)
set_option maxRecDepth 20000 in
theorem gg_wsL_law_r19 : GoodIn lw_tbl wsL_law_r19 := goodIn_q _ [539, 543, 547, 551, 554, 1048] [538, 540, 542, 15, 544, 545, 546, 555, 556, 548, 549, 550, 552, 553, 1045, 1046, 1047, 1049] rfl (by decide +kernel) (by decide +kernel)
set_option maxRecDepth 20000 in
theorem gg_wsL_law_r20 : GoodIn lw_tbl wsL_law_r20 := goodIn_q _ [1052, 1056, 1060, 1063, 1066, 560, 563] [1051, 35, 1053, 1055, 36, 1057, 1059, 37, 1061, 1062, 1064, 1065, 557, 558, 559, 561, 562] rfl (by decide +kernel) (by decide +kernel)
set_option maxRecDepth 20000 in
theorem gg_wsL_law_r21 : GoodIn lw_tbl wsL_law_r21 := goodIn_q _ [567, 1070, 571, 1074, 575] [564, 565, 566, 88, 1067, 1068, 1069, 568, 569, 570, 1071, 1072, 1073, 572, 573, 574, 576, 578, 16] rfl (by decide +kernel) (by decide +kernel)
set_option maxRecDepth 20000 in
theorem gg_wsL_law_r22 : GoodIn lw_tbl wsL_law_r22 := goodIn_q _ [579, 583, 587, 591, 595, 600] [580, 581, 582, 154, 156, 153, 584, 586, 17, 588, 589, 590, 592, 594, 18, 596, 597, 599] rfl (by decide +kernel) (by decide +kernel)
set_option maxRecDepth 20000 in
theorem gg_wsL_law_r23 : GoodIn lw_tbl wsL_law_r23 := goodIn_q _ [604, 610, 607, 613, 616, 620, 1078] [601, 603, 608, 609, 605, 606, 612, 614, 615, 617, 618, 619, 1075, 1076, 1077, 1079, 1081] rfl (by decide +kernel) (by decide +kernel)
set_option maxRecDepth 20000 in
theorem gg_wsL_law_r24 : GoodIn lw_tbl wsL_law_r24 := goodIn_q _ [1082, 1086, 1090, 1094, 1098] [38, 931, 932, 933, 934, 935, 1083, 1085, 39, 1087, 1089, 40, 1091, 1093, 41, 1095, 1097, 42, 1099] rfl (by decide +kernel) (by decide +kernel)
set_option maxRecDepth 20000 in
theorem gg_wsL_law_r25 : GoodIn lw_tbl wsL_law_r25 := goodIn_q _ [1102, 1106, 624, 628, 632, 636] [1101, 43, 1103, 1105, 44, 621, 622, 623, 642, 625, 626, 627, 629, 630, 631, 633, 634, 635] rfl (by decide +kernel) (by decide +kernel)
set_option maxRecDepth 20000 in
theorem gg_wsL_law_r26 : GoodIn lw_tbl wsL_law_r26 := goodIn_q _ [641, 1110, 1115, 1119, 646] [637, 638, 639, 640, 1107, 1108, 1109, 1111, 1112, 1114, 45, 1116, 1118, 46, 643, 644, 645, 647, 648] rfl (by decide +kernel) (by decide +kernel)
set_option maxRecDepth 20000 in
theorem gg_wsL_law_r27 : GoodIn lw_tbl wsL_law_r27 := goodIn_q _ [650, 654, 1123, 1127, 1131] [649, 655, 656, 92, 651, 652, 653, 1120, 1121, 1122, 1124, 1126, 47, 1128, 1130, 48, 657, 658, 659] rfl (by decide +kernel) (by decide +kernel)
set_option maxRecDepth 20000 in
theorem gg_wsL_law_r28 : GoodIn lw_tbl wsL_law_r28 := goodIn_q _ [660, 664, 1135, 1139, 1143, 669] [661, 662, 663, 98, 665, 1132, 1133, 1134, 1136, 1138, 49, 1140, 1142, 50, 666, 667, 668, 670] rfl (by decide +kernel) (by decide +kernel)
set_option maxRecDepth 20000 in
theorem gg_wsL_law_r29 : GoodIn lw_tbl wsL_law_r29 := goodIn_q _ [674, 678, 683, 1147, 1151] [671, 672, 673, 187, 188, 675, 676, 677, 679, 680, 681, 682, 1144, 1145, 1146, 1148, 1150, 51, 684] rfl (by decide +kernel) (by decide +kernel)
set_option maxRecDepth 20000 in
theorem gg_wsL_law_r30 : GoodIn lw_tbl wsL_law_r30 := goodIn_q _ [687, 691, 1155, 1159, 695, 1163] [685, 686, 688, 689, 690, 1152, 1153, 1154, 1156, 1158, 52, 692, 693, 694, 1160, 1161, 1162, 696] rfl (by decide +kernel) (by decide +kernel)
set_option maxRecDepth 20000 in
theorem gg_wsL_law_r31 : GoodIn lw_tbl wsL_law_r31 := goodIn_q _ [699, 1167, 703, 707, 711, 715] [697, 698, 1164, 1165, 1166, 700, 701, 702, 704, 706, 19, 708, 710, 20, 712, 714, 21, 716] rfl (by decide +kernel) (by decide +kernel)
set_option maxRecDepth 20000 in
theorem gg_wsL_law_r32 : GoodIn lw_tbl wsL_law_r32 := goodIn_q _ [719, 1171, 1175, 723, 727, 1179] [718, 22, 1168, 1169, 1170, 937, 1172, 1174, 53, 720, 721, 722, 724, 725, 726, 1176, 1177, 1178] rfl (by decide +kernel) (by decide +kernel)
set_option maxRecDepth 20000 in
theorem gg_wsL_law_r33 : GoodIn lw_tbl wsL_law_r33 := goodIn_q _ [1183, 731, 735, 738, 742, 746] [1180, 1181, 1182, 728, 729, 730, 732, 734, 23, 736, 737, 739, 740, 741, 743, 745, 24, 1184] rfl (by decide +kernel) (by decide +kernel)
set_option maxRecDepth 20000 in
theorem gg_wsL_law_r34 : GoodIn lw_tbl wsL_law_r34 := goodIn_q _ [1187, 1191, 1195, 750, 754, 1199] [1185, 1186, 1188, 1190, 54, 1192, 1194, 55, 747, 748, 749, 751, 753, 25, 1196, 1197, 1198, 1200] rfl (by decide +kernel) (by decide +kernel)
set_option maxRecDepth 20000 in
theorem gg_wsL_law_r35 : GoodIn lw_tbl wsL_law_r35 := goodIn_q _ [1203, 758, 1207, 762, 1211, 766] [1202, 56, 755, 756, 757, 1204, 1205, 1206, 759, 760, 761, 1208, 1209, 1210, 763, 764, 765, 1212] rfl (by decide +kernel) (by decide +kernel)
set_option maxRecDepth 20000 in
theorem gg_wsL_law_r36 : GoodIn lw_tbl wsL_law_r36 := goodIn_q _ [1215, 770, 774, 780, 784] [1213, 1214, 767, 768, 769, 771, 772, 773, 775, 776, 255, 777, 778, 779, 781, 782, 783, 1216, 1217] rfl (by decide +kernel) (by decide +kernel)
set_option maxRecDepth 20000 in
theorem gg_wsL_law_r37 : GoodIn lw_tbl wsL_law_r37 := goodIn_q _ [1219, 788, 793, 1223, 1228] [1218, 785, 786, 787, 789, 790, 791, 792, 794, 795, 796, 1220, 1221, 1222, 1224, 1225, 1227, 57, 1229] rfl (by decide +kernel) (by decide +kernel)
set_option maxRecDepth 20000 in
theorem gg_wsL_law_r38 : GoodIn lw_tbl wsL_law_r38 := goodIn_q _ [800, 1235, 804, 1239, 808] [1230, 1231, 797, 798, 799, 1232, 1233, 1234, 801, 802, 803, 269, 1236, 1237, 1238, 907, 805, 806, 807] rfl (by decide +kernel) (by decide +kernel)
set_option maxRecDepth 20000 in
theorem gg_wsL_law_r39 : GoodIn lw_tbl wsL_law_r39 := goodIn_q _ [1243, 812, 815, 1247, 819, 1251] [1240, 1241, 1242, 809, 810, 811, 813, 814, 1244, 1245, 1246, 816, 817, 818, 820, 1248, 1249, 1250] rfl (by decide +kernel) (by decide +kernel)
set_option maxRecDepth 20000 in
theorem gg_wsL_law_r40 : GoodIn lw_tbl wsL_law_r40 := goodIn_q _ [824, 828, 1255, 833, 1259] [821, 822, 823, 829, 825, 826, 827, 1252, 1253, 1254, 830, 831, 832, 834, 1256, 1257, 1258, 1260, 835] rfl (by decide +kernel) (by decide +kernel)
set_option maxRecDepth 20000 in
theorem gg_wsL_law_r41 : GoodIn lw_tbl wsL_law_r41 := goodIn_q _ [838, 841, 1264, 1267] [836, 837, 839, 840, 1261, 1262, 1263, 1265, 1266] rfl (by decide +kernel) (by decide +kernel)
set_option maxRecDepth 20000 in
theorem gg_wsX00 : GoodIn lw_tbl wsX00 := goodIn_q _ [] [189, 191] rfl (by decide +kernel) (by decide +kernel)
set_option maxRecDepth 20000 in
theorem gg_wsX10 : GoodIn lw_tbl wsX10 := goodIn_q _ [] [114, 116, 118, 120, 122, 124, 126, 128, 130] rfl (by decide +kernel) (by decide +kernel)
set_option maxRecDepth 20000 in
theorem gg_wsX20 : GoodIn lw_tbl wsX20 := goodIn_q _ [] [158, 160, 162, 164, 166, 168, 170, 172, 174, 176, 178] rfl (by decide +kernel) (by decide +kernel)
set_option maxRecDepth 20000 in
theorem gg_wsX30 : GoodIn lw_tbl wsX30 := goodIn_q _ [] [259, 261, 263] rfl (by decide +kernel) (by decide +kernel)
set_option maxRecDepth 20000 in
theorem gg_wsX40 : GoodIn lw_tbl wsX40 := goodIn_q _ [] [225, 227, 229, 231, 233, 235, 237, 239, 241, 243] rfl (by decide +kernel) (by decide +kernel)
set_option maxRecDepth 20000 in
theorem gg_wsX50 : GoodIn lw_tbl wsX50 := goodIn_q _ [] [202, 204] rfl (by decide +kernel) (by decide +kernel)
set_option maxRecDepth 20000 in
theorem gg_wsX60 : GoodIn lw_tbl wsX60 := goodIn_q _ [] [278, 280, 282, 284, 286, 288, 290, 292, 294, 296, 298, 300] rfl (by decide +kernel) (by decide +kernel)
set_option maxRecDepth 20000 in
theorem gg_wsX70 : GoodIn lw_tbl wsX70 := goodIn_q _ [] [938, 940, 942, 944, 946, 948, 950, 952, 954, 956, 958, 960, 962, 964, 966, 968, 970, 972, 974, 976, 978, 980, 982, 984, 986, 988, 990, 992, 994, 996, 998, 1000, 1002, 1004, 1006, 1008, 1010, 1012, 1014, 1016, 1018, 1020, 1022] rfl (by decide +kernel) (by decide +kernel)
set_option maxRecDepth 20000 in
theorem wsL_law_in : ∀ w ∈ wsL_law, w ∈ lw_tbl := fun w h => ((goodIn_app (goodIn_app (goodIn_app (goodIn_app (goodIn_app (goodIn_app (goodIn_app (goodIn_app (goodIn_app (goodIn_app gg_wsL_law_r1 (goodIn_app gg_wsL_law_r2 (goodIn_app gg_wsL_law_r3 (goodIn_app gg_wsL_law_r4 (goodIn_app gg_wsL_law_r5 (goodIn_app gg_wsL_law_r6 (goodIn_app gg_wsL_law_r7 (goodIn_app gg_wsL_law_r8 (goodIn_app gg_wsL_law_r9 (goodIn_app gg_wsL_law_r10 (goodIn_app gg_wsL_law_r11 (goodIn_app gg_wsL_law_r12 (goodIn_app gg_wsL_law_r13 (goodIn_app gg_wsL_law_r14 (goodIn_app gg_wsL_law_r15 (goodIn_app gg_wsL_law_r16 (goodIn_app gg_wsL_law_r17 (goodIn_app gg_wsL_law_r18 (goodIn_app gg_wsL_law_r19 (goodIn_app gg_wsL_law_r20 (goodIn_app gg_wsL_law_r21 (goodIn_app gg_wsL_law_r22 (goodIn_app gg_wsL_law_r23 (goodIn_app gg_wsL_law_r24 (goodIn_app gg_wsL_law_r25 (goodIn_app gg_wsL_law_r26 (goodIn_app gg_wsL_law_r27 (goodIn_app gg_wsL_law_r28 (goodIn_app gg_wsL_law_r29 (goodIn_app gg_wsL_law_r30 (goodIn_app gg_wsL_law_r31 (goodIn_app gg_wsL_law_r32 (goodIn_app gg_wsL_law_r33 (goodIn_app gg_wsL_law_r34 (goodIn_app gg_wsL_law_r35 (goodIn_app gg_wsL_law_r36 (goodIn_app gg_wsL_law_r37 (goodIn_app gg_wsL_law_r38 (goodIn_app gg_wsL_law_r39 (goodIn_app gg_wsL_law_r40 gg_wsL_law_r41)))))))))))))))))))))))))))))))))))))))) gg_wsX60) gg_wsX70) gg_wsX10) gg_wsX20) gg_wsX00) gg_wsX50) gg_wsX40) gg_wsX30) (fun _ h => absurd h List.not_mem_nil)) w h).1
theorem inlX0 : ∀ w ∈ wsX00, w ∈ wsL_law := fun _ h => List.mem_append_left _ (List.mem_append_left _ (List.mem_append_left _ (List.mem_append_left _ (List.mem_append_right _ h))))
theorem inX0 : ∀ w ∈ wsX00, w ∈ lw_tbl := fun w h => wsL_law_in w (inlX0 w h)
theorem inlX1 : ∀ w ∈ wsX10, w ∈ wsL_law := fun _ h => List.mem_append_left _ (List.mem_append_left _ (List.mem_append_left _ (List.mem_append_left _ (List.mem_append_left _ (List.mem_append_left _ (List.mem_append_right _ h))))))
theorem inX1 : ∀ w ∈ wsX10, w ∈ lw_tbl := fun w h => wsL_law_in w (inlX1 w h)
theorem inlX2 : ∀ w ∈ wsX20, w ∈ wsL_law := fun _ h => List.mem_append_left _ (List.mem_append_left _ (List.mem_append_left _ (List.mem_append_left _ (List.mem_append_left _ (List.mem_append_right _ h)))))
theorem inX2 : ∀ w ∈ wsX20, w ∈ lw_tbl := fun w h => wsL_law_in w (inlX2 w h)
theorem inlX3 : ∀ w ∈ wsX30, w ∈ wsL_law := fun _ h => List.mem_append_left _ (List.mem_append_right _ h)
theorem inX3 : ∀ w ∈ wsX30, w ∈ lw_tbl := fun w h => wsL_law_in w (inlX3 w h)
theorem inlX4 : ∀ w ∈ wsX40, w ∈ wsL_law := fun _ h => List.mem_append_left _ (List.mem_append_left _ (List.mem_append_right _ h))
theorem inX4 : ∀ w ∈ wsX40, w ∈ lw_tbl := fun w h => wsL_law_in w (inlX4 w h)
theorem inlX5 : ∀ w ∈ wsX50, w ∈ wsL_law := fun _ h => List.mem_append_left _ (List.mem_append_left _ (List.mem_append_left _ (List.mem_append_right _ h)))
theorem inX5 : ∀ w ∈ wsX50, w ∈ lw_tbl := fun w h => wsL_law_in w (inlX5 w h)
theorem inlX6 : ∀ w ∈ wsX60, w ∈ wsL_law := fun _ h => List.mem_append_left _ (List.mem_append_left _ (List.mem_append_left _ (List.mem_append_left _ (List.mem_append_left _ (List.mem_append_left _ (List.mem_append_left _ (List.mem_append_left _ (List.mem_append_right _ h))))))))
theorem inX6 : ∀ w ∈ wsX60, w ∈ lw_tbl := fun w h => wsL_law_in w (inlX6 w h)
theorem inlX7 : ∀ w ∈ wsX70, w ∈ wsL_law := fun _ h => List.mem_append_left _ (List.mem_append_left _ (List.mem_append_left _ (List.mem_append_left _ (List.mem_append_left _ (List.mem_append_left _ (List.mem_append_left _ (List.mem_append_right _ h)))))))
theorem inX7 : ∀ w ∈ wsX70, w ∈ lw_tbl := fun w h => wsL_law_in w (inlX7 w h)
theorem inJ11 : ∀ w ∈ wsJ110, w ∈ lw_tbl := by decide +kernel
theorem inJ9 : ∀ w ∈ wsJ90, w ∈ lw_tbl := by decide +kernel
theorem inJ0 : ∀ w ∈ wsJ00, w ∈ lw_tbl := by decide +kernel
theorem inJ1 : ∀ w ∈ wsJ10, w ∈ lw_tbl := by decide +kernel
theorem inJ2 : ∀ w ∈ wsJ20, w ∈ lw_tbl := by decide +kernel
theorem inJ10 : ∀ w ∈ wsJ100, w ∈ lw_tbl := by decide +kernel
theorem inJ3 : ∀ w ∈ wsJ30, w ∈ lw_tbl := by decide +kernel
