/-! ===== the words of the tables, by their places ===== -/
theorem uL_uC_1 : uC_1 = [72, 73, 59, 868, 869, 69, 1262, 74, 75, 76, 77, 78, 79, 80, 81, 60, 331, 111, 112, 61, 332, 163, 164, 62].filterMap (fun i => lw_tbl[i]?) := by decide +kernel
theorem uL_uC_2 : uC_2 = [333, 195, 196, 63, 334, 235, 236, 65, 335, 248, 249, 66, 336, 276, 277, 67, 337, 305, 306, 68, 338, 82, 83, 84].filterMap (fun i => lw_tbl[i]?) := by decide +kernel
theorem uL_uC_3 : uC_3 = [85, 110, 89, 90, 91, 92, 93, 113, 114, 115, 116, 117, 118, 119, 120, 121, 122, 123, 124, 125, 126, 127, 165, 166].filterMap (fun i => lw_tbl[i]?) := by decide +kernel
theorem uL_uC_4 : uC_4 = [167, 168, 171, 172, 173, 174, 175, 176, 177, 197, 198, 199, 200, 216, 201, 202, 64, 217, 218, 219, 220, 221, 203, 204].filterMap (fun i => lw_tbl[i]?) := by decide +kernel
theorem uL_uC_5 : uC_5 = [205, 206, 210, 237, 238, 239, 240, 241, 242, 250, 251, 252, 253, 254, 255, 256, 257, 258, 259, 260, 278, 279, 280, 281].filterMap (fun i => lw_tbl[i]?) := by decide +kernel
theorem uL_uC_6 : uC_6 = [290, 291, 307, 308, 309, 310, 311, 322, 324, 312, 313, 314, 315, 316, 317, 318, 320, 0, 321, 207, 870, 871, 872, 873].filterMap (fun i => lw_tbl[i]?) := by decide +kernel
theorem uL_uC_7 : uC_7 = [883, 884, 886, 887, 888, 889, 890, 891, 892, 893, 894, 896, 897, 898, 899, 900, 901, 902, 903, 904, 905, 906, 907, 908].filterMap (fun i => lw_tbl[i]?) := by decide +kernel
theorem uL_uC_8 : uC_8 = [909, 910, 874, 876, 26, 877, 878, 879, 881, 27, 882, 356, 357, 358, 359, 87, 360, 361, 362, 363, 364, 365, 366, 129].filterMap (fun i => lw_tbl[i]?) := by decide +kernel
theorem uL_uC_9 : uC_9 = [130, 367, 368, 369, 370, 86, 94, 982, 983, 984, 985, 986, 885, 979, 980, 981, 371, 372, 373, 374, 375, 376, 377, 378].filterMap (fun i => lw_tbl[i]?) := by decide +kernel
theorem uL_uC_10 : uC_10 = [379, 380, 381, 382, 987, 988, 989, 990, 995, 996, 997, 991, 993, 28, 994, 383, 384, 385, 386, 387, 388, 389, 390, 998].filterMap (fun i => lw_tbl[i]?) := by decide +kernel
theorem uL_uC_11 : uC_11 = [999, 1000, 1001, 1002, 391, 392, 393, 394, 395, 396, 397, 398, 399, 400, 402, 1, 403, 404, 405, 406, 407, 408, 410, 2].filterMap (fun i => lw_tbl[i]?) := by decide +kernel
theorem uL_uC_12 : uC_12 = [411, 412, 414, 3, 415, 416, 417, 418, 419, 420, 421, 422, 423, 424, 425, 426, 427, 428, 429, 430, 431, 1003, 1004, 1005].filterMap (fun i => lw_tbl[i]?) := by decide +kernel
theorem uL_uC_13 : uC_13 = [1006, 1007, 1009, 29, 1010, 1011, 1012, 1013, 1014, 1016, 30, 1017, 1018, 1020, 31, 1021, 1022, 1023, 1024, 1025, 1027, 32, 1028, 1029].filterMap (fun i => lw_tbl[i]?) := by decide +kernel
theorem uL_uC_14 : uC_14 = [1031, 33, 1032, 432, 433, 434, 435, 436, 437, 438, 439, 88, 128, 440, 441, 443, 4, 444, 451, 452, 70, 453, 445, 447].filterMap (fun i => lw_tbl[i]?) := by decide +kernel
theorem uL_uC_15 : uC_15 = [5, 448, 449, 450, 454, 456, 6, 457, 458, 459, 461, 7, 462, 463, 464, 466, 8, 467, 468, 470, 9, 471, 472, 474].filterMap (fun i => lw_tbl[i]?) := by decide +kernel
theorem uL_uC_16 : uC_16 = [10, 475, 1033, 1034, 1035, 1036, 1037, 1039, 34, 1040, 1041, 1043, 35, 1044, 1049, 1045, 1047, 36, 1048, 1050, 1052, 37, 1053, 476].filterMap (fun i => lw_tbl[i]?) := by decide +kernel
theorem uL_uC_17 : uC_17 = [477, 478, 479, 480, 481, 482, 483, 484, 486, 11, 487, 488, 489, 491, 12, 492, 493, 495, 13, 496, 497, 499, 14, 500].filterMap (fun i => lw_tbl[i]?) := by decide +kernel
theorem uL_uC_18 : uC_18 = [501, 503, 15, 504, 505, 506, 507, 509, 16, 510, 131, 511, 512, 513, 514, 515, 516, 517, 518, 519, 521, 17, 522, 523].filterMap (fun i => lw_tbl[i]?) := by decide +kernel
theorem uL_uC_19 : uC_19 = [524, 525, 1054, 1055, 1056, 1057, 1058, 1060, 38, 1061, 526, 527, 528, 529, 530, 531, 532, 533, 1062, 1063, 1064, 1065, 534, 535].filterMap (fun i => lw_tbl[i]?) := by decide +kernel
theorem uL_uC_20 : uC_20 = [536, 537, 538, 539, 540, 541, 1066, 1067, 1068, 1069, 542, 543, 544, 545, 546, 547, 548, 549, 1070, 1071, 1072, 1073, 550, 551].filterMap (fun i => lw_tbl[i]?) := by decide +kernel
theorem uL_uC_21 : uC_21 = [552, 553, 170, 554, 555, 556, 557, 558, 559, 560, 169, 561, 563, 18, 564, 565, 1074, 1075, 1076, 1077, 1078, 895, 566, 567].filterMap (fun i => lw_tbl[i]?) := by decide +kernel
theorem uL_uC_22 : uC_22 = [568, 569, 570, 571, 572, 573, 574, 575, 576, 577, 1079, 1080, 1081, 1082, 1083, 1085, 39, 1086, 1087, 1089, 40, 1090, 1091, 1092].filterMap (fun i => lw_tbl[i]?) := by decide +kernel
theorem uL_uC_23 : uC_23 = [1093, 578, 579, 580, 581, 582, 583, 584, 585, 586, 588, 19, 589, 590, 592, 20, 593, 594, 595, 596, 597, 598, 600, 21].filterMap (fun i => lw_tbl[i]?) := by decide +kernel
theorem uL_uC_24 : uC_24 = [601, 1094, 1095, 1096, 1097, 1098, 1100, 41, 1101, 602, 603, 604, 605, 606, 607, 608, 609, 1102, 1103, 1104, 1105, 1106, 610, 611].filterMap (fun i => lw_tbl[i]?) := by decide +kernel
theorem uL_uC_25 : uC_25 = [612, 613, 614, 615, 616, 617, 618, 619, 620, 621, 1107, 1108, 1109, 1110, 1111, 1113, 42, 1114, 1115, 1117, 43, 1118, 622, 623].filterMap (fun i => lw_tbl[i]?) := by decide +kernel
theorem uL_uC_26 : uC_26 = [624, 625, 626, 627, 628, 629, 630, 631, 632, 1119, 1120, 1121, 1122, 1123, 1125, 44, 1126, 1127, 1129, 45, 1130, 1131, 1133, 46].filterMap (fun i => lw_tbl[i]?) := by decide +kernel
theorem uL_uC_27 : uC_27 = [1134, 1135, 1137, 47, 1138, 1139, 1141, 48, 1142, 1143, 1145, 49, 1146, 1147, 1149, 50, 1150, 1151, 1152, 1154, 51, 1155, 633, 634].filterMap (fun i => lw_tbl[i]?) := by decide +kernel
theorem uL_uC_28 : uC_28 = [635, 636, 637, 638, 639, 640, 641, 642, 643, 645, 22, 646, 647, 648, 649, 650, 651, 652, 653, 654, 655, 656, 657, 658].filterMap (fun i => lw_tbl[i]?) := by decide +kernel
theorem uL_uC_29 : uC_29 = [659, 661, 23, 662, 208, 663, 664, 665, 666, 667, 668, 669, 670, 671, 672, 673, 674, 675, 676, 677, 1156, 1157, 1158, 1159].filterMap (fun i => lw_tbl[i]?) := by decide +kernel
theorem uL_uC_30 : uC_30 = [1160, 1161, 1163, 52, 1164, 1165, 1167, 53, 1168, 1169, 1171, 54, 1172, 678, 679, 680, 681, 682, 683, 684, 685, 1173, 1174, 1175].filterMap (fun i => lw_tbl[i]?) := by decide +kernel
theorem uL_uC_31 : uC_31 = [1176, 686, 687, 688, 689, 690, 691, 692, 693, 694, 695, 696, 697, 698, 699, 700, 701, 1177, 1178, 1179, 1180, 702, 703, 704].filterMap (fun i => lw_tbl[i]?) := by decide +kernel
theorem uL_uC_32 : uC_32 = [705, 706, 1181, 1182, 1183, 1184, 1185, 1186, 1187, 1188, 707, 708, 709, 710, 711, 1189, 1190, 1191, 1192, 1193, 712, 713, 714, 715].filterMap (fun i => lw_tbl[i]?) := by decide +kernel
theorem uL_uC_33 : uC_33 = [716, 717, 718, 719, 720, 721, 722, 1194, 1195, 1196, 1197, 1201, 1198, 1199, 1200, 723, 724, 725, 726, 727, 728, 729, 730, 1202].filterMap (fun i => lw_tbl[i]?) := by decide +kernel
theorem uL_uC_34 : uC_34 = [1203, 1204, 1205, 731, 732, 733, 734, 735, 736, 737, 738, 739, 740, 742, 24, 743, 744, 746, 25, 747, 748, 749, 750, 751].filterMap (fun i => lw_tbl[i]?) := by decide +kernel
theorem uL_uC_35 : uC_35 = [1206, 1207, 1208, 1209, 1210, 1211, 1213, 55, 1214, 752, 753, 754, 755, 756, 757, 758, 759, 760, 761, 762, 763, 1215, 1216, 1217].filterMap (fun i => lw_tbl[i]?) := by decide +kernel
theorem uL_uC_36 : uC_36 = [1218, 1219, 1221, 56, 1222, 764, 765, 766, 767, 768, 769, 770, 771, 772, 773, 774, 71, 775, 776, 777, 778, 1223, 1224, 1225].filterMap (fun i => lw_tbl[i]?) := by decide +kernel
theorem uL_uC_37 : uC_37 = [1226, 1227, 1228, 1229, 1230, 779, 780, 781, 782, 283, 783, 784, 785, 786, 282, 1231, 1232, 1233, 1234, 911, 787, 788, 789, 790].filterMap (fun i => lw_tbl[i]?) := by decide +kernel
theorem uL_uC_38 : uC_38 = [791, 792, 793, 794, 1235, 1236, 1237, 1238, 795, 796, 797, 798, 287, 289, 285, 803, 799, 800, 801, 802, 284, 286, 288, 1239].filterMap (fun i => lw_tbl[i]?) := by decide +kernel
theorem uL_uC_39 : uC_39 = [1240, 1241, 1242, 1243, 804, 805, 806, 807, 323, 209, 325, 971, 972, 973, 974, 808, 809, 810, 811, 812, 813, 814, 815, 975].filterMap (fun i => lw_tbl[i]?) := by decide +kernel
theorem uL_uC_40 : uC_40 = [976, 977, 978, 816, 817, 818, 819, 820, 821, 822, 823, 1244, 1245, 1246, 1247, 1248, 1250, 57, 1251, 824, 825, 826, 827, 828].filterMap (fun i => lw_tbl[i]?) := by decide +kernel
theorem uL_uC_41 : uC_41 = [829, 830, 831, 832, 833, 834, 835, 836, 837, 838, 839, 840, 841, 842, 843, 844, 845, 846, 847, 848, 849, 850, 851, 852].filterMap (fun i => lw_tbl[i]?) := by decide +kernel
theorem uL_uC_42 : uC_42 = [853, 854, 855, 856, 857, 858, 859, 860, 861, 862, 863, 864, 865, 866, 867, 1252, 1253, 1254, 1255, 1256, 1257, 1258, 1259, 1260].filterMap (fun i => lw_tbl[i]?) := by decide +kernel
theorem uL_uC_43 : uC_43 = [1261].filterMap (fun i => lw_tbl[i]?) := by decide +kernel
theorem uL_wsX00 : wsX00 = [243, 245].filterMap (fun i => lw_tbl[i]?) := by decide +kernel
theorem uL_wsX10 : wsX10 = [292, 294, 296, 298, 300, 302].filterMap (fun i => lw_tbl[i]?) := by decide +kernel
theorem uL_wsX20 : wsX20 = [326, 328].filterMap (fun i => lw_tbl[i]?) := by decide +kernel
theorem uL_wsX30 : wsX30 = [222, 224, 226, 228, 230, 232].filterMap (fun i => lw_tbl[i]?) := by decide +kernel
theorem uL_wsX40 : wsX40 = [95, 97, 99, 101, 103, 105, 107].filterMap (fun i => lw_tbl[i]?) := by decide +kernel
theorem uL_wsX50 : wsX50 = [178, 180, 182, 184, 186, 188, 190, 192].filterMap (fun i => lw_tbl[i]?) := by decide +kernel
theorem uL_wsX60 : wsX60 = [211, 213].filterMap (fun i => lw_tbl[i]?) := by decide +kernel
theorem uL_wsX70 : wsX70 = [261, 263, 265, 267, 269, 271, 273].filterMap (fun i => lw_tbl[i]?) := by decide +kernel
theorem uL_wsX80 : wsX80 = [132, 134, 136, 138, 140, 142, 144, 146, 148, 150, 152, 154, 156, 158, 160].filterMap (fun i => lw_tbl[i]?) := by decide +kernel
theorem uL_wsX90 : wsX90 = [339, 341, 343, 345, 347, 349, 351, 353].filterMap (fun i => lw_tbl[i]?) := by decide +kernel
theorem uL_wsX100 : wsX100 = [912, 914, 916, 918, 920, 922, 924, 926, 928, 930, 932, 934, 936, 938, 940, 942, 944, 946, 948, 950, 952, 954, 956, 958, 960, 962, 964, 966, 968].filterMap (fun i => lw_tbl[i]?) := by decide +kernel
theorem uLm {l : List Cond} {is : List Nat} (h : l = is.filterMap (fun i => lw_tbl[i]?)) : ∀ w ∈ l, w ∈ lw_tbl := fun w hw => by
  rw [h] at hw
  obtain ⟨i, _, hi⟩ := List.mem_filterMap.mp hw
  exact List.mem_of_getElem? hi
theorem uLs_54 : ∀ w ∈ uS_54, w ∈ lw_tbl := fun w hw => absurd hw List.not_mem_nil
theorem uLs_53 : ∀ w ∈ uS_53, w ∈ lw_tbl := fun w hw => (List.mem_append.mp hw).elim (uLm uL_wsX60 w) (uLs_54 w)
theorem uLs_52 : ∀ w ∈ uS_52, w ∈ lw_tbl := fun w hw => (List.mem_append.mp hw).elim (uLm uL_wsX20 w) (uLs_53 w)
theorem uLs_51 : ∀ w ∈ uS_51, w ∈ lw_tbl := fun w hw => (List.mem_append.mp hw).elim (uLm uL_wsX10 w) (uLs_52 w)
theorem uLs_50 : ∀ w ∈ uS_50, w ∈ lw_tbl := fun w hw => (List.mem_append.mp hw).elim (uLm uL_wsX70 w) (uLs_51 w)
theorem uLs_49 : ∀ w ∈ uS_49, w ∈ lw_tbl := fun w hw => (List.mem_append.mp hw).elim (uLm uL_wsX00 w) (uLs_50 w)
theorem uLs_48 : ∀ w ∈ uS_48, w ∈ lw_tbl := fun w hw => (List.mem_append.mp hw).elim (uLm uL_wsX30 w) (uLs_49 w)
theorem uLs_47 : ∀ w ∈ uS_47, w ∈ lw_tbl := fun w hw => (List.mem_append.mp hw).elim (uLm uL_wsX50 w) (uLs_48 w)
theorem uLs_46 : ∀ w ∈ uS_46, w ∈ lw_tbl := fun w hw => (List.mem_append.mp hw).elim (uLm uL_wsX80 w) (uLs_47 w)
theorem uLs_45 : ∀ w ∈ uS_45, w ∈ lw_tbl := fun w hw => (List.mem_append.mp hw).elim (uLm uL_wsX40 w) (uLs_46 w)
theorem uLs_44 : ∀ w ∈ uS_44, w ∈ lw_tbl := fun w hw => (List.mem_append.mp hw).elim (uLm uL_wsX100 w) (uLs_45 w)
theorem uLs_43 : ∀ w ∈ uS_43, w ∈ lw_tbl := fun w hw => (List.mem_append.mp hw).elim (uLm uL_wsX90 w) (uLs_44 w)
theorem uLs_42 : ∀ w ∈ uS_42, w ∈ lw_tbl := fun w hw => (List.mem_append.mp hw).elim (uLm uL_uC_43 w) (uLs_43 w)
theorem uLs_41 : ∀ w ∈ uS_41, w ∈ lw_tbl := fun w hw => (List.mem_append.mp hw).elim (uLm uL_uC_42 w) (uLs_42 w)
theorem uLs_40 : ∀ w ∈ uS_40, w ∈ lw_tbl := fun w hw => (List.mem_append.mp hw).elim (uLm uL_uC_41 w) (uLs_41 w)
theorem uLs_39 : ∀ w ∈ uS_39, w ∈ lw_tbl := fun w hw => (List.mem_append.mp hw).elim (uLm uL_uC_40 w) (uLs_40 w)
theorem uLs_38 : ∀ w ∈ uS_38, w ∈ lw_tbl := fun w hw => (List.mem_append.mp hw).elim (uLm uL_uC_39 w) (uLs_39 w)
theorem uLs_37 : ∀ w ∈ uS_37, w ∈ lw_tbl := fun w hw => (List.mem_append.mp hw).elim (uLm uL_uC_38 w) (uLs_38 w)
theorem uLs_36 : ∀ w ∈ uS_36, w ∈ lw_tbl := fun w hw => (List.mem_append.mp hw).elim (uLm uL_uC_37 w) (uLs_37 w)
theorem uLs_35 : ∀ w ∈ uS_35, w ∈ lw_tbl := fun w hw => (List.mem_append.mp hw).elim (uLm uL_uC_36 w) (uLs_36 w)
theorem uLs_34 : ∀ w ∈ uS_34, w ∈ lw_tbl := fun w hw => (List.mem_append.mp hw).elim (uLm uL_uC_35 w) (uLs_35 w)
theorem uLs_33 : ∀ w ∈ uS_33, w ∈ lw_tbl := fun w hw => (List.mem_append.mp hw).elim (uLm uL_uC_34 w) (uLs_34 w)
theorem uLs_32 : ∀ w ∈ uS_32, w ∈ lw_tbl := fun w hw => (List.mem_append.mp hw).elim (uLm uL_uC_33 w) (uLs_33 w)
theorem uLs_31 : ∀ w ∈ uS_31, w ∈ lw_tbl := fun w hw => (List.mem_append.mp hw).elim (uLm uL_uC_32 w) (uLs_32 w)
theorem uLs_30 : ∀ w ∈ uS_30, w ∈ lw_tbl := fun w hw => (List.mem_append.mp hw).elim (uLm uL_uC_31 w) (uLs_31 w)
theorem uLs_29 : ∀ w ∈ uS_29, w ∈ lw_tbl := fun w hw => (List.mem_append.mp hw).elim (uLm uL_uC_30 w) (uLs_30 w)
theorem uLs_28 : ∀ w ∈ uS_28, w ∈ lw_tbl := fun w hw => (List.mem_append.mp hw).elim (uLm uL_uC_29 w) (uLs_29 w)
theorem uLs_27 : ∀ w ∈ uS_27, w ∈ lw_tbl := fun w hw => (List.mem_append.mp hw).elim (uLm uL_uC_28 w) (uLs_28 w)
theorem uLs_26 : ∀ w ∈ uS_26, w ∈ lw_tbl := fun w hw => (List.mem_append.mp hw).elim (uLm uL_uC_27 w) (uLs_27 w)
theorem uLs_25 : ∀ w ∈ uS_25, w ∈ lw_tbl := fun w hw => (List.mem_append.mp hw).elim (uLm uL_uC_26 w) (uLs_26 w)
theorem uLs_24 : ∀ w ∈ uS_24, w ∈ lw_tbl := fun w hw => (List.mem_append.mp hw).elim (uLm uL_uC_25 w) (uLs_25 w)
theorem uLs_23 : ∀ w ∈ uS_23, w ∈ lw_tbl := fun w hw => (List.mem_append.mp hw).elim (uLm uL_uC_24 w) (uLs_24 w)
theorem uLs_22 : ∀ w ∈ uS_22, w ∈ lw_tbl := fun w hw => (List.mem_append.mp hw).elim (uLm uL_uC_23 w) (uLs_23 w)
theorem uLs_21 : ∀ w ∈ uS_21, w ∈ lw_tbl := fun w hw => (List.mem_append.mp hw).elim (uLm uL_uC_22 w) (uLs_22 w)
theorem uLs_20 : ∀ w ∈ uS_20, w ∈ lw_tbl := fun w hw => (List.mem_append.mp hw).elim (uLm uL_uC_21 w) (uLs_21 w)
theorem uLs_19 : ∀ w ∈ uS_19, w ∈ lw_tbl := fun w hw => (List.mem_append.mp hw).elim (uLm uL_uC_20 w) (uLs_20 w)
theorem uLs_18 : ∀ w ∈ uS_18, w ∈ lw_tbl := fun w hw => (List.mem_append.mp hw).elim (uLm uL_uC_19 w) (uLs_19 w)
theorem uLs_17 : ∀ w ∈ uS_17, w ∈ lw_tbl := fun w hw => (List.mem_append.mp hw).elim (uLm uL_uC_18 w) (uLs_18 w)
theorem uLs_16 : ∀ w ∈ uS_16, w ∈ lw_tbl := fun w hw => (List.mem_append.mp hw).elim (uLm uL_uC_17 w) (uLs_17 w)
theorem uLs_15 : ∀ w ∈ uS_15, w ∈ lw_tbl := fun w hw => (List.mem_append.mp hw).elim (uLm uL_uC_16 w) (uLs_16 w)
theorem uLs_14 : ∀ w ∈ uS_14, w ∈ lw_tbl := fun w hw => (List.mem_append.mp hw).elim (uLm uL_uC_15 w) (uLs_15 w)
theorem uLs_13 : ∀ w ∈ uS_13, w ∈ lw_tbl := fun w hw => (List.mem_append.mp hw).elim (uLm uL_uC_14 w) (uLs_14 w)
theorem uLs_12 : ∀ w ∈ uS_12, w ∈ lw_tbl := fun w hw => (List.mem_append.mp hw).elim (uLm uL_uC_13 w) (uLs_13 w)
theorem uLs_11 : ∀ w ∈ uS_11, w ∈ lw_tbl := fun w hw => (List.mem_append.mp hw).elim (uLm uL_uC_12 w) (uLs_12 w)
theorem uLs_10 : ∀ w ∈ uS_10, w ∈ lw_tbl := fun w hw => (List.mem_append.mp hw).elim (uLm uL_uC_11 w) (uLs_11 w)
theorem uLs_9 : ∀ w ∈ uS_9, w ∈ lw_tbl := fun w hw => (List.mem_append.mp hw).elim (uLm uL_uC_10 w) (uLs_10 w)
theorem uLs_8 : ∀ w ∈ uS_8, w ∈ lw_tbl := fun w hw => (List.mem_append.mp hw).elim (uLm uL_uC_9 w) (uLs_9 w)
theorem uLs_7 : ∀ w ∈ uS_7, w ∈ lw_tbl := fun w hw => (List.mem_append.mp hw).elim (uLm uL_uC_8 w) (uLs_8 w)
theorem uLs_6 : ∀ w ∈ uS_6, w ∈ lw_tbl := fun w hw => (List.mem_append.mp hw).elim (uLm uL_uC_7 w) (uLs_7 w)
theorem uLs_5 : ∀ w ∈ uS_5, w ∈ lw_tbl := fun w hw => (List.mem_append.mp hw).elim (uLm uL_uC_6 w) (uLs_6 w)
theorem uLs_4 : ∀ w ∈ uS_4, w ∈ lw_tbl := fun w hw => (List.mem_append.mp hw).elim (uLm uL_uC_5 w) (uLs_5 w)
theorem uLs_3 : ∀ w ∈ uS_3, w ∈ lw_tbl := fun w hw => (List.mem_append.mp hw).elim (uLm uL_uC_4 w) (uLs_4 w)
theorem uLs_2 : ∀ w ∈ uS_2, w ∈ lw_tbl := fun w hw => (List.mem_append.mp hw).elim (uLm uL_uC_3 w) (uLs_3 w)
theorem uLs_1 : ∀ w ∈ uS_1, w ∈ lw_tbl := fun w hw => (List.mem_append.mp hw).elim (uLm uL_uC_2 w) (uLs_2 w)
theorem uLs_0 : ∀ w ∈ uS_0, w ∈ lw_tbl := fun w hw => (List.mem_append.mp hw).elim (uLm uL_uC_1 w) (uLs_1 w)
theorem uU_tbl : ∀ w ∈ uU, w ∈ lw_tbl := uLs_0
