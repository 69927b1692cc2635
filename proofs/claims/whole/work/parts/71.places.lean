/-! ===== the words of the tables, by their places ===== -/
theorem uL_uC_1 : uC_1 = [72, 73, 59, 869, 870, 69, 1263, 74, 75, 76, 77, 78, 79, 80, 81, 60, 333, 118, 332, 164, 165, 62, 334, 196].filterMap (fun i => lw_tbl[i]?) := by decide +kernel
theorem uL_uC_2 : uC_2 = [197, 63, 335, 236, 237, 65, 336, 249, 250, 66, 337, 277, 278, 67, 338, 306, 307, 68, 339, 82, 83, 84, 85, 86].filterMap (fun i => lw_tbl[i]?) := by decide +kernel
theorem uL_uC_3 : uC_3 = [87, 61, 117, 116, 119, 120, 121, 122, 123, 124, 125, 126, 127, 128, 88, 89, 90, 91, 95, 96, 97, 98, 99, 166].filterMap (fun i => lw_tbl[i]?) := by decide +kernel
theorem uL_uC_4 : uC_4 = [167, 168, 169, 172, 173, 174, 175, 176, 177, 178, 198, 199, 200, 201, 217, 202, 203, 64, 218, 219, 220, 221, 222, 204].filterMap (fun i => lw_tbl[i]?) := by decide +kernel
theorem uL_uC_5 : uC_5 = [205, 206, 207, 211, 238, 239, 240, 241, 242, 243, 251, 252, 253, 254, 255, 256, 257, 258, 259, 260, 261, 279, 280, 281].filterMap (fun i => lw_tbl[i]?) := by decide +kernel
theorem uL_uC_6 : uC_6 = [282, 291, 292, 308, 309, 310, 311, 312, 323, 325, 313, 314, 315, 316, 317, 318, 319, 321, 0, 322, 208, 871, 872, 873].filterMap (fun i => lw_tbl[i]?) := by decide +kernel
theorem uL_uC_7 : uC_7 = [874, 884, 885, 887, 888, 889, 890, 891, 892, 893, 894, 895, 897, 898, 899, 900, 901, 902, 903, 904, 905, 906, 907, 908].filterMap (fun i => lw_tbl[i]?) := by decide +kernel
theorem uL_uC_8 : uC_8 = [909, 910, 911, 875, 877, 26, 878, 879, 880, 882, 27, 883, 357, 358, 359, 360, 93, 361, 362, 363, 364, 365, 366, 367].filterMap (fun i => lw_tbl[i]?) := by decide +kernel
theorem uL_uC_9 : uC_9 = [130, 131, 368, 369, 370, 371, 92, 100, 983, 984, 985, 986, 987, 886, 980, 981, 982, 372, 373, 374, 375, 376, 377, 378].filterMap (fun i => lw_tbl[i]?) := by decide +kernel
theorem uL_uC_10 : uC_10 = [379, 380, 381, 382, 383, 988, 989, 990, 991, 996, 997, 998, 992, 994, 28, 995, 384, 385, 386, 387, 388, 389, 390, 391].filterMap (fun i => lw_tbl[i]?) := by decide +kernel
theorem uL_uC_11 : uC_11 = [999, 1000, 1001, 1002, 1003, 392, 393, 394, 395, 396, 397, 398, 399, 400, 401, 403, 1, 404, 405, 406, 407, 408, 409, 411].filterMap (fun i => lw_tbl[i]?) := by decide +kernel
theorem uL_uC_12 : uC_12 = [2, 412, 413, 415, 3, 416, 417, 418, 419, 420, 421, 422, 423, 424, 425, 426, 427, 428, 429, 430, 431, 432, 1004, 1005].filterMap (fun i => lw_tbl[i]?) := by decide +kernel
theorem uL_uC_13 : uC_13 = [1006, 1007, 1008, 1010, 29, 1011, 1012, 1013, 1014, 1015, 1017, 30, 1018, 1019, 1021, 31, 1022, 1023, 1024, 1025, 1026, 1028, 32, 1029].filterMap (fun i => lw_tbl[i]?) := by decide +kernel
theorem uL_uC_14 : uC_14 = [1030, 1032, 33, 1033, 433, 434, 435, 436, 437, 438, 439, 440, 94, 129, 441, 442, 444, 4, 445, 452, 453, 70, 454, 446].filterMap (fun i => lw_tbl[i]?) := by decide +kernel
theorem uL_uC_15 : uC_15 = [448, 5, 449, 450, 451, 455, 457, 6, 458, 459, 460, 462, 7, 463, 464, 465, 467, 8, 468, 469, 471, 9, 472, 473].filterMap (fun i => lw_tbl[i]?) := by decide +kernel
theorem uL_uC_16 : uC_16 = [475, 10, 476, 1034, 1035, 1036, 1037, 1038, 1040, 34, 1041, 1042, 1044, 35, 1045, 1050, 1046, 1048, 36, 1049, 1051, 1053, 37, 1054].filterMap (fun i => lw_tbl[i]?) := by decide +kernel
theorem uL_uC_17 : uC_17 = [477, 478, 479, 480, 481, 482, 483, 484, 485, 487, 11, 488, 489, 490, 492, 12, 493, 494, 496, 13, 497, 498, 500, 14].filterMap (fun i => lw_tbl[i]?) := by decide +kernel
theorem uL_uC_18 : uC_18 = [501, 502, 504, 15, 505, 506, 507, 508, 510, 16, 511, 132, 512, 513, 514, 515, 516, 517, 518, 519, 520, 522, 17, 523].filterMap (fun i => lw_tbl[i]?) := by decide +kernel
theorem uL_uC_19 : uC_19 = [524, 525, 526, 1055, 1056, 1057, 1058, 1059, 1061, 38, 1062, 527, 528, 529, 530, 531, 532, 533, 534, 1063, 1064, 1065, 1066, 535].filterMap (fun i => lw_tbl[i]?) := by decide +kernel
theorem uL_uC_20 : uC_20 = [536, 537, 538, 539, 540, 541, 542, 1067, 1068, 1069, 1070, 543, 544, 545, 546, 547, 548, 549, 550, 1071, 1072, 1073, 1074, 551].filterMap (fun i => lw_tbl[i]?) := by decide +kernel
theorem uL_uC_21 : uC_21 = [552, 553, 554, 171, 555, 556, 557, 558, 559, 560, 561, 170, 562, 564, 18, 565, 566, 1075, 1076, 1077, 1078, 1079, 896, 567].filterMap (fun i => lw_tbl[i]?) := by decide +kernel
theorem uL_uC_22 : uC_22 = [568, 569, 570, 571, 572, 573, 574, 575, 576, 577, 578, 1080, 1081, 1082, 1083, 1084, 1086, 39, 1087, 1088, 1090, 40, 1091, 1092].filterMap (fun i => lw_tbl[i]?) := by decide +kernel
theorem uL_uC_23 : uC_23 = [1093, 1094, 579, 580, 581, 582, 583, 584, 585, 586, 587, 589, 19, 590, 591, 593, 20, 594, 595, 596, 597, 598, 599, 601].filterMap (fun i => lw_tbl[i]?) := by decide +kernel
theorem uL_uC_24 : uC_24 = [21, 602, 1095, 1096, 1097, 1098, 1099, 1101, 41, 1102, 603, 604, 605, 606, 607, 608, 609, 610, 1103, 1104, 1105, 1106, 1107, 611].filterMap (fun i => lw_tbl[i]?) := by decide +kernel
theorem uL_uC_25 : uC_25 = [612, 613, 614, 615, 616, 617, 618, 619, 620, 621, 622, 1108, 1109, 1110, 1111, 1112, 1114, 42, 1115, 1116, 1118, 43, 1119, 623].filterMap (fun i => lw_tbl[i]?) := by decide +kernel
theorem uL_uC_26 : uC_26 = [624, 625, 626, 627, 628, 629, 630, 631, 632, 633, 1120, 1121, 1122, 1123, 1124, 1126, 44, 1127, 1128, 1130, 45, 1131, 1132, 1134].filterMap (fun i => lw_tbl[i]?) := by decide +kernel
theorem uL_uC_27 : uC_27 = [46, 1135, 1136, 1138, 47, 1139, 1140, 1142, 48, 1143, 1144, 1146, 49, 1147, 1148, 1150, 50, 1151, 1152, 1153, 1155, 51, 1156, 634].filterMap (fun i => lw_tbl[i]?) := by decide +kernel
theorem uL_uC_28 : uC_28 = [635, 636, 637, 638, 639, 640, 641, 642, 643, 644, 646, 22, 647, 648, 649, 650, 651, 652, 653, 654, 655, 656, 657, 658].filterMap (fun i => lw_tbl[i]?) := by decide +kernel
theorem uL_uC_29 : uC_29 = [659, 660, 662, 23, 663, 209, 664, 665, 666, 667, 668, 669, 670, 671, 672, 673, 674, 675, 676, 677, 678, 1157, 1158, 1159].filterMap (fun i => lw_tbl[i]?) := by decide +kernel
theorem uL_uC_30 : uC_30 = [1160, 1161, 1162, 1164, 52, 1165, 1166, 1168, 53, 1169, 1170, 1172, 54, 1173, 679, 680, 681, 682, 683, 684, 685, 686, 1174, 1175].filterMap (fun i => lw_tbl[i]?) := by decide +kernel
theorem uL_uC_31 : uC_31 = [1176, 1177, 687, 688, 689, 690, 691, 692, 693, 694, 695, 696, 697, 698, 699, 700, 701, 702, 1178, 1179, 1180, 1181, 703, 704].filterMap (fun i => lw_tbl[i]?) := by decide +kernel
theorem uL_uC_32 : uC_32 = [705, 706, 707, 1182, 1183, 1184, 1185, 1186, 1187, 1188, 1189, 708, 709, 710, 711, 712, 1190, 1191, 1192, 1193, 1194, 713, 714, 715].filterMap (fun i => lw_tbl[i]?) := by decide +kernel
theorem uL_uC_33 : uC_33 = [716, 717, 718, 719, 720, 721, 722, 723, 1195, 1196, 1197, 1198, 1202, 1199, 1200, 1201, 724, 725, 726, 727, 728, 729, 730, 731].filterMap (fun i => lw_tbl[i]?) := by decide +kernel
theorem uL_uC_34 : uC_34 = [1203, 1204, 1205, 1206, 732, 733, 734, 735, 736, 737, 738, 739, 740, 741, 743, 24, 744, 745, 747, 25, 748, 749, 750, 751].filterMap (fun i => lw_tbl[i]?) := by decide +kernel
theorem uL_uC_35 : uC_35 = [752, 1207, 1208, 1209, 1210, 1211, 1212, 1214, 55, 1215, 753, 754, 755, 756, 757, 758, 759, 760, 761, 762, 763, 764, 1216, 1217].filterMap (fun i => lw_tbl[i]?) := by decide +kernel
theorem uL_uC_36 : uC_36 = [1218, 1219, 1220, 1222, 56, 1223, 765, 766, 767, 768, 769, 770, 771, 772, 773, 774, 775, 71, 776, 777, 778, 779, 1224, 1225].filterMap (fun i => lw_tbl[i]?) := by decide +kernel
theorem uL_uC_37 : uC_37 = [1226, 1227, 1228, 1229, 1230, 1231, 780, 781, 782, 783, 284, 784, 785, 786, 787, 283, 1232, 1233, 1234, 1235, 912, 788, 789, 790].filterMap (fun i => lw_tbl[i]?) := by decide +kernel
theorem uL_uC_38 : uC_38 = [791, 792, 793, 794, 795, 1236, 1237, 1238, 1239, 796, 797, 798, 799, 288, 290, 286, 804, 800, 801, 802, 803, 285, 287, 289].filterMap (fun i => lw_tbl[i]?) := by decide +kernel
theorem uL_uC_39 : uC_39 = [1240, 1241, 1242, 1243, 1244, 805, 806, 807, 808, 324, 210, 326, 972, 973, 974, 975, 809, 810, 811, 812, 813, 814, 815, 816].filterMap (fun i => lw_tbl[i]?) := by decide +kernel
theorem uL_uC_40 : uC_40 = [976, 977, 978, 979, 817, 818, 819, 820, 821, 822, 823, 824, 1245, 1246, 1247, 1248, 1249, 1251, 57, 1252, 825, 826, 827, 828].filterMap (fun i => lw_tbl[i]?) := by decide +kernel
theorem uL_uC_41 : uC_41 = [829, 830, 831, 832, 833, 834, 835, 836, 837, 838, 839, 840, 841, 842, 843, 844, 845, 846, 847, 848, 849, 850, 851, 852].filterMap (fun i => lw_tbl[i]?) := by decide +kernel
theorem uL_uC_42 : uC_42 = [853, 854, 855, 856, 857, 858, 859, 860, 861, 862, 863, 864, 865, 866, 867, 868, 1253, 1254, 1255, 1256, 1257, 1258, 1259, 1260].filterMap (fun i => lw_tbl[i]?) := by decide +kernel
theorem uL_uC_43 : uC_43 = [1261, 1262].filterMap (fun i => lw_tbl[i]?) := by decide +kernel
theorem uL_wsX00 : wsX00 = [244, 246].filterMap (fun i => lw_tbl[i]?) := by decide +kernel
theorem uL_wsX10 : wsX10 = [293, 295, 297, 299, 301, 303].filterMap (fun i => lw_tbl[i]?) := by decide +kernel
theorem uL_wsX20 : wsX20 = [327, 329].filterMap (fun i => lw_tbl[i]?) := by decide +kernel
theorem uL_wsX30 : wsX30 = [223, 225, 227, 229, 231, 233].filterMap (fun i => lw_tbl[i]?) := by decide +kernel
theorem uL_wsX40 : wsX40 = [101, 103, 105, 107, 109, 111, 113].filterMap (fun i => lw_tbl[i]?) := by decide +kernel
theorem uL_wsX50 : wsX50 = [179, 181, 183, 185, 187, 189, 191, 193].filterMap (fun i => lw_tbl[i]?) := by decide +kernel
theorem uL_wsX60 : wsX60 = [212, 214].filterMap (fun i => lw_tbl[i]?) := by decide +kernel
theorem uL_wsX70 : wsX70 = [262, 264, 266, 268, 270, 272, 274].filterMap (fun i => lw_tbl[i]?) := by decide +kernel
theorem uL_wsX80 : wsX80 = [133, 135, 137, 139, 141, 143, 145, 147, 149, 151, 153, 155, 157, 159, 161].filterMap (fun i => lw_tbl[i]?) := by decide +kernel
theorem uL_wsX90 : wsX90 = [340, 342, 344, 346, 348, 350, 352, 354].filterMap (fun i => lw_tbl[i]?) := by decide +kernel
theorem uL_wsX100 : wsX100 = [913, 915, 917, 919, 921, 923, 925, 927, 929, 931, 933, 935, 937, 939, 941, 943, 945, 947, 949, 951, 953, 955, 957, 959, 961, 963, 965, 967, 969].filterMap (fun i => lw_tbl[i]?) := by decide +kernel
theorem uLm {l : List Cond} {is : List Nat} (h : l = is.filterMap (fun i => lw_tbl[i]?)) : ∀ w ∈ l, w ∈ lw_tbl := fun w hw => by
  rw [h] at hw
  obtain ⟨i, _, hi⟩ := List.mem_filterMap.mp hw
  exact List.mem_of_getElem? hi
theorem uLs_54 : ∀ w ∈ uS_54, w ∈ lw_tbl := fun w hw => absurd hw List.not_mem_nil
theorem uLs_53 : ∀ w ∈ uS_53, w ∈ lw_tbl := fun w hw => (List.mem_append.mp hw).elim (uLm uL_wsX60 w) (uLs_54 w)
theorem uLs_52 : ∀ w ∈ uS_52, w ∈ lw_tbl := fun w hw => (List.mem_append.mp hw).elim (uLm uL_wsX20 w) (uLs_53 w)
theorem uLs_51 : ∀ w ∈ uS_51, w ∈ lw_tbl := fun w hw => (List.mem_append.mp hw).elim (uLm uL_wsX10 w) (uLs_52 w)
theorem uLs_50 : ∀ w ∈ uS_50, w ∈ lw_tbl := fun w hw => (List.mem_append.mp hw).elim (uLm uL_wsX70 w) (uLs_51 w)
theorem uLs_49 : ∀ w ∈ uS_49, w ∈ lw_tbl := fun w hw => (List.mem_append.mp hw).elim (uLm uL_wsX00 w) (uLs_50 w)
theorem uLs_48 : ∀ w ∈ uS_48, w ∈ lw_tbl := fun w hw => (List.mem_append.mp hw).elim (uLm uL_wsX30 w) (uLs_49 w)
theorem uLs_47 : ∀ w ∈ uS_47, w ∈ lw_tbl := fun w hw => (List.mem_append.mp hw).elim (uLm uL_wsX50 w) (uLs_48 w)
theorem uLs_46 : ∀ w ∈ uS_46, w ∈ lw_tbl := fun w hw => (List.mem_append.mp hw).elim (uLm uL_wsX80 w) (uLs_47 w)
theorem uLs_45 : ∀ w ∈ uS_45, w ∈ lw_tbl := fun w hw => (List.mem_append.mp hw).elim (uLm uL_wsX40 w) (uLs_46 w)
theorem uLs_44 : ∀ w ∈ uS_44, w ∈ lw_tbl := fun w hw => (List.mem_append.mp hw).elim (uLm uL_wsX100 w) (uLs_45 w)
theorem uLs_43 : ∀ w ∈ uS_43, w ∈ lw_tbl := fun w hw => (List.mem_append.mp hw).elim (uLm uL_wsX90 w) (uLs_44 w)
theorem uLs_42 : ∀ w ∈ uS_42, w ∈ lw_tbl := fun w hw => (List.mem_append.mp hw).elim (uLm uL_uC_43 w) (uLs_43 w)
theorem uLs_41 : ∀ w ∈ uS_41, w ∈ lw_tbl := fun w hw => (List.mem_append.mp hw).elim (uLm uL_uC_42 w) (uLs_42 w)
theorem uLs_40 : ∀ w ∈ uS_40, w ∈ lw_tbl := fun w hw => (List.mem_append.mp hw).elim (uLm uL_uC_41 w) (uLs_41 w)
theorem uLs_39 : ∀ w ∈ uS_39, w ∈ lw_tbl := fun w hw => (List.mem_append.mp hw).elim (uLm uL_uC_40 w) (uLs_40 w)
theorem uLs_38 : ∀ w ∈ uS_38, w ∈ lw_tbl := fun w hw => (List.mem_append.mp hw).elim (uLm uL_uC_39 w) (uLs_39 w)
theorem uLs_37 : ∀ w ∈ uS_37, w ∈ lw_tbl := fun w hw => (List.mem_append.mp hw).elim (uLm uL_uC_38 w) (uLs_38 w)
theorem uLs_36 : ∀ w ∈ uS_36, w ∈ lw_tbl := fun w hw => (List.mem_append.mp hw).elim (uLm uL_uC_37 w) (uLs_37 w)
theorem uLs_35 : ∀ w ∈ uS_35, w ∈ lw_tbl := fun w hw => (List.mem_append.mp hw).elim (uLm uL_uC_36 w) (uLs_36 w)
theorem uLs_34 : ∀ w ∈ uS_34, w ∈ lw_tbl := fun w hw => (List.mem_append.mp hw).elim (uLm uL_uC_35 w) (uLs_35 w)
theorem uLs_33 : ∀ w ∈ uS_33, w ∈ lw_tbl := fun w hw => (List.mem_append.mp hw).elim (uLm uL_uC_34 w) (uLs_34 w)
theorem uLs_32 : ∀ w ∈ uS_32, w ∈ lw_tbl := fun w hw => (List.mem_append.mp hw).elim (uLm uL_uC_33 w) (uLs_33 w)
theorem uLs_31 : ∀ w ∈ uS_31, w ∈ lw_tbl := fun w hw => (List.mem_append.mp hw).elim (uLm uL_uC_32 w) (uLs_32 w)
theorem uLs_30 : ∀ w ∈ uS_30, w ∈ lw_tbl := fun w hw => (List.mem_append.mp hw).elim (uLm uL_uC_31 w) (uLs_31 w)
theorem uLs_29 : ∀ w ∈ uS_29, w ∈ lw_tbl := fun w hw => (List.mem_append.mp hw).elim (uLm uL_uC_30 w) (uLs_30 w)
theorem uLs_28 : ∀ w ∈ uS_28, w ∈ lw_tbl := fun w hw => (List.mem_append.mp hw).elim (uLm uL_uC_29 w) (uLs_29 w)
theorem uLs_27 : ∀ w ∈ uS_27, w ∈ lw_tbl := fun w hw => (List.mem_append.mp hw).elim (uLm uL_uC_28 w) (uLs_28 w)
theorem uLs_26 : ∀ w ∈ uS_26, w ∈ lw_tbl := fun w hw => (List.mem_append.mp hw).elim (uLm uL_uC_27 w) (uLs_27 w)
theorem uLs_25 : ∀ w ∈ uS_25, w ∈ lw_tbl := fun w hw => (List.mem_append.mp hw).elim (uLm uL_uC_26 w) (uLs_26 w)
theorem uLs_24 : ∀ w ∈ uS_24, w ∈ lw_tbl := fun w hw => (List.mem_append.mp hw).elim (uLm uL_uC_25 w) (uLs_25 w)
theorem uLs_23 : ∀ w ∈ uS_23, w ∈ lw_tbl := fun w hw => (List.mem_append.mp hw).elim (uLm uL_uC_24 w) (uLs_24 w)
theorem uLs_22 : ∀ w ∈ uS_22, w ∈ lw_tbl := fun w hw => (List.mem_append.mp hw).elim (uLm uL_uC_23 w) (uLs_23 w)
theorem uLs_21 : ∀ w ∈ uS_21, w ∈ lw_tbl := fun w hw => (List.mem_append.mp hw).elim (uLm uL_uC_22 w) (uLs_22 w)
theorem uLs_20 : ∀ w ∈ uS_20, w ∈ lw_tbl := fun w hw => (List.mem_append.mp hw).elim (uLm uL_uC_21 w) (uLs_21 w)
theorem uLs_19 : ∀ w ∈ uS_19, w ∈ lw_tbl := fun w hw => (List.mem_append.mp hw).elim (uLm uL_uC_20 w) (uLs_20 w)
theorem uLs_18 : ∀ w ∈ uS_18, w ∈ lw_tbl := fun w hw => (List.mem_append.mp hw).elim (uLm uL_uC_19 w) (uLs_19 w)
theorem uLs_17 : ∀ w ∈ uS_17, w ∈ lw_tbl := fun w hw => (List.mem_append.mp hw).elim (uLm uL_uC_18 w) (uLs_18 w)
theorem uLs_16 : ∀ w ∈ uS_16, w ∈ lw_tbl := fun w hw => (List.mem_append.mp hw).elim (uLm uL_uC_17 w) (uLs_17 w)
theorem uLs_15 : ∀ w ∈ uS_15, w ∈ lw_tbl := fun w hw => (List.mem_append.mp hw).elim (uLm uL_uC_16 w) (uLs_16 w)
theorem uLs_14 : ∀ w ∈ uS_14, w ∈ lw_tbl := fun w hw => (List.mem_append.mp hw).elim (uLm uL_uC_15 w) (uLs_15 w)
theorem uLs_13 : ∀ w ∈ uS_13, w ∈ lw_tbl := fun w hw => (List.mem_append.mp hw).elim (uLm uL_uC_14 w) (uLs_14 w)
theorem uLs_12 : ∀ w ∈ uS_12, w ∈ lw_tbl := fun w hw => (List.mem_append.mp hw).elim (uLm uL_uC_13 w) (uLs_13 w)
theorem uLs_11 : ∀ w ∈ uS_11, w ∈ lw_tbl := fun w hw => (List.mem_append.mp hw).elim (uLm uL_uC_12 w) (uLs_12 w)
theorem uLs_10 : ∀ w ∈ uS_10, w ∈ lw_tbl := fun w hw => (List.mem_append.mp hw).elim (uLm uL_uC_11 w) (uLs_11 w)
theorem uLs_9 : ∀ w ∈ uS_9, w ∈ lw_tbl := fun w hw => (List.mem_append.mp hw).elim (uLm uL_uC_10 w) (uLs_10 w)
theorem uLs_8 : ∀ w ∈ uS_8, w ∈ lw_tbl := fun w hw => (List.mem_append.mp hw).elim (uLm uL_uC_9 w) (uLs_9 w)
theorem uLs_7 : ∀ w ∈ uS_7, w ∈ lw_tbl := fun w hw => (List.mem_append.mp hw).elim (uLm uL_uC_8 w) (uLs_8 w)
theorem uLs_6 : ∀ w ∈ uS_6, w ∈ lw_tbl := fun w hw => (List.mem_append.mp hw).elim (uLm uL_uC_7 w) (uLs_7 w)
theorem uLs_5 : ∀ w ∈ uS_5, w ∈ lw_tbl := fun w hw => (List.mem_append.mp hw).elim (uLm uL_uC_6 w) (uLs_6 w)
theorem uLs_4 : ∀ w ∈ uS_4, w ∈ lw_tbl := fun w hw => (List.mem_append.mp hw).elim (uLm uL_uC_5 w) (uLs_5 w)
theorem uLs_3 : ∀ w ∈ uS_3, w ∈ lw_tbl := fun w hw => (List.mem_append.mp hw).elim (uLm uL_uC_4 w) (uLs_4 w)
theorem uLs_2 : ∀ w ∈ uS_2, w ∈ lw_tbl := fun w hw => (List.mem_append.mp hw).elim (uLm uL_uC_3 w) (uLs_3 w)
theorem uLs_1 : ∀ w ∈ uS_1, w ∈ lw_tbl := fun w hw => (List.mem_append.mp hw).elim (uLm uL_uC_2 w) (uLs_2 w)
theorem uLs_0 : ∀ w ∈ uS_0, w ∈ lw_tbl := fun w hw => (List.mem_append.mp hw).elim (uLm uL_uC_1 w) (uLs_1 w)
theorem uU_tbl : ∀ w ∈ uU, w ∈ lw_tbl := uLs_0
