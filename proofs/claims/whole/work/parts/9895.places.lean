/-! THE LAW'S ENTRY: its words are the tables' words, by their places -/
def zpl : List Cond → List Nat → Bool
  | [], _ => true
  | w :: ws, p :: ps => decide (lw_tbl[p]? = some w) && zpl ws ps
  | _ :: _, [] => false
theorem zpl_in : ∀ {ws : List Cond} {ps : List Nat}, zpl ws ps = true → ∀ w ∈ ws, w ∈ lw_tbl
  | [], _, _ => fun _ h => absurd h List.not_mem_nil
  | w :: ws, p :: ps, h => fun w' h' => by
    have hh : decide (lw_tbl[p]? = some w) = true ∧ zpl ws ps = true := by
      simpa only [zpl, Bool.and_eq_true] using h
    rcases List.mem_cons.mp h' with e | e
    · subst e
      exact List.mem_of_getElem? (of_decide_eq_true hh.1)
    · exact zpl_in hh.2 w' e
  | _ :: _, [], h => by cases h
theorem zpk_in {ws : List Cond} {ps : List Nat} (h : ps.map (fun p => lw_tbl[p]?) = ws.map some) : ∀ w ∈ ws, w ∈ lw_tbl := by
  intro w hw
  have h1 : some w ∈ ps.map (fun p => lw_tbl[p]?) := by rw [h]; exact List.mem_map.mpr ⟨w, hw, rfl⟩
  obtain ⟨p, -, hp⟩ := List.mem_map.mp h1
  exact List.mem_of_getElem? hp
set_option maxRecDepth 100000 in
theorem lw_i1 : ∀ w ∈ wsL_law0_r1, w ∈ lw_tbl := zpk_in (ps := [87, 88, 67, 864, 865, 78, 1194, 89, 90, 91, 92, 93, 94, 95, 96, 68, 107, 108, 69, 394, 129, 130, 70, 395]) (by with_unfolding_all rfl)
set_option maxRecDepth 100000 in
theorem lw_i2 : ∀ w ∈ wsL_law0_r2, w ∈ lw_tbl := zpk_in (ps := [349, 350, 76, 396, 371, 372, 77, 397, 392, 209, 74, 398, 399, 97, 98, 99, 100, 106, 102, 101, 109, 110, 111, 112]) (by with_unfolding_all rfl)
set_option maxRecDepth 100000 in
theorem lw_i3 : ∀ w ∈ wsL_law0_r3, w ∈ lw_tbl := zpk_in (ps := [128, 113, 131, 132, 133, 134, 135, 136, 71, 316, 208, 317, 318, 314, 315, 138, 139, 140, 141, 178, 180, 143, 144, 72]) (by with_unfolding_all rfl)
set_option maxRecDepth 100000 in
theorem lw_i4 : ∀ w ∈ wsL_law0_r4, w ∈ lw_tbl := zpk_in (ps := [182, 157, 158, 73, 183, 184, 185, 186, 142, 145, 146, 147, 148, 149, 160, 161, 162, 163, 165, 166, 210, 211, 212, 213]) (by with_unfolding_all rfl)
set_option maxRecDepth 100000 in
theorem lw_i5 : ∀ w ∈ wsL_law0_r5, w ∈ lw_tbl := zpk_in (ps := [214, 269, 216, 75, 274, 218, 219, 220, 221, 351, 352, 353, 354, 355, 357, 359, 356, 374, 375, 376, 377, 379, 393, 866]) (by with_unfolding_all rfl)
set_option maxRecDepth 100000 in
theorem lw_i6 : ∀ w ∈ wsL_law0_r6, w ∈ lw_tbl := zpk_in (ps := [867, 868, 869, 872, 873, 874, 875, 876, 880, 881, 883, 885, 890, 891, 892, 871, 413, 414, 415, 416, 417, 418, 419, 420]) (by with_unfolding_all rfl)
set_option maxRecDepth 100000 in
theorem lw_i7 : ∀ w ∈ wsL_law0_r7, w ∈ lw_tbl := zpk_in (ps := [116, 421, 422, 423, 424, 971, 972, 973, 974, 870, 425, 426, 427, 428, 429, 430, 431, 432, 433, 975, 976, 977, 978, 979]) (by with_unfolding_all rfl)
set_option maxRecDepth 100000 in
theorem lw_i8 : ∀ w ∈ wsL_law0_r8, w ∈ lw_tbl := zpk_in (ps := [434, 435, 436, 437, 438, 439, 440, 441, 322, 323, 324, 325, 321, 452, 319, 442, 444, 0, 445, 446, 447, 448, 449, 450]) (by with_unfolding_all rfl)
set_option maxRecDepth 100000 in
theorem lw_i9 : ∀ w ∈ wsL_law0_r9, w ∈ lw_tbl := zpk_in (ps := [451, 453, 455, 1, 456, 466, 467, 457, 458, 459, 460, 461, 462, 463, 464, 465, 468, 469, 470, 471, 472, 473, 474, 475]) (by with_unfolding_all rfl)
set_option maxRecDepth 100000 in
theorem lw_i10 : ∀ w ∈ wsL_law0_r10, w ∈ lw_tbl := zpk_in (ps := [476, 478, 2, 479, 480, 481, 482, 483, 484, 150, 485, 487, 3, 488, 493, 489, 490, 491, 492, 494, 495, 496, 497, 498]) (by with_unfolding_all rfl)
set_option maxRecDepth 100000 in
theorem lw_i11 : ∀ w ∈ wsL_law0_r11, w ∈ lw_tbl := zpk_in (ps := [499, 500, 502, 4, 503, 504, 506, 5, 507, 508, 509, 510, 511, 168, 512, 513, 79, 514, 515, 517, 6, 518, 187, 188]) (by with_unfolding_all rfl)
set_option maxRecDepth 100000 in
theorem lw_i12 : ∀ w ∈ wsL_law0_r12, w ∈ lw_tbl := zpk_in (ps := [520, 519, 522, 524, 7, 525, 530, 532, 526, 527, 528, 529, 534, 536, 8, 537, 538, 539, 540, 541, 542, 544, 9, 545]) (by with_unfolding_all rfl)
set_option maxRecDepth 100000 in
theorem lw_i13 : ∀ w ∈ wsL_law0_r13, w ∈ lw_tbl := zpk_in (ps := [546, 547, 549, 10, 550, 551, 553, 555, 557, 559, 561, 11, 562, 563, 564, 565, 566, 567, 568, 569, 80, 570, 571, 572]) (by with_unfolding_all rfl)
set_option maxRecDepth 100000 in
theorem lw_i14 : ∀ w ∈ wsL_law0_r14, w ∈ lw_tbl := zpk_in (ps := [573, 574, 575, 576, 577, 578, 579, 580, 581, 582, 81, 583, 584, 585, 587, 12, 588, 589, 606, 590, 592, 13, 593, 594]) (by with_unfolding_all rfl)
set_option maxRecDepth 100000 in
theorem lw_i15 : ∀ w ∈ wsL_law0_r15, w ∈ lw_tbl := zpk_in (ps := [595, 596, 597, 277, 279, 283, 286, 293, 598, 600, 14, 601, 602, 604, 15, 605, 607, 609, 16, 610, 611, 612, 613, 614]) (by with_unfolding_all rfl)
set_option maxRecDepth 100000 in
theorem lw_i16 : ∀ w ∈ wsL_law0_r16, w ∈ lw_tbl := zpk_in (ps := [615, 616, 617, 618, 619, 620, 621, 622, 623, 625, 17, 626, 627, 628, 629, 630, 631, 632, 633, 635, 18, 636, 637, 639]) (by with_unfolding_all rfl)
set_option maxRecDepth 100000 in
theorem lw_i17 : ∀ w ∈ wsL_law0_r17, w ∈ lw_tbl := zpk_in (ps := [19, 640, 641, 642, 643, 644, 645, 646, 647, 648, 649, 380, 382, 980, 981, 982, 983, 899, 877, 984, 986, 32, 987, 893]) (by with_unfolding_all rfl)
set_option maxRecDepth 100000 in
theorem lw_i18 : ∀ w ∈ wsL_law0_r18, w ∈ lw_tbl := zpk_in (ps := [894, 895, 896, 897, 898, 900, 901, 988, 990, 33, 991, 992, 993, 994, 995, 997, 34, 998, 999, 1000, 1001, 1002, 1003, 1005]) (by with_unfolding_all rfl)
set_option maxRecDepth 100000 in
theorem lw_i19 : ∀ w ∈ wsL_law0_r19, w ∈ lw_tbl := zpk_in (ps := [35, 1006, 1007, 1009, 36, 1010, 1011, 1013, 37, 1014, 886, 887, 884, 888, 889, 1072, 1015, 1017, 38, 1018, 1019, 1021, 39, 1022]) (by with_unfolding_all rfl)
set_option maxRecDepth 100000 in
theorem lw_i20 : ∀ w ∈ wsL_law0_r20, w ∈ lw_tbl := zpk_in (ps := [1027, 1023, 1025, 40, 1026, 1028, 1030, 41, 1031, 1032, 1034, 42, 1035, 1036, 1038, 43, 1039, 1040, 1041, 1043, 44, 1044, 1045, 1047]) (by with_unfolding_all rfl)
set_option maxRecDepth 100000 in
theorem lw_i21 : ∀ w ∈ wsL_law0_r21, w ∈ lw_tbl := zpk_in (ps := [45, 1048, 1049, 1051, 46, 1052, 1053, 1054, 1055, 1056, 1057, 1058, 1059, 1060, 1061, 1062, 1063, 1064, 1065, 1067, 47, 1068, 1069, 1070]) (by with_unfolding_all rfl)
set_option maxRecDepth 100000 in
theorem lw_i22 : ∀ w ∈ wsL_law0_r22, w ∈ lw_tbl := zpk_in (ps := [1071, 1073, 1075, 48, 1076, 1077, 1079, 49, 1080, 1081, 1082, 1083, 1084, 1086, 50, 1087, 1088, 1090, 51, 1091, 1092, 1094, 52, 1095]) (by with_unfolding_all rfl)
set_option maxRecDepth 100000 in
theorem lw_i23 : ∀ w ∈ wsL_law0_r23, w ∈ lw_tbl := zpk_in (ps := [1096, 1098, 53, 1099, 1100, 1102, 54, 1103, 1104, 1106, 55, 1107, 1108, 1110, 56, 1111, 1112, 1113, 1114, 650, 651, 652, 653, 1115]) (by with_unfolding_all rfl)
set_option maxRecDepth 100000 in
theorem lw_i24 : ∀ w ∈ wsL_law0_r24, w ∈ lw_tbl := zpk_in (ps := [1116, 1117, 1118, 654, 655, 656, 657, 658, 659, 660, 661, 662, 663, 1119, 1120, 1121, 1122, 1123, 1125, 57, 1126, 664, 665, 666]) (by with_unfolding_all rfl)
set_option maxRecDepth 100000 in
theorem lw_i25 : ∀ w ∈ wsL_law0_r25, w ∈ lw_tbl := zpk_in (ps := [667, 668, 669, 1127, 1128, 1129, 1130, 670, 671, 672, 673, 674, 676, 20, 677, 678, 679, 680, 681, 1131, 1132, 1133, 1134, 682]) (by with_unfolding_all rfl)
set_option maxRecDepth 100000 in
theorem lw_i26 : ∀ w ∈ wsL_law0_r26, w ∈ lw_tbl := zpk_in (ps := [683, 684, 685, 686, 1135, 1136, 1137, 1138, 687, 688, 689, 690, 691, 692, 693, 694, 291, 695, 696, 697, 698, 228, 234, 238]) (by with_unfolding_all rfl)
set_option maxRecDepth 100000 in
theorem lw_i27 : ∀ w ∈ wsL_law0_r27, w ∈ lw_tbl := zpk_in (ps := [242, 246, 250, 1139, 1140, 1141, 1142, 699, 700, 701, 702, 703, 704, 705, 706, 708, 710, 709, 82, 707, 711, 713, 21, 714]) (by with_unfolding_all rfl)
set_option maxRecDepth 100000 in
theorem lw_i28 : ∀ w ∈ wsL_law0_r28, w ∈ lw_tbl := zpk_in (ps := [715, 716, 717, 718, 720, 22, 721, 722, 723, 724, 725, 726, 1143, 1144, 1145, 1146, 878, 879, 1147, 1149, 58, 1150, 1151, 1152]) (by with_unfolding_all rfl)
set_option maxRecDepth 100000 in
theorem lw_i29 : ∀ w ∈ wsL_law0_r29, w ∈ lw_tbl := zpk_in (ps := [1153, 1154, 1156, 59, 1157, 791, 792, 66, 793, 794, 795, 796, 797, 798, 803, 86, 799, 800, 801, 802, 1158, 1159, 1160, 1161]) (by with_unfolding_all rfl)
set_option maxRecDepth 100000 in
theorem lw_i30 : ∀ w ∈ wsL_law0_r30, w ∈ lw_tbl := zpk_in (ps := [967, 968, 969, 970, 727, 728, 729, 730, 731, 732, 733, 734, 361, 736, 738, 755, 785, 735, 737, 739, 741, 23, 742, 743]) (by with_unfolding_all rfl)
set_option maxRecDepth 100000 in
theorem lw_i31 : ∀ w ∈ wsL_law0_r31, w ∈ lw_tbl := zpk_in (ps := [748, 744, 746, 24, 747, 360, 749, 750, 752, 25, 753, 754, 756, 758, 26, 759, 760, 765, 761, 763, 27, 764, 766, 767]) (by with_unfolding_all rfl)
set_option maxRecDepth 100000 in
theorem lw_i32 : ∀ w ∈ wsL_law0_r32, w ∈ lw_tbl := zpk_in (ps := [769, 28, 770, 774, 771, 772, 773, 775, 777, 29, 778, 779, 780, 782, 30, 783, 784, 1162, 1163, 1164, 1165, 882, 1166, 1168]) (by with_unfolding_all rfl)
set_option maxRecDepth 100000 in
theorem lw_i33 : ∀ w ∈ wsL_law0_r33, w ∈ lw_tbl := zpk_in (ps := [60, 1169, 1170, 1172, 61, 1173, 1174, 1176, 62, 1177, 1178, 1180, 63, 1181, 1182, 1184, 64, 1185, 1186, 1188, 65, 1189, 786, 787]) (by with_unfolding_all rfl)
set_option maxRecDepth 100000 in
theorem lw_i34 : ∀ w ∈ wsL_law0_r34, w ∈ lw_tbl := zpk_in (ps := [788, 789, 790, 1190, 1191, 1192, 1193]) (by with_unfolding_all rfl)
set_option maxRecDepth 100000 in
theorem lw_x11 : ∀ w ∈ wsX110, w ∈ lw_tbl := zpk_in (ps := [400, 402, 404, 406, 408, 410]) (by with_unfolding_all rfl)
set_option maxRecDepth 100000 in
theorem lw_x12 : ∀ w ∈ wsX120, w ∈ lw_tbl := zpk_in (ps := [902, 904, 906, 908, 910, 912, 914, 916, 918, 920, 922, 924, 926, 928, 930, 932, 934, 936, 938, 940, 942, 944, 946, 948, 950, 952, 954, 956, 958, 960, 962, 964]) (by with_unfolding_all rfl)
set_option maxRecDepth 100000 in
theorem lw_x8 : ∀ w ∈ wsX80, w ∈ lw_tbl := zpk_in (ps := [103]) (by with_unfolding_all rfl)
set_option maxRecDepth 100000 in
theorem lw_x1 : ∀ w ∈ wsX10, w ∈ lw_tbl := zpk_in (ps := [123, 125]) (by with_unfolding_all rfl)
set_option maxRecDepth 100000 in
theorem lw_x4 : ∀ w ∈ wsX40, w ∈ lw_tbl := zpk_in (ps := [326, 328, 330, 332, 334, 336, 338, 340, 342, 344, 346]) (by with_unfolding_all rfl)
set_option maxRecDepth 100000 in
theorem lw_x10 : ∀ w ∈ wsX100, w ∈ lw_tbl := zpk_in (ps := [362, 364, 366, 368]) (by with_unfolding_all rfl)
set_option maxRecDepth 100000 in
theorem lw_x7 : ∀ w ∈ wsX70, w ∈ lw_tbl := zpk_in (ps := [383, 385, 387, 389]) (by with_unfolding_all rfl)
set_option maxRecDepth 100000 in
theorem lw_x5 : ∀ w ∈ wsX50, w ∈ lw_tbl := zpk_in (ps := [297, 299, 301, 303, 305, 307, 309, 311]) (by with_unfolding_all rfl)
set_option maxRecDepth 100000 in
theorem lw_x9 : ∀ w ∈ wsX90, w ∈ lw_tbl := zpk_in (ps := [189, 191, 193, 195, 197, 199, 201, 203, 205]) (by with_unfolding_all rfl)
set_option maxRecDepth 100000 in
theorem lw_x0 : ∀ w ∈ wsX00, w ∈ lw_tbl := zpk_in (ps := [152, 154]) (by with_unfolding_all rfl)
set_option maxRecDepth 100000 in
theorem lw_x2 : ∀ w ∈ wsX20, w ∈ lw_tbl := zpk_in (ps := [169, 171, 173, 175]) (by with_unfolding_all rfl)
set_option maxRecDepth 100000 in
theorem lw_x3 : ∀ w ∈ wsX30, w ∈ lw_tbl := zpk_in (ps := [254, 256, 258, 260, 262, 264, 266]) (by with_unfolding_all rfl)
theorem lw_ig : ∀ w ∈ zxG, w ∈ lw_tbl := zpl_in (ps := [83, 825, 834, 836, 839, 841, 826, 827, 93, 94, 828, 833, 837, 853, 815, 854, 817, 855, 819, 829, 831, 821, 843, 844, 845, 846, 846, 847, 848, 849, 849, 850, 851, 826, 842, 804, 812, 813, 814, 816, 818, 820, 824, 823, 822]) (by decide +kernel)
theorem lw_ib : ∀ w ∈ zxB, w ∈ lw_tbl := zpl_in (ps := [806, 808, 810, 805]) (by decide +kernel)
def znfC : List Cond := znf.map (fun f => Cond.fieldLinkNest f.1 f.2.1 f.2.2.1 f.2.2.2.1 f.2.2.2.2.1 f.2.2.2.2.2)
def znmC : List Cond := znm.map (fun f => Cond.methodLinkNest f.1 f.2.1 f.2.2.1 f.2.2.2)
def zstC : List Cond := ztabs.map (fun q => Cond.laysStatic "FrameReel$Unpacker" q.1 "[I")
def zotC : List Cond := [Cond.laysStatic Bundle.tN "UNASSIGNED_STACK" Bundle.steD, Cond.laysStatic Bundle.tN "SUPPRESSED_SENTINEL" Bundle.listD, Cond.initialized Bundle.tN, Cond.initialized "FrameReel$Unpacker", Cond.arrayClass .byte, Cond.arrayClass .int, Cond.arrayClass .long, Cond.arrayOver (.object "FrameReel$Picture")]
set_option maxRecDepth 100000 in
theorem lw_knf : ∀ w ∈ znfC, w ∈ lw_tbl := zpk_in (ps := [114, 115, 117, 118, 119, 120, 121, 122, 151, 164, 167, 179, 181, 222, 223, 224, 225, 226, 227, 229, 230, 231, 232, 233, 235, 236, 237, 239, 240, 241, 243, 244, 245, 247, 248, 249, 251, 252, 253, 270, 271, 272, 273, 275, 276, 278, 280, 281, 282, 284, 285, 287, 288, 289, 290, 292, 294, 295, 296, 320, 358, 378, 381]) (by with_unfolding_all rfl)
set_option maxRecDepth 100000 in
theorem lw_knm : ∀ w ∈ znmC, w ∈ lw_tbl := zpk_in (ps := [137, 159, 217, 373]) (by with_unfolding_all rfl)
set_option maxRecDepth 100000 in
theorem lw_kst : ∀ w ∈ zstC, w ∈ lw_tbl := zpk_in (ps := [521, 533, 531, 552, 554, 556, 558]) (by with_unfolding_all rfl)
set_option maxRecDepth 100000 in
theorem lw_ko : ∀ w ∈ zotC, w ∈ lw_tbl := zpk_in (ps := [830, 832, 83, 71, 128, 106, 1194, 215]) (by with_unfolding_all rfl)
theorem lw_rr : ∀ w ∈ (wsL_law0_r1 ++ (wsL_law0_r2 ++ (wsL_law0_r3 ++ (wsL_law0_r4 ++ (wsL_law0_r5 ++ (wsL_law0_r6 ++ (wsL_law0_r7 ++ (wsL_law0_r8 ++ (wsL_law0_r9 ++ (wsL_law0_r10 ++ (wsL_law0_r11 ++ (wsL_law0_r12 ++ (wsL_law0_r13 ++ (wsL_law0_r14 ++ (wsL_law0_r15 ++ (wsL_law0_r16 ++ (wsL_law0_r17 ++ (wsL_law0_r18 ++ (wsL_law0_r19 ++ (wsL_law0_r20 ++ (wsL_law0_r21 ++ (wsL_law0_r22 ++ (wsL_law0_r23 ++ (wsL_law0_r24 ++ (wsL_law0_r25 ++ (wsL_law0_r26 ++ (wsL_law0_r27 ++ (wsL_law0_r28 ++ (wsL_law0_r29 ++ (wsL_law0_r30 ++ (wsL_law0_r31 ++ (wsL_law0_r32 ++ (wsL_law0_r33 ++ wsL_law0_r34)))))))))))))))))))))))))))))))) : List Cond), w ∈ lw_tbl := List.forall_mem_append.mpr ⟨lw_i1, List.forall_mem_append.mpr ⟨lw_i2, List.forall_mem_append.mpr ⟨lw_i3, List.forall_mem_append.mpr ⟨lw_i4, List.forall_mem_append.mpr ⟨lw_i5, List.forall_mem_append.mpr ⟨lw_i6, List.forall_mem_append.mpr ⟨lw_i7, List.forall_mem_append.mpr ⟨lw_i8, List.forall_mem_append.mpr ⟨lw_i9, List.forall_mem_append.mpr ⟨lw_i10, List.forall_mem_append.mpr ⟨lw_i11, List.forall_mem_append.mpr ⟨lw_i12, List.forall_mem_append.mpr ⟨lw_i13, List.forall_mem_append.mpr ⟨lw_i14, List.forall_mem_append.mpr ⟨lw_i15, List.forall_mem_append.mpr ⟨lw_i16, List.forall_mem_append.mpr ⟨lw_i17, List.forall_mem_append.mpr ⟨lw_i18, List.forall_mem_append.mpr ⟨lw_i19, List.forall_mem_append.mpr ⟨lw_i20, List.forall_mem_append.mpr ⟨lw_i21, List.forall_mem_append.mpr ⟨lw_i22, List.forall_mem_append.mpr ⟨lw_i23, List.forall_mem_append.mpr ⟨lw_i24, List.forall_mem_append.mpr ⟨lw_i25, List.forall_mem_append.mpr ⟨lw_i26, List.forall_mem_append.mpr ⟨lw_i27, List.forall_mem_append.mpr ⟨lw_i28, List.forall_mem_append.mpr ⟨lw_i29, List.forall_mem_append.mpr ⟨lw_i30, List.forall_mem_append.mpr ⟨lw_i31, List.forall_mem_append.mpr ⟨lw_i32, List.forall_mem_append.mpr ⟨lw_i33, lw_i34⟩⟩⟩⟩⟩⟩⟩⟩⟩⟩⟩⟩⟩⟩⟩⟩⟩⟩⟩⟩⟩⟩⟩⟩⟩⟩⟩⟩⟩⟩⟩⟩⟩
theorem lw_in0 : ∀ w ∈ wsL_law0, w ∈ lw_tbl := List.forall_mem_append.mpr ⟨List.forall_mem_append.mpr ⟨List.forall_mem_append.mpr ⟨List.forall_mem_append.mpr ⟨List.forall_mem_append.mpr ⟨List.forall_mem_append.mpr ⟨List.forall_mem_append.mpr ⟨List.forall_mem_append.mpr ⟨List.forall_mem_append.mpr ⟨List.forall_mem_append.mpr ⟨List.forall_mem_append.mpr ⟨List.forall_mem_append.mpr ⟨List.forall_mem_append.mpr ⟨lw_rr, lw_x11⟩, lw_x12⟩, lw_x8⟩, lw_x1⟩, lw_x4⟩, lw_x10⟩, lw_x7⟩, lw_x5⟩, lw_x9⟩, lw_x0⟩, lw_x2⟩, lw_x3⟩, fun _ h => absurd h List.not_mem_nil⟩
