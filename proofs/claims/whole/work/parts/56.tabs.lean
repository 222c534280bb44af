/-! The tables are right (printed by wip/gen/gen56.py; checked by the kernel). -/
def am_kds : List Nat := [0, 0, 0, 0, 2, 1, 1, 1, 1, 1, 1, 2, 3, 2, 0, 1, 1, 1, 1, 1, 1, 1, 1, 1, 1, 1, 2, 1, 1, 2, 1, 3, 3, 2, 1, 3, 3, 2, 1, 1, 1, 1, 1, 1, 1, 1, 1, 1, 1, 1, 1, 1, 1, 1, 1, 1, 1, 1, 1, 1, 1, 1, 1, 1, 1, 2, 1, 1, 1, 1, 1, 1, 1, 1, 1, 1, 1, 1, 1, 2, 1, 1, 1, 1, 1, 1, 1, 1, 1, 1, 1, 1, 1, 1, 1, 1, 0, 1, 1, 1, 0, 2, 1, 0, 0, 1, 1, 1, 1, 1, 1, 0, 0, 0, 0, 1, 1, 1, 1, 1, 1, 1, 1, 1, 1, 1, 1, 1, 1, 0, 1, 0, 1, 1, 1, 1, 1, 1, 1, 1, 1, 1, 1, 0, 1, 1, 1, 1, 1, 1, 1, 1, 1, 1, 1, 1, 1, 1, 1, 1, 1, 1, 0, 0, 0, 0, 0, 0, 0, 0, 0, 0, 9]
def am_kd (j : Nat) : Nat := am_kds.getD j 9
def am_mws : List (Nat × Nat × Nat × Nat) := [(790, 89, 789, 0), (422, 89, 421, 0), (780, 89, 779, 0), (484, 89, 483, 0), (129, 75, 128, 0), (743, 75, 741, 742), (748, 75, 746, 747), (739, 75, 737, 738), (328, 75, 326, 327), (336, 75, 334, 335), (332, 75, 330, 331), (180, 78, 179, 0), (786, 78, 782, 0), (152, 77, 151, 0), (392, 77, 391, 0), (320, 77, 318, 319), (415, 77, 413, 414), (411, 77, 409, 410), (439, 77, 437, 438), (435, 77, 433, 434), (403, 77, 401, 402), (407, 77, 405, 406), (426, 77, 424, 425), (419, 77, 417, 418), (451, 77, 449, 450), (488, 77, 486, 487), (104, 74, 103, 0), (473, 74, 471, 472), (557, 74, 555, 556), (194, 80, 193, 0), (553, 80, 551, 552), (523, 80, 522, 0), (536, 80, 535, 0), (177, 79, 176, 0), (505, 79, 503, 504), (528, 79, 527, 0), (541, 79, 540, 0), (233, 81, 232, 0), (316, 81, 314, 315), (564, 81, 562, 563), (324, 81, 323, 0), (354, 81, 353, 3), (360, 81, 359, 4), (389, 81, 388, 9), (399, 81, 398, 10), (430, 81, 429, 11), (447, 81, 446, 12), (456, 81, 455, 13), (365, 81, 364, 5), (381, 81, 380, 8), (461, 81, 460, 14), (477, 81, 476, 17), (481, 81, 480, 18), (492, 81, 491, 19), (496, 81, 495, 20), (547, 81, 546, 24), (500, 81, 499, 21), (516, 81, 515, 23), (512, 81, 511, 22), (469, 81, 468, 16), (343, 81, 342, 1), (370, 81, 369, 6), (465, 81, 464, 15), (347, 81, 346, 2), (376, 81, 375, 7), (146, 76, 145, 0), (726, 76, 724, 725), (771, 76, 769, 770), (801, 76, 799, 800), (818, 76, 816, 817), (730, 76, 729, 28), (753, 76, 752, 29), (822, 76, 821, 36), (767, 76, 766, 30), (813, 76, 812, 35), (805, 76, 804, 33), (809, 76, 808, 34), (776, 76, 775, 31), (797, 76, 796, 32), (96, 73, 95, 0), (592, 73, 590, 591), (300, 73, 298, 299), (304, 73, 302, 303), (686, 73, 684, 685), (709, 73, 707, 708), (308, 73, 306, 307), (718, 73, 716, 717), (312, 73, 310, 311), (834, 73, 832, 833), (568, 73, 566, 567), (842, 73, 840, 841), (850, 73, 848, 849), (858, 73, 856, 857), (868, 73, 866, 867), (572, 73, 570, 571), (877, 73, 875, 876), (721, 73, 720, 0), (882, 73, 881, 37), (576, 73, 575, 25), (581, 73, 580, 26), (508, 73, 507, 0), (904, 82, 903, 0), (976, 82, 974, 975), (985, 82, 984, 0), (1085, 82, 1084, 0), (980, 82, 978, 979), (989, 82, 987, 988), (993, 82, 991, 992), (997, 82, 995, 996), (1001, 82, 999, 1000), (1006, 82, 1004, 1005), (1082, 82, 1081, 0), (1051, 82, 1050, 0), (1054, 82, 1053, 0), (1100, 82, 1099, 0), (1079, 82, 1078, 47), (1093, 82, 1092, 49), (1089, 82, 1088, 48), (1097, 82, 1096, 50), (1075, 82, 1074, 46), (1071, 82, 1070, 45), (1067, 82, 1066, 44), (1022, 82, 1021, 39), (1038, 82, 1037, 41), (1043, 82, 1042, 42), (1104, 82, 1103, 51), (1063, 82, 1062, 43), (1112, 82, 1111, 53), (1108, 82, 1107, 52), (1059, 82, 1058, 0), (1033, 82, 1032, 40), (1028, 82, 1027, 0), (1017, 82, 1016, 38), (1010, 82, 1008, 1009), (1120, 82, 1119, 54), (1129, 82, 1128, 56), (1125, 82, 1124, 55), (1141, 82, 1140, 59), (1159, 82, 1158, 62), (1155, 82, 1154, 61), (1177, 82, 1176, 65), (1167, 82, 1166, 64), (1182, 82, 1181, 66), (1151, 82, 1150, 0), (1196, 82, 1195, 69), (1190, 82, 1189, 68), (1201, 82, 1200, 70), (1186, 82, 1185, 67), (1163, 82, 1162, 63), (1137, 82, 1136, 58), (1148, 82, 1147, 60), (1133, 82, 1132, 57), (1116, 82, 1114, 1115), (1206, 82, 1204, 1205), (1210, 82, 1208, 1209), (1214, 82, 1212, 1213), (1218, 82, 1216, 1217), (1222, 82, 1220, 1221), (1226, 82, 1224, 1225), (1234, 82, 1233, 71), (1230, 82, 1228, 1229), (1238, 82, 1236, 1237), (586, 72, 585, 0), (681, 72, 680, 0), (705, 72, 704, 0), (714, 72, 713, 0), (830, 72, 829, 0), (838, 72, 837, 0), (846, 72, 845, 0), (854, 72, 853, 0), (864, 72, 863, 0), (872, 72, 871, 0), (0, 0, 0, 0)]
def am_mw (j : Nat) : Nat × Nat × Nat × Nat := am_mws.getD j (0, 0, 0, 0)
def am_lt (i : Nat) (w : Jvm.Cond) : Bool := decide (lw_tbl[i]? = some w)
theorem am_lt_mem {i : Nat} {w : Jvm.Cond} (h : am_lt i w = true) : w ∈ lw_tbl := List.mem_of_getElem? (of_decide_eq_true h)
def am_mokb (j : Nat) : Bool := am_lt (am_mw j).2.1 (.initialized (am_nm j).cls) && decide ((am_nm j).cls ≠ "java/lang/invoke/MethodHandle") && decide ((am_nm j).cls ≠ "java/lang/invoke/VarHandle") && Nat.ble (am_ml j) 19 && match am_kd j with
  | 0 => am_lt (am_mw j).2.2.1 (.static (am_nm j))
  | 1 => am_lt (am_mw j).2.2.1 (.instanceMethod (am_nm j)) && am_lt (am_mw j).2.2.2 (.selects (am_nm j).cls (am_nm j) (am_nm j)) && (am_hd j).isEmpty && decide ((am_nm j).cls = am_on j) && Nat.blt (am_ow j) 13 && decide ((am_cw (am_ow j)).1 = am_on j)
  | 2 => am_lt (am_mw j).2.2.1 (.instanceMethod (am_nm j)) && decide ((am_nm j).name = "<init>") && (am_hd j).isEmpty && decide (am_rt j = none)
  | _ => am_lt (am_mw j).2.2.1 (.instanceMethod (am_nm j)) && (am_hd j).isEmpty
def am_dkb (C : String) (j : Nat) : Bool := decide (Jvm.Cond.sameMethod "SoundShelf$Coder" "SoundShelf$Coder" (am_nm j).name (am_nm j).desc ∈ lw_tbl) && (decide (Jvm.Cond.declares (am_cdx j) ∈ lw_tbl) || decide (am_cdx j = am_nm j)) && decide (Jvm.Cond.selects C (am_cdx j) (am_nm j) ∈ lw_tbl) && decide (Jvm.Cond.instanceMethod (am_nm j) ∈ lw_tbl) && (am_hd j).isEmpty
def am_rokb (q : am_E) : Bool := match q.2.1, q.2.2.2.1 with
  | .invokestatic _, 0 => Nat.blt q.2.2.2.2.1 172 && Nat.beq (am_kd q.2.2.2.2.1) 0
  | .invokestatic _, 3 => Nat.blt q.2.2.2.2.1 172 && Nat.beq (am_kd q.2.2.2.2.1) 0 && (am_hd q.2.2.2.2.1).isEmpty
  | .invokespecial _, 2 => Nat.blt q.2.2.2.2.1 172 && Nat.beq (am_kd q.2.2.2.2.1) 2
  | .invokespecial _, 4 => Nat.blt q.2.2.2.2.1 172 && Nat.beq (am_kd q.2.2.2.2.1) 2
  | .invokevirtual _, 1 => Nat.blt q.2.2.2.2.1 172 && Nat.beq (am_kd q.2.2.2.2.1) 1
  | .invokevirtual _, 5 => ([12, 35, 36] : List Nat).contains q.2.2.2.2.1 && ([12, 31, 32] : List Nat).contains q.2.2.2.2.2.1
  | _, _ => true
theorem am_hokb : (List.range 173).all (fun k => decide ((am_nm k).cls = am_on k) && plainFor (am_nm k) && am_hdo (am_hd k) && ((am_hd k).isEmpty || decide (am_on k = "SoundShelfLaw"))) = true := by decide +kernel
theorem am_dkS : ([12, 35, 36] : List Nat).all (am_dkb "SoundShelf$Stepper") = true := by decide +kernel
theorem am_dkP : ([12, 31, 32] : List Nat).all (am_dkb "SoundShelf$Predictor") = true := by decide +kernel
set_option maxRecDepth 100000 in
theorem am_cwt_0 : tables_1[718]? = some (am_cdw 0) := rfl
set_option maxRecDepth 100000 in
theorem am_cwt_1 : tables_1[350]? = some (am_cdw 1) := rfl
set_option maxRecDepth 100000 in
theorem am_cwt_2 : tables_1[708]? = some (am_cdw 2) := rfl
set_option maxRecDepth 100000 in
theorem am_cwt_3 : tables_1[412]? = some (am_cdw 3) := rfl
set_option maxRecDepth 100000 in
theorem am_cwt_4 : tables_1[57]? = some (am_cdw 4) := rfl
set_option maxRecDepth 100000 in
theorem am_cwt_5 : tables_1[671]? = some (am_cdw 5) := rfl
set_option maxRecDepth 100000 in
theorem am_cwt_6 : tables_1[676]? = some (am_cdw 6) := rfl
set_option maxRecDepth 100000 in
theorem am_cwt_7 : tables_1[667]? = some (am_cdw 7) := rfl
set_option maxRecDepth 100000 in
theorem am_cwt_8 : tables_1[256]? = some (am_cdw 8) := rfl
set_option maxRecDepth 100000 in
theorem am_cwt_9 : tables_1[264]? = some (am_cdw 9) := rfl
set_option maxRecDepth 100000 in
theorem am_cwt_10 : tables_1[260]? = some (am_cdw 10) := rfl
set_option maxRecDepth 100000 in
theorem am_cwt_11 : tables_1[108]? = some (am_cdw 11) := rfl
set_option maxRecDepth 100000 in
theorem am_cwt_12 : tables_1[714]? = some (am_cdw 12) := rfl
set_option maxRecDepth 100000 in
theorem am_cwt_13 : tables_1[80]? = some (am_cdw 13) := rfl
set_option maxRecDepth 100000 in
theorem am_cwt_14 : tables_1[320]? = some (am_cdw 14) := rfl
set_option maxRecDepth 100000 in
theorem am_cwt_15 : tables_1[248]? = some (am_cdw 15) := rfl
set_option maxRecDepth 100000 in
theorem am_cwt_16 : tables_1[343]? = some (am_cdw 16) := rfl
set_option maxRecDepth 100000 in
theorem am_cwt_17 : tables_1[339]? = some (am_cdw 17) := rfl
set_option maxRecDepth 100000 in
theorem am_cwt_18 : tables_1[367]? = some (am_cdw 18) := rfl
set_option maxRecDepth 100000 in
theorem am_cwt_19 : tables_1[363]? = some (am_cdw 19) := rfl
set_option maxRecDepth 100000 in
theorem am_cwt_20 : tables_1[331]? = some (am_cdw 20) := rfl
set_option maxRecDepth 100000 in
theorem am_cwt_21 : tables_1[335]? = some (am_cdw 21) := rfl
set_option maxRecDepth 100000 in
theorem am_cwt_22 : tables_1[354]? = some (am_cdw 22) := rfl
set_option maxRecDepth 100000 in
theorem am_cwt_23 : tables_1[347]? = some (am_cdw 23) := rfl
set_option maxRecDepth 100000 in
theorem am_cwt_24 : tables_1[379]? = some (am_cdw 24) := rfl
set_option maxRecDepth 100000 in
theorem am_cwt_25 : tables_1[416]? = some (am_cdw 25) := rfl
set_option maxRecDepth 100000 in
theorem am_cwt_26 : tables_1[32]? = some (am_cdw 26) := rfl
set_option maxRecDepth 100000 in
theorem am_cwt_27 : tables_1[401]? = some (am_cdw 27) := rfl
set_option maxRecDepth 100000 in
theorem am_cwt_28 : tables_1[485]? = some (am_cdw 28) := rfl
set_option maxRecDepth 100000 in
theorem am_cwt_29 : tables_1[122]? = some (am_cdw 29) := rfl
set_option maxRecDepth 100000 in
theorem am_cwt_30 : tables_1[481]? = some (am_cdw 30) := rfl
set_option maxRecDepth 100000 in
theorem am_cwt_31 : tables_1[451]? = some (am_cdw 31) := rfl
set_option maxRecDepth 100000 in
theorem am_cwt_32 : tables_1[464]? = some (am_cdw 32) := rfl
set_option maxRecDepth 100000 in
theorem am_cwt_33 : tables_1[105]? = some (am_cdw 33) := rfl
set_option maxRecDepth 100000 in
theorem am_cwt_34 : tables_1[433]? = some (am_cdw 34) := rfl
set_option maxRecDepth 100000 in
theorem am_cwt_35 : tables_1[456]? = some (am_cdw 35) := rfl
set_option maxRecDepth 100000 in
theorem am_cwt_36 : tables_1[469]? = some (am_cdw 36) := rfl
set_option maxRecDepth 100000 in
theorem am_cwt_37 : tables_1[161]? = some (am_cdw 37) := rfl
set_option maxRecDepth 100000 in
theorem am_cwt_38 : tables_1[244]? = some (am_cdw 38) := rfl
set_option maxRecDepth 100000 in
theorem am_cwt_39 : tables_1[492]? = some (am_cdw 39) := rfl
set_option maxRecDepth 100000 in
theorem am_cwt_40 : tables_1[252]? = some (am_cdw 40) := rfl
set_option maxRecDepth 100000 in
theorem am_cwt_41 : tables_1[282]? = some (am_cdw 41) := rfl
set_option maxRecDepth 100000 in
theorem am_cwt_42 : tables_1[288]? = some (am_cdw 42) := rfl
set_option maxRecDepth 100000 in
theorem am_cwt_43 : tables_1[317]? = some (am_cdw 43) := rfl
set_option maxRecDepth 100000 in
theorem am_cwt_44 : tables_1[327]? = some (am_cdw 44) := rfl
set_option maxRecDepth 100000 in
theorem am_cwt_45 : tables_1[358]? = some (am_cdw 45) := rfl
set_option maxRecDepth 100000 in
theorem am_cwt_46 : tables_1[375]? = some (am_cdw 46) := rfl
set_option maxRecDepth 100000 in
theorem am_cwt_47 : tables_1[384]? = some (am_cdw 47) := rfl
set_option maxRecDepth 100000 in
theorem am_cwt_48 : tables_1[293]? = some (am_cdw 48) := rfl
set_option maxRecDepth 100000 in
theorem am_cwt_49 : tables_1[309]? = some (am_cdw 49) := rfl
set_option maxRecDepth 100000 in
theorem am_cwt_50 : tables_1[389]? = some (am_cdw 50) := rfl
set_option maxRecDepth 100000 in
theorem am_cwt_51 : tables_1[405]? = some (am_cdw 51) := rfl
set_option maxRecDepth 100000 in
theorem am_cwt_52 : tables_1[409]? = some (am_cdw 52) := rfl
set_option maxRecDepth 100000 in
theorem am_cwt_53 : tables_1[420]? = some (am_cdw 53) := rfl
set_option maxRecDepth 100000 in
theorem am_cwt_54 : tables_1[424]? = some (am_cdw 54) := rfl
set_option maxRecDepth 100000 in
theorem am_cwt_55 : tables_1[475]? = some (am_cdw 55) := rfl
set_option maxRecDepth 100000 in
theorem am_cwt_56 : tables_1[428]? = some (am_cdw 56) := rfl
set_option maxRecDepth 100000 in
theorem am_cwt_57 : tables_1[444]? = some (am_cdw 57) := rfl
set_option maxRecDepth 100000 in
theorem am_cwt_58 : tables_1[440]? = some (am_cdw 58) := rfl
set_option maxRecDepth 100000 in
theorem am_cwt_59 : tables_1[397]? = some (am_cdw 59) := rfl
set_option maxRecDepth 100000 in
theorem am_cwt_60 : tables_1[271]? = some (am_cdw 60) := rfl
set_option maxRecDepth 100000 in
theorem am_cwt_61 : tables_1[298]? = some (am_cdw 61) := rfl
set_option maxRecDepth 100000 in
theorem am_cwt_62 : tables_1[393]? = some (am_cdw 62) := rfl
set_option maxRecDepth 100000 in
theorem am_cwt_63 : tables_1[275]? = some (am_cdw 63) := rfl
set_option maxRecDepth 100000 in
theorem am_cwt_64 : tables_1[304]? = some (am_cdw 64) := rfl
set_option maxRecDepth 100000 in
theorem am_cwt_65 : tables_1[74]? = some (am_cdw 65) := rfl
set_option maxRecDepth 100000 in
theorem am_cwt_66 : tables_1[654]? = some (am_cdw 66) := rfl
set_option maxRecDepth 100000 in
theorem am_cwt_67 : tables_1[699]? = some (am_cdw 67) := rfl
set_option maxRecDepth 100000 in
theorem am_cwt_68 : tables_1[729]? = some (am_cdw 68) := rfl
set_option maxRecDepth 100000 in
theorem am_cwt_69 : tables_1[746]? = some (am_cdw 69) := rfl
set_option maxRecDepth 100000 in
theorem am_cwt_70 : tables_1[658]? = some (am_cdw 70) := rfl
set_option maxRecDepth 100000 in
theorem am_cwt_71 : tables_1[681]? = some (am_cdw 71) := rfl
set_option maxRecDepth 100000 in
theorem am_cwt_72 : tables_1[750]? = some (am_cdw 72) := rfl
set_option maxRecDepth 100000 in
theorem am_cwt_73 : tables_1[695]? = some (am_cdw 73) := rfl
set_option maxRecDepth 100000 in
theorem am_cwt_74 : tables_1[741]? = some (am_cdw 74) := rfl
set_option maxRecDepth 100000 in
theorem am_cwt_75 : tables_1[733]? = some (am_cdw 75) := rfl
set_option maxRecDepth 100000 in
theorem am_cwt_76 : tables_1[737]? = some (am_cdw 76) := rfl
set_option maxRecDepth 100000 in
theorem am_cwt_77 : tables_1[704]? = some (am_cdw 77) := rfl
set_option maxRecDepth 100000 in
theorem am_cwt_78 : tables_1[725]? = some (am_cdw 78) := rfl
set_option maxRecDepth 100000 in
theorem am_cwt_79 : tables_1[24]? = some (am_cdw 79) := rfl
set_option maxRecDepth 100000 in
theorem am_cwt_80 : tables_1[520]? = some (am_cdw 80) := rfl
set_option maxRecDepth 100000 in
theorem am_cwt_81 : tables_1[228]? = some (am_cdw 81) := rfl
set_option maxRecDepth 100000 in
theorem am_cwt_82 : tables_1[232]? = some (am_cdw 82) := rfl
set_option maxRecDepth 100000 in
theorem am_cwt_83 : tables_1[614]? = some (am_cdw 83) := rfl
set_option maxRecDepth 100000 in
theorem am_cwt_84 : tables_1[637]? = some (am_cdw 84) := rfl
set_option maxRecDepth 100000 in
theorem am_cwt_85 : tables_1[236]? = some (am_cdw 85) := rfl
set_option maxRecDepth 100000 in
theorem am_cwt_86 : tables_1[646]? = some (am_cdw 86) := rfl
set_option maxRecDepth 100000 in
theorem am_cwt_87 : tables_1[240]? = some (am_cdw 87) := rfl
set_option maxRecDepth 100000 in
theorem am_cwt_88 : tables_1[762]? = some (am_cdw 88) := rfl
set_option maxRecDepth 100000 in
theorem am_cwt_89 : tables_1[496]? = some (am_cdw 89) := rfl
set_option maxRecDepth 100000 in
theorem am_cwt_90 : tables_1[770]? = some (am_cdw 90) := rfl
set_option maxRecDepth 100000 in
theorem am_cwt_91 : tables_1[778]? = some (am_cdw 91) := rfl
set_option maxRecDepth 100000 in
theorem am_cwt_92 : tables_1[786]? = some (am_cdw 92) := rfl
set_option maxRecDepth 100000 in
theorem am_cwt_93 : tables_1[796]? = some (am_cdw 93) := rfl
set_option maxRecDepth 100000 in
theorem am_cwt_94 : tables_1[500]? = some (am_cdw 94) := rfl
set_option maxRecDepth 100000 in
theorem am_cwt_95 : tables_1[805]? = some (am_cdw 95) := rfl
set_option maxRecDepth 100000 in
theorem am_cwt_96 : tables_1[649]? = some (am_cdw 96) := rfl
set_option maxRecDepth 100000 in
theorem am_cwt_97 : tables_1[810]? = some (am_cdw 97) := rfl
set_option maxRecDepth 100000 in
theorem am_cwt_98 : tables_1[504]? = some (am_cdw 98) := rfl
set_option maxRecDepth 100000 in
theorem am_cwt_99 : tables_1[509]? = some (am_cdw 99) := rfl
set_option maxRecDepth 100000 in
theorem am_cwt_100 : tables_1[436]? = some (am_cdw 100) := rfl
set_option maxRecDepth 100000 in
theorem am_cwt_101 : tables_1[832]? = some (am_cdw 101) := rfl
set_option maxRecDepth 100000 in
theorem am_cwt_102 : tables_1[904]? = some (am_cdw 102) := rfl
set_option maxRecDepth 100000 in
theorem am_cwt_103 : tables_1[913]? = some (am_cdw 103) := rfl
set_option maxRecDepth 100000 in
theorem am_cwt_104 : tables_1[1013]? = some (am_cdw 104) := rfl
set_option maxRecDepth 100000 in
theorem am_cwt_105 : tables_1[908]? = some (am_cdw 105) := rfl
set_option maxRecDepth 100000 in
theorem am_cwt_106 : tables_1[917]? = some (am_cdw 106) := rfl
set_option maxRecDepth 100000 in
theorem am_cwt_107 : tables_1[921]? = some (am_cdw 107) := rfl
set_option maxRecDepth 100000 in
theorem am_cwt_108 : tables_1[925]? = some (am_cdw 108) := rfl
set_option maxRecDepth 100000 in
theorem am_cwt_109 : tables_1[929]? = some (am_cdw 109) := rfl
set_option maxRecDepth 100000 in
theorem am_cwt_110 : tables_1[934]? = some (am_cdw 110) := rfl
set_option maxRecDepth 100000 in
theorem am_cwt_111 : tables_1[1010]? = some (am_cdw 111) := rfl
set_option maxRecDepth 100000 in
theorem am_cwt_112 : tables_1[979]? = some (am_cdw 112) := rfl
set_option maxRecDepth 100000 in
theorem am_cwt_113 : tables_1[982]? = some (am_cdw 113) := rfl
set_option maxRecDepth 100000 in
theorem am_cwt_114 : tables_1[1028]? = some (am_cdw 114) := rfl
set_option maxRecDepth 100000 in
theorem am_cwt_115 : tables_1[1007]? = some (am_cdw 115) := rfl
set_option maxRecDepth 100000 in
theorem am_cwt_116 : tables_1[1021]? = some (am_cdw 116) := rfl
set_option maxRecDepth 100000 in
theorem am_cwt_117 : tables_1[1017]? = some (am_cdw 117) := rfl
set_option maxRecDepth 100000 in
theorem am_cwt_118 : tables_1[1025]? = some (am_cdw 118) := rfl
set_option maxRecDepth 100000 in
theorem am_cwt_119 : tables_1[1003]? = some (am_cdw 119) := rfl
set_option maxRecDepth 100000 in
theorem am_cwt_120 : tables_1[999]? = some (am_cdw 120) := rfl
set_option maxRecDepth 100000 in
theorem am_cwt_121 : tables_1[995]? = some (am_cdw 121) := rfl
set_option maxRecDepth 100000 in
theorem am_cwt_122 : tables_1[950]? = some (am_cdw 122) := rfl
set_option maxRecDepth 100000 in
theorem am_cwt_123 : tables_1[966]? = some (am_cdw 123) := rfl
set_option maxRecDepth 100000 in
theorem am_cwt_124 : tables_1[971]? = some (am_cdw 124) := rfl
set_option maxRecDepth 100000 in
theorem am_cwt_125 : tables_1[1032]? = some (am_cdw 125) := rfl
set_option maxRecDepth 100000 in
theorem am_cwt_126 : tables_1[991]? = some (am_cdw 126) := rfl
set_option maxRecDepth 100000 in
theorem am_cwt_127 : tables_1[1040]? = some (am_cdw 127) := rfl
set_option maxRecDepth 100000 in
theorem am_cwt_128 : tables_1[1036]? = some (am_cdw 128) := rfl
set_option maxRecDepth 100000 in
theorem am_cwt_129 : tables_1[987]? = some (am_cdw 129) := rfl
set_option maxRecDepth 100000 in
theorem am_cwt_130 : tables_1[961]? = some (am_cdw 130) := rfl
set_option maxRecDepth 100000 in
theorem am_cwt_131 : tables_1[956]? = some (am_cdw 131) := rfl
set_option maxRecDepth 100000 in
theorem am_cwt_132 : tables_1[945]? = some (am_cdw 132) := rfl
set_option maxRecDepth 100000 in
theorem am_cwt_133 : tables_1[938]? = some (am_cdw 133) := rfl
set_option maxRecDepth 100000 in
theorem am_cwt_134 : tables_1[1048]? = some (am_cdw 134) := rfl
set_option maxRecDepth 100000 in
theorem am_cwt_135 : tables_1[1057]? = some (am_cdw 135) := rfl
set_option maxRecDepth 100000 in
theorem am_cwt_136 : tables_1[1053]? = some (am_cdw 136) := rfl
set_option maxRecDepth 100000 in
theorem am_cwt_137 : tables_1[1069]? = some (am_cdw 137) := rfl
set_option maxRecDepth 100000 in
theorem am_cwt_138 : tables_1[1087]? = some (am_cdw 138) := rfl
set_option maxRecDepth 100000 in
theorem am_cwt_139 : tables_1[1083]? = some (am_cdw 139) := rfl
set_option maxRecDepth 100000 in
theorem am_cwt_140 : tables_1[1105]? = some (am_cdw 140) := rfl
set_option maxRecDepth 100000 in
theorem am_cwt_141 : tables_1[1095]? = some (am_cdw 141) := rfl
set_option maxRecDepth 100000 in
theorem am_cwt_142 : tables_1[1110]? = some (am_cdw 142) := rfl
set_option maxRecDepth 100000 in
theorem am_cwt_143 : tables_1[1079]? = some (am_cdw 143) := rfl
set_option maxRecDepth 100000 in
theorem am_cwt_144 : tables_1[1124]? = some (am_cdw 144) := rfl
set_option maxRecDepth 100000 in
theorem am_cwt_145 : tables_1[1118]? = some (am_cdw 145) := rfl
set_option maxRecDepth 100000 in
theorem am_cwt_146 : tables_1[1129]? = some (am_cdw 146) := rfl
set_option maxRecDepth 100000 in
theorem am_cwt_147 : tables_1[1114]? = some (am_cdw 147) := rfl
set_option maxRecDepth 100000 in
theorem am_cwt_148 : tables_1[1091]? = some (am_cdw 148) := rfl
set_option maxRecDepth 100000 in
theorem am_cwt_149 : tables_1[1065]? = some (am_cdw 149) := rfl
set_option maxRecDepth 100000 in
theorem am_cwt_150 : tables_1[1076]? = some (am_cdw 150) := rfl
set_option maxRecDepth 100000 in
theorem am_cwt_151 : tables_1[1061]? = some (am_cdw 151) := rfl
set_option maxRecDepth 100000 in
theorem am_cwt_152 : tables_1[1044]? = some (am_cdw 152) := rfl
set_option maxRecDepth 100000 in
theorem am_cwt_153 : tables_1[1134]? = some (am_cdw 153) := rfl
set_option maxRecDepth 100000 in
theorem am_cwt_154 : tables_1[1138]? = some (am_cdw 154) := rfl
set_option maxRecDepth 100000 in
theorem am_cwt_155 : tables_1[1142]? = some (am_cdw 155) := rfl
set_option maxRecDepth 100000 in
theorem am_cwt_156 : tables_1[1146]? = some (am_cdw 156) := rfl
set_option maxRecDepth 100000 in
theorem am_cwt_157 : tables_1[1150]? = some (am_cdw 157) := rfl
set_option maxRecDepth 100000 in
theorem am_cwt_158 : tables_1[1154]? = some (am_cdw 158) := rfl
set_option maxRecDepth 100000 in
theorem am_cwt_159 : tables_1[1162]? = some (am_cdw 159) := rfl
set_option maxRecDepth 100000 in
theorem am_cwt_160 : tables_1[1158]? = some (am_cdw 160) := rfl
set_option maxRecDepth 100000 in
theorem am_cwt_161 : tables_1[1166]? = some (am_cdw 161) := rfl
set_option maxRecDepth 100000 in
theorem am_cwt_162 : tables_1[514]? = some (am_cdw 162) := rfl
set_option maxRecDepth 100000 in
theorem am_cwt_163 : tables_1[609]? = some (am_cdw 163) := rfl
set_option maxRecDepth 100000 in
theorem am_cwt_164 : tables_1[633]? = some (am_cdw 164) := rfl
set_option maxRecDepth 100000 in
theorem am_cwt_165 : tables_1[642]? = some (am_cdw 165) := rfl
set_option maxRecDepth 100000 in
theorem am_cwt_166 : tables_1[758]? = some (am_cdw 166) := rfl
set_option maxRecDepth 100000 in
theorem am_cwt_167 : tables_1[766]? = some (am_cdw 167) := rfl
set_option maxRecDepth 100000 in
theorem am_cwt_168 : tables_1[774]? = some (am_cdw 168) := rfl
set_option maxRecDepth 100000 in
theorem am_cwt_169 : tables_1[782]? = some (am_cdw 169) := rfl
set_option maxRecDepth 100000 in
theorem am_cwt_170 : tables_1[792]? = some (am_cdw 170) := rfl
set_option maxRecDepth 100000 in
theorem am_cwt_171 : tables_1[800]? = some (am_cdw 171) := rfl
