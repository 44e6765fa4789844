theorem pg_c0_0 : pg_ckM 0 13 false code [(0, pg_0_0), (18, pg_0_18), (27, pg_0_27), (208, pg_0_208), (269, pg_0_269), (271, pg_0_271), (292, pg_0_292), (294, pg_0_294), (305, pg_0_305), (307, pg_0_307), (318, pg_0_318), (320, pg_0_320)] = true := by decide +kernel
theorem pg_c0_1 : pg_ckM 0 13 false code [(341, pg_0_341), (343, pg_0_343), (374, pg_0_374), (376, pg_0_376), (407, pg_0_407), (409, pg_0_409)] = true := by decide +kernel
theorem pg_c0_2 : pg_ckM 0 13 false code [(482, pg_0_482), (484, pg_0_484), (569, pg_0_569), (571, pg_0_571)] = true := by decide +kernel
theorem pg_c0_3 : pg_ckM 0 13 false code [(645, pg_0_645), (647, pg_0_647), (720, pg_0_720), (722, pg_0_722), (743, pg_0_743), (745, pg_0_745), (766, pg_0_766), (768, pg_0_768)] = true := by decide +kernel
theorem pg_c0_4 : pg_ckM 0 13 false code [(799, pg_0_799), (801, pg_0_801), (822, pg_0_822), (824, pg_0_824), (865, pg_0_865), (867, pg_0_867), (888, pg_0_888), (890, pg_0_890), (901, pg_0_901), (903, pg_0_903), (914, pg_0_914), (916, pg_0_916), (937, pg_0_937), (939, pg_0_939)] = true := by decide +kernel
theorem pg_c0_5 : pg_ckM 0 13 false code [(970, pg_0_970), (972, pg_0_972), (1013, pg_0_1013), (1015, pg_0_1015), (1047, pg_0_1047), (1049, pg_0_1049), (1063, pg_0_1063), (1067, pg_0_1067), (1068, pg_0_1068), (1095, pg_0_1095), (1099, pg_0_1099), (1100, pg_0_1100)] = true := by decide +kernel
theorem pg_c0_6 : pg_ckM 0 13 false code [(1116, pg_0_1116), (1118, pg_0_1118), (1179, pg_0_1179), (1181, pg_0_1181), (1212, pg_0_1212), (1214, pg_0_1214), (1225, pg_0_1225), (1227, pg_0_1227), (1238, pg_0_1238), (1240, pg_0_1240), (1261, pg_0_1261), (1263, pg_0_1263)] = true := by decide +kernel
theorem pg_c0_7 : pg_ckM 0 13 false code [(1324, pg_0_1324), (1326, pg_0_1326), (1357, pg_0_1357), (1359, pg_0_1359), (1420, pg_0_1420), (1422, pg_0_1422), (1433, pg_0_1433), (1435, pg_0_1435), (1456, pg_0_1456), (1458, pg_0_1458), (1467, pg_0_1467), (1471, pg_0_1471)] = true := by decide +kernel
theorem pg_c0_8 : pg_ckM 0 13 false code [(1472, pg_0_1472), (1489, pg_0_1489), (1493, pg_0_1493), (1494, pg_0_1494), (1505, pg_0_1505), (1507, pg_0_1507), (1528, pg_0_1528), (1530, pg_0_1530), (1551, pg_0_1551), (1553, pg_0_1553), (1574, pg_0_1574), (1576, pg_0_1576), (1597, pg_0_1597), (1599, pg_0_1599), (1620, pg_0_1620), (1622, pg_0_1622), (1628, pg_0_1628)] = true := by decide +kernel
theorem pg_c1_0 : pg_ckM 1 0 true prog_2_method_1_code [(0, pg_1_0)] = true := by decide +kernel
theorem pg_c2_0 : pg_ckM 2 0 false prog_2_method_2_code [(0, pg_2_0)] = true := by decide +kernel
theorem pg_c3_0 : pg_ckM 3 0 false prog_2_method_3_code [(0, pg_3_0)] = true := by decide +kernel
theorem pg_c4_0 : pg_ckM 4 0 false prog_2_method_4_code [(0, pg_4_0)] = true := by decide +kernel
theorem pg_c5_0 : pg_ckM 5 0 false prog_2_method_5_code [(0, pg_5_0), (3, pg_5_3), (9, pg_5_9), (30, pg_5_30)] = true := by decide +kernel
theorem pg_c6_0 : pg_ckM 6 0 false prog_2_method_6_code [(0, pg_6_0), (32, pg_6_32), (43, pg_6_43), (52, pg_6_52), (63, pg_6_63), (68, pg_6_68), (80, pg_6_80), (89, pg_6_89), (101, pg_6_101)] = true := by decide +kernel
theorem pg_c7_0 : pg_ckM 7 0 false prog_2_method_7_code [(0, pg_7_0)] = true := by decide +kernel
theorem pg_c8_0 : pg_ckM 8 0 false prog_2_method_8_code [(0, pg_8_0), (2, pg_8_2), (11, pg_8_11), (35, pg_8_35)] = true := by decide +kernel
theorem pg_c9_0 : pg_ckM 9 0 false prog_2_method_9_code [(0, pg_9_0), (21, pg_9_21), (23, pg_9_23), (45, pg_9_45), (54, pg_9_54), (72, pg_9_72), (81, pg_9_81)] = true := by decide +kernel
theorem pg_c10_0 : pg_ckM 10 0 false prog_2_method_10_code [(0, pg_10_0), (12, pg_10_12), (13, pg_10_13)] = true := by decide +kernel
theorem pg_c11_0 : pg_ckM 11 0 false prog_2_method_11_code [(0, pg_11_0)] = true := by decide +kernel
theorem pg_c12_0 : pg_ckM 12 1 true prog_3_method_1_code [(0, pg_12_0)] = true := by decide +kernel
theorem pg_c13_0 : pg_ckM 13 1 false prog_3_method_2_code [(0, pg_13_0)] = true := by decide +kernel
theorem pg_c14_0 : pg_ckM 14 1 false prog_3_method_3_code [(0, pg_14_0), (2, pg_14_2), (9, pg_14_9), (22, pg_14_22), (26, pg_14_26), (37, pg_14_37), (69, pg_14_69), (81, pg_14_81), (96, pg_14_96), (99, pg_14_99), (105, pg_14_105), (111, pg_14_111)] = true := by decide +kernel
theorem pg_c15_0 : pg_ckM 15 1 false prog_3_method_4_code [(0, pg_15_0)] = true := by decide +kernel
theorem pg_c16_0 : pg_ckM 16 1 false prog_3_method_5_code [(0, pg_16_0), (7, pg_16_7), (12, pg_16_12), (21, pg_16_21), (24, pg_16_24), (33, pg_16_33), (41, pg_16_41), (47, pg_16_47), (53, pg_16_53)] = true := by decide +kernel
theorem pg_c17_0 : pg_ckM 17 1 false prog_3_method_6_code [(0, pg_17_0), (21, pg_17_21), (27, pg_17_27), (40, pg_17_40), (74, pg_17_74), (80, pg_17_80)] = true := by decide +kernel
theorem pg_c18_0 : pg_ckM 18 1 false prog_3_method_7_code [(0, pg_18_0), (21, pg_18_21), (27, pg_18_27), (58, pg_18_58)] = true := by decide +kernel
theorem pg_c19_0 : pg_ckM 19 1 false prog_3_method_8_code [(0, pg_19_0), (9, pg_19_9), (14, pg_19_14), (21, pg_19_21), (31, pg_19_31), (48, pg_19_48)] = true := by decide +kernel
theorem pg_c20_0 : pg_ckM 20 2 true prog_4_method_1_code [(0, pg_20_0)] = true := by decide +kernel
theorem pg_c21_0 : pg_ckM 21 2 false prog_4_method_2_code [(0, pg_21_0), (5, pg_21_5), (11, pg_21_11), (15, pg_21_15), (21, pg_21_21), (30, pg_21_30), (32, pg_21_32)] = true := by decide +kernel
theorem pg_c22_0 : pg_ckM 22 2 false prog_4_method_3_code [(0, pg_22_0), (2, pg_22_2), (10, pg_22_10), (34, pg_22_34), (47, pg_22_47), (49, pg_22_49), (55, pg_22_55)] = true := by decide +kernel
theorem pg_c23_0 : pg_ckM 23 2 false prog_4_method_4_code [(0, pg_23_0), (4, pg_23_4), (9, pg_23_9), (11, pg_23_11), (17, pg_23_17), (26, pg_23_26), (29, pg_23_29), (35, pg_23_35), (41, pg_23_41)] = true := by decide +kernel
theorem pg_c24_0 : pg_ckM 24 2 false prog_4_method_5_code [(0, pg_24_0), (2, pg_24_2), (7, pg_24_7), (9, pg_24_9), (15, pg_24_15), (24, pg_24_24), (28, pg_24_28), (32, pg_24_32), (33, pg_24_33), (34, pg_24_34), (40, pg_24_40), (46, pg_24_46)] = true := by decide +kernel
theorem pg_c25_0 : pg_ckM 25 3 true prog_5_method_1_code [(0, pg_25_0)] = true := by decide +kernel
theorem pg_c26_0 : pg_ckM 26 3 false prog_5_method_2_code [(0, pg_26_0)] = true := by decide +kernel
theorem pg_c27_0 : pg_ckM 27 3 false prog_5_method_3_code [(0, pg_27_0), (11, pg_27_11), (23, pg_27_23), (40, pg_27_40), (49, pg_27_49), (55, pg_27_55), (63, pg_27_63), (75, pg_27_75), (86, pg_27_86), (123, pg_27_123), (129, pg_27_129)] = true := by decide +kernel
theorem pg_c28_0 : pg_ckM 28 3 false prog_5_method_4_code [(0, pg_28_0), (39, pg_28_39), (45, pg_28_45), (66, pg_28_66), (84, pg_28_84), (91, pg_28_91), (96, pg_28_96), (103, pg_28_103), (107, pg_28_107), (108, pg_28_108), (115, pg_28_115), (131, pg_28_131), (132, pg_28_132)] = true := by decide +kernel
theorem pg_c29_0 : pg_ckM 29 3 false prog_5_method_5_code [(0, pg_29_0), (9, pg_29_9), (17, pg_29_17), (73, pg_29_73)] = true := by decide +kernel
theorem pg_c30_0 : pg_ckM 30 3 false prog_5_method_6_code [(0, pg_30_0), (10, pg_30_10), (22, pg_30_22), (73, pg_30_73)] = true := by decide +kernel
theorem pg_c31_0 : pg_ckM 31 3 false prog_5_method_7_code [(0, pg_31_0), (9, pg_31_9), (20, pg_31_20), (54, pg_31_54)] = true := by decide +kernel
theorem pg_c32_0 : pg_ckM 32 3 false prog_5_method_8_code [(0, pg_32_0), (10, pg_32_10), (22, pg_32_22), (26, pg_32_26), (42, pg_32_42), (55, pg_32_55), (85, pg_32_85)] = true := by decide +kernel
theorem pg_c33_0 : pg_ckM 33 3 false prog_5_method_9_code [(0, pg_33_0), (2, pg_33_2), (10, pg_33_10), (20, pg_33_20), (22, pg_33_22), (28, pg_33_28)] = true := by decide +kernel
theorem pg_c34_0 : pg_ckM 34 3 false prog_5_method_10_code [(0, pg_34_0), (4, pg_34_4), (12, pg_34_12), (39, pg_34_39), (47, pg_34_47), (53, pg_34_53)] = true := by decide +kernel
theorem pg_c35_0 : pg_ckM 35 3 false prog_5_method_11_code [(0, pg_35_0), (12, pg_35_12), (19, pg_35_19), (23, pg_35_23)] = true := by decide +kernel
theorem pg_c36_0 : pg_ckM 36 3 false prog_5_method_12_code [(0, pg_36_0)] = true := by decide +kernel
theorem pg_c37_0 : pg_ckM 37 3 false prog_5_method_13_code [(0, pg_37_0), (6, pg_37_6), (18, pg_37_18), (27, pg_37_27), (50, pg_37_50), (56, pg_37_56)] = true := by decide +kernel
theorem pg_c38_0 : pg_ckM 38 4 true prog_6_method_1_code [(0, pg_38_0), (15, pg_38_15), (21, pg_38_21), (40, pg_38_40)] = true := by decide +kernel
theorem pg_c39_0 : pg_ckM 39 4 false prog_6_method_2_code [(0, pg_39_0), (4, pg_39_4), (12, pg_39_12), (16, pg_39_16), (17, pg_39_17)] = true := by decide +kernel
theorem pg_c40_0 : pg_ckM 40 4 false prog_6_method_3_code [(0, pg_40_0), (11, pg_40_11), (15, pg_40_15), (24, pg_40_24), (25, pg_40_25)] = true := by decide +kernel
theorem pg_c41_0 : pg_ckM 41 4 false prog_6_method_4_code [(0, pg_41_0), (2, pg_41_2), (10, pg_41_10), (31, pg_41_31)] = true := by decide +kernel
theorem pg_c42_0 : pg_ckM 42 4 false prog_6_method_5_code [(0, pg_42_0), (5, pg_42_5), (14, pg_42_14), (21, pg_42_21), (23, pg_42_23), (40, pg_42_40), (42, pg_42_42), (55, pg_42_55), (62, pg_42_62), (69, pg_42_69), (73, pg_42_73), (74, pg_42_74)] = true := by decide +kernel
theorem pg_c43_0 : pg_ckM 43 5 true prog_7_method_1_code [(0, pg_43_0)] = true := by decide +kernel
theorem pg_c44_0 : pg_ckM 44 5 false prog_7_method_2_code [(0, pg_44_0)] = true := by decide +kernel
theorem pg_c45_0 : pg_ckM 45 5 false prog_7_method_3_code [(0, pg_45_0), (9, pg_45_9), (10, pg_45_10)] = true := by decide +kernel
theorem pg_c46_0 : pg_ckM 46 5 false prog_7_method_4_code [(0, pg_46_0), (4, pg_46_4), (12, pg_46_12), (29, pg_46_29)] = true := by decide +kernel
theorem pg_c47_0 : pg_ckM 47 5 false prog_7_method_5_code [(0, pg_47_0), (4, pg_47_4), (12, pg_47_12), (28, pg_47_28)] = true := by decide +kernel
theorem pg_c48_0 : pg_ckM 48 5 false prog_7_method_6_code [(0, pg_48_0), (13, pg_48_13), (17, pg_48_17), (18, pg_48_18)] = true := by decide +kernel
theorem pg_c49_0 : pg_ckM 49 5 false prog_7_method_7_code [(0, pg_49_0), (8, pg_49_8), (9, pg_49_9), (37, pg_49_37), (44, pg_49_44), (77, pg_49_77), (80, pg_49_80), (91, pg_49_91), (100, pg_49_100), (109, pg_49_109), (123, pg_49_123)] = true := by decide +kernel
theorem pg_c50_0 : pg_ckM 50 5 false prog_7_method_8_code [(0, pg_50_0), (78, pg_50_78), (80, pg_50_80), (85, pg_50_85), (89, pg_50_89), (90, pg_50_90)] = true := by decide +kernel
theorem pg_c51_0 : pg_ckM 51 5 false prog_7_method_9_code [(0, pg_51_0), (2, pg_51_2), (10, pg_51_10), (65, pg_51_65), (67, pg_51_67), (73, pg_51_73)] = true := by decide +kernel
theorem pg_c52_0 : pg_ckM 52 5 false prog_7_method_10_code [(0, pg_52_0), (10, pg_52_10), (16, pg_52_16), (42, pg_52_42), (45, pg_52_45), (84, pg_52_84), (89, pg_52_89), (94, pg_52_94), (110, pg_52_110), (120, pg_52_120), (126, pg_52_126), (131, pg_52_131), (138, pg_52_138)] = true := by decide +kernel
theorem pg_c53_0 : pg_ckM 53 5 false prog_7_method_11_code [(0, pg_53_0)] = true := by decide +kernel
theorem pg_c54_0 : pg_ckM 54 5 false prog_7_method_12_code [(0, pg_54_0), (4, pg_54_4), (9, pg_54_9), (29, pg_54_29), (34, pg_54_34), (41, pg_54_41), (44, pg_54_44), (50, pg_54_50)] = true := by decide +kernel
theorem pg_c55_0 : pg_ckM 55 5 false prog_7_method_13_code [(0, pg_55_0), (24, pg_55_24), (33, pg_55_33), (34, pg_55_34), (41, pg_55_41), (45, pg_55_45), (46, pg_55_46), (48, pg_55_48), (55, pg_55_55), (60, pg_55_60), (67, pg_55_67), (68, pg_55_68), (70, pg_55_70), (79, pg_55_79), (91, pg_55_91), (99, pg_55_99), (107, pg_55_107), (120, pg_55_120), (126, pg_55_126), (132, pg_55_132)] = true := by decide +kernel
theorem pg_c56_0 : pg_ckM 56 5 false prog_7_method_14_code [(0, pg_56_0), (6, pg_56_6), (14, pg_56_14), (23, pg_56_23), (26, pg_56_26), (31, pg_56_31), (36, pg_56_36), (41, pg_56_41), (46, pg_56_46), (103, pg_56_103), (115, pg_56_115), (121, pg_56_121)] = true := by decide +kernel
theorem pg_c57_0 : pg_ckM 57 5 false prog_7_method_15_code [(0, pg_57_0), (12, pg_57_12), (21, pg_57_21), (27, pg_57_27), (36, pg_57_36), (70, pg_57_70), (84, pg_57_84), (88, pg_57_88), (89, pg_57_89), (96, pg_57_96), (104, pg_57_104), (119, pg_57_119), (125, pg_57_125), (131, pg_57_131), (136, pg_57_136), (147, pg_57_147)] = true := by decide +kernel
theorem pg_c58_0 : pg_ckM 58 5 false prog_7_method_16_code [(0, pg_58_0)] = true := by decide +kernel
theorem pg_c59_0 : pg_ckM 59 6 true prog_8_method_1_code [(0, pg_59_0)] = true := by decide +kernel
theorem pg_c60_0 : pg_ckM 60 6 false prog_8_method_2_code [(0, pg_60_0)] = true := by decide +kernel
theorem pg_c61_0 : pg_ckM 61 6 false prog_8_method_3_code [(0, pg_61_0), (9, pg_61_9), (17, pg_61_17), (26, pg_61_26), (30, pg_61_30), (31, pg_61_31)] = true := by decide +kernel
theorem pg_c62_0 : pg_ckM 62 6 false prog_8_method_4_code [(0, pg_62_0), (10, pg_62_10), (17, pg_62_17), (19, pg_62_19), (39, pg_62_39), (49, pg_62_49), (59, pg_62_59), (66, pg_62_66), (68, pg_62_68), (88, pg_62_88), (99, pg_62_99), (109, pg_62_109)] = true := by decide +kernel
theorem pg_c63_0 : pg_ckM 63 6 false prog_8_method_5_code [(0, pg_63_0), (10, pg_63_10), (20, pg_63_20), (22, pg_63_22), (50, pg_63_50), (52, pg_63_52), (62, pg_63_62), (72, pg_63_72), (74, pg_63_74), (92, pg_63_92), (94, pg_63_94)] = true := by decide +kernel
theorem pg_c64_0 : pg_ckM 64 6 false prog_8_method_6_code [(0, pg_64_0), (10, pg_64_10), (17, pg_64_17), (19, pg_64_19), (42, pg_64_42), (53, pg_64_53), (63, pg_64_63), (73, pg_64_73), (84, pg_64_84), (86, pg_64_86)] = true := by decide +kernel
theorem pg_c65_0 : pg_ckM 65 7 true prog_9_method_1_code [(0, pg_65_0)] = true := by decide +kernel
theorem pg_c66_0 : pg_ckM 66 7 false prog_9_method_2_code [(0, pg_66_0), (4, pg_66_4), (12, pg_66_12), (16, pg_66_16), (17, pg_66_17)] = true := by decide +kernel
