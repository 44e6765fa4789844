theorem pg_c67_0 : pg_ckM 67 7 false prog_9_method_3_code [(0, pg_67_0), (8, pg_67_8), (12, pg_67_12), (25, pg_67_25), (29, pg_67_29), (30, pg_67_30)] = true := by decide +kernel
theorem pg_c68_0 : pg_ckM 68 7 false prog_9_method_4_code [(0, pg_68_0)] = true := by decide +kernel
theorem pg_c69_0 : pg_ckM 69 7 false prog_9_method_5_code [(0, pg_69_0)] = true := by decide +kernel
theorem pg_c70_0 : pg_ckM 70 7 false prog_9_method_6_code [(0, pg_70_0), (2, pg_70_2), (10, pg_70_10), (21, pg_70_21), (23, pg_70_23), (29, pg_70_29)] = true := by decide +kernel
theorem pg_c71_0 : pg_ckM 71 7 false prog_9_method_7_code [(0, pg_71_0)] = true := by decide +kernel
theorem pg_c72_0 : pg_ckM 72 7 false prog_9_method_8_code [(0, pg_72_0), (37, pg_72_37), (44, pg_72_44), (51, pg_72_51), (53, pg_72_53), (61, pg_72_61), (63, pg_72_63), (69, pg_72_69)] = true := by decide +kernel
theorem pg_c73_0 : pg_ckM 73 7 false prog_9_method_9_code [(0, pg_73_0), (10, pg_73_10), (18, pg_73_18), (24, pg_73_24), (34, pg_73_34), (41, pg_73_41), (48, pg_73_48), (68, pg_73_68), (75, pg_73_75), (79, pg_73_79), (84, pg_73_84), (94, pg_73_94), (101, pg_73_101), (127, pg_73_127), (137, pg_73_137), (144, pg_73_144), (170, pg_73_170)] = true := by decide +kernel
theorem pg_c74_0 : pg_ckM 74 7 false prog_9_method_10_code [(0, pg_74_0), (8, pg_74_8), (19, pg_74_19), (26, pg_74_26), (30, pg_74_30), (31, pg_74_31)] = true := by decide +kernel
theorem pg_c75_0 : pg_ckM 75 7 false prog_9_method_11_code [(0, pg_75_0), (10, pg_75_10), (17, pg_75_17), (19, pg_75_19), (31, pg_75_31), (41, pg_75_41), (56, pg_75_56), (64, pg_75_64), (76, pg_75_76), (78, pg_75_78), (102, pg_75_102)] = true := by decide +kernel
theorem pg_c76_0 : pg_ckM 76 8 true prog_10_method_1_code [(0, pg_76_0)] = true := by decide +kernel
theorem pg_c77_0 : pg_ckM 77 8 false prog_10_method_2_code [(0, pg_77_0), (3, pg_77_3), (7, pg_77_7), (17, pg_77_17), (40, pg_77_40), (46, pg_77_46)] = true := by decide +kernel
theorem pg_c78_0 : pg_ckM 78 8 false prog_10_method_3_code [(0, pg_78_0)] = true := by decide +kernel
theorem pg_c79_0 : pg_ckM 79 8 false prog_10_method_4_code [(0, pg_79_0)] = true := by decide +kernel
theorem pg_c80_0 : pg_ckM 80 8 false prog_10_method_5_code [(0, pg_80_0), (9, pg_80_9), (13, pg_80_13), (14, pg_80_14)] = true := by decide +kernel
theorem pg_c81_0 : pg_ckM 81 8 false prog_10_method_6_code [(0, pg_81_0), (7, pg_81_7), (11, pg_81_11), (12, pg_81_12)] = true := by decide +kernel
theorem pg_c82_0 : pg_ckM 82 8 false prog_10_method_7_code [(0, pg_82_0), (8, pg_82_8), (17, pg_82_17), (21, pg_82_21), (22, pg_82_22)] = true := by decide +kernel
theorem pg_c83_0 : pg_ckM 83 8 false prog_10_method_8_code [(0, pg_83_0), (8, pg_83_8), (13, pg_83_13)] = true := by decide +kernel
theorem pg_c84_0 : pg_ckM 84 8 false prog_10_method_9_code [(0, pg_84_0), (8, pg_84_8), (13, pg_84_13)] = true := by decide +kernel
theorem pg_c85_0 : pg_ckM 85 8 false prog_10_method_10_code [(0, pg_85_0), (8, pg_85_8), (18, pg_85_18), (23, pg_85_23)] = true := by decide +kernel
theorem pg_c86_0 : pg_ckM 86 8 false prog_10_method_11_code [(0, pg_86_0), (13, pg_86_13), (21, pg_86_21), (28, pg_86_28), (36, pg_86_36), (41, pg_86_41), (60, pg_86_60), (68, pg_86_68), (76, pg_86_76)] = true := by decide +kernel
theorem pg_c87_0 : pg_ckM 87 8 false prog_10_method_12_code [(0, pg_87_0), (11, pg_87_11), (26, pg_87_26), (39, pg_87_39), (58, pg_87_58), (66, pg_87_66), (81, pg_87_81), (88, pg_87_88), (103, pg_87_103), (110, pg_87_110), (123, pg_87_123)] = true := by decide +kernel
theorem pg_c88_0 : pg_ckM 88 8 false prog_10_method_13_code [(0, pg_88_0), (5, pg_88_5), (16, pg_88_16), (31, pg_88_31), (66, pg_88_66), (81, pg_88_81), (85, pg_88_85), (86, pg_88_86)] = true := by decide +kernel
theorem pg_c89_0 : pg_ckM 89 8 false prog_10_method_14_code [(0, pg_89_0), (5, pg_89_5), (16, pg_89_16), (31, pg_89_31), (68, pg_89_68), (79, pg_89_79), (94, pg_89_94), (98, pg_89_98), (99, pg_89_99), (105, pg_89_105), (118, pg_89_118), (122, pg_89_122), (123, pg_89_123)] = true := by decide +kernel
theorem pg_c90_0 : pg_ckM 90 8 false prog_10_method_15_code [(0, pg_90_0), (6, pg_90_6), (14, pg_90_14), (20, pg_90_20), (28, pg_90_28), (33, pg_90_33)] = true := by decide +kernel
theorem pg_c91_0 : pg_ckM 91 8 false prog_10_method_16_code [(0, pg_91_0), (6, pg_91_6), (12, pg_91_12), (16, pg_91_16), (17, pg_91_17)] = true := by decide +kernel
theorem pg_c92_0 : pg_ckM 92 8 false prog_10_method_17_code [(0, pg_92_0), (6, pg_92_6), (12, pg_92_12), (16, pg_92_16), (17, pg_92_17)] = true := by decide +kernel
theorem pg_c93_0 : pg_ckM 93 8 false prog_10_method_18_code [(0, pg_93_0), (6, pg_93_6), (12, pg_93_12), (16, pg_93_16), (17, pg_93_17)] = true := by decide +kernel
theorem pg_c94_0 : pg_ckM 94 8 false prog_10_method_19_code [(0, pg_94_0), (8, pg_94_8), (16, pg_94_16), (24, pg_94_24), (32, pg_94_32), (40, pg_94_40), (48, pg_94_48), (56, pg_94_56), (64, pg_94_64), (72, pg_94_72), (80, pg_94_80), (84, pg_94_84), (85, pg_94_85)] = true := by decide +kernel
theorem pg_c95_0 : pg_ckM 95 9 true prog_11_method_1_code [(0, pg_95_0), (62, pg_95_62), (68, pg_95_68), (88, pg_95_88)] = true := by decide +kernel
theorem pg_c96_0 : pg_ckM 96 9 false prog_11_method_2_code [(0, pg_96_0)] = true := by decide +kernel
theorem pg_c97_0 : pg_ckM 97 9 false prog_11_method_3_code [(0, pg_97_0), (2, pg_97_2), (13, pg_97_13), (26, pg_97_26), (28, pg_97_28), (34, pg_97_34)] = true := by decide +kernel
theorem pg_c98_0 : pg_ckM 98 9 false prog_11_method_4_code [(0, pg_98_0), (2, pg_98_2), (13, pg_98_13), (35, pg_98_35)] = true := by decide +kernel
theorem pg_c99_0 : pg_ckM 99 9 false prog_11_method_5_code [(0, pg_99_0), (2, pg_99_2), (13, pg_99_13), (22, pg_99_22), (24, pg_99_24), (30, pg_99_30)] = true := by decide +kernel
theorem pg_c100_0 : pg_ckM 100 9 false prog_11_method_6_code [(0, pg_100_0), (22, pg_100_22), (29, pg_100_29), (36, pg_100_36), (38, pg_100_38), (86, pg_100_86), (93, pg_100_93), (99, pg_100_99), (100, pg_100_100)] = true := by decide +kernel
theorem pg_c101_0 : pg_ckM 101 9 false prog_11_method_7_code [(0, pg_101_0), (5, pg_101_5), (10, pg_101_10), (17, pg_101_17), (27, pg_101_27), (29, pg_101_29), (36, pg_101_36), (44, pg_101_44), (52, pg_101_52), (95, pg_101_95), (103, pg_101_103), (107, pg_101_107), (108, pg_101_108)] = true := by decide +kernel
theorem pg_c102_0 : pg_ckM 102 9 false prog_11_method_8_code [(0, pg_102_0), (8, pg_102_8), (13, pg_102_13), (14, pg_102_14), (25, pg_102_25), (36, pg_102_36), (93, pg_102_93), (102, pg_102_102), (105, pg_102_105), (115, pg_102_115), (125, pg_102_125), (133, pg_102_133), (156, pg_102_156), (162, pg_102_162)] = true := by decide +kernel
theorem pg_c103_0 : pg_ckM 103 9 false prog_11_method_9_code [(0, pg_103_0), (2, pg_103_2), (13, pg_103_13), (22, pg_103_22), (30, pg_103_30), (32, pg_103_32), (38, pg_103_38), (40, pg_103_40), (51, pg_103_51), (59, pg_103_59), (72, pg_103_72), (74, pg_103_74), (80, pg_103_80)] = true := by decide +kernel
theorem pg_c104_0 : pg_ckM 104 9 false prog_11_method_10_code [(0, pg_104_0), (2, pg_104_2), (10, pg_104_10), (31, pg_104_31), (33, pg_104_33), (39, pg_104_39)] = true := by decide +kernel
theorem pg_c105_0 : pg_ckM 105 9 false prog_11_method_11_code [(0, pg_105_0), (47, pg_105_47), (53, pg_105_53), (142, pg_105_142), (159, pg_105_159), (176, pg_105_176), (182, pg_105_182)] = true := by decide +kernel
theorem pg_c106_0 : pg_ckM 106 10 true prog_12_method_1_code [(0, pg_106_0)] = true := by decide +kernel
theorem pg_c107_0 : pg_ckM 107 10 false prog_12_method_2_code [(0, pg_107_0), (11, pg_107_11), (15, pg_107_15), (16, pg_107_16)] = true := by decide +kernel
theorem pg_c108_0 : pg_ckM 108 10 false prog_12_method_3_code [(0, pg_108_0)] = true := by decide +kernel
theorem pg_c109_0 : pg_ckM 109 10 false prog_12_method_4_code [(0, pg_109_0)] = true := by decide +kernel
theorem pg_c110_0 : pg_ckM 110 10 false prog_12_method_5_code [(0, pg_110_0), (9, pg_110_9), (11, pg_110_11)] = true := by decide +kernel
theorem pg_c111_0 : pg_ckM 111 10 false prog_12_method_6_code [(0, pg_111_0), (7, pg_111_7), (16, pg_111_16)] = true := by decide +kernel
theorem pg_c112_0 : pg_ckM 112 10 false prog_12_method_7_code [(0, pg_112_0), (9, pg_112_9), (16, pg_112_16), (29, pg_112_29), (31, pg_112_31), (39, pg_112_39), (50, pg_112_50)] = true := by decide +kernel
theorem pg_c113_0 : pg_ckM 113 10 false prog_12_method_8_code [(0, pg_113_0), (56, pg_113_56), (64, pg_113_64), (83, pg_113_83), (98, pg_113_98), (104, pg_113_104)] = true := by decide +kernel
theorem pg_c114_0 : pg_ckM 114 10 false prog_12_method_9_code [(0, pg_114_0)] = true := by decide +kernel
theorem pg_c115_0 : pg_ckM 115 10 false prog_12_method_10_code [(0, pg_115_0), (29, pg_115_29), (41, pg_115_41), (124, pg_115_124)] = true := by decide +kernel
theorem pg_c116_0 : pg_ckM 116 10 false prog_12_method_11_code [(0, pg_116_0)] = true := by decide +kernel
theorem pg_c117_0 : pg_ckM 117 10 false prog_12_method_12_code [(0, pg_117_0)] = true := by decide +kernel
theorem pg_c118_0 : pg_ckM 118 10 false prog_12_method_13_code [(0, pg_118_0), (7, pg_118_7), (8, pg_118_8), (15, pg_118_15), (23, pg_118_23), (90, pg_118_90), (109, pg_118_109), (123, pg_118_123), (127, pg_118_127), (146, pg_118_146), (160, pg_118_160), (166, pg_118_166)] = true := by decide +kernel
theorem pg_c119_0 : pg_ckM 119 10 false prog_12_method_14_code [(0, pg_119_0), (7, pg_119_7), (16, pg_119_16), (20, pg_119_20), (29, pg_119_29), (38, pg_119_38), (39, pg_119_39)] = true := by decide +kernel
theorem pg_c120_0 : pg_ckM 120 10 false prog_12_method_15_code [(0, pg_120_0), (9, pg_120_9), (20, pg_120_20), (22, pg_120_22), (27, pg_120_27), (44, pg_120_44), (65, pg_120_65), (71, pg_120_71), (77, pg_120_77)] = true := by decide +kernel
theorem pg_c121_0 : pg_ckM 121 10 false prog_12_method_16_code [(0, pg_121_0), (37, pg_121_37), (46, pg_121_46), (69, pg_121_69), (80, pg_121_80), (86, pg_121_86)] = true := by decide +kernel
theorem pg_c122_0 : pg_ckM 122 10 false prog_12_method_17_code [(0, pg_122_0), (2, pg_122_2), (7, pg_122_7), (17, pg_122_17), (19, pg_122_19), (25, pg_122_25)] = true := by decide +kernel
theorem pg_c123_0 : pg_ckM 123 11 true prog_1_method_1_code [(0, pg_123_0), (194, pg_123_194), (199, pg_123_199), (218, pg_123_218)] = true := by decide +kernel
theorem pg_c124_0 : pg_ckM 124 11 false prog_1_method_2_code [(0, pg_124_0), (16, pg_124_16), (18, pg_124_18)] = true := by decide +kernel
theorem pg_c125_0 : pg_ckM 125 11 false prog_1_method_3_code [(0, pg_125_0), (4, pg_125_4), (15, pg_125_15), (17, pg_125_17)] = true := by decide +kernel
theorem pg_c126_0 : pg_ckM 126 11 false prog_1_method_4_code [(0, pg_126_0), (31, pg_126_31), (33, pg_126_33), (65, pg_126_65), (70, pg_126_70), (83, pg_126_83)] = true := by decide +kernel
theorem pg_c127_0 : pg_ckM 127 11 false prog_1_method_5_code [(0, pg_127_0), (13, pg_127_13), (16, pg_127_16), (51, pg_127_51), (53, pg_127_53)] = true := by decide +kernel
theorem pg_c128_0 : pg_ckM 128 11 false prog_1_method_6_code [(0, pg_128_0), (4, pg_128_4), (12, pg_128_12), (17, pg_128_17), (27, pg_128_27), (28, pg_128_28)] = true := by decide +kernel
theorem pg_c129_0 : pg_ckM 129 11 false prog_1_method_7_code [(0, pg_129_0), (12, pg_129_12), (29, pg_129_29), (31, pg_129_31)] = true := by decide +kernel
theorem pg_c130_0 : pg_ckM 130 11 false prog_1_method_8_code [(0, pg_130_0), (12, pg_130_12), (28, pg_130_28), (30, pg_130_30)] = true := by decide +kernel
theorem pg_c131_0 : pg_ckM 131 11 false prog_1_method_9_code [(0, pg_131_0), (8, pg_131_8), (22, pg_131_22), (24, pg_131_24), (47, pg_131_47), (67, pg_131_67), (74, pg_131_74)] = true := by decide +kernel
theorem pg_c132_0 : pg_ckM 132 11 false prog_1_method_10_code [(0, pg_132_0), (8, pg_132_8), (22, pg_132_22), (35, pg_132_35), (37, pg_132_37), (72, pg_132_72), (74, pg_132_74)] = true := by decide +kernel
theorem pg_c133_0 : pg_ckM 133 11 false prog_1_method_11_code [(0, pg_133_0), (8, pg_133_8), (22, pg_133_22), (26, pg_133_26)] = true := by decide +kernel
theorem pg_c134_0 : pg_ckM 134 11 false prog_1_method_12_code [(0, pg_134_0), (8, pg_134_8), (22, pg_134_22), (24, pg_134_24), (57, pg_134_57), (61, pg_134_61), (62, pg_134_62)] = true := by decide +kernel
theorem pg_c135_0 : pg_ckM 135 11 false prog_1_method_13_code [(0, pg_135_0), (11, pg_135_11), (13, pg_135_13)] = true := by decide +kernel
theorem pg_c136_0 : pg_ckM 136 11 false prog_1_method_14_code [(0, pg_136_0), (4, pg_136_4), (11, pg_136_11), (21, pg_136_21), (23, pg_136_23), (29, pg_136_29), (34, pg_136_34), (60, pg_136_60)] = true := by decide +kernel
theorem pg_c137_0 : pg_ckM 137 11 false prog_1_method_15_code [(0, pg_137_0), (7, pg_137_7), (18, pg_137_18), (20, pg_137_20)] = true := by decide +kernel
theorem pg_c138_0 : pg_ckM 138 11 false prog_1_method_16_code [(0, pg_138_0), (7, pg_138_7), (9, pg_138_9), (20, pg_138_20), (24, pg_138_24), (25, pg_138_25)] = true := by decide +kernel
theorem pg_c139_0 : pg_ckM 139 11 false prog_1_method_17_code [(0, pg_139_0), (12, pg_139_12), (17, pg_139_17), (23, pg_139_23), (25, pg_139_25)] = true := by decide +kernel
theorem pg_c140_0 : pg_ckM 140 11 false prog_1_method_18_code [(0, pg_140_0), (4, pg_140_4), (11, pg_140_11), (13, pg_140_13)] = true := by decide +kernel
theorem pg_c141_0 : pg_ckM 141 11 false prog_1_method_19_code [(0, pg_141_0)] = true := by decide +kernel
