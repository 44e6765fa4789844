theorem pg_ckM_app {n cn : Nat} {ini : Bool} {cd : ByteArray} {a b : List (Nat × List xI)} (h1 : pg_ckM n cn ini cd a = true) (h2 : pg_ckM n cn ini cd b = true) : pg_ckM n cn ini cd (a ++ b) = true := by
  unfold pg_ckM at h1 h2 ⊢
  rw [List.all_append, h1, h2]
  rfl
theorem pg_b0_eq : pg_b0 = [(0, pg_0_0), (18, pg_0_18), (27, pg_0_27), (208, pg_0_208), (269, pg_0_269), (271, pg_0_271), (292, pg_0_292), (294, pg_0_294), (305, pg_0_305), (307, pg_0_307), (318, pg_0_318), (320, pg_0_320)] ++ ([(341, pg_0_341), (343, pg_0_343), (374, pg_0_374), (376, pg_0_376), (407, pg_0_407), (409, pg_0_409)] ++ ([(482, pg_0_482), (484, pg_0_484), (569, pg_0_569), (571, pg_0_571)] ++ ([(645, pg_0_645), (647, pg_0_647), (720, pg_0_720), (722, pg_0_722), (743, pg_0_743), (745, pg_0_745), (766, pg_0_766), (768, pg_0_768)] ++ ([(799, pg_0_799), (801, pg_0_801), (822, pg_0_822), (824, pg_0_824), (865, pg_0_865), (867, pg_0_867), (888, pg_0_888), (890, pg_0_890), (901, pg_0_901), (903, pg_0_903), (914, pg_0_914), (916, pg_0_916), (937, pg_0_937), (939, pg_0_939)] ++ ([(970, pg_0_970), (972, pg_0_972), (1013, pg_0_1013), (1015, pg_0_1015), (1047, pg_0_1047), (1049, pg_0_1049), (1063, pg_0_1063), (1067, pg_0_1067), (1068, pg_0_1068), (1095, pg_0_1095), (1099, pg_0_1099), (1100, pg_0_1100)] ++ ([(1116, pg_0_1116), (1118, pg_0_1118), (1179, pg_0_1179), (1181, pg_0_1181), (1212, pg_0_1212), (1214, pg_0_1214), (1225, pg_0_1225), (1227, pg_0_1227), (1238, pg_0_1238), (1240, pg_0_1240), (1261, pg_0_1261), (1263, pg_0_1263)] ++ ([(1324, pg_0_1324), (1326, pg_0_1326), (1357, pg_0_1357), (1359, pg_0_1359), (1420, pg_0_1420), (1422, pg_0_1422), (1433, pg_0_1433), (1435, pg_0_1435), (1456, pg_0_1456), (1458, pg_0_1458), (1467, pg_0_1467), (1471, pg_0_1471)] ++ ([(1472, pg_0_1472), (1489, pg_0_1489), (1493, pg_0_1493), (1494, pg_0_1494), (1505, pg_0_1505), (1507, pg_0_1507), (1528, pg_0_1528), (1530, pg_0_1530), (1551, pg_0_1551), (1553, pg_0_1553), (1574, pg_0_1574), (1576, pg_0_1576), (1597, pg_0_1597), (1599, pg_0_1599), (1620, pg_0_1620), (1622, pg_0_1622), (1628, pg_0_1628)])))))))) := by decide +kernel
set_option maxRecDepth 100000 in
theorem pg_d0 : pg_ckM 0 13 false code pg_b0 = true := by
  rw [pg_b0_eq]
  exact (pg_ckM_app pg_c0_0 (pg_ckM_app pg_c0_1 (pg_ckM_app pg_c0_2 (pg_ckM_app pg_c0_3 (pg_ckM_app pg_c0_4 (pg_ckM_app pg_c0_5 (pg_ckM_app pg_c0_6 (pg_ckM_app pg_c0_7 pg_c0_8))))))))
theorem pg_d1 : pg_ckM 1 0 true prog_2_method_1_code pg_b1 = true := pg_c1_0
theorem pg_d2 : pg_ckM 2 0 false prog_2_method_2_code pg_b2 = true := pg_c2_0
theorem pg_d3 : pg_ckM 3 0 false prog_2_method_3_code pg_b3 = true := pg_c3_0
theorem pg_d4 : pg_ckM 4 0 false prog_2_method_4_code pg_b4 = true := pg_c4_0
theorem pg_d5 : pg_ckM 5 0 false prog_2_method_5_code pg_b5 = true := pg_c5_0
theorem pg_d6 : pg_ckM 6 0 false prog_2_method_6_code pg_b6 = true := pg_c6_0
theorem pg_d7 : pg_ckM 7 0 false prog_2_method_7_code pg_b7 = true := pg_c7_0
theorem pg_d8 : pg_ckM 8 0 false prog_2_method_8_code pg_b8 = true := pg_c8_0
theorem pg_d9 : pg_ckM 9 0 false prog_2_method_9_code pg_b9 = true := pg_c9_0
theorem pg_d10 : pg_ckM 10 0 false prog_2_method_10_code pg_b10 = true := pg_c10_0
theorem pg_d11 : pg_ckM 11 0 false prog_2_method_11_code pg_b11 = true := pg_c11_0
theorem pg_d12 : pg_ckM 12 1 true prog_3_method_1_code pg_b12 = true := pg_c12_0
theorem pg_d13 : pg_ckM 13 1 false prog_3_method_2_code pg_b13 = true := pg_c13_0
theorem pg_d14 : pg_ckM 14 1 false prog_3_method_3_code pg_b14 = true := pg_c14_0
theorem pg_d15 : pg_ckM 15 1 false prog_3_method_4_code pg_b15 = true := pg_c15_0
theorem pg_d16 : pg_ckM 16 1 false prog_3_method_5_code pg_b16 = true := pg_c16_0
theorem pg_d17 : pg_ckM 17 1 false prog_3_method_6_code pg_b17 = true := pg_c17_0
theorem pg_d18 : pg_ckM 18 1 false prog_3_method_7_code pg_b18 = true := pg_c18_0
theorem pg_d19 : pg_ckM 19 1 false prog_3_method_8_code pg_b19 = true := pg_c19_0
theorem pg_d20 : pg_ckM 20 2 true prog_4_method_1_code pg_b20 = true := pg_c20_0
theorem pg_d21 : pg_ckM 21 2 false prog_4_method_2_code pg_b21 = true := pg_c21_0
theorem pg_d22 : pg_ckM 22 2 false prog_4_method_3_code pg_b22 = true := pg_c22_0
theorem pg_d23 : pg_ckM 23 2 false prog_4_method_4_code pg_b23 = true := pg_c23_0
theorem pg_d24 : pg_ckM 24 2 false prog_4_method_5_code pg_b24 = true := pg_c24_0
theorem pg_d25 : pg_ckM 25 3 true prog_5_method_1_code pg_b25 = true := pg_c25_0
theorem pg_d26 : pg_ckM 26 3 false prog_5_method_2_code pg_b26 = true := pg_c26_0
theorem pg_d27 : pg_ckM 27 3 false prog_5_method_3_code pg_b27 = true := pg_c27_0
theorem pg_d28 : pg_ckM 28 3 false prog_5_method_4_code pg_b28 = true := pg_c28_0
theorem pg_d29 : pg_ckM 29 3 false prog_5_method_5_code pg_b29 = true := pg_c29_0
theorem pg_d30 : pg_ckM 30 3 false prog_5_method_6_code pg_b30 = true := pg_c30_0
theorem pg_d31 : pg_ckM 31 3 false prog_5_method_7_code pg_b31 = true := pg_c31_0
theorem pg_d32 : pg_ckM 32 3 false prog_5_method_8_code pg_b32 = true := pg_c32_0
theorem pg_d33 : pg_ckM 33 3 false prog_5_method_9_code pg_b33 = true := pg_c33_0
theorem pg_d34 : pg_ckM 34 3 false prog_5_method_10_code pg_b34 = true := pg_c34_0
theorem pg_d35 : pg_ckM 35 3 false prog_5_method_11_code pg_b35 = true := pg_c35_0
theorem pg_d36 : pg_ckM 36 3 false prog_5_method_12_code pg_b36 = true := pg_c36_0
theorem pg_d37 : pg_ckM 37 3 false prog_5_method_13_code pg_b37 = true := pg_c37_0
theorem pg_d38 : pg_ckM 38 4 true prog_6_method_1_code pg_b38 = true := pg_c38_0
theorem pg_d39 : pg_ckM 39 4 false prog_6_method_2_code pg_b39 = true := pg_c39_0
theorem pg_d40 : pg_ckM 40 4 false prog_6_method_3_code pg_b40 = true := pg_c40_0
theorem pg_d41 : pg_ckM 41 4 false prog_6_method_4_code pg_b41 = true := pg_c41_0
theorem pg_d42 : pg_ckM 42 4 false prog_6_method_5_code pg_b42 = true := pg_c42_0
theorem pg_d43 : pg_ckM 43 5 true prog_7_method_1_code pg_b43 = true := pg_c43_0
theorem pg_d44 : pg_ckM 44 5 false prog_7_method_2_code pg_b44 = true := pg_c44_0
theorem pg_d45 : pg_ckM 45 5 false prog_7_method_3_code pg_b45 = true := pg_c45_0
theorem pg_d46 : pg_ckM 46 5 false prog_7_method_4_code pg_b46 = true := pg_c46_0
theorem pg_d47 : pg_ckM 47 5 false prog_7_method_5_code pg_b47 = true := pg_c47_0
theorem pg_d48 : pg_ckM 48 5 false prog_7_method_6_code pg_b48 = true := pg_c48_0
theorem pg_d49 : pg_ckM 49 5 false prog_7_method_7_code pg_b49 = true := pg_c49_0
theorem pg_d50 : pg_ckM 50 5 false prog_7_method_8_code pg_b50 = true := pg_c50_0
theorem pg_d51 : pg_ckM 51 5 false prog_7_method_9_code pg_b51 = true := pg_c51_0
theorem pg_d52 : pg_ckM 52 5 false prog_7_method_10_code pg_b52 = true := pg_c52_0
theorem pg_d53 : pg_ckM 53 5 false prog_7_method_11_code pg_b53 = true := pg_c53_0
theorem pg_d54 : pg_ckM 54 5 false prog_7_method_12_code pg_b54 = true := pg_c54_0
theorem pg_d55 : pg_ckM 55 5 false prog_7_method_13_code pg_b55 = true := pg_c55_0
theorem pg_d56 : pg_ckM 56 5 false prog_7_method_14_code pg_b56 = true := pg_c56_0
theorem pg_d57 : pg_ckM 57 5 false prog_7_method_15_code pg_b57 = true := pg_c57_0
theorem pg_d58 : pg_ckM 58 5 false prog_7_method_16_code pg_b58 = true := pg_c58_0
theorem pg_d59 : pg_ckM 59 6 true prog_8_method_1_code pg_b59 = true := pg_c59_0
theorem pg_d60 : pg_ckM 60 6 false prog_8_method_2_code pg_b60 = true := pg_c60_0
theorem pg_d61 : pg_ckM 61 6 false prog_8_method_3_code pg_b61 = true := pg_c61_0
theorem pg_d62 : pg_ckM 62 6 false prog_8_method_4_code pg_b62 = true := pg_c62_0
theorem pg_d63 : pg_ckM 63 6 false prog_8_method_5_code pg_b63 = true := pg_c63_0
theorem pg_d64 : pg_ckM 64 6 false prog_8_method_6_code pg_b64 = true := pg_c64_0
theorem pg_d65 : pg_ckM 65 7 true prog_9_method_1_code pg_b65 = true := pg_c65_0
theorem pg_d66 : pg_ckM 66 7 false prog_9_method_2_code pg_b66 = true := pg_c66_0
theorem pg_d67 : pg_ckM 67 7 false prog_9_method_3_code pg_b67 = true := pg_c67_0
theorem pg_d68 : pg_ckM 68 7 false prog_9_method_4_code pg_b68 = true := pg_c68_0
theorem pg_d69 : pg_ckM 69 7 false prog_9_method_5_code pg_b69 = true := pg_c69_0
theorem pg_d70 : pg_ckM 70 7 false prog_9_method_6_code pg_b70 = true := pg_c70_0
theorem pg_d71 : pg_ckM 71 7 false prog_9_method_7_code pg_b71 = true := pg_c71_0
theorem pg_d72 : pg_ckM 72 7 false prog_9_method_8_code pg_b72 = true := pg_c72_0
theorem pg_d73 : pg_ckM 73 7 false prog_9_method_9_code pg_b73 = true := pg_c73_0
theorem pg_d74 : pg_ckM 74 7 false prog_9_method_10_code pg_b74 = true := pg_c74_0
theorem pg_d75 : pg_ckM 75 7 false prog_9_method_11_code pg_b75 = true := pg_c75_0
theorem pg_d76 : pg_ckM 76 8 true prog_10_method_1_code pg_b76 = true := pg_c76_0
theorem pg_d77 : pg_ckM 77 8 false prog_10_method_2_code pg_b77 = true := pg_c77_0
theorem pg_d78 : pg_ckM 78 8 false prog_10_method_3_code pg_b78 = true := pg_c78_0
theorem pg_d79 : pg_ckM 79 8 false prog_10_method_4_code pg_b79 = true := pg_c79_0
theorem pg_d80 : pg_ckM 80 8 false prog_10_method_5_code pg_b80 = true := pg_c80_0
theorem pg_d81 : pg_ckM 81 8 false prog_10_method_6_code pg_b81 = true := pg_c81_0
theorem pg_d82 : pg_ckM 82 8 false prog_10_method_7_code pg_b82 = true := pg_c82_0
theorem pg_d83 : pg_ckM 83 8 false prog_10_method_8_code pg_b83 = true := pg_c83_0
theorem pg_d84 : pg_ckM 84 8 false prog_10_method_9_code pg_b84 = true := pg_c84_0
theorem pg_d85 : pg_ckM 85 8 false prog_10_method_10_code pg_b85 = true := pg_c85_0
theorem pg_d86 : pg_ckM 86 8 false prog_10_method_11_code pg_b86 = true := pg_c86_0
theorem pg_d87 : pg_ckM 87 8 false prog_10_method_12_code pg_b87 = true := pg_c87_0
theorem pg_d88 : pg_ckM 88 8 false prog_10_method_13_code pg_b88 = true := pg_c88_0
theorem pg_d89 : pg_ckM 89 8 false prog_10_method_14_code pg_b89 = true := pg_c89_0
theorem pg_d90 : pg_ckM 90 8 false prog_10_method_15_code pg_b90 = true := pg_c90_0
theorem pg_d91 : pg_ckM 91 8 false prog_10_method_16_code pg_b91 = true := pg_c91_0
theorem pg_d92 : pg_ckM 92 8 false prog_10_method_17_code pg_b92 = true := pg_c92_0
theorem pg_d93 : pg_ckM 93 8 false prog_10_method_18_code pg_b93 = true := pg_c93_0
theorem pg_d94 : pg_ckM 94 8 false prog_10_method_19_code pg_b94 = true := pg_c94_0
theorem pg_d95 : pg_ckM 95 9 true prog_11_method_1_code pg_b95 = true := pg_c95_0
theorem pg_d96 : pg_ckM 96 9 false prog_11_method_2_code pg_b96 = true := pg_c96_0
theorem pg_d97 : pg_ckM 97 9 false prog_11_method_3_code pg_b97 = true := pg_c97_0
theorem pg_d98 : pg_ckM 98 9 false prog_11_method_4_code pg_b98 = true := pg_c98_0
theorem pg_d99 : pg_ckM 99 9 false prog_11_method_5_code pg_b99 = true := pg_c99_0
theorem pg_d100 : pg_ckM 100 9 false prog_11_method_6_code pg_b100 = true := pg_c100_0
theorem pg_d101 : pg_ckM 101 9 false prog_11_method_7_code pg_b101 = true := pg_c101_0
theorem pg_d102 : pg_ckM 102 9 false prog_11_method_8_code pg_b102 = true := pg_c102_0
theorem pg_d103 : pg_ckM 103 9 false prog_11_method_9_code pg_b103 = true := pg_c103_0
theorem pg_d104 : pg_ckM 104 9 false prog_11_method_10_code pg_b104 = true := pg_c104_0
theorem pg_d105 : pg_ckM 105 9 false prog_11_method_11_code pg_b105 = true := pg_c105_0
theorem pg_d106 : pg_ckM 106 10 true prog_12_method_1_code pg_b106 = true := pg_c106_0
theorem pg_d107 : pg_ckM 107 10 false prog_12_method_2_code pg_b107 = true := pg_c107_0
theorem pg_d108 : pg_ckM 108 10 false prog_12_method_3_code pg_b108 = true := pg_c108_0
theorem pg_d109 : pg_ckM 109 10 false prog_12_method_4_code pg_b109 = true := pg_c109_0
theorem pg_d110 : pg_ckM 110 10 false prog_12_method_5_code pg_b110 = true := pg_c110_0
theorem pg_d111 : pg_ckM 111 10 false prog_12_method_6_code pg_b111 = true := pg_c111_0
theorem pg_d112 : pg_ckM 112 10 false prog_12_method_7_code pg_b112 = true := pg_c112_0
theorem pg_d113 : pg_ckM 113 10 false prog_12_method_8_code pg_b113 = true := pg_c113_0
theorem pg_d114 : pg_ckM 114 10 false prog_12_method_9_code pg_b114 = true := pg_c114_0
theorem pg_d115 : pg_ckM 115 10 false prog_12_method_10_code pg_b115 = true := pg_c115_0
theorem pg_d116 : pg_ckM 116 10 false prog_12_method_11_code pg_b116 = true := pg_c116_0
theorem pg_d117 : pg_ckM 117 10 false prog_12_method_12_code pg_b117 = true := pg_c117_0
theorem pg_d118 : pg_ckM 118 10 false prog_12_method_13_code pg_b118 = true := pg_c118_0
theorem pg_d119 : pg_ckM 119 10 false prog_12_method_14_code pg_b119 = true := pg_c119_0
theorem pg_d120 : pg_ckM 120 10 false prog_12_method_15_code pg_b120 = true := pg_c120_0
theorem pg_d121 : pg_ckM 121 10 false prog_12_method_16_code pg_b121 = true := pg_c121_0
theorem pg_d122 : pg_ckM 122 10 false prog_12_method_17_code pg_b122 = true := pg_c122_0
theorem pg_d123 : pg_ckM 123 11 true prog_1_method_1_code pg_b123 = true := pg_c123_0
theorem pg_d124 : pg_ckM 124 11 false prog_1_method_2_code pg_b124 = true := pg_c124_0
theorem pg_d125 : pg_ckM 125 11 false prog_1_method_3_code pg_b125 = true := pg_c125_0
theorem pg_d126 : pg_ckM 126 11 false prog_1_method_4_code pg_b126 = true := pg_c126_0
theorem pg_d127 : pg_ckM 127 11 false prog_1_method_5_code pg_b127 = true := pg_c127_0
theorem pg_d128 : pg_ckM 128 11 false prog_1_method_6_code pg_b128 = true := pg_c128_0
theorem pg_d129 : pg_ckM 129 11 false prog_1_method_7_code pg_b129 = true := pg_c129_0
theorem pg_d130 : pg_ckM 130 11 false prog_1_method_8_code pg_b130 = true := pg_c130_0
theorem pg_d131 : pg_ckM 131 11 false prog_1_method_9_code pg_b131 = true := pg_c131_0
theorem pg_d132 : pg_ckM 132 11 false prog_1_method_10_code pg_b132 = true := pg_c132_0
theorem pg_d133 : pg_ckM 133 11 false prog_1_method_11_code pg_b133 = true := pg_c133_0
theorem pg_d134 : pg_ckM 134 11 false prog_1_method_12_code pg_b134 = true := pg_c134_0
theorem pg_d135 : pg_ckM 135 11 false prog_1_method_13_code pg_b135 = true := pg_c135_0
theorem pg_d136 : pg_ckM 136 11 false prog_1_method_14_code pg_b136 = true := pg_c136_0
theorem pg_d137 : pg_ckM 137 11 false prog_1_method_15_code pg_b137 = true := pg_c137_0
theorem pg_d138 : pg_ckM 138 11 false prog_1_method_16_code pg_b138 = true := pg_c138_0
theorem pg_d139 : pg_ckM 139 11 false prog_1_method_17_code pg_b139 = true := pg_c139_0
theorem pg_d140 : pg_ckM 140 11 false prog_1_method_18_code pg_b140 = true := pg_c140_0
theorem pg_d141 : pg_ckM 141 11 false prog_1_method_19_code pg_b141 = true := pg_c141_0
theorem pg_d142 : pg_ckM 142 11 false prog_1_method_20_code pg_b142 = true := pg_c142_0
theorem pg_d143 : pg_ckM 143 11 false prog_1_method_21_code pg_b143 = true := pg_c143_0
theorem pg_d144 : pg_ckM 144 11 false prog_1_method_22_code pg_b144 = true := pg_c144_0
theorem pg_d145 : pg_ckM 145 11 false prog_1_method_23_code pg_b145 = true := pg_c145_0
theorem pg_d146 : pg_ckM 146 11 false prog_1_method_24_code pg_b146 = true := pg_c146_0
theorem pg_d147 : pg_ckM 147 11 false prog_1_method_25_code pg_b147 = true := pg_c147_0
theorem pg_d148 : pg_ckM 148 11 false prog_1_method_26_code pg_b148 = true := pg_c148_0
theorem pg_d149 : pg_ckM 149 11 false prog_1_method_27_code pg_b149 = true := pg_c149_0
theorem pg_d150 : pg_ckM 150 11 false prog_1_method_28_code pg_b150 = true := pg_c150_0
theorem pg_d151 : pg_ckM 151 11 false prog_1_method_29_code pg_b151 = true := pg_c151_0
theorem pg_d152 : pg_ckM 152 11 false prog_1_method_30_code pg_b152 = true := pg_c152_0
theorem pg_d153 : pg_ckM 153 11 false prog_1_method_31_code pg_b153 = true := pg_c153_0
theorem pg_d154 : pg_ckM 154 11 false prog_1_method_32_code pg_b154 = true := pg_c154_0
theorem pg_d155 : pg_ckM 155 11 false prog_1_method_33_code pg_b155 = true := pg_c155_0
theorem pg_d156 : pg_ckM 156 11 false prog_1_method_34_code pg_b156 = true := pg_c156_0
theorem pg_d157 : pg_ckM 157 11 false prog_1_method_35_code pg_b157 = true := pg_c157_0
theorem pg_d158 : pg_ckM 158 11 false prog_1_method_36_code pg_b158 = true := pg_c158_0
theorem pg_d159 : pg_ckM 159 11 false prog_1_method_37_code pg_b159 = true := pg_c159_0
theorem pg_d160 : pg_ckM 160 11 false prog_1_method_38_code pg_b160 = true := pg_c160_0
theorem pg_d161 : pg_ckM 161 11 false prog_1_method_39_code pg_b161 = true := pg_c161_0
theorem pg_d162 : pg_ckM 162 11 false prog_1_method_40_code pg_b162 = true := pg_c162_0
theorem pg_d163 : pg_ckM 163 11 false prog_1_method_41_code pg_b163 = true := pg_c163_0
theorem pg_d164 : pg_ckM 164 11 false prog_1_method_42_code pg_b164 = true := pg_c164_0
theorem pg_d165 : pg_ckM 165 11 false prog_1_method_43_code pg_b165 = true := pg_c165_0
theorem pg_d166 : pg_ckM 166 11 false prog_1_method_44_code pg_b166 = true := pg_c166_0
theorem pg_d167 : pg_ckM 167 11 false prog_1_method_45_code pg_b167 = true := pg_c167_0
theorem pg_d168 : pg_ckM 168 11 false prog_1_method_46_code pg_b168 = true := pg_c168_0
theorem pg_d169 : pg_ckM 169 11 false prog_1_method_47_code pg_b169 = true := pg_c169_0
theorem pg_d170 : pg_ckM 170 11 false prog_1_method_48_code pg_b170 = true := pg_c170_0
theorem pg_d171 : pg_ckM 171 11 false prog_1_method_49_code pg_b171 = true := pg_c171_0
set_option maxRecDepth 100000 in
theorem pg_d172 : pg_ckM 172 12 true prog_14_method_1_code pg_b172 = true := (pg_ckM_app pg_c172_0 pg_c172_1)
theorem pg_d173 : pg_ckM 173 12 false prog_14_method_2_code pg_b173 = true := pg_c173_0
theorem pg_d174 : pg_ckM 174 12 false prog_14_method_3_code pg_b174 = true := pg_c174_0
theorem pg_d175 : pg_ckM 175 12 false prog_14_method_4_code pg_b175 = true := pg_c175_0
theorem pg_d176 : pg_ckM 176 12 false prog_14_method_5_code pg_b176 = true := pg_c176_0
theorem pg_d177 : pg_ckM 177 12 false prog_14_method_6_code pg_b177 = true := pg_c177_0
theorem pg_d178 : pg_ckM 178 12 false prog_14_method_7_code pg_b178 = true := pg_c178_0
set_option maxRecDepth 100000 in
theorem pg_d179 : pg_ckM 179 12 false prog_14_method_8_code pg_b179 = true := (pg_ckM_app pg_c179_0 pg_c179_1)
theorem pg_d180 : pg_ckM 180 12 false prog_14_method_9_code pg_b180 = true := pg_c180_0
theorem pg_d181 : pg_ckM 181 12 false prog_14_method_10_code pg_b181 = true := pg_c181_0
theorem pg_d182 : pg_ckM 182 12 false prog_14_method_11_code pg_b182 = true := pg_c182_0
theorem pg_d183 : pg_ckM 183 12 false prog_14_method_12_code pg_b183 = true := pg_c183_0
theorem pg_d184 : pg_ckM 184 12 false prog_14_method_13_code pg_b184 = true := pg_c184_0
theorem pg_d185 : pg_ckM 185 12 false prog_14_method_14_code pg_b185 = true := pg_c185_0
theorem pg_d186 : pg_ckM 186 12 false prog_14_method_15_code pg_b186 = true := pg_c186_0
set_option maxRecDepth 100000 in
theorem pg_d187 : pg_ckM 187 12 false prog_14_method_16_code pg_b187 = true := (pg_ckM_app pg_c187_0 pg_c187_1)
set_option maxRecDepth 100000 in
theorem pg_d188 : pg_ckM 188 12 false prog_14_method_17_code pg_b188 = true := (pg_ckM_app pg_c188_0 pg_c188_1)
theorem pg_d189 : pg_ckM 189 12 false prog_14_method_18_code pg_b189 = true := pg_c189_0
theorem pg_d190 : pg_ckM 190 12 false prog_14_method_19_code pg_b190 = true := pg_c190_0
theorem pg_d191 : pg_ckM 191 12 false prog_14_method_20_code pg_b191 = true := pg_c191_0
theorem pg_d192 : pg_ckM 192 12 false prog_14_method_21_code pg_b192 = true := pg_c192_0
theorem pg_d193 : pg_ckM 193 12 false prog_14_method_22_code pg_b193 = true := pg_c193_0
theorem pg_d194 : pg_ckM 194 12 false prog_14_method_23_code pg_b194 = true := pg_c194_0
theorem pg_d195 : pg_ckM 195 12 false prog_14_method_24_code pg_b195 = true := pg_c195_0
theorem pg_d196 : pg_ckM 196 12 false prog_14_method_25_code pg_b196 = true := pg_c196_0
theorem pg_d197 : pg_ckM 197 12 false prog_14_method_26_code pg_b197 = true := pg_c197_0
theorem pg_d198 : pg_ckM 198 12 false prog_14_method_27_code pg_b198 = true := pg_c198_0
theorem pg_d199 : pg_ckM 199 12 false prog_14_method_28_code pg_b199 = true := pg_c199_0
theorem pg_d200 : pg_ckM 200 12 false prog_14_method_29_code pg_b200 = true := pg_c200_0
theorem pg_d201 : pg_ckM 201 12 false prog_14_method_30_code pg_b201 = true := pg_c201_0
theorem pg_d202 : pg_ckM 202 12 false prog_14_method_31_code pg_b202 = true := pg_c202_0
theorem pg_d203 : pg_ckM 203 12 false prog_14_method_32_code pg_b203 = true := pg_c203_0
theorem pg_d204 : pg_ckM 204 12 false prog_14_method_33_code pg_b204 = true := pg_c204_0
theorem pg_d205 : pg_ckM 205 12 false prog_14_method_34_code pg_b205 = true := pg_c205_0
theorem pg_d206 : pg_ckM 206 12 false prog_14_method_35_code pg_b206 = true := pg_c206_0
theorem pg_d207 : pg_ckM 207 12 false prog_14_method_36_code pg_b207 = true := pg_c207_0
theorem pg_d208 : pg_ckM 208 12 false prog_14_method_37_code pg_b208 = true := pg_c208_0
theorem pg_d209 : pg_ckM 209 12 false prog_14_method_38_code pg_b209 = true := pg_c209_0
theorem pg_d210 : pg_ckM 210 12 false prog_14_method_39_code pg_b210 = true := pg_c210_0
theorem pg_d211 : pg_ckM 211 12 false prog_14_method_40_code pg_b211 = true := pg_c211_0
theorem pg_d212 : pg_ckM 212 12 false prog_14_method_41_code pg_b212 = true := pg_c212_0
theorem pg_d213 : pg_ckM 213 12 false prog_14_method_42_code pg_b213 = true := pg_c213_0
theorem pg_d214 : pg_ckM 214 12 false prog_14_method_43_code pg_b214 = true := pg_c214_0
theorem pg_d215 : pg_ckM 215 12 false prog_14_method_44_code pg_b215 = true := pg_c215_0
theorem pg_d216 : pg_ckM 216 12 false prog_14_method_45_code pg_b216 = true := pg_c216_0
theorem pg_d217 : pg_ckM 217 12 false prog_14_method_46_code pg_b217 = true := pg_c217_0
theorem pg_d218 : pg_ckM 218 12 false prog_14_method_47_code pg_b218 = true := pg_c218_0
theorem pg_d219 : pg_ckM 219 12 false prog_14_method_48_code pg_b219 = true := pg_c219_0
theorem pg_d220 : pg_ckM 220 12 false prog_14_method_49_code pg_b220 = true := pg_c220_0
theorem pg_d221 : pg_ckM 221 12 false prog_14_method_50_code pg_b221 = true := pg_c221_0
theorem pg_d222 : pg_ckM 222 12 false prog_14_method_51_code pg_b222 = true := pg_c222_0
theorem pg_d223 : pg_ckM 223 12 false prog_14_method_52_code pg_b223 = true := pg_c223_0
theorem pg_d224 : pg_ckM 224 12 false prog_14_method_53_code pg_b224 = true := pg_c224_0
theorem pg_d225 : pg_ckM 225 12 false prog_14_method_54_code pg_b225 = true := pg_c225_0
theorem pg_d226 : pg_ckM 226 12 false prog_14_method_55_code pg_b226 = true := pg_c226_0
theorem pg_d227 : pg_ckM 227 12 false prog_14_method_56_code pg_b227 = true := pg_c227_0
theorem pg_d228 : pg_ckM 228 12 false prog_14_method_57_code pg_b228 = true := pg_c228_0
theorem pg_d229 : pg_ckM 229 12 false prog_14_method_58_code pg_b229 = true := pg_c229_0
theorem pg_d230 : pg_ckM 230 12 false prog_14_method_59_code pg_b230 = true := pg_c230_0
theorem pg_d231 : pg_ckM 231 12 false prog_14_method_60_code pg_b231 = true := pg_c231_0
theorem pg_d232 : pg_ckM 232 12 false prog_14_method_61_code pg_b232 = true := pg_c232_0
theorem pg_d233 : pg_ckM 233 12 false prog_14_method_62_code pg_b233 = true := pg_c233_0
theorem pg_d234 : pg_ckM 234 12 false prog_14_method_63_code pg_b234 = true := pg_c234_0
theorem pg_d235 : pg_ckM 235 12 false prog_14_method_64_code pg_b235 = true := pg_c235_0
theorem pg_d236 : pg_ckM 236 12 false prog_14_method_65_code pg_b236 = true := pg_c236_0
theorem pg_d237 : pg_ckM 237 12 false prog_14_method_66_code pg_b237 = true := pg_c237_0
theorem pg_d238 : pg_ckM 238 12 false prog_14_method_67_code pg_b238 = true := pg_c238_0
theorem pg_d239 : pg_ckM 239 12 false prog_14_method_68_code pg_b239 = true := pg_c239_0
set_option maxRecDepth 100000 in
theorem pg_d240 : pg_ckM 240 12 false prog_14_method_69_code pg_b240 = true := (pg_ckM_app pg_c240_0 pg_c240_1)
theorem pg_d241 : pg_ckM 241 12 false prog_14_method_70_code pg_b241 = true := pg_c241_0
theorem pg_d242 : pg_ckM 242 12 false prog_14_method_71_code pg_b242 = true := pg_c242_0
theorem pg_d243 : pg_ckM 243 12 false prog_14_method_72_code pg_b243 = true := pg_c243_0
theorem pg_d244 : pg_ckM 244 12 false prog_14_method_73_code pg_b244 = true := pg_c244_0
theorem pg_d245 : pg_ckM 245 12 false prog_14_method_74_code pg_b245 = true := pg_c245_0
theorem pg_d246 : pg_ckM 246 12 false prog_14_method_75_code pg_b246 = true := pg_c246_0
theorem pg_d247 : pg_ckM 247 12 false prog_14_method_76_code pg_b247 = true := pg_c247_0
theorem pg_d248 : pg_ckM 248 12 false prog_14_method_77_code pg_b248 = true := pg_c248_0
theorem pg_d249 : pg_ckM 249 12 false prog_14_method_78_code pg_b249 = true := pg_c249_0
theorem pg_d250 : pg_ckM 250 12 false prog_14_method_79_code pg_b250 = true := pg_c250_0
theorem pg_d251 : pg_ckM 251 12 false prog_14_method_80_code pg_b251 = true := pg_c251_0
theorem pg_d252 : pg_ckM 252 12 false prog_14_method_81_code pg_b252 = true := pg_c252_0
theorem pg_d253 : pg_ckM 253 12 false prog_14_method_82_code pg_b253 = true := pg_c253_0
theorem pg_d254 : pg_ckM 254 12 false prog_14_method_83_code pg_b254 = true := pg_c254_0
theorem pg_d255 : pg_ckM 255 12 false prog_14_method_84_code pg_b255 = true := pg_c255_0
theorem pg_d256 : pg_ckM 256 12 false prog_14_method_85_code pg_b256 = true := pg_c256_0
theorem pg_d257 : pg_ckM 257 12 false prog_14_method_86_code pg_b257 = true := pg_c257_0
theorem pg_d258 : pg_ckM 258 12 false prog_14_method_87_code pg_b258 = true := pg_c258_0
theorem pg_d259 : pg_ckM 259 12 false prog_14_method_88_code pg_b259 = true := pg_c259_0
set_option maxRecDepth 100000 in
theorem pg_d260 : pg_ckM 260 12 false prog_14_method_89_code pg_b260 = true := (pg_ckM_app pg_c260_0 pg_c260_1)
theorem pg_d261 : pg_ckM 261 12 false prog_14_method_90_code pg_b261 = true := pg_c261_0
theorem pg_d262 : pg_ckM 262 12 false prog_14_method_91_code pg_b262 = true := pg_c262_0
theorem pg_d263 : pg_ckM 263 12 false prog_14_method_92_code pg_b263 = true := pg_c263_0
theorem pg_d264 : pg_ckM 264 12 false prog_14_method_93_code pg_b264 = true := pg_c264_0
theorem pg_d265 : pg_ckM 265 12 false prog_14_method_94_code pg_b265 = true := pg_c265_0
theorem pg_d266 : pg_ckM 266 12 false prog_14_method_95_code pg_b266 = true := pg_c266_0
theorem pg_d267 : pg_ckM 267 12 false prog_14_method_96_code pg_b267 = true := pg_c267_0
theorem pg_d268 : pg_ckM 268 12 false prog_14_method_97_code pg_b268 = true := pg_c268_0
theorem pg_d269 : pg_ckM 269 12 false prog_14_method_98_code pg_b269 = true := pg_c269_0
theorem pg_d270 : pg_ckM 270 12 false prog_14_method_99_code pg_b270 = true := pg_c270_0
theorem pg_d271 : pg_ckM 271 12 false prog_14_method_100_code pg_b271 = true := pg_c271_0
theorem pg_d272 : pg_ckM 272 12 false prog_14_method_101_code pg_b272 = true := pg_c272_0
theorem pg_d273 : pg_ckM 273 12 false prog_14_method_102_code pg_b273 = true := pg_c273_0
theorem pg_d274 : pg_ckM 274 12 false prog_14_method_103_code pg_b274 = true := pg_c274_0
theorem pg_d275 : pg_ckM 275 12 false prog_14_method_104_code pg_b275 = true := pg_c275_0
theorem pg_d276 : pg_ckM 276 12 false prog_14_method_105_code pg_b276 = true := pg_c276_0
theorem pg_d277 : pg_ckM 277 12 false prog_14_method_106_code pg_b277 = true := pg_c277_0
theorem pg_d278 : pg_ckM 278 12 false prog_14_method_107_code pg_b278 = true := pg_c278_0
theorem pg_d279 : pg_ckM 279 12 false prog_14_method_108_code pg_b279 = true := pg_c279_0
theorem pg_d280 : pg_ckM 280 12 false prog_14_method_109_code pg_b280 = true := pg_c280_0
theorem pg_d281 : pg_ckM 281 12 false prog_14_method_110_code pg_b281 = true := pg_c281_0
theorem pg_d282 : pg_ckM 282 12 false prog_14_method_111_code pg_b282 = true := pg_c282_0
theorem pg_d283 : pg_ckM 283 12 false prog_14_method_112_code pg_b283 = true := pg_c283_0
theorem pg_d284 : pg_ckM 284 14 false prog_15_method_40_code pg_b284 = true := pg_c284_0
theorem pg_d285 : pg_ckM 285 14 false prog_15_method_49_code pg_b285 = true := pg_c285_0
theorem pg_d286 : pg_ckM 286 16 false prog_18_method_103_code pg_b286 = true := pg_c286_0
def pg_P (n : Nat) : Prop := ∃ cn ini, pg_own cn = (pg_md n).1.cls ∧ (ini = true → (pg_md n).1.name = "<init>") ∧ ∃ bs, pg_bs[n]? = some bs ∧ pg_ckM n cn ini (pg_md n).2.1 bs = true
theorem pg_e0 : pg_P 0 := ⟨13, false, rfl, fun h => absurd h (by decide), pg_b0, rfl, pg_d0⟩
theorem pg_e1 : pg_P 1 := ⟨0, true, rfl, fun _ => rfl, pg_b1, rfl, pg_d1⟩
theorem pg_e2 : pg_P 2 := ⟨0, false, rfl, fun h => absurd h (by decide), pg_b2, rfl, pg_d2⟩
theorem pg_e3 : pg_P 3 := ⟨0, false, rfl, fun h => absurd h (by decide), pg_b3, rfl, pg_d3⟩
theorem pg_e4 : pg_P 4 := ⟨0, false, rfl, fun h => absurd h (by decide), pg_b4, rfl, pg_d4⟩
theorem pg_e5 : pg_P 5 := ⟨0, false, rfl, fun h => absurd h (by decide), pg_b5, rfl, pg_d5⟩
theorem pg_e6 : pg_P 6 := ⟨0, false, rfl, fun h => absurd h (by decide), pg_b6, rfl, pg_d6⟩
theorem pg_e7 : pg_P 7 := ⟨0, false, rfl, fun h => absurd h (by decide), pg_b7, rfl, pg_d7⟩
theorem pg_e8 : pg_P 8 := ⟨0, false, rfl, fun h => absurd h (by decide), pg_b8, rfl, pg_d8⟩
theorem pg_e9 : pg_P 9 := ⟨0, false, rfl, fun h => absurd h (by decide), pg_b9, rfl, pg_d9⟩
theorem pg_e10 : pg_P 10 := ⟨0, false, rfl, fun h => absurd h (by decide), pg_b10, rfl, pg_d10⟩
theorem pg_e11 : pg_P 11 := ⟨0, false, rfl, fun h => absurd h (by decide), pg_b11, rfl, pg_d11⟩
theorem pg_e12 : pg_P 12 := ⟨1, true, rfl, fun _ => rfl, pg_b12, rfl, pg_d12⟩
theorem pg_e13 : pg_P 13 := ⟨1, false, rfl, fun h => absurd h (by decide), pg_b13, rfl, pg_d13⟩
theorem pg_e14 : pg_P 14 := ⟨1, false, rfl, fun h => absurd h (by decide), pg_b14, rfl, pg_d14⟩
theorem pg_e15 : pg_P 15 := ⟨1, false, rfl, fun h => absurd h (by decide), pg_b15, rfl, pg_d15⟩
theorem pg_e16 : pg_P 16 := ⟨1, false, rfl, fun h => absurd h (by decide), pg_b16, rfl, pg_d16⟩
theorem pg_e17 : pg_P 17 := ⟨1, false, rfl, fun h => absurd h (by decide), pg_b17, rfl, pg_d17⟩
theorem pg_e18 : pg_P 18 := ⟨1, false, rfl, fun h => absurd h (by decide), pg_b18, rfl, pg_d18⟩
theorem pg_e19 : pg_P 19 := ⟨1, false, rfl, fun h => absurd h (by decide), pg_b19, rfl, pg_d19⟩
theorem pg_e20 : pg_P 20 := ⟨2, true, rfl, fun _ => rfl, pg_b20, rfl, pg_d20⟩
theorem pg_e21 : pg_P 21 := ⟨2, false, rfl, fun h => absurd h (by decide), pg_b21, rfl, pg_d21⟩
theorem pg_e22 : pg_P 22 := ⟨2, false, rfl, fun h => absurd h (by decide), pg_b22, rfl, pg_d22⟩
theorem pg_e23 : pg_P 23 := ⟨2, false, rfl, fun h => absurd h (by decide), pg_b23, rfl, pg_d23⟩
theorem pg_e24 : pg_P 24 := ⟨2, false, rfl, fun h => absurd h (by decide), pg_b24, rfl, pg_d24⟩
theorem pg_e25 : pg_P 25 := ⟨3, true, rfl, fun _ => rfl, pg_b25, rfl, pg_d25⟩
theorem pg_e26 : pg_P 26 := ⟨3, false, rfl, fun h => absurd h (by decide), pg_b26, rfl, pg_d26⟩
theorem pg_e27 : pg_P 27 := ⟨3, false, rfl, fun h => absurd h (by decide), pg_b27, rfl, pg_d27⟩
theorem pg_e28 : pg_P 28 := ⟨3, false, rfl, fun h => absurd h (by decide), pg_b28, rfl, pg_d28⟩
theorem pg_e29 : pg_P 29 := ⟨3, false, rfl, fun h => absurd h (by decide), pg_b29, rfl, pg_d29⟩
theorem pg_e30 : pg_P 30 := ⟨3, false, rfl, fun h => absurd h (by decide), pg_b30, rfl, pg_d30⟩
theorem pg_e31 : pg_P 31 := ⟨3, false, rfl, fun h => absurd h (by decide), pg_b31, rfl, pg_d31⟩
theorem pg_e32 : pg_P 32 := ⟨3, false, rfl, fun h => absurd h (by decide), pg_b32, rfl, pg_d32⟩
theorem pg_e33 : pg_P 33 := ⟨3, false, rfl, fun h => absurd h (by decide), pg_b33, rfl, pg_d33⟩
theorem pg_e34 : pg_P 34 := ⟨3, false, rfl, fun h => absurd h (by decide), pg_b34, rfl, pg_d34⟩
theorem pg_e35 : pg_P 35 := ⟨3, false, rfl, fun h => absurd h (by decide), pg_b35, rfl, pg_d35⟩
theorem pg_e36 : pg_P 36 := ⟨3, false, rfl, fun h => absurd h (by decide), pg_b36, rfl, pg_d36⟩
theorem pg_e37 : pg_P 37 := ⟨3, false, rfl, fun h => absurd h (by decide), pg_b37, rfl, pg_d37⟩
theorem pg_e38 : pg_P 38 := ⟨4, true, rfl, fun _ => rfl, pg_b38, rfl, pg_d38⟩
theorem pg_e39 : pg_P 39 := ⟨4, false, rfl, fun h => absurd h (by decide), pg_b39, rfl, pg_d39⟩
theorem pg_e40 : pg_P 40 := ⟨4, false, rfl, fun h => absurd h (by decide), pg_b40, rfl, pg_d40⟩
theorem pg_e41 : pg_P 41 := ⟨4, false, rfl, fun h => absurd h (by decide), pg_b41, rfl, pg_d41⟩
theorem pg_e42 : pg_P 42 := ⟨4, false, rfl, fun h => absurd h (by decide), pg_b42, rfl, pg_d42⟩
theorem pg_e43 : pg_P 43 := ⟨5, true, rfl, fun _ => rfl, pg_b43, rfl, pg_d43⟩
theorem pg_e44 : pg_P 44 := ⟨5, false, rfl, fun h => absurd h (by decide), pg_b44, rfl, pg_d44⟩
theorem pg_e45 : pg_P 45 := ⟨5, false, rfl, fun h => absurd h (by decide), pg_b45, rfl, pg_d45⟩
theorem pg_e46 : pg_P 46 := ⟨5, false, rfl, fun h => absurd h (by decide), pg_b46, rfl, pg_d46⟩
theorem pg_e47 : pg_P 47 := ⟨5, false, rfl, fun h => absurd h (by decide), pg_b47, rfl, pg_d47⟩
theorem pg_e48 : pg_P 48 := ⟨5, false, rfl, fun h => absurd h (by decide), pg_b48, rfl, pg_d48⟩
theorem pg_e49 : pg_P 49 := ⟨5, false, rfl, fun h => absurd h (by decide), pg_b49, rfl, pg_d49⟩
theorem pg_e50 : pg_P 50 := ⟨5, false, rfl, fun h => absurd h (by decide), pg_b50, rfl, pg_d50⟩
theorem pg_e51 : pg_P 51 := ⟨5, false, rfl, fun h => absurd h (by decide), pg_b51, rfl, pg_d51⟩
theorem pg_e52 : pg_P 52 := ⟨5, false, rfl, fun h => absurd h (by decide), pg_b52, rfl, pg_d52⟩
theorem pg_e53 : pg_P 53 := ⟨5, false, rfl, fun h => absurd h (by decide), pg_b53, rfl, pg_d53⟩
theorem pg_e54 : pg_P 54 := ⟨5, false, rfl, fun h => absurd h (by decide), pg_b54, rfl, pg_d54⟩
theorem pg_e55 : pg_P 55 := ⟨5, false, rfl, fun h => absurd h (by decide), pg_b55, rfl, pg_d55⟩
theorem pg_e56 : pg_P 56 := ⟨5, false, rfl, fun h => absurd h (by decide), pg_b56, rfl, pg_d56⟩
theorem pg_e57 : pg_P 57 := ⟨5, false, rfl, fun h => absurd h (by decide), pg_b57, rfl, pg_d57⟩
theorem pg_e58 : pg_P 58 := ⟨5, false, rfl, fun h => absurd h (by decide), pg_b58, rfl, pg_d58⟩
theorem pg_e59 : pg_P 59 := ⟨6, true, rfl, fun _ => rfl, pg_b59, rfl, pg_d59⟩
theorem pg_e60 : pg_P 60 := ⟨6, false, rfl, fun h => absurd h (by decide), pg_b60, rfl, pg_d60⟩
theorem pg_e61 : pg_P 61 := ⟨6, false, rfl, fun h => absurd h (by decide), pg_b61, rfl, pg_d61⟩
theorem pg_e62 : pg_P 62 := ⟨6, false, rfl, fun h => absurd h (by decide), pg_b62, rfl, pg_d62⟩
theorem pg_e63 : pg_P 63 := ⟨6, false, rfl, fun h => absurd h (by decide), pg_b63, rfl, pg_d63⟩
theorem pg_e64 : pg_P 64 := ⟨6, false, rfl, fun h => absurd h (by decide), pg_b64, rfl, pg_d64⟩
theorem pg_e65 : pg_P 65 := ⟨7, true, rfl, fun _ => rfl, pg_b65, rfl, pg_d65⟩
theorem pg_e66 : pg_P 66 := ⟨7, false, rfl, fun h => absurd h (by decide), pg_b66, rfl, pg_d66⟩
theorem pg_e67 : pg_P 67 := ⟨7, false, rfl, fun h => absurd h (by decide), pg_b67, rfl, pg_d67⟩
theorem pg_e68 : pg_P 68 := ⟨7, false, rfl, fun h => absurd h (by decide), pg_b68, rfl, pg_d68⟩
theorem pg_e69 : pg_P 69 := ⟨7, false, rfl, fun h => absurd h (by decide), pg_b69, rfl, pg_d69⟩
theorem pg_e70 : pg_P 70 := ⟨7, false, rfl, fun h => absurd h (by decide), pg_b70, rfl, pg_d70⟩
theorem pg_e71 : pg_P 71 := ⟨7, false, rfl, fun h => absurd h (by decide), pg_b71, rfl, pg_d71⟩
theorem pg_e72 : pg_P 72 := ⟨7, false, rfl, fun h => absurd h (by decide), pg_b72, rfl, pg_d72⟩
theorem pg_e73 : pg_P 73 := ⟨7, false, rfl, fun h => absurd h (by decide), pg_b73, rfl, pg_d73⟩
theorem pg_e74 : pg_P 74 := ⟨7, false, rfl, fun h => absurd h (by decide), pg_b74, rfl, pg_d74⟩
theorem pg_e75 : pg_P 75 := ⟨7, false, rfl, fun h => absurd h (by decide), pg_b75, rfl, pg_d75⟩
theorem pg_e76 : pg_P 76 := ⟨8, true, rfl, fun _ => rfl, pg_b76, rfl, pg_d76⟩
theorem pg_e77 : pg_P 77 := ⟨8, false, rfl, fun h => absurd h (by decide), pg_b77, rfl, pg_d77⟩
theorem pg_e78 : pg_P 78 := ⟨8, false, rfl, fun h => absurd h (by decide), pg_b78, rfl, pg_d78⟩
theorem pg_e79 : pg_P 79 := ⟨8, false, rfl, fun h => absurd h (by decide), pg_b79, rfl, pg_d79⟩
theorem pg_e80 : pg_P 80 := ⟨8, false, rfl, fun h => absurd h (by decide), pg_b80, rfl, pg_d80⟩
theorem pg_e81 : pg_P 81 := ⟨8, false, rfl, fun h => absurd h (by decide), pg_b81, rfl, pg_d81⟩
theorem pg_e82 : pg_P 82 := ⟨8, false, rfl, fun h => absurd h (by decide), pg_b82, rfl, pg_d82⟩
theorem pg_e83 : pg_P 83 := ⟨8, false, rfl, fun h => absurd h (by decide), pg_b83, rfl, pg_d83⟩
theorem pg_e84 : pg_P 84 := ⟨8, false, rfl, fun h => absurd h (by decide), pg_b84, rfl, pg_d84⟩
theorem pg_e85 : pg_P 85 := ⟨8, false, rfl, fun h => absurd h (by decide), pg_b85, rfl, pg_d85⟩
theorem pg_e86 : pg_P 86 := ⟨8, false, rfl, fun h => absurd h (by decide), pg_b86, rfl, pg_d86⟩
theorem pg_e87 : pg_P 87 := ⟨8, false, rfl, fun h => absurd h (by decide), pg_b87, rfl, pg_d87⟩
theorem pg_e88 : pg_P 88 := ⟨8, false, rfl, fun h => absurd h (by decide), pg_b88, rfl, pg_d88⟩
theorem pg_e89 : pg_P 89 := ⟨8, false, rfl, fun h => absurd h (by decide), pg_b89, rfl, pg_d89⟩
theorem pg_e90 : pg_P 90 := ⟨8, false, rfl, fun h => absurd h (by decide), pg_b90, rfl, pg_d90⟩
theorem pg_e91 : pg_P 91 := ⟨8, false, rfl, fun h => absurd h (by decide), pg_b91, rfl, pg_d91⟩
theorem pg_e92 : pg_P 92 := ⟨8, false, rfl, fun h => absurd h (by decide), pg_b92, rfl, pg_d92⟩
theorem pg_e93 : pg_P 93 := ⟨8, false, rfl, fun h => absurd h (by decide), pg_b93, rfl, pg_d93⟩
theorem pg_e94 : pg_P 94 := ⟨8, false, rfl, fun h => absurd h (by decide), pg_b94, rfl, pg_d94⟩
theorem pg_e95 : pg_P 95 := ⟨9, true, rfl, fun _ => rfl, pg_b95, rfl, pg_d95⟩
theorem pg_e96 : pg_P 96 := ⟨9, false, rfl, fun h => absurd h (by decide), pg_b96, rfl, pg_d96⟩
theorem pg_e97 : pg_P 97 := ⟨9, false, rfl, fun h => absurd h (by decide), pg_b97, rfl, pg_d97⟩
theorem pg_e98 : pg_P 98 := ⟨9, false, rfl, fun h => absurd h (by decide), pg_b98, rfl, pg_d98⟩
theorem pg_e99 : pg_P 99 := ⟨9, false, rfl, fun h => absurd h (by decide), pg_b99, rfl, pg_d99⟩
theorem pg_e100 : pg_P 100 := ⟨9, false, rfl, fun h => absurd h (by decide), pg_b100, rfl, pg_d100⟩
theorem pg_e101 : pg_P 101 := ⟨9, false, rfl, fun h => absurd h (by decide), pg_b101, rfl, pg_d101⟩
theorem pg_e102 : pg_P 102 := ⟨9, false, rfl, fun h => absurd h (by decide), pg_b102, rfl, pg_d102⟩
theorem pg_e103 : pg_P 103 := ⟨9, false, rfl, fun h => absurd h (by decide), pg_b103, rfl, pg_d103⟩
theorem pg_e104 : pg_P 104 := ⟨9, false, rfl, fun h => absurd h (by decide), pg_b104, rfl, pg_d104⟩
theorem pg_e105 : pg_P 105 := ⟨9, false, rfl, fun h => absurd h (by decide), pg_b105, rfl, pg_d105⟩
theorem pg_e106 : pg_P 106 := ⟨10, true, rfl, fun _ => rfl, pg_b106, rfl, pg_d106⟩
theorem pg_e107 : pg_P 107 := ⟨10, false, rfl, fun h => absurd h (by decide), pg_b107, rfl, pg_d107⟩
theorem pg_e108 : pg_P 108 := ⟨10, false, rfl, fun h => absurd h (by decide), pg_b108, rfl, pg_d108⟩
theorem pg_e109 : pg_P 109 := ⟨10, false, rfl, fun h => absurd h (by decide), pg_b109, rfl, pg_d109⟩
theorem pg_e110 : pg_P 110 := ⟨10, false, rfl, fun h => absurd h (by decide), pg_b110, rfl, pg_d110⟩
theorem pg_e111 : pg_P 111 := ⟨10, false, rfl, fun h => absurd h (by decide), pg_b111, rfl, pg_d111⟩
theorem pg_e112 : pg_P 112 := ⟨10, false, rfl, fun h => absurd h (by decide), pg_b112, rfl, pg_d112⟩
theorem pg_e113 : pg_P 113 := ⟨10, false, rfl, fun h => absurd h (by decide), pg_b113, rfl, pg_d113⟩
theorem pg_e114 : pg_P 114 := ⟨10, false, rfl, fun h => absurd h (by decide), pg_b114, rfl, pg_d114⟩
theorem pg_e115 : pg_P 115 := ⟨10, false, rfl, fun h => absurd h (by decide), pg_b115, rfl, pg_d115⟩
theorem pg_e116 : pg_P 116 := ⟨10, false, rfl, fun h => absurd h (by decide), pg_b116, rfl, pg_d116⟩
theorem pg_e117 : pg_P 117 := ⟨10, false, rfl, fun h => absurd h (by decide), pg_b117, rfl, pg_d117⟩
theorem pg_e118 : pg_P 118 := ⟨10, false, rfl, fun h => absurd h (by decide), pg_b118, rfl, pg_d118⟩
theorem pg_e119 : pg_P 119 := ⟨10, false, rfl, fun h => absurd h (by decide), pg_b119, rfl, pg_d119⟩
theorem pg_e120 : pg_P 120 := ⟨10, false, rfl, fun h => absurd h (by decide), pg_b120, rfl, pg_d120⟩
theorem pg_e121 : pg_P 121 := ⟨10, false, rfl, fun h => absurd h (by decide), pg_b121, rfl, pg_d121⟩
theorem pg_e122 : pg_P 122 := ⟨10, false, rfl, fun h => absurd h (by decide), pg_b122, rfl, pg_d122⟩
theorem pg_e123 : pg_P 123 := ⟨11, true, rfl, fun _ => rfl, pg_b123, rfl, pg_d123⟩
theorem pg_e124 : pg_P 124 := ⟨11, false, rfl, fun h => absurd h (by decide), pg_b124, rfl, pg_d124⟩
theorem pg_e125 : pg_P 125 := ⟨11, false, rfl, fun h => absurd h (by decide), pg_b125, rfl, pg_d125⟩
theorem pg_e126 : pg_P 126 := ⟨11, false, rfl, fun h => absurd h (by decide), pg_b126, rfl, pg_d126⟩
theorem pg_e127 : pg_P 127 := ⟨11, false, rfl, fun h => absurd h (by decide), pg_b127, rfl, pg_d127⟩
theorem pg_e128 : pg_P 128 := ⟨11, false, rfl, fun h => absurd h (by decide), pg_b128, rfl, pg_d128⟩
theorem pg_e129 : pg_P 129 := ⟨11, false, rfl, fun h => absurd h (by decide), pg_b129, rfl, pg_d129⟩
theorem pg_e130 : pg_P 130 := ⟨11, false, rfl, fun h => absurd h (by decide), pg_b130, rfl, pg_d130⟩
theorem pg_e131 : pg_P 131 := ⟨11, false, rfl, fun h => absurd h (by decide), pg_b131, rfl, pg_d131⟩
theorem pg_e132 : pg_P 132 := ⟨11, false, rfl, fun h => absurd h (by decide), pg_b132, rfl, pg_d132⟩
theorem pg_e133 : pg_P 133 := ⟨11, false, rfl, fun h => absurd h (by decide), pg_b133, rfl, pg_d133⟩
theorem pg_e134 : pg_P 134 := ⟨11, false, rfl, fun h => absurd h (by decide), pg_b134, rfl, pg_d134⟩
theorem pg_e135 : pg_P 135 := ⟨11, false, rfl, fun h => absurd h (by decide), pg_b135, rfl, pg_d135⟩
theorem pg_e136 : pg_P 136 := ⟨11, false, rfl, fun h => absurd h (by decide), pg_b136, rfl, pg_d136⟩
theorem pg_e137 : pg_P 137 := ⟨11, false, rfl, fun h => absurd h (by decide), pg_b137, rfl, pg_d137⟩
theorem pg_e138 : pg_P 138 := ⟨11, false, rfl, fun h => absurd h (by decide), pg_b138, rfl, pg_d138⟩
theorem pg_e139 : pg_P 139 := ⟨11, false, rfl, fun h => absurd h (by decide), pg_b139, rfl, pg_d139⟩
theorem pg_e140 : pg_P 140 := ⟨11, false, rfl, fun h => absurd h (by decide), pg_b140, rfl, pg_d140⟩
theorem pg_e141 : pg_P 141 := ⟨11, false, rfl, fun h => absurd h (by decide), pg_b141, rfl, pg_d141⟩
theorem pg_e142 : pg_P 142 := ⟨11, false, rfl, fun h => absurd h (by decide), pg_b142, rfl, pg_d142⟩
theorem pg_e143 : pg_P 143 := ⟨11, false, rfl, fun h => absurd h (by decide), pg_b143, rfl, pg_d143⟩
theorem pg_e144 : pg_P 144 := ⟨11, false, rfl, fun h => absurd h (by decide), pg_b144, rfl, pg_d144⟩
theorem pg_e145 : pg_P 145 := ⟨11, false, rfl, fun h => absurd h (by decide), pg_b145, rfl, pg_d145⟩
theorem pg_e146 : pg_P 146 := ⟨11, false, rfl, fun h => absurd h (by decide), pg_b146, rfl, pg_d146⟩
theorem pg_e147 : pg_P 147 := ⟨11, false, rfl, fun h => absurd h (by decide), pg_b147, rfl, pg_d147⟩
theorem pg_e148 : pg_P 148 := ⟨11, false, rfl, fun h => absurd h (by decide), pg_b148, rfl, pg_d148⟩
theorem pg_e149 : pg_P 149 := ⟨11, false, rfl, fun h => absurd h (by decide), pg_b149, rfl, pg_d149⟩
theorem pg_e150 : pg_P 150 := ⟨11, false, rfl, fun h => absurd h (by decide), pg_b150, rfl, pg_d150⟩
theorem pg_e151 : pg_P 151 := ⟨11, false, rfl, fun h => absurd h (by decide), pg_b151, rfl, pg_d151⟩
theorem pg_e152 : pg_P 152 := ⟨11, false, rfl, fun h => absurd h (by decide), pg_b152, rfl, pg_d152⟩
theorem pg_e153 : pg_P 153 := ⟨11, false, rfl, fun h => absurd h (by decide), pg_b153, rfl, pg_d153⟩
theorem pg_e154 : pg_P 154 := ⟨11, false, rfl, fun h => absurd h (by decide), pg_b154, rfl, pg_d154⟩
theorem pg_e155 : pg_P 155 := ⟨11, false, rfl, fun h => absurd h (by decide), pg_b155, rfl, pg_d155⟩
theorem pg_e156 : pg_P 156 := ⟨11, false, rfl, fun h => absurd h (by decide), pg_b156, rfl, pg_d156⟩
theorem pg_e157 : pg_P 157 := ⟨11, false, rfl, fun h => absurd h (by decide), pg_b157, rfl, pg_d157⟩
theorem pg_e158 : pg_P 158 := ⟨11, false, rfl, fun h => absurd h (by decide), pg_b158, rfl, pg_d158⟩
theorem pg_e159 : pg_P 159 := ⟨11, false, rfl, fun h => absurd h (by decide), pg_b159, rfl, pg_d159⟩
theorem pg_e160 : pg_P 160 := ⟨11, false, rfl, fun h => absurd h (by decide), pg_b160, rfl, pg_d160⟩
theorem pg_e161 : pg_P 161 := ⟨11, false, rfl, fun h => absurd h (by decide), pg_b161, rfl, pg_d161⟩
theorem pg_e162 : pg_P 162 := ⟨11, false, rfl, fun h => absurd h (by decide), pg_b162, rfl, pg_d162⟩
theorem pg_e163 : pg_P 163 := ⟨11, false, rfl, fun h => absurd h (by decide), pg_b163, rfl, pg_d163⟩
theorem pg_e164 : pg_P 164 := ⟨11, false, rfl, fun h => absurd h (by decide), pg_b164, rfl, pg_d164⟩
theorem pg_e165 : pg_P 165 := ⟨11, false, rfl, fun h => absurd h (by decide), pg_b165, rfl, pg_d165⟩
theorem pg_e166 : pg_P 166 := ⟨11, false, rfl, fun h => absurd h (by decide), pg_b166, rfl, pg_d166⟩
theorem pg_e167 : pg_P 167 := ⟨11, false, rfl, fun h => absurd h (by decide), pg_b167, rfl, pg_d167⟩
theorem pg_e168 : pg_P 168 := ⟨11, false, rfl, fun h => absurd h (by decide), pg_b168, rfl, pg_d168⟩
theorem pg_e169 : pg_P 169 := ⟨11, false, rfl, fun h => absurd h (by decide), pg_b169, rfl, pg_d169⟩
theorem pg_e170 : pg_P 170 := ⟨11, false, rfl, fun h => absurd h (by decide), pg_b170, rfl, pg_d170⟩
theorem pg_e171 : pg_P 171 := ⟨11, false, rfl, fun h => absurd h (by decide), pg_b171, rfl, pg_d171⟩
theorem pg_e172 : pg_P 172 := ⟨12, true, rfl, fun _ => rfl, pg_b172, rfl, pg_d172⟩
theorem pg_e173 : pg_P 173 := ⟨12, false, rfl, fun h => absurd h (by decide), pg_b173, rfl, pg_d173⟩
theorem pg_e174 : pg_P 174 := ⟨12, false, rfl, fun h => absurd h (by decide), pg_b174, rfl, pg_d174⟩
theorem pg_e175 : pg_P 175 := ⟨12, false, rfl, fun h => absurd h (by decide), pg_b175, rfl, pg_d175⟩
theorem pg_e176 : pg_P 176 := ⟨12, false, rfl, fun h => absurd h (by decide), pg_b176, rfl, pg_d176⟩
theorem pg_e177 : pg_P 177 := ⟨12, false, rfl, fun h => absurd h (by decide), pg_b177, rfl, pg_d177⟩
theorem pg_e178 : pg_P 178 := ⟨12, false, rfl, fun h => absurd h (by decide), pg_b178, rfl, pg_d178⟩
theorem pg_e179 : pg_P 179 := ⟨12, false, rfl, fun h => absurd h (by decide), pg_b179, rfl, pg_d179⟩
theorem pg_e180 : pg_P 180 := ⟨12, false, rfl, fun h => absurd h (by decide), pg_b180, rfl, pg_d180⟩
theorem pg_e181 : pg_P 181 := ⟨12, false, rfl, fun h => absurd h (by decide), pg_b181, rfl, pg_d181⟩
theorem pg_e182 : pg_P 182 := ⟨12, false, rfl, fun h => absurd h (by decide), pg_b182, rfl, pg_d182⟩
theorem pg_e183 : pg_P 183 := ⟨12, false, rfl, fun h => absurd h (by decide), pg_b183, rfl, pg_d183⟩
theorem pg_e184 : pg_P 184 := ⟨12, false, rfl, fun h => absurd h (by decide), pg_b184, rfl, pg_d184⟩
theorem pg_e185 : pg_P 185 := ⟨12, false, rfl, fun h => absurd h (by decide), pg_b185, rfl, pg_d185⟩
theorem pg_e186 : pg_P 186 := ⟨12, false, rfl, fun h => absurd h (by decide), pg_b186, rfl, pg_d186⟩
theorem pg_e187 : pg_P 187 := ⟨12, false, rfl, fun h => absurd h (by decide), pg_b187, rfl, pg_d187⟩
theorem pg_e188 : pg_P 188 := ⟨12, false, rfl, fun h => absurd h (by decide), pg_b188, rfl, pg_d188⟩
theorem pg_e189 : pg_P 189 := ⟨12, false, rfl, fun h => absurd h (by decide), pg_b189, rfl, pg_d189⟩
theorem pg_e190 : pg_P 190 := ⟨12, false, rfl, fun h => absurd h (by decide), pg_b190, rfl, pg_d190⟩
theorem pg_e191 : pg_P 191 := ⟨12, false, rfl, fun h => absurd h (by decide), pg_b191, rfl, pg_d191⟩
theorem pg_e192 : pg_P 192 := ⟨12, false, rfl, fun h => absurd h (by decide), pg_b192, rfl, pg_d192⟩
theorem pg_e193 : pg_P 193 := ⟨12, false, rfl, fun h => absurd h (by decide), pg_b193, rfl, pg_d193⟩
theorem pg_e194 : pg_P 194 := ⟨12, false, rfl, fun h => absurd h (by decide), pg_b194, rfl, pg_d194⟩
theorem pg_e195 : pg_P 195 := ⟨12, false, rfl, fun h => absurd h (by decide), pg_b195, rfl, pg_d195⟩
theorem pg_e196 : pg_P 196 := ⟨12, false, rfl, fun h => absurd h (by decide), pg_b196, rfl, pg_d196⟩
theorem pg_e197 : pg_P 197 := ⟨12, false, rfl, fun h => absurd h (by decide), pg_b197, rfl, pg_d197⟩
theorem pg_e198 : pg_P 198 := ⟨12, false, rfl, fun h => absurd h (by decide), pg_b198, rfl, pg_d198⟩
theorem pg_e199 : pg_P 199 := ⟨12, false, rfl, fun h => absurd h (by decide), pg_b199, rfl, pg_d199⟩
theorem pg_e200 : pg_P 200 := ⟨12, false, rfl, fun h => absurd h (by decide), pg_b200, rfl, pg_d200⟩
theorem pg_e201 : pg_P 201 := ⟨12, false, rfl, fun h => absurd h (by decide), pg_b201, rfl, pg_d201⟩
theorem pg_e202 : pg_P 202 := ⟨12, false, rfl, fun h => absurd h (by decide), pg_b202, rfl, pg_d202⟩
theorem pg_e203 : pg_P 203 := ⟨12, false, rfl, fun h => absurd h (by decide), pg_b203, rfl, pg_d203⟩
theorem pg_e204 : pg_P 204 := ⟨12, false, rfl, fun h => absurd h (by decide), pg_b204, rfl, pg_d204⟩
theorem pg_e205 : pg_P 205 := ⟨12, false, rfl, fun h => absurd h (by decide), pg_b205, rfl, pg_d205⟩
theorem pg_e206 : pg_P 206 := ⟨12, false, rfl, fun h => absurd h (by decide), pg_b206, rfl, pg_d206⟩
theorem pg_e207 : pg_P 207 := ⟨12, false, rfl, fun h => absurd h (by decide), pg_b207, rfl, pg_d207⟩
theorem pg_e208 : pg_P 208 := ⟨12, false, rfl, fun h => absurd h (by decide), pg_b208, rfl, pg_d208⟩
theorem pg_e209 : pg_P 209 := ⟨12, false, rfl, fun h => absurd h (by decide), pg_b209, rfl, pg_d209⟩
theorem pg_e210 : pg_P 210 := ⟨12, false, rfl, fun h => absurd h (by decide), pg_b210, rfl, pg_d210⟩
theorem pg_e211 : pg_P 211 := ⟨12, false, rfl, fun h => absurd h (by decide), pg_b211, rfl, pg_d211⟩
theorem pg_e212 : pg_P 212 := ⟨12, false, rfl, fun h => absurd h (by decide), pg_b212, rfl, pg_d212⟩
theorem pg_e213 : pg_P 213 := ⟨12, false, rfl, fun h => absurd h (by decide), pg_b213, rfl, pg_d213⟩
theorem pg_e214 : pg_P 214 := ⟨12, false, rfl, fun h => absurd h (by decide), pg_b214, rfl, pg_d214⟩
theorem pg_e215 : pg_P 215 := ⟨12, false, rfl, fun h => absurd h (by decide), pg_b215, rfl, pg_d215⟩
theorem pg_e216 : pg_P 216 := ⟨12, false, rfl, fun h => absurd h (by decide), pg_b216, rfl, pg_d216⟩
theorem pg_e217 : pg_P 217 := ⟨12, false, rfl, fun h => absurd h (by decide), pg_b217, rfl, pg_d217⟩
theorem pg_e218 : pg_P 218 := ⟨12, false, rfl, fun h => absurd h (by decide), pg_b218, rfl, pg_d218⟩
theorem pg_e219 : pg_P 219 := ⟨12, false, rfl, fun h => absurd h (by decide), pg_b219, rfl, pg_d219⟩
theorem pg_e220 : pg_P 220 := ⟨12, false, rfl, fun h => absurd h (by decide), pg_b220, rfl, pg_d220⟩
theorem pg_e221 : pg_P 221 := ⟨12, false, rfl, fun h => absurd h (by decide), pg_b221, rfl, pg_d221⟩
theorem pg_e222 : pg_P 222 := ⟨12, false, rfl, fun h => absurd h (by decide), pg_b222, rfl, pg_d222⟩
theorem pg_e223 : pg_P 223 := ⟨12, false, rfl, fun h => absurd h (by decide), pg_b223, rfl, pg_d223⟩
theorem pg_e224 : pg_P 224 := ⟨12, false, rfl, fun h => absurd h (by decide), pg_b224, rfl, pg_d224⟩
theorem pg_e225 : pg_P 225 := ⟨12, false, rfl, fun h => absurd h (by decide), pg_b225, rfl, pg_d225⟩
theorem pg_e226 : pg_P 226 := ⟨12, false, rfl, fun h => absurd h (by decide), pg_b226, rfl, pg_d226⟩
theorem pg_e227 : pg_P 227 := ⟨12, false, rfl, fun h => absurd h (by decide), pg_b227, rfl, pg_d227⟩
theorem pg_e228 : pg_P 228 := ⟨12, false, rfl, fun h => absurd h (by decide), pg_b228, rfl, pg_d228⟩
theorem pg_e229 : pg_P 229 := ⟨12, false, rfl, fun h => absurd h (by decide), pg_b229, rfl, pg_d229⟩
theorem pg_e230 : pg_P 230 := ⟨12, false, rfl, fun h => absurd h (by decide), pg_b230, rfl, pg_d230⟩
theorem pg_e231 : pg_P 231 := ⟨12, false, rfl, fun h => absurd h (by decide), pg_b231, rfl, pg_d231⟩
theorem pg_e232 : pg_P 232 := ⟨12, false, rfl, fun h => absurd h (by decide), pg_b232, rfl, pg_d232⟩
theorem pg_e233 : pg_P 233 := ⟨12, false, rfl, fun h => absurd h (by decide), pg_b233, rfl, pg_d233⟩
theorem pg_e234 : pg_P 234 := ⟨12, false, rfl, fun h => absurd h (by decide), pg_b234, rfl, pg_d234⟩
theorem pg_e235 : pg_P 235 := ⟨12, false, rfl, fun h => absurd h (by decide), pg_b235, rfl, pg_d235⟩
theorem pg_e236 : pg_P 236 := ⟨12, false, rfl, fun h => absurd h (by decide), pg_b236, rfl, pg_d236⟩
theorem pg_e237 : pg_P 237 := ⟨12, false, rfl, fun h => absurd h (by decide), pg_b237, rfl, pg_d237⟩
theorem pg_e238 : pg_P 238 := ⟨12, false, rfl, fun h => absurd h (by decide), pg_b238, rfl, pg_d238⟩
theorem pg_e239 : pg_P 239 := ⟨12, false, rfl, fun h => absurd h (by decide), pg_b239, rfl, pg_d239⟩
theorem pg_e240 : pg_P 240 := ⟨12, false, rfl, fun h => absurd h (by decide), pg_b240, rfl, pg_d240⟩
theorem pg_e241 : pg_P 241 := ⟨12, false, rfl, fun h => absurd h (by decide), pg_b241, rfl, pg_d241⟩
theorem pg_e242 : pg_P 242 := ⟨12, false, rfl, fun h => absurd h (by decide), pg_b242, rfl, pg_d242⟩
theorem pg_e243 : pg_P 243 := ⟨12, false, rfl, fun h => absurd h (by decide), pg_b243, rfl, pg_d243⟩
theorem pg_e244 : pg_P 244 := ⟨12, false, rfl, fun h => absurd h (by decide), pg_b244, rfl, pg_d244⟩
theorem pg_e245 : pg_P 245 := ⟨12, false, rfl, fun h => absurd h (by decide), pg_b245, rfl, pg_d245⟩
theorem pg_e246 : pg_P 246 := ⟨12, false, rfl, fun h => absurd h (by decide), pg_b246, rfl, pg_d246⟩
theorem pg_e247 : pg_P 247 := ⟨12, false, rfl, fun h => absurd h (by decide), pg_b247, rfl, pg_d247⟩
theorem pg_e248 : pg_P 248 := ⟨12, false, rfl, fun h => absurd h (by decide), pg_b248, rfl, pg_d248⟩
theorem pg_e249 : pg_P 249 := ⟨12, false, rfl, fun h => absurd h (by decide), pg_b249, rfl, pg_d249⟩
theorem pg_e250 : pg_P 250 := ⟨12, false, rfl, fun h => absurd h (by decide), pg_b250, rfl, pg_d250⟩
theorem pg_e251 : pg_P 251 := ⟨12, false, rfl, fun h => absurd h (by decide), pg_b251, rfl, pg_d251⟩
theorem pg_e252 : pg_P 252 := ⟨12, false, rfl, fun h => absurd h (by decide), pg_b252, rfl, pg_d252⟩
theorem pg_e253 : pg_P 253 := ⟨12, false, rfl, fun h => absurd h (by decide), pg_b253, rfl, pg_d253⟩
theorem pg_e254 : pg_P 254 := ⟨12, false, rfl, fun h => absurd h (by decide), pg_b254, rfl, pg_d254⟩
theorem pg_e255 : pg_P 255 := ⟨12, false, rfl, fun h => absurd h (by decide), pg_b255, rfl, pg_d255⟩
theorem pg_e256 : pg_P 256 := ⟨12, false, rfl, fun h => absurd h (by decide), pg_b256, rfl, pg_d256⟩
theorem pg_e257 : pg_P 257 := ⟨12, false, rfl, fun h => absurd h (by decide), pg_b257, rfl, pg_d257⟩
theorem pg_e258 : pg_P 258 := ⟨12, false, rfl, fun h => absurd h (by decide), pg_b258, rfl, pg_d258⟩
theorem pg_e259 : pg_P 259 := ⟨12, false, rfl, fun h => absurd h (by decide), pg_b259, rfl, pg_d259⟩
theorem pg_e260 : pg_P 260 := ⟨12, false, rfl, fun h => absurd h (by decide), pg_b260, rfl, pg_d260⟩
theorem pg_e261 : pg_P 261 := ⟨12, false, rfl, fun h => absurd h (by decide), pg_b261, rfl, pg_d261⟩
theorem pg_e262 : pg_P 262 := ⟨12, false, rfl, fun h => absurd h (by decide), pg_b262, rfl, pg_d262⟩
theorem pg_e263 : pg_P 263 := ⟨12, false, rfl, fun h => absurd h (by decide), pg_b263, rfl, pg_d263⟩
theorem pg_e264 : pg_P 264 := ⟨12, false, rfl, fun h => absurd h (by decide), pg_b264, rfl, pg_d264⟩
theorem pg_e265 : pg_P 265 := ⟨12, false, rfl, fun h => absurd h (by decide), pg_b265, rfl, pg_d265⟩
theorem pg_e266 : pg_P 266 := ⟨12, false, rfl, fun h => absurd h (by decide), pg_b266, rfl, pg_d266⟩
theorem pg_e267 : pg_P 267 := ⟨12, false, rfl, fun h => absurd h (by decide), pg_b267, rfl, pg_d267⟩
theorem pg_e268 : pg_P 268 := ⟨12, false, rfl, fun h => absurd h (by decide), pg_b268, rfl, pg_d268⟩
theorem pg_e269 : pg_P 269 := ⟨12, false, rfl, fun h => absurd h (by decide), pg_b269, rfl, pg_d269⟩
theorem pg_e270 : pg_P 270 := ⟨12, false, rfl, fun h => absurd h (by decide), pg_b270, rfl, pg_d270⟩
theorem pg_e271 : pg_P 271 := ⟨12, false, rfl, fun h => absurd h (by decide), pg_b271, rfl, pg_d271⟩
theorem pg_e272 : pg_P 272 := ⟨12, false, rfl, fun h => absurd h (by decide), pg_b272, rfl, pg_d272⟩
theorem pg_e273 : pg_P 273 := ⟨12, false, rfl, fun h => absurd h (by decide), pg_b273, rfl, pg_d273⟩
theorem pg_e274 : pg_P 274 := ⟨12, false, rfl, fun h => absurd h (by decide), pg_b274, rfl, pg_d274⟩
theorem pg_e275 : pg_P 275 := ⟨12, false, rfl, fun h => absurd h (by decide), pg_b275, rfl, pg_d275⟩
theorem pg_e276 : pg_P 276 := ⟨12, false, rfl, fun h => absurd h (by decide), pg_b276, rfl, pg_d276⟩
theorem pg_e277 : pg_P 277 := ⟨12, false, rfl, fun h => absurd h (by decide), pg_b277, rfl, pg_d277⟩
theorem pg_e278 : pg_P 278 := ⟨12, false, rfl, fun h => absurd h (by decide), pg_b278, rfl, pg_d278⟩
theorem pg_e279 : pg_P 279 := ⟨12, false, rfl, fun h => absurd h (by decide), pg_b279, rfl, pg_d279⟩
theorem pg_e280 : pg_P 280 := ⟨12, false, rfl, fun h => absurd h (by decide), pg_b280, rfl, pg_d280⟩
theorem pg_e281 : pg_P 281 := ⟨12, false, rfl, fun h => absurd h (by decide), pg_b281, rfl, pg_d281⟩
theorem pg_e282 : pg_P 282 := ⟨12, false, rfl, fun h => absurd h (by decide), pg_b282, rfl, pg_d282⟩
theorem pg_e283 : pg_P 283 := ⟨12, false, rfl, fun h => absurd h (by decide), pg_b283, rfl, pg_d283⟩
theorem pg_e284 : pg_P 284 := ⟨14, false, rfl, fun h => absurd h (by decide), pg_b284, rfl, pg_d284⟩
theorem pg_e285 : pg_P 285 := ⟨14, false, rfl, fun h => absurd h (by decide), pg_b285, rfl, pg_d285⟩
theorem pg_e286 : pg_P 286 := ⟨16, false, rfl, fun h => absurd h (by decide), pg_b286, rfl, pg_d286⟩
theorem pg_g0 : ∀ n ∈ [0, 1, 2, 3, 4, 5, 6, 7, 8, 9, 10, 11, 12, 13, 14, 15], pg_P n := List.forall_mem_cons.mpr ⟨pg_e0, List.forall_mem_cons.mpr ⟨pg_e1, List.forall_mem_cons.mpr ⟨pg_e2, List.forall_mem_cons.mpr ⟨pg_e3, List.forall_mem_cons.mpr ⟨pg_e4, List.forall_mem_cons.mpr ⟨pg_e5, List.forall_mem_cons.mpr ⟨pg_e6, List.forall_mem_cons.mpr ⟨pg_e7, List.forall_mem_cons.mpr ⟨pg_e8, List.forall_mem_cons.mpr ⟨pg_e9, List.forall_mem_cons.mpr ⟨pg_e10, List.forall_mem_cons.mpr ⟨pg_e11, List.forall_mem_cons.mpr ⟨pg_e12, List.forall_mem_cons.mpr ⟨pg_e13, List.forall_mem_cons.mpr ⟨pg_e14, List.forall_mem_cons.mpr ⟨pg_e15, fun _ h => absurd h List.not_mem_nil⟩⟩⟩⟩⟩⟩⟩⟩⟩⟩⟩⟩⟩⟩⟩⟩
theorem pg_g1 : ∀ n ∈ [16, 17, 18, 19, 20, 21, 22, 23, 24, 25, 26, 27, 28, 29, 30, 31], pg_P n := List.forall_mem_cons.mpr ⟨pg_e16, List.forall_mem_cons.mpr ⟨pg_e17, List.forall_mem_cons.mpr ⟨pg_e18, List.forall_mem_cons.mpr ⟨pg_e19, List.forall_mem_cons.mpr ⟨pg_e20, List.forall_mem_cons.mpr ⟨pg_e21, List.forall_mem_cons.mpr ⟨pg_e22, List.forall_mem_cons.mpr ⟨pg_e23, List.forall_mem_cons.mpr ⟨pg_e24, List.forall_mem_cons.mpr ⟨pg_e25, List.forall_mem_cons.mpr ⟨pg_e26, List.forall_mem_cons.mpr ⟨pg_e27, List.forall_mem_cons.mpr ⟨pg_e28, List.forall_mem_cons.mpr ⟨pg_e29, List.forall_mem_cons.mpr ⟨pg_e30, List.forall_mem_cons.mpr ⟨pg_e31, fun _ h => absurd h List.not_mem_nil⟩⟩⟩⟩⟩⟩⟩⟩⟩⟩⟩⟩⟩⟩⟩⟩
theorem pg_g2 : ∀ n ∈ [32, 33, 34, 35, 36, 37, 38, 39, 40, 41, 42, 43, 44, 45, 46, 47], pg_P n := List.forall_mem_cons.mpr ⟨pg_e32, List.forall_mem_cons.mpr ⟨pg_e33, List.forall_mem_cons.mpr ⟨pg_e34, List.forall_mem_cons.mpr ⟨pg_e35, List.forall_mem_cons.mpr ⟨pg_e36, List.forall_mem_cons.mpr ⟨pg_e37, List.forall_mem_cons.mpr ⟨pg_e38, List.forall_mem_cons.mpr ⟨pg_e39, List.forall_mem_cons.mpr ⟨pg_e40, List.forall_mem_cons.mpr ⟨pg_e41, List.forall_mem_cons.mpr ⟨pg_e42, List.forall_mem_cons.mpr ⟨pg_e43, List.forall_mem_cons.mpr ⟨pg_e44, List.forall_mem_cons.mpr ⟨pg_e45, List.forall_mem_cons.mpr ⟨pg_e46, List.forall_mem_cons.mpr ⟨pg_e47, fun _ h => absurd h List.not_mem_nil⟩⟩⟩⟩⟩⟩⟩⟩⟩⟩⟩⟩⟩⟩⟩⟩
theorem pg_g3 : ∀ n ∈ [48, 49, 50, 51, 52, 53, 54, 55, 56, 57, 58, 59, 60, 61, 62, 63], pg_P n := List.forall_mem_cons.mpr ⟨pg_e48, List.forall_mem_cons.mpr ⟨pg_e49, List.forall_mem_cons.mpr ⟨pg_e50, List.forall_mem_cons.mpr ⟨pg_e51, List.forall_mem_cons.mpr ⟨pg_e52, List.forall_mem_cons.mpr ⟨pg_e53, List.forall_mem_cons.mpr ⟨pg_e54, List.forall_mem_cons.mpr ⟨pg_e55, List.forall_mem_cons.mpr ⟨pg_e56, List.forall_mem_cons.mpr ⟨pg_e57, List.forall_mem_cons.mpr ⟨pg_e58, List.forall_mem_cons.mpr ⟨pg_e59, List.forall_mem_cons.mpr ⟨pg_e60, List.forall_mem_cons.mpr ⟨pg_e61, List.forall_mem_cons.mpr ⟨pg_e62, List.forall_mem_cons.mpr ⟨pg_e63, fun _ h => absurd h List.not_mem_nil⟩⟩⟩⟩⟩⟩⟩⟩⟩⟩⟩⟩⟩⟩⟩⟩
theorem pg_g4 : ∀ n ∈ [64, 65, 66, 67, 68, 69, 70, 71, 72, 73, 74, 75, 76, 77, 78, 79], pg_P n := List.forall_mem_cons.mpr ⟨pg_e64, List.forall_mem_cons.mpr ⟨pg_e65, List.forall_mem_cons.mpr ⟨pg_e66, List.forall_mem_cons.mpr ⟨pg_e67, List.forall_mem_cons.mpr ⟨pg_e68, List.forall_mem_cons.mpr ⟨pg_e69, List.forall_mem_cons.mpr ⟨pg_e70, List.forall_mem_cons.mpr ⟨pg_e71, List.forall_mem_cons.mpr ⟨pg_e72, List.forall_mem_cons.mpr ⟨pg_e73, List.forall_mem_cons.mpr ⟨pg_e74, List.forall_mem_cons.mpr ⟨pg_e75, List.forall_mem_cons.mpr ⟨pg_e76, List.forall_mem_cons.mpr ⟨pg_e77, List.forall_mem_cons.mpr ⟨pg_e78, List.forall_mem_cons.mpr ⟨pg_e79, fun _ h => absurd h List.not_mem_nil⟩⟩⟩⟩⟩⟩⟩⟩⟩⟩⟩⟩⟩⟩⟩⟩
theorem pg_g5 : ∀ n ∈ [80, 81, 82, 83, 84, 85, 86, 87, 88, 89, 90, 91, 92, 93, 94, 95], pg_P n := List.forall_mem_cons.mpr ⟨pg_e80, List.forall_mem_cons.mpr ⟨pg_e81, List.forall_mem_cons.mpr ⟨pg_e82, List.forall_mem_cons.mpr ⟨pg_e83, List.forall_mem_cons.mpr ⟨pg_e84, List.forall_mem_cons.mpr ⟨pg_e85, List.forall_mem_cons.mpr ⟨pg_e86, List.forall_mem_cons.mpr ⟨pg_e87, List.forall_mem_cons.mpr ⟨pg_e88, List.forall_mem_cons.mpr ⟨pg_e89, List.forall_mem_cons.mpr ⟨pg_e90, List.forall_mem_cons.mpr ⟨pg_e91, List.forall_mem_cons.mpr ⟨pg_e92, List.forall_mem_cons.mpr ⟨pg_e93, List.forall_mem_cons.mpr ⟨pg_e94, List.forall_mem_cons.mpr ⟨pg_e95, fun _ h => absurd h List.not_mem_nil⟩⟩⟩⟩⟩⟩⟩⟩⟩⟩⟩⟩⟩⟩⟩⟩
theorem pg_g6 : ∀ n ∈ [96, 97, 98, 99, 100, 101, 102, 103, 104, 105, 106, 107, 108, 109, 110, 111], pg_P n := List.forall_mem_cons.mpr ⟨pg_e96, List.forall_mem_cons.mpr ⟨pg_e97, List.forall_mem_cons.mpr ⟨pg_e98, List.forall_mem_cons.mpr ⟨pg_e99, List.forall_mem_cons.mpr ⟨pg_e100, List.forall_mem_cons.mpr ⟨pg_e101, List.forall_mem_cons.mpr ⟨pg_e102, List.forall_mem_cons.mpr ⟨pg_e103, List.forall_mem_cons.mpr ⟨pg_e104, List.forall_mem_cons.mpr ⟨pg_e105, List.forall_mem_cons.mpr ⟨pg_e106, List.forall_mem_cons.mpr ⟨pg_e107, List.forall_mem_cons.mpr ⟨pg_e108, List.forall_mem_cons.mpr ⟨pg_e109, List.forall_mem_cons.mpr ⟨pg_e110, List.forall_mem_cons.mpr ⟨pg_e111, fun _ h => absurd h List.not_mem_nil⟩⟩⟩⟩⟩⟩⟩⟩⟩⟩⟩⟩⟩⟩⟩⟩
theorem pg_g7 : ∀ n ∈ [112, 113, 114, 115, 116, 117, 118, 119, 120, 121, 122, 123, 124, 125, 126, 127], pg_P n := List.forall_mem_cons.mpr ⟨pg_e112, List.forall_mem_cons.mpr ⟨pg_e113, List.forall_mem_cons.mpr ⟨pg_e114, List.forall_mem_cons.mpr ⟨pg_e115, List.forall_mem_cons.mpr ⟨pg_e116, List.forall_mem_cons.mpr ⟨pg_e117, List.forall_mem_cons.mpr ⟨pg_e118, List.forall_mem_cons.mpr ⟨pg_e119, List.forall_mem_cons.mpr ⟨pg_e120, List.forall_mem_cons.mpr ⟨pg_e121, List.forall_mem_cons.mpr ⟨pg_e122, List.forall_mem_cons.mpr ⟨pg_e123, List.forall_mem_cons.mpr ⟨pg_e124, List.forall_mem_cons.mpr ⟨pg_e125, List.forall_mem_cons.mpr ⟨pg_e126, List.forall_mem_cons.mpr ⟨pg_e127, fun _ h => absurd h List.not_mem_nil⟩⟩⟩⟩⟩⟩⟩⟩⟩⟩⟩⟩⟩⟩⟩⟩
theorem pg_g8 : ∀ n ∈ [128, 129, 130, 131, 132, 133, 134, 135, 136, 137, 138, 139, 140, 141, 142, 143], pg_P n := List.forall_mem_cons.mpr ⟨pg_e128, List.forall_mem_cons.mpr ⟨pg_e129, List.forall_mem_cons.mpr ⟨pg_e130, List.forall_mem_cons.mpr ⟨pg_e131, List.forall_mem_cons.mpr ⟨pg_e132, List.forall_mem_cons.mpr ⟨pg_e133, List.forall_mem_cons.mpr ⟨pg_e134, List.forall_mem_cons.mpr ⟨pg_e135, List.forall_mem_cons.mpr ⟨pg_e136, List.forall_mem_cons.mpr ⟨pg_e137, List.forall_mem_cons.mpr ⟨pg_e138, List.forall_mem_cons.mpr ⟨pg_e139, List.forall_mem_cons.mpr ⟨pg_e140, List.forall_mem_cons.mpr ⟨pg_e141, List.forall_mem_cons.mpr ⟨pg_e142, List.forall_mem_cons.mpr ⟨pg_e143, fun _ h => absurd h List.not_mem_nil⟩⟩⟩⟩⟩⟩⟩⟩⟩⟩⟩⟩⟩⟩⟩⟩
theorem pg_g9 : ∀ n ∈ [144, 145, 146, 147, 148, 149, 150, 151, 152, 153, 154, 155, 156, 157, 158, 159], pg_P n := List.forall_mem_cons.mpr ⟨pg_e144, List.forall_mem_cons.mpr ⟨pg_e145, List.forall_mem_cons.mpr ⟨pg_e146, List.forall_mem_cons.mpr ⟨pg_e147, List.forall_mem_cons.mpr ⟨pg_e148, List.forall_mem_cons.mpr ⟨pg_e149, List.forall_mem_cons.mpr ⟨pg_e150, List.forall_mem_cons.mpr ⟨pg_e151, List.forall_mem_cons.mpr ⟨pg_e152, List.forall_mem_cons.mpr ⟨pg_e153, List.forall_mem_cons.mpr ⟨pg_e154, List.forall_mem_cons.mpr ⟨pg_e155, List.forall_mem_cons.mpr ⟨pg_e156, List.forall_mem_cons.mpr ⟨pg_e157, List.forall_mem_cons.mpr ⟨pg_e158, List.forall_mem_cons.mpr ⟨pg_e159, fun _ h => absurd h List.not_mem_nil⟩⟩⟩⟩⟩⟩⟩⟩⟩⟩⟩⟩⟩⟩⟩⟩
theorem pg_g10 : ∀ n ∈ [160, 161, 162, 163, 164, 165, 166, 167, 168, 169, 170, 171, 172, 173, 174, 175], pg_P n := List.forall_mem_cons.mpr ⟨pg_e160, List.forall_mem_cons.mpr ⟨pg_e161, List.forall_mem_cons.mpr ⟨pg_e162, List.forall_mem_cons.mpr ⟨pg_e163, List.forall_mem_cons.mpr ⟨pg_e164, List.forall_mem_cons.mpr ⟨pg_e165, List.forall_mem_cons.mpr ⟨pg_e166, List.forall_mem_cons.mpr ⟨pg_e167, List.forall_mem_cons.mpr ⟨pg_e168, List.forall_mem_cons.mpr ⟨pg_e169, List.forall_mem_cons.mpr ⟨pg_e170, List.forall_mem_cons.mpr ⟨pg_e171, List.forall_mem_cons.mpr ⟨pg_e172, List.forall_mem_cons.mpr ⟨pg_e173, List.forall_mem_cons.mpr ⟨pg_e174, List.forall_mem_cons.mpr ⟨pg_e175, fun _ h => absurd h List.not_mem_nil⟩⟩⟩⟩⟩⟩⟩⟩⟩⟩⟩⟩⟩⟩⟩⟩
theorem pg_g11 : ∀ n ∈ [176, 177, 178, 179, 180, 181, 182, 183, 184, 185, 186, 187, 188, 189, 190, 191], pg_P n := List.forall_mem_cons.mpr ⟨pg_e176, List.forall_mem_cons.mpr ⟨pg_e177, List.forall_mem_cons.mpr ⟨pg_e178, List.forall_mem_cons.mpr ⟨pg_e179, List.forall_mem_cons.mpr ⟨pg_e180, List.forall_mem_cons.mpr ⟨pg_e181, List.forall_mem_cons.mpr ⟨pg_e182, List.forall_mem_cons.mpr ⟨pg_e183, List.forall_mem_cons.mpr ⟨pg_e184, List.forall_mem_cons.mpr ⟨pg_e185, List.forall_mem_cons.mpr ⟨pg_e186, List.forall_mem_cons.mpr ⟨pg_e187, List.forall_mem_cons.mpr ⟨pg_e188, List.forall_mem_cons.mpr ⟨pg_e189, List.forall_mem_cons.mpr ⟨pg_e190, List.forall_mem_cons.mpr ⟨pg_e191, fun _ h => absurd h List.not_mem_nil⟩⟩⟩⟩⟩⟩⟩⟩⟩⟩⟩⟩⟩⟩⟩⟩
theorem pg_g12 : ∀ n ∈ [192, 193, 194, 195, 196, 197, 198, 199, 200, 201, 202, 203, 204, 205, 206, 207], pg_P n := List.forall_mem_cons.mpr ⟨pg_e192, List.forall_mem_cons.mpr ⟨pg_e193, List.forall_mem_cons.mpr ⟨pg_e194, List.forall_mem_cons.mpr ⟨pg_e195, List.forall_mem_cons.mpr ⟨pg_e196, List.forall_mem_cons.mpr ⟨pg_e197, List.forall_mem_cons.mpr ⟨pg_e198, List.forall_mem_cons.mpr ⟨pg_e199, List.forall_mem_cons.mpr ⟨pg_e200, List.forall_mem_cons.mpr ⟨pg_e201, List.forall_mem_cons.mpr ⟨pg_e202, List.forall_mem_cons.mpr ⟨pg_e203, List.forall_mem_cons.mpr ⟨pg_e204, List.forall_mem_cons.mpr ⟨pg_e205, List.forall_mem_cons.mpr ⟨pg_e206, List.forall_mem_cons.mpr ⟨pg_e207, fun _ h => absurd h List.not_mem_nil⟩⟩⟩⟩⟩⟩⟩⟩⟩⟩⟩⟩⟩⟩⟩⟩
theorem pg_g13 : ∀ n ∈ [208, 209, 210, 211, 212, 213, 214, 215, 216, 217, 218, 219, 220, 221, 222, 223], pg_P n := List.forall_mem_cons.mpr ⟨pg_e208, List.forall_mem_cons.mpr ⟨pg_e209, List.forall_mem_cons.mpr ⟨pg_e210, List.forall_mem_cons.mpr ⟨pg_e211, List.forall_mem_cons.mpr ⟨pg_e212, List.forall_mem_cons.mpr ⟨pg_e213, List.forall_mem_cons.mpr ⟨pg_e214, List.forall_mem_cons.mpr ⟨pg_e215, List.forall_mem_cons.mpr ⟨pg_e216, List.forall_mem_cons.mpr ⟨pg_e217, List.forall_mem_cons.mpr ⟨pg_e218, List.forall_mem_cons.mpr ⟨pg_e219, List.forall_mem_cons.mpr ⟨pg_e220, List.forall_mem_cons.mpr ⟨pg_e221, List.forall_mem_cons.mpr ⟨pg_e222, List.forall_mem_cons.mpr ⟨pg_e223, fun _ h => absurd h List.not_mem_nil⟩⟩⟩⟩⟩⟩⟩⟩⟩⟩⟩⟩⟩⟩⟩⟩
theorem pg_g14 : ∀ n ∈ [224, 225, 226, 227, 228, 229, 230, 231, 232, 233, 234, 235, 236, 237, 238, 239], pg_P n := List.forall_mem_cons.mpr ⟨pg_e224, List.forall_mem_cons.mpr ⟨pg_e225, List.forall_mem_cons.mpr ⟨pg_e226, List.forall_mem_cons.mpr ⟨pg_e227, List.forall_mem_cons.mpr ⟨pg_e228, List.forall_mem_cons.mpr ⟨pg_e229, List.forall_mem_cons.mpr ⟨pg_e230, List.forall_mem_cons.mpr ⟨pg_e231, List.forall_mem_cons.mpr ⟨pg_e232, List.forall_mem_cons.mpr ⟨pg_e233, List.forall_mem_cons.mpr ⟨pg_e234, List.forall_mem_cons.mpr ⟨pg_e235, List.forall_mem_cons.mpr ⟨pg_e236, List.forall_mem_cons.mpr ⟨pg_e237, List.forall_mem_cons.mpr ⟨pg_e238, List.forall_mem_cons.mpr ⟨pg_e239, fun _ h => absurd h List.not_mem_nil⟩⟩⟩⟩⟩⟩⟩⟩⟩⟩⟩⟩⟩⟩⟩⟩
theorem pg_g15 : ∀ n ∈ [240, 241, 242, 243, 244, 245, 246, 247, 248, 249, 250, 251, 252, 253, 254, 255], pg_P n := List.forall_mem_cons.mpr ⟨pg_e240, List.forall_mem_cons.mpr ⟨pg_e241, List.forall_mem_cons.mpr ⟨pg_e242, List.forall_mem_cons.mpr ⟨pg_e243, List.forall_mem_cons.mpr ⟨pg_e244, List.forall_mem_cons.mpr ⟨pg_e245, List.forall_mem_cons.mpr ⟨pg_e246, List.forall_mem_cons.mpr ⟨pg_e247, List.forall_mem_cons.mpr ⟨pg_e248, List.forall_mem_cons.mpr ⟨pg_e249, List.forall_mem_cons.mpr ⟨pg_e250, List.forall_mem_cons.mpr ⟨pg_e251, List.forall_mem_cons.mpr ⟨pg_e252, List.forall_mem_cons.mpr ⟨pg_e253, List.forall_mem_cons.mpr ⟨pg_e254, List.forall_mem_cons.mpr ⟨pg_e255, fun _ h => absurd h List.not_mem_nil⟩⟩⟩⟩⟩⟩⟩⟩⟩⟩⟩⟩⟩⟩⟩⟩
theorem pg_g16 : ∀ n ∈ [256, 257, 258, 259, 260, 261, 262, 263, 264, 265, 266, 267, 268, 269, 270, 271], pg_P n := List.forall_mem_cons.mpr ⟨pg_e256, List.forall_mem_cons.mpr ⟨pg_e257, List.forall_mem_cons.mpr ⟨pg_e258, List.forall_mem_cons.mpr ⟨pg_e259, List.forall_mem_cons.mpr ⟨pg_e260, List.forall_mem_cons.mpr ⟨pg_e261, List.forall_mem_cons.mpr ⟨pg_e262, List.forall_mem_cons.mpr ⟨pg_e263, List.forall_mem_cons.mpr ⟨pg_e264, List.forall_mem_cons.mpr ⟨pg_e265, List.forall_mem_cons.mpr ⟨pg_e266, List.forall_mem_cons.mpr ⟨pg_e267, List.forall_mem_cons.mpr ⟨pg_e268, List.forall_mem_cons.mpr ⟨pg_e269, List.forall_mem_cons.mpr ⟨pg_e270, List.forall_mem_cons.mpr ⟨pg_e271, fun _ h => absurd h List.not_mem_nil⟩⟩⟩⟩⟩⟩⟩⟩⟩⟩⟩⟩⟩⟩⟩⟩
theorem pg_g17 : ∀ n ∈ [272, 273, 274, 275, 276, 277, 278, 279, 280, 281, 282, 283, 284, 285, 286], pg_P n := List.forall_mem_cons.mpr ⟨pg_e272, List.forall_mem_cons.mpr ⟨pg_e273, List.forall_mem_cons.mpr ⟨pg_e274, List.forall_mem_cons.mpr ⟨pg_e275, List.forall_mem_cons.mpr ⟨pg_e276, List.forall_mem_cons.mpr ⟨pg_e277, List.forall_mem_cons.mpr ⟨pg_e278, List.forall_mem_cons.mpr ⟨pg_e279, List.forall_mem_cons.mpr ⟨pg_e280, List.forall_mem_cons.mpr ⟨pg_e281, List.forall_mem_cons.mpr ⟨pg_e282, List.forall_mem_cons.mpr ⟨pg_e283, List.forall_mem_cons.mpr ⟨pg_e284, List.forall_mem_cons.mpr ⟨pg_e285, List.forall_mem_cons.mpr ⟨pg_e286, fun _ h => absurd h List.not_mem_nil⟩⟩⟩⟩⟩⟩⟩⟩⟩⟩⟩⟩⟩⟩⟩
theorem pg_all (n : Nat) (hn : n < 287) : pg_P n := by
  by_cases h0 : n < 16
  · exact pg_g0 n (by simp only [List.mem_cons, List.not_mem_nil, or_false]; omega)
  by_cases h1 : n < 32
  · exact pg_g1 n (by simp only [List.mem_cons, List.not_mem_nil, or_false]; omega)
  by_cases h2 : n < 48
  · exact pg_g2 n (by simp only [List.mem_cons, List.not_mem_nil, or_false]; omega)
  by_cases h3 : n < 64
  · exact pg_g3 n (by simp only [List.mem_cons, List.not_mem_nil, or_false]; omega)
  by_cases h4 : n < 80
  · exact pg_g4 n (by simp only [List.mem_cons, List.not_mem_nil, or_false]; omega)
  by_cases h5 : n < 96
  · exact pg_g5 n (by simp only [List.mem_cons, List.not_mem_nil, or_false]; omega)
  by_cases h6 : n < 112
  · exact pg_g6 n (by simp only [List.mem_cons, List.not_mem_nil, or_false]; omega)
  by_cases h7 : n < 128
  · exact pg_g7 n (by simp only [List.mem_cons, List.not_mem_nil, or_false]; omega)
  by_cases h8 : n < 144
  · exact pg_g8 n (by simp only [List.mem_cons, List.not_mem_nil, or_false]; omega)
  by_cases h9 : n < 160
  · exact pg_g9 n (by simp only [List.mem_cons, List.not_mem_nil, or_false]; omega)
  by_cases h10 : n < 176
  · exact pg_g10 n (by simp only [List.mem_cons, List.not_mem_nil, or_false]; omega)
  by_cases h11 : n < 192
  · exact pg_g11 n (by simp only [List.mem_cons, List.not_mem_nil, or_false]; omega)
  by_cases h12 : n < 208
  · exact pg_g12 n (by simp only [List.mem_cons, List.not_mem_nil, or_false]; omega)
  by_cases h13 : n < 224
  · exact pg_g13 n (by simp only [List.mem_cons, List.not_mem_nil, or_false]; omega)
  by_cases h14 : n < 240
  · exact pg_g14 n (by simp only [List.mem_cons, List.not_mem_nil, or_false]; omega)
  by_cases h15 : n < 256
  · exact pg_g15 n (by simp only [List.mem_cons, List.not_mem_nil, or_false]; omega)
  by_cases h16 : n < 272
  · exact pg_g16 n (by simp only [List.mem_cons, List.not_mem_nil, or_false]; omega)
  by_cases h17 : n < 287
  · exact pg_g17 n (by simp only [List.mem_cons, List.not_mem_nil, or_false]; omega)
  · omega
theorem pg_ok : xm_ok pg_Tb pg_Tx pg_cl pg_fty pg_mt pg_bt := by
  refine ⟨pg_clok, pg_good, pg_txok, fun M md hM => ?_⟩
  obtain ⟨h1, rfl⟩ := pg_mt_at hM
  refine ⟨fun h0 => pg_mok (by omega) h1, fun pc is hb => ?_⟩
  obtain ⟨cn, ini, h2, h3, bs, h4, h5⟩ := pg_all M h1
  unfold pg_bt at hb
  rw [h4] at hb
  have h6 := List.all_eq_true.mp h5 _ (pg_find_mem hb)
  exact pg_bck_ok h2 h3 is pc h6
