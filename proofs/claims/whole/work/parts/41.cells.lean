/-! the cells by their numbers; printed by wip/gen (see NOTES.md) -/
theorem R_0_0 : hk_R 0 0 = some 1 := (hk_R_at (by decide) (by decide)).trans rfl
theorem R_0_1 : hk_R 0 1 = some 3 := (hk_R_at (by decide) (by decide)).trans rfl
theorem R_0_2 : hk_R 0 2 = some 6 := (hk_R_at (by decide) (by decide)).trans rfl
theorem R_0_3 : hk_R 0 3 = some 9 := (hk_R_at (by decide) (by decide)).trans rfl
theorem R_0_4 : hk_R 0 4 = some 21 := (hk_R_at (by decide) (by decide)).trans rfl
theorem R_0_5 : hk_R 0 5 = some 33 := (hk_R_at (by decide) (by decide)).trans rfl
theorem R_0_6 : hk_R 0 6 = some 37 := (hk_R_at (by decide) (by decide)).trans rfl
theorem R_0_7 : hk_R 0 7 = some 38 := (hk_R_at (by decide) (by decide)).trans rfl
theorem R_0_8 : hk_R 0 8 = some 39 := (hk_R_at (by decide) (by decide)).trans rfl
theorem R_0_9 : hk_R 0 9 = some 51 := (hk_R_at (by decide) (by decide)).trans rfl
theorem R_0_10 : hk_R 0 10 = some 72 := (hk_R_at (by decide) (by decide)).trans rfl
theorem R_0_11 : hk_R 0 11 = some 82 := (hk_R_at (by decide) (by decide)).trans rfl
theorem R_0_12 : hk_R 0 12 = some 86 := (hk_R_at (by decide) (by decide)).trans rfl
theorem R_1_0 : hk_R 1 0 = some 2 := (hk_R_at (by decide) (by decide)).trans rfl
theorem R_3_0 : hk_R 3 0 = some 4 := (hk_R_at (by decide) (by decide)).trans rfl
theorem R_3_1 : hk_R 3 1 = some 5 := (hk_R_at (by decide) (by decide)).trans rfl
theorem R_6_0 : hk_R 6 0 = some 7 := (hk_R_at (by decide) (by decide)).trans rfl
theorem R_6_1 : hk_R 6 1 = some 8 := (hk_R_at (by decide) (by decide)).trans rfl
theorem R_9_0 : hk_R 9 0 = some 10 := (hk_R_at (by decide) (by decide)).trans rfl
theorem R_10_0 : hk_R 10 0 = some 11 := (hk_R_at (by decide) (by decide)).trans rfl
theorem R_10_1 : hk_R 10 1 = some 12 := (hk_R_at (by decide) (by decide)).trans rfl
theorem R_10_2 : hk_R 10 2 = some 13 := (hk_R_at (by decide) (by decide)).trans rfl
theorem R_10_3 : hk_R 10 3 = some 14 := (hk_R_at (by decide) (by decide)).trans rfl
theorem R_10_4 : hk_R 10 4 = some 15 := (hk_R_at (by decide) (by decide)).trans rfl
theorem R_10_5 : hk_R 10 5 = some 16 := (hk_R_at (by decide) (by decide)).trans rfl
theorem R_10_6 : hk_R 10 6 = some 17 := (hk_R_at (by decide) (by decide)).trans rfl
theorem R_10_7 : hk_R 10 7 = some 18 := (hk_R_at (by decide) (by decide)).trans rfl
theorem R_10_8 : hk_R 10 8 = some 19 := (hk_R_at (by decide) (by decide)).trans rfl
theorem R_10_9 : hk_R 10 9 = some 20 := (hk_R_at (by decide) (by decide)).trans rfl
theorem R_21_0 : hk_R 21 0 = some 22 := (hk_R_at (by decide) (by decide)).trans rfl
theorem R_22_0 : hk_R 22 0 = some 23 := (hk_R_at (by decide) (by decide)).trans rfl
theorem R_22_1 : hk_R 22 1 = some 24 := (hk_R_at (by decide) (by decide)).trans rfl
theorem R_22_2 : hk_R 22 2 = some 25 := (hk_R_at (by decide) (by decide)).trans rfl
theorem R_22_3 : hk_R 22 3 = some 26 := (hk_R_at (by decide) (by decide)).trans rfl
theorem R_22_4 : hk_R 22 4 = some 27 := (hk_R_at (by decide) (by decide)).trans rfl
theorem R_22_5 : hk_R 22 5 = some 28 := (hk_R_at (by decide) (by decide)).trans rfl
theorem R_22_6 : hk_R 22 6 = some 29 := (hk_R_at (by decide) (by decide)).trans rfl
theorem R_22_7 : hk_R 22 7 = some 30 := (hk_R_at (by decide) (by decide)).trans rfl
theorem R_22_8 : hk_R 22 8 = some 31 := (hk_R_at (by decide) (by decide)).trans rfl
theorem R_22_9 : hk_R 22 9 = some 32 := (hk_R_at (by decide) (by decide)).trans rfl
theorem R_33_0 : hk_R 33 0 = some 34 := (hk_R_at (by decide) (by decide)).trans rfl
theorem R_33_1 : hk_R 33 1 = some 35 := (hk_R_at (by decide) (by decide)).trans rfl
theorem R_33_2 : hk_R 33 2 = some 36 := (hk_R_at (by decide) (by decide)).trans rfl
theorem R_37_0 : hk_R 37 0 = some 89 := (hk_R_at (by decide) (by decide)).trans rfl
theorem R_37_1 : hk_R 37 1 = some 93 := (hk_R_at (by decide) (by decide)).trans rfl
theorem R_37_2 : hk_R 37 2 = some 97 := (hk_R_at (by decide) (by decide)).trans rfl
theorem R_39_0 : hk_R 39 0 = some 3 := (hk_R_at (by decide) (by decide)).trans rfl
theorem R_39_1 : hk_R 39 1 = some 40 := (hk_R_at (by decide) (by decide)).trans rfl
theorem R_39_2 : hk_R 39 2 = some 46 := (hk_R_at (by decide) (by decide)).trans rfl
theorem R_39_3 : hk_R 39 3 = some 47 := (hk_R_at (by decide) (by decide)).trans rfl
theorem R_39_4 : hk_R 39 4 = some 48 := (hk_R_at (by decide) (by decide)).trans rfl
theorem R_39_5 : hk_R 39 5 = some 49 := (hk_R_at (by decide) (by decide)).trans rfl
theorem R_39_6 : hk_R 39 6 = some 50 := (hk_R_at (by decide) (by decide)).trans rfl
theorem R_40_0 : hk_R 40 0 = some 41 := (hk_R_at (by decide) (by decide)).trans rfl
theorem R_40_1 : hk_R 40 1 = some 42 := (hk_R_at (by decide) (by decide)).trans rfl
theorem R_40_2 : hk_R 40 2 = some 43 := (hk_R_at (by decide) (by decide)).trans rfl
theorem R_40_3 : hk_R 40 3 = some 44 := (hk_R_at (by decide) (by decide)).trans rfl
theorem R_40_4 : hk_R 40 4 = some 45 := (hk_R_at (by decide) (by decide)).trans rfl
theorem R_51_0 : hk_R 51 0 = some 3 := (hk_R_at (by decide) (by decide)).trans rfl
theorem R_51_1 : hk_R 51 1 = some 9 := (hk_R_at (by decide) (by decide)).trans rfl
theorem R_51_2 : hk_R 51 2 = some 33 := (hk_R_at (by decide) (by decide)).trans rfl
theorem R_51_3 : hk_R 51 3 = some 39 := (hk_R_at (by decide) (by decide)).trans rfl
theorem R_51_4 : hk_R 51 4 = some 52 := (hk_R_at (by decide) (by decide)).trans rfl
theorem R_51_5 : hk_R 51 5 = some 53 := (hk_R_at (by decide) (by decide)).trans rfl
theorem R_51_6 : hk_R 51 6 = some 54 := (hk_R_at (by decide) (by decide)).trans rfl
theorem R_51_7 : hk_R 51 7 = some 55 := (hk_R_at (by decide) (by decide)).trans rfl
theorem R_52_0 : hk_R 52 0 = some 56 := (hk_R_at (by decide) (by decide)).trans rfl
theorem R_52_1 : hk_R 52 1 = some 60 := (hk_R_at (by decide) (by decide)).trans rfl
theorem R_52_2 : hk_R 52 2 = some 64 := (hk_R_at (by decide) (by decide)).trans rfl
theorem R_52_3 : hk_R 52 3 = some 68 := (hk_R_at (by decide) (by decide)).trans rfl
theorem R_56_0 : hk_R 56 0 = some 57 := (hk_R_at (by decide) (by decide)).trans rfl
theorem R_56_1 : hk_R 56 1 = some 58 := (hk_R_at (by decide) (by decide)).trans rfl
theorem R_56_2 : hk_R 56 2 = some 59 := (hk_R_at (by decide) (by decide)).trans rfl
theorem R_60_0 : hk_R 60 0 = some 61 := (hk_R_at (by decide) (by decide)).trans rfl
theorem R_60_1 : hk_R 60 1 = some 62 := (hk_R_at (by decide) (by decide)).trans rfl
theorem R_60_2 : hk_R 60 2 = some 63 := (hk_R_at (by decide) (by decide)).trans rfl
theorem R_64_0 : hk_R 64 0 = some 65 := (hk_R_at (by decide) (by decide)).trans rfl
theorem R_64_1 : hk_R 64 1 = some 66 := (hk_R_at (by decide) (by decide)).trans rfl
theorem R_64_2 : hk_R 64 2 = some 67 := (hk_R_at (by decide) (by decide)).trans rfl
theorem R_68_0 : hk_R 68 0 = some 69 := (hk_R_at (by decide) (by decide)).trans rfl
theorem R_68_1 : hk_R 68 1 = some 70 := (hk_R_at (by decide) (by decide)).trans rfl
theorem R_68_2 : hk_R 68 2 = some 71 := (hk_R_at (by decide) (by decide)).trans rfl
theorem R_72_0 : hk_R 72 0 = some 3 := (hk_R_at (by decide) (by decide)).trans rfl
theorem R_72_1 : hk_R 72 1 = some 33 := (hk_R_at (by decide) (by decide)).trans rfl
theorem R_72_2 : hk_R 72 2 = some 39 := (hk_R_at (by decide) (by decide)).trans rfl
theorem R_72_3 : hk_R 72 3 = some 73 := (hk_R_at (by decide) (by decide)).trans rfl
theorem R_72_4 : hk_R 72 4 = some 74 := (hk_R_at (by decide) (by decide)).trans rfl
theorem R_72_5 : hk_R 72 5 = some 75 := (hk_R_at (by decide) (by decide)).trans rfl
theorem R_72_6 : hk_R 72 6 = some 76 := (hk_R_at (by decide) (by decide)).trans rfl
theorem R_72_7 : hk_R 72 7 = some 77 := (hk_R_at (by decide) (by decide)).trans rfl
theorem R_72_9 : hk_R 72 9 = some 78 := (hk_R_at (by decide) (by decide)).trans rfl
theorem R_72_12 : hk_R 72 12 = some 79 := (hk_R_at (by decide) (by decide)).trans rfl
theorem R_72_13 : hk_R 72 13 = some 80 := (hk_R_at (by decide) (by decide)).trans rfl
theorem R_72_15 : hk_R 72 15 = some 81 := (hk_R_at (by decide) (by decide)).trans rfl
theorem R_82_0 : hk_R 82 0 = some 3 := (hk_R_at (by decide) (by decide)).trans rfl
theorem R_82_1 : hk_R 82 1 = some 9 := (hk_R_at (by decide) (by decide)).trans rfl
theorem R_82_2 : hk_R 82 2 = some 39 := (hk_R_at (by decide) (by decide)).trans rfl
theorem R_82_3 : hk_R 82 3 = some 83 := (hk_R_at (by decide) (by decide)).trans rfl
theorem R_82_4 : hk_R 82 4 = some 84 := (hk_R_at (by decide) (by decide)).trans rfl
theorem R_82_5 : hk_R 82 5 = some 85 := (hk_R_at (by decide) (by decide)).trans rfl
theorem R_86_0 : hk_R 86 0 = some 87 := (hk_R_at (by decide) (by decide)).trans rfl
theorem R_86_1 : hk_R 86 1 = some 88 := (hk_R_at (by decide) (by decide)).trans rfl
theorem R_89_0 : hk_R 89 0 = some 90 := (hk_R_at (by decide) (by decide)).trans rfl
theorem R_89_1 : hk_R 89 1 = some 91 := (hk_R_at (by decide) (by decide)).trans rfl
theorem R_89_2 : hk_R 89 2 = some 92 := (hk_R_at (by decide) (by decide)).trans rfl
theorem R_93_0 : hk_R 93 0 = some 94 := (hk_R_at (by decide) (by decide)).trans rfl
theorem R_93_1 : hk_R 93 1 = some 95 := (hk_R_at (by decide) (by decide)).trans rfl
theorem R_93_2 : hk_R 93 2 = some 96 := (hk_R_at (by decide) (by decide)).trans rfl
theorem R_97_0 : hk_R 97 0 = some 98 := (hk_R_at (by decide) (by decide)).trans rfl
theorem R_97_1 : hk_R 97 1 = some 99 := (hk_R_at (by decide) (by decide)).trans rfl
theorem R_97_2 : hk_R 97 2 = some 100 := (hk_R_at (by decide) (by decide)).trans rfl
theorem R_101_0 : hk_R 101 0 = some 102 := (hk_R_at (by decide) (by decide)).trans rfl
theorem R_101_1 : hk_R 101 1 = some 103 := (hk_R_at (by decide) (by decide)).trans rfl
theorem R_101_11 : hk_R 101 11 = some 104 := (hk_R_at (by decide) (by decide)).trans rfl
theorem R_101_12 : hk_R 101 12 = some 105 := (hk_R_at (by decide) (by decide)).trans rfl
theorem R_101_13 : hk_R 101 13 = some 106 := (hk_R_at (by decide) (by decide)).trans rfl
theorem R_101_14 : hk_R 101 14 = some 107 := (hk_R_at (by decide) (by decide)).trans rfl
theorem R_101_15 : hk_R 101 15 = some 108 := (hk_R_at (by decide) (by decide)).trans rfl
theorem R_101_16 : hk_R 101 16 = some 109 := (hk_R_at (by decide) (by decide)).trans rfl
theorem R_101_17 : hk_R 101 17 = some 110 := (hk_R_at (by decide) (by decide)).trans rfl
theorem R_101_18 : hk_R 101 18 = some 111 := (hk_R_at (by decide) (by decide)).trans rfl
theorem R_101_19 : hk_R 101 19 = some 112 := (hk_R_at (by decide) (by decide)).trans rfl
theorem R_101_20 : hk_R 101 20 = some 113 := (hk_R_at (by decide) (by decide)).trans rfl
theorem R_101_21 : hk_R 101 21 = some 114 := (hk_R_at (by decide) (by decide)).trans rfl
theorem R_101_22 : hk_R 101 22 = some 115 := (hk_R_at (by decide) (by decide)).trans rfl
theorem R_101_23 : hk_R 101 23 = some 116 := (hk_R_at (by decide) (by decide)).trans rfl
theorem R_101_24 : hk_R 101 24 = some 117 := (hk_R_at (by decide) (by decide)).trans rfl
theorem R_101_30 : hk_R 101 30 = some 118 := (hk_R_at (by decide) (by decide)).trans rfl
theorem R_101_31 : hk_R 101 31 = some 119 := (hk_R_at (by decide) (by decide)).trans rfl
theorem R_101_32 : hk_R 101 32 = some 120 := (hk_R_at (by decide) (by decide)).trans rfl
theorem R_101_33 : hk_R 101 33 = some 121 := (hk_R_at (by decide) (by decide)).trans rfl
theorem R_101_34 : hk_R 101 34 = some 122 := (hk_R_at (by decide) (by decide)).trans rfl
theorem R_101_35 : hk_R 101 35 = some 123 := (hk_R_at (by decide) (by decide)).trans rfl
theorem R_101_36 : hk_R 101 36 = some 124 := (hk_R_at (by decide) (by decide)).trans rfl
theorem R_101_39 : hk_R 101 39 = some 125 := (hk_R_at (by decide) (by decide)).trans rfl
theorem R_101_40 : hk_R 101 40 = some 126 := (hk_R_at (by decide) (by decide)).trans rfl
theorem R_101_49 : hk_R 101 49 = some 127 := (hk_R_at (by decide) (by decide)).trans rfl
theorem R_101_50 : hk_R 101 50 = some 128 := (hk_R_at (by decide) (by decide)).trans rfl
theorem R_101_52 : hk_R 101 52 = some 129 := (hk_R_at (by decide) (by decide)).trans rfl
theorem R_101_53 : hk_R 101 53 = some 130 := (hk_R_at (by decide) (by decide)).trans rfl
theorem R_101_54 : hk_R 101 54 = some 131 := (hk_R_at (by decide) (by decide)).trans rfl
theorem R_101_55 : hk_R 101 55 = some 132 := (hk_R_at (by decide) (by decide)).trans rfl
theorem R_101_56 : hk_R 101 56 = some 133 := (hk_R_at (by decide) (by decide)).trans rfl
theorem R_101_57 : hk_R 101 57 = some 134 := (hk_R_at (by decide) (by decide)).trans rfl
theorem R_101_58 : hk_R 101 58 = some 135 := (hk_R_at (by decide) (by decide)).trans rfl
theorem R_101_59 : hk_R 101 59 = some 136 := (hk_R_at (by decide) (by decide)).trans rfl
theorem R_101_60 : hk_R 101 60 = some 137 := (hk_R_at (by decide) (by decide)).trans rfl
theorem R_101_65 : hk_R 101 65 = some 138 := (hk_R_at (by decide) (by decide)).trans rfl
theorem R_101_66 : hk_R 101 66 = some 139 := (hk_R_at (by decide) (by decide)).trans rfl
theorem R_101_67 : hk_R 101 67 = some 140 := (hk_R_at (by decide) (by decide)).trans rfl
theorem R_101_68 : hk_R 101 68 = some 141 := (hk_R_at (by decide) (by decide)).trans rfl
theorem R_101_69 : hk_R 101 69 = some 142 := (hk_R_at (by decide) (by decide)).trans rfl
theorem R_101_70 : hk_R 101 70 = some 143 := (hk_R_at (by decide) (by decide)).trans rfl
theorem R_101_72 : hk_R 101 72 = some 144 := (hk_R_at (by decide) (by decide)).trans rfl
theorem R_101_73 : hk_R 101 73 = some 145 := (hk_R_at (by decide) (by decide)).trans rfl
theorem O_0 : oK 0 11 = true := rfl
theorem O_1 : oK 1 8 = true := rfl
theorem N_2 : aN 2 = some 1200 := rfl
theorem A_2 (s : xS) (i : Int32) : aB s 2 i = if xm_in i 1200 = true then some (s.1 2 i.toNatClampNeg) else none := by
  unfold aB
  show (if (22 = 21 ∨ 22 = 22) ∧ xm_in i 1200 = true then _ else none) = _
  simp only [Nat.reduceEqDiff, or_true, true_or, true_and]
theorem W_2 (s : xS) (i : Int32) (x : Int32) : wB s 2 i x = if xm_in i 1200 = true then some (xm_up s.1 2 i.toNatClampNeg (vp_nar .byte x), s.2) else none := by
  unfold wB
  show (if (22 = 21 ∨ 22 = 22) ∧ xm_in i 1200 = true then _ else none) = _
  simp only [Nat.reduceEqDiff, or_true, true_or, true_and]
  try rfl
theorem O_3 : oK 3 7 = true := rfl
theorem N_4 : aN 4 = some 4 := rfl
theorem A_4 (s : xS) (i : Int32) : aL s 4 i = if xm_in i 4 = true then some (s.2 4 i.toNatClampNeg) else none := by
  unfold aL
  show (if 23 = 23 ∧ xm_in i 4 = true then _ else none) = _
  simp only [true_and]
theorem W_4 (s : xS) (i : Int32) (x : Int64) : wL s 4 i x = if xm_in i 4 = true then some (s.1, xm_up s.2 4 i.toNatClampNeg x) else none := by
  unfold wL
  show (if 23 = 23 ∧ xm_in i 4 = true then _ else none) = _
  simp only [true_and]
  try rfl
theorem N_5 : aN 5 = some 100 := rfl
theorem A_5 (s : xS) (i : Int32) : aI s 5 i = if xm_in i 100 = true then some (s.1 5 i.toNatClampNeg) else none := by
  unfold aI
  show (if 20 = 20 ∧ xm_in i 100 = true then _ else none) = _
  simp only [true_and]
theorem W_5 (s : xS) (i : Int32) (x : Int32) : wI s 5 i x = if xm_in i 100 = true then some (xm_up s.1 5 i.toNatClampNeg x, s.2) else none := by
  unfold wI
  show (if 20 = 20 ∧ xm_in i 100 = true then _ else none) = _
  simp only [true_and]
  try rfl
theorem O_6 : oK 6 7 = true := rfl
theorem N_7 : aN 7 = some 4 := rfl
theorem A_7 (s : xS) (i : Int32) : aL s 7 i = if xm_in i 4 = true then some (s.2 7 i.toNatClampNeg) else none := by
  unfold aL
  show (if 23 = 23 ∧ xm_in i 4 = true then _ else none) = _
  simp only [true_and]
theorem W_7 (s : xS) (i : Int32) (x : Int64) : wL s 7 i x = if xm_in i 4 = true then some (s.1, xm_up s.2 7 i.toNatClampNeg x) else none := by
  unfold wL
  show (if 23 = 23 ∧ xm_in i 4 = true then _ else none) = _
  simp only [true_and]
  try rfl
theorem N_8 : aN 8 = some 100 := rfl
theorem A_8 (s : xS) (i : Int32) : aI s 8 i = if xm_in i 100 = true then some (s.1 8 i.toNatClampNeg) else none := by
  unfold aI
  show (if 20 = 20 ∧ xm_in i 100 = true then _ else none) = _
  simp only [true_and]
theorem W_8 (s : xS) (i : Int32) (x : Int32) : wI s 8 i x = if xm_in i 100 = true then some (xm_up s.1 8 i.toNatClampNeg x, s.2) else none := by
  unfold wI
  show (if 20 = 20 ∧ xm_in i 100 = true then _ else none) = _
  simp only [true_and]
  try rfl
theorem O_9 : oK 9 4 = true := rfl
theorem N_10 : aN 10 = some 10 := rfl
theorem O_11 : oK 11 6 = true := rfl
theorem O_12 : oK 12 6 = true := rfl
theorem O_13 : oK 13 6 = true := rfl
theorem O_14 : oK 14 6 = true := rfl
theorem O_15 : oK 15 6 = true := rfl
theorem O_16 : oK 16 6 = true := rfl
theorem O_17 : oK 17 6 = true := rfl
theorem O_18 : oK 18 6 = true := rfl
theorem O_19 : oK 19 6 = true := rfl
theorem O_20 : oK 20 6 = true := rfl
theorem O_21 : oK 21 4 = true := rfl
theorem N_22 : aN 22 = some 10 := rfl
theorem O_23 : oK 23 6 = true := rfl
theorem O_24 : oK 24 6 = true := rfl
theorem O_25 : oK 25 6 = true := rfl
theorem O_26 : oK 26 6 = true := rfl
theorem O_27 : oK 27 6 = true := rfl
theorem O_28 : oK 28 6 = true := rfl
theorem O_29 : oK 29 6 = true := rfl
theorem O_30 : oK 30 6 = true := rfl
theorem O_31 : oK 31 6 = true := rfl
theorem O_32 : oK 32 6 = true := rfl
theorem O_33 : oK 33 0 = true := rfl
theorem N_34 : aN 34 = some 100 := rfl
theorem A_34 (s : xS) (i : Int32) : aI s 34 i = if xm_in i 100 = true then some (s.1 34 i.toNatClampNeg) else none := by
  unfold aI
  show (if 20 = 20 ∧ xm_in i 100 = true then _ else none) = _
  simp only [true_and]
theorem W_34 (s : xS) (i : Int32) (x : Int32) : wI s 34 i x = if xm_in i 100 = true then some (xm_up s.1 34 i.toNatClampNeg x, s.2) else none := by
  unfold wI
  show (if 20 = 20 ∧ xm_in i 100 = true then _ else none) = _
  simp only [true_and]
  try rfl
theorem N_35 : aN 35 = some 100 := rfl
theorem A_35 (s : xS) (i : Int32) : aI s 35 i = if xm_in i 100 = true then some (s.1 35 i.toNatClampNeg) else none := by
  unfold aI
  show (if 20 = 20 ∧ xm_in i 100 = true then _ else none) = _
  simp only [true_and]
theorem W_35 (s : xS) (i : Int32) (x : Int32) : wI s 35 i x = if xm_in i 100 = true then some (xm_up s.1 35 i.toNatClampNeg x, s.2) else none := by
  unfold wI
  show (if 20 = 20 ∧ xm_in i 100 = true then _ else none) = _
  simp only [true_and]
  try rfl
theorem N_36 : aN 36 = some 100 := rfl
theorem A_36 (s : xS) (i : Int32) : aI s 36 i = if xm_in i 100 = true then some (s.1 36 i.toNatClampNeg) else none := by
  unfold aI
  show (if 20 = 20 ∧ xm_in i 100 = true then _ else none) = _
  simp only [true_and]
theorem W_36 (s : xS) (i : Int32) (x : Int32) : wI s 36 i x = if xm_in i 100 = true then some (xm_up s.1 36 i.toNatClampNeg x, s.2) else none := by
  unfold wI
  show (if 20 = 20 ∧ xm_in i 100 = true then _ else none) = _
  simp only [true_and]
  try rfl
theorem N_37 : aN 37 = some 3 := rfl
theorem N_38 : aN 38 = some 3 := rfl
theorem A_38 (s : xS) (i : Int32) : aB s 38 i = if xm_in i 3 = true then some (s.1 38 i.toNatClampNeg) else none := by
  unfold aB
  show (if (21 = 21 ∨ 21 = 22) ∧ xm_in i 3 = true then _ else none) = _
  simp only [Nat.reduceEqDiff, or_true, true_or, true_and]
theorem W_38 (s : xS) (i : Int32) (x : Int32) : wB s 38 i x = if xm_in i 3 = true then some (xm_up s.1 38 i.toNatClampNeg (vp_nar .boolean x), s.2) else none := by
  unfold wB
  show (if (21 = 21 ∨ 21 = 22) ∧ xm_in i 3 = true then _ else none) = _
  simp only [Nat.reduceEqDiff, or_true, true_or, true_and]
  try rfl
theorem O_39 : oK 39 3 = true := rfl
theorem O_40 : oK 40 5 = true := rfl
theorem N_41 : aN 41 = some 25 := rfl
theorem A_41 (s : xS) (i : Int32) : aI s 41 i = if xm_in i 25 = true then some (s.1 41 i.toNatClampNeg) else none := by
  unfold aI
  show (if 20 = 20 ∧ xm_in i 25 = true then _ else none) = _
  simp only [true_and]
theorem W_41 (s : xS) (i : Int32) (x : Int32) : wI s 41 i x = if xm_in i 25 = true then some (xm_up s.1 41 i.toNatClampNeg x, s.2) else none := by
  unfold wI
  show (if 20 = 20 ∧ xm_in i 25 = true then _ else none) = _
  simp only [true_and]
  try rfl
theorem N_42 : aN 42 = some 25 := rfl
theorem A_42 (s : xS) (i : Int32) : aI s 42 i = if xm_in i 25 = true then some (s.1 42 i.toNatClampNeg) else none := by
  unfold aI
  show (if 20 = 20 ∧ xm_in i 25 = true then _ else none) = _
  simp only [true_and]
theorem W_42 (s : xS) (i : Int32) (x : Int32) : wI s 42 i x = if xm_in i 25 = true then some (xm_up s.1 42 i.toNatClampNeg x, s.2) else none := by
  unfold wI
  show (if 20 = 20 ∧ xm_in i 25 = true then _ else none) = _
  simp only [true_and]
  try rfl
theorem N_43 : aN 43 = some 25 := rfl
theorem A_43 (s : xS) (i : Int32) : aI s 43 i = if xm_in i 25 = true then some (s.1 43 i.toNatClampNeg) else none := by
  unfold aI
  show (if 20 = 20 ∧ xm_in i 25 = true then _ else none) = _
  simp only [true_and]
theorem W_43 (s : xS) (i : Int32) (x : Int32) : wI s 43 i x = if xm_in i 25 = true then some (xm_up s.1 43 i.toNatClampNeg x, s.2) else none := by
  unfold wI
  show (if 20 = 20 ∧ xm_in i 25 = true then _ else none) = _
  simp only [true_and]
  try rfl
theorem N_44 : aN 44 = some 3 := rfl
theorem A_44 (s : xS) (i : Int32) : aI s 44 i = if xm_in i 3 = true then some (s.1 44 i.toNatClampNeg) else none := by
  unfold aI
  show (if 20 = 20 ∧ xm_in i 3 = true then _ else none) = _
  simp only [true_and]
theorem W_44 (s : xS) (i : Int32) (x : Int32) : wI s 44 i x = if xm_in i 3 = true then some (xm_up s.1 44 i.toNatClampNeg x, s.2) else none := by
  unfold wI
  show (if 20 = 20 ∧ xm_in i 3 = true then _ else none) = _
  simp only [true_and]
  try rfl
theorem N_45 : aN 45 = some 25 := rfl
theorem A_45 (s : xS) (i : Int32) : aI s 45 i = if xm_in i 25 = true then some (s.1 45 i.toNatClampNeg) else none := by
  unfold aI
  show (if 20 = 20 ∧ xm_in i 25 = true then _ else none) = _
  simp only [true_and]
theorem W_45 (s : xS) (i : Int32) (x : Int32) : wI s 45 i x = if xm_in i 25 = true then some (xm_up s.1 45 i.toNatClampNeg x, s.2) else none := by
  unfold wI
  show (if 20 = 20 ∧ xm_in i 25 = true then _ else none) = _
  simp only [true_and]
  try rfl
theorem N_46 : aN 46 = some 25 := rfl
theorem A_46 (s : xS) (i : Int32) : aI s 46 i = if xm_in i 25 = true then some (s.1 46 i.toNatClampNeg) else none := by
  unfold aI
  show (if 20 = 20 ∧ xm_in i 25 = true then _ else none) = _
  simp only [true_and]
theorem W_46 (s : xS) (i : Int32) (x : Int32) : wI s 46 i x = if xm_in i 25 = true then some (xm_up s.1 46 i.toNatClampNeg x, s.2) else none := by
  unfold wI
  show (if 20 = 20 ∧ xm_in i 25 = true then _ else none) = _
  simp only [true_and]
  try rfl
theorem N_47 : aN 47 = some 25 := rfl
theorem A_47 (s : xS) (i : Int32) : aI s 47 i = if xm_in i 25 = true then some (s.1 47 i.toNatClampNeg) else none := by
  unfold aI
  show (if 20 = 20 ∧ xm_in i 25 = true then _ else none) = _
  simp only [true_and]
theorem W_47 (s : xS) (i : Int32) (x : Int32) : wI s 47 i x = if xm_in i 25 = true then some (xm_up s.1 47 i.toNatClampNeg x, s.2) else none := by
  unfold wI
  show (if 20 = 20 ∧ xm_in i 25 = true then _ else none) = _
  simp only [true_and]
  try rfl
theorem N_48 : aN 48 = some 25 := rfl
theorem A_48 (s : xS) (i : Int32) : aI s 48 i = if xm_in i 25 = true then some (s.1 48 i.toNatClampNeg) else none := by
  unfold aI
  show (if 20 = 20 ∧ xm_in i 25 = true then _ else none) = _
  simp only [true_and]
theorem W_48 (s : xS) (i : Int32) (x : Int32) : wI s 48 i x = if xm_in i 25 = true then some (xm_up s.1 48 i.toNatClampNeg x, s.2) else none := by
  unfold wI
  show (if 20 = 20 ∧ xm_in i 25 = true then _ else none) = _
  simp only [true_and]
  try rfl
theorem N_49 : aN 49 = some 25 := rfl
theorem A_49 (s : xS) (i : Int32) : aI s 49 i = if xm_in i 25 = true then some (s.1 49 i.toNatClampNeg) else none := by
  unfold aI
  show (if 20 = 20 ∧ xm_in i 25 = true then _ else none) = _
  simp only [true_and]
theorem W_49 (s : xS) (i : Int32) (x : Int32) : wI s 49 i x = if xm_in i 25 = true then some (xm_up s.1 49 i.toNatClampNeg x, s.2) else none := by
  unfold wI
  show (if 20 = 20 ∧ xm_in i 25 = true then _ else none) = _
  simp only [true_and]
  try rfl
theorem N_50 : aN 50 = some 25 := rfl
theorem A_50 (s : xS) (i : Int32) : aI s 50 i = if xm_in i 25 = true then some (s.1 50 i.toNatClampNeg) else none := by
  unfold aI
  show (if 20 = 20 ∧ xm_in i 25 = true then _ else none) = _
  simp only [true_and]
theorem W_50 (s : xS) (i : Int32) (x : Int32) : wI s 50 i x = if xm_in i 25 = true then some (xm_up s.1 50 i.toNatClampNeg x, s.2) else none := by
  unfold wI
  show (if 20 = 20 ∧ xm_in i 25 = true then _ else none) = _
  simp only [true_and]
  try rfl
theorem O_51 : oK 51 9 = true := rfl
theorem N_52 : aN 52 = some 4 := rfl
theorem N_53 : aN 53 = some 4 := rfl
theorem A_53 (s : xS) (i : Int32) : aB s 53 i = if xm_in i 4 = true then some (s.1 53 i.toNatClampNeg) else none := by
  unfold aB
  show (if (21 = 21 ∨ 21 = 22) ∧ xm_in i 4 = true then _ else none) = _
  simp only [Nat.reduceEqDiff, or_true, true_or, true_and]
theorem W_53 (s : xS) (i : Int32) (x : Int32) : wB s 53 i x = if xm_in i 4 = true then some (xm_up s.1 53 i.toNatClampNeg (vp_nar .boolean x), s.2) else none := by
  unfold wB
  show (if (21 = 21 ∨ 21 = 22) ∧ xm_in i 4 = true then _ else none) = _
  simp only [Nat.reduceEqDiff, or_true, true_or, true_and]
  try rfl
theorem N_54 : aN 54 = some 3 := rfl
theorem A_54 (s : xS) (i : Int32) : aI s 54 i = if xm_in i 3 = true then some (s.1 54 i.toNatClampNeg) else none := by
  unfold aI
  show (if 20 = 20 ∧ xm_in i 3 = true then _ else none) = _
  simp only [true_and]
theorem W_54 (s : xS) (i : Int32) (x : Int32) : wI s 54 i x = if xm_in i 3 = true then some (xm_up s.1 54 i.toNatClampNeg x, s.2) else none := by
  unfold wI
  show (if 20 = 20 ∧ xm_in i 3 = true then _ else none) = _
  simp only [true_and]
  try rfl
theorem N_55 : aN 55 = some 3 := rfl
theorem A_55 (s : xS) (i : Int32) : aI s 55 i = if xm_in i 3 = true then some (s.1 55 i.toNatClampNeg) else none := by
  unfold aI
  show (if 20 = 20 ∧ xm_in i 3 = true then _ else none) = _
  simp only [true_and]
theorem W_55 (s : xS) (i : Int32) (x : Int32) : wI s 55 i x = if xm_in i 3 = true then some (xm_up s.1 55 i.toNatClampNeg x, s.2) else none := by
  unfold wI
  show (if 20 = 20 ∧ xm_in i 3 = true then _ else none) = _
  simp only [true_and]
  try rfl
theorem O_56 : oK 56 0 = true := rfl
theorem N_57 : aN 57 = some 100 := rfl
theorem A_57 (s : xS) (i : Int32) : aI s 57 i = if xm_in i 100 = true then some (s.1 57 i.toNatClampNeg) else none := by
  unfold aI
  show (if 20 = 20 ∧ xm_in i 100 = true then _ else none) = _
  simp only [true_and]
theorem W_57 (s : xS) (i : Int32) (x : Int32) : wI s 57 i x = if xm_in i 100 = true then some (xm_up s.1 57 i.toNatClampNeg x, s.2) else none := by
  unfold wI
  show (if 20 = 20 ∧ xm_in i 100 = true then _ else none) = _
  simp only [true_and]
  try rfl
theorem N_58 : aN 58 = some 100 := rfl
theorem A_58 (s : xS) (i : Int32) : aI s 58 i = if xm_in i 100 = true then some (s.1 58 i.toNatClampNeg) else none := by
  unfold aI
  show (if 20 = 20 ∧ xm_in i 100 = true then _ else none) = _
  simp only [true_and]
theorem W_58 (s : xS) (i : Int32) (x : Int32) : wI s 58 i x = if xm_in i 100 = true then some (xm_up s.1 58 i.toNatClampNeg x, s.2) else none := by
  unfold wI
  show (if 20 = 20 ∧ xm_in i 100 = true then _ else none) = _
  simp only [true_and]
  try rfl
theorem N_59 : aN 59 = some 100 := rfl
theorem A_59 (s : xS) (i : Int32) : aI s 59 i = if xm_in i 100 = true then some (s.1 59 i.toNatClampNeg) else none := by
  unfold aI
  show (if 20 = 20 ∧ xm_in i 100 = true then _ else none) = _
  simp only [true_and]
theorem W_59 (s : xS) (i : Int32) (x : Int32) : wI s 59 i x = if xm_in i 100 = true then some (xm_up s.1 59 i.toNatClampNeg x, s.2) else none := by
  unfold wI
  show (if 20 = 20 ∧ xm_in i 100 = true then _ else none) = _
  simp only [true_and]
  try rfl
theorem O_60 : oK 60 0 = true := rfl
theorem N_61 : aN 61 = some 100 := rfl
theorem A_61 (s : xS) (i : Int32) : aI s 61 i = if xm_in i 100 = true then some (s.1 61 i.toNatClampNeg) else none := by
  unfold aI
  show (if 20 = 20 ∧ xm_in i 100 = true then _ else none) = _
  simp only [true_and]
theorem W_61 (s : xS) (i : Int32) (x : Int32) : wI s 61 i x = if xm_in i 100 = true then some (xm_up s.1 61 i.toNatClampNeg x, s.2) else none := by
  unfold wI
  show (if 20 = 20 ∧ xm_in i 100 = true then _ else none) = _
  simp only [true_and]
  try rfl
theorem N_62 : aN 62 = some 100 := rfl
theorem A_62 (s : xS) (i : Int32) : aI s 62 i = if xm_in i 100 = true then some (s.1 62 i.toNatClampNeg) else none := by
  unfold aI
  show (if 20 = 20 ∧ xm_in i 100 = true then _ else none) = _
  simp only [true_and]
theorem W_62 (s : xS) (i : Int32) (x : Int32) : wI s 62 i x = if xm_in i 100 = true then some (xm_up s.1 62 i.toNatClampNeg x, s.2) else none := by
  unfold wI
  show (if 20 = 20 ∧ xm_in i 100 = true then _ else none) = _
  simp only [true_and]
  try rfl
theorem N_63 : aN 63 = some 100 := rfl
theorem A_63 (s : xS) (i : Int32) : aI s 63 i = if xm_in i 100 = true then some (s.1 63 i.toNatClampNeg) else none := by
  unfold aI
  show (if 20 = 20 ∧ xm_in i 100 = true then _ else none) = _
  simp only [true_and]
theorem W_63 (s : xS) (i : Int32) (x : Int32) : wI s 63 i x = if xm_in i 100 = true then some (xm_up s.1 63 i.toNatClampNeg x, s.2) else none := by
  unfold wI
  show (if 20 = 20 ∧ xm_in i 100 = true then _ else none) = _
  simp only [true_and]
  try rfl
theorem O_64 : oK 64 0 = true := rfl
theorem N_65 : aN 65 = some 100 := rfl
theorem A_65 (s : xS) (i : Int32) : aI s 65 i = if xm_in i 100 = true then some (s.1 65 i.toNatClampNeg) else none := by
  unfold aI
  show (if 20 = 20 ∧ xm_in i 100 = true then _ else none) = _
  simp only [true_and]
theorem W_65 (s : xS) (i : Int32) (x : Int32) : wI s 65 i x = if xm_in i 100 = true then some (xm_up s.1 65 i.toNatClampNeg x, s.2) else none := by
  unfold wI
  show (if 20 = 20 ∧ xm_in i 100 = true then _ else none) = _
  simp only [true_and]
  try rfl
theorem N_66 : aN 66 = some 100 := rfl
theorem A_66 (s : xS) (i : Int32) : aI s 66 i = if xm_in i 100 = true then some (s.1 66 i.toNatClampNeg) else none := by
  unfold aI
  show (if 20 = 20 ∧ xm_in i 100 = true then _ else none) = _
  simp only [true_and]
theorem W_66 (s : xS) (i : Int32) (x : Int32) : wI s 66 i x = if xm_in i 100 = true then some (xm_up s.1 66 i.toNatClampNeg x, s.2) else none := by
  unfold wI
  show (if 20 = 20 ∧ xm_in i 100 = true then _ else none) = _
  simp only [true_and]
  try rfl
theorem N_67 : aN 67 = some 100 := rfl
theorem A_67 (s : xS) (i : Int32) : aI s 67 i = if xm_in i 100 = true then some (s.1 67 i.toNatClampNeg) else none := by
  unfold aI
  show (if 20 = 20 ∧ xm_in i 100 = true then _ else none) = _
  simp only [true_and]
theorem W_67 (s : xS) (i : Int32) (x : Int32) : wI s 67 i x = if xm_in i 100 = true then some (xm_up s.1 67 i.toNatClampNeg x, s.2) else none := by
  unfold wI
  show (if 20 = 20 ∧ xm_in i 100 = true then _ else none) = _
  simp only [true_and]
  try rfl
theorem O_68 : oK 68 0 = true := rfl
theorem N_69 : aN 69 = some 100 := rfl
theorem A_69 (s : xS) (i : Int32) : aI s 69 i = if xm_in i 100 = true then some (s.1 69 i.toNatClampNeg) else none := by
  unfold aI
  show (if 20 = 20 ∧ xm_in i 100 = true then _ else none) = _
  simp only [true_and]
theorem W_69 (s : xS) (i : Int32) (x : Int32) : wI s 69 i x = if xm_in i 100 = true then some (xm_up s.1 69 i.toNatClampNeg x, s.2) else none := by
  unfold wI
  show (if 20 = 20 ∧ xm_in i 100 = true then _ else none) = _
  simp only [true_and]
  try rfl
theorem N_70 : aN 70 = some 100 := rfl
theorem A_70 (s : xS) (i : Int32) : aI s 70 i = if xm_in i 100 = true then some (s.1 70 i.toNatClampNeg) else none := by
  unfold aI
  show (if 20 = 20 ∧ xm_in i 100 = true then _ else none) = _
  simp only [true_and]
theorem W_70 (s : xS) (i : Int32) (x : Int32) : wI s 70 i x = if xm_in i 100 = true then some (xm_up s.1 70 i.toNatClampNeg x, s.2) else none := by
  unfold wI
  show (if 20 = 20 ∧ xm_in i 100 = true then _ else none) = _
  simp only [true_and]
  try rfl
theorem N_71 : aN 71 = some 100 := rfl
theorem A_71 (s : xS) (i : Int32) : aI s 71 i = if xm_in i 100 = true then some (s.1 71 i.toNatClampNeg) else none := by
  unfold aI
  show (if 20 = 20 ∧ xm_in i 100 = true then _ else none) = _
  simp only [true_and]
theorem W_71 (s : xS) (i : Int32) (x : Int32) : wI s 71 i x = if xm_in i 100 = true then some (xm_up s.1 71 i.toNatClampNeg x, s.2) else none := by
  unfold wI
  show (if 20 = 20 ∧ xm_in i 100 = true then _ else none) = _
  simp only [true_and]
  try rfl
theorem O_72 : oK 72 10 = true := rfl
theorem N_73 : aN 73 = some 20 := rfl
theorem A_73 (s : xS) (i : Int32) : aI s 73 i = if xm_in i 20 = true then some (s.1 73 i.toNatClampNeg) else none := by
  unfold aI
  show (if 20 = 20 ∧ xm_in i 20 = true then _ else none) = _
  simp only [true_and]
theorem W_73 (s : xS) (i : Int32) (x : Int32) : wI s 73 i x = if xm_in i 20 = true then some (xm_up s.1 73 i.toNatClampNeg x, s.2) else none := by
  unfold wI
  show (if 20 = 20 ∧ xm_in i 20 = true then _ else none) = _
  simp only [true_and]
  try rfl
theorem N_74 : aN 74 = some 20 := rfl
theorem A_74 (s : xS) (i : Int32) : aI s 74 i = if xm_in i 20 = true then some (s.1 74 i.toNatClampNeg) else none := by
  unfold aI
  show (if 20 = 20 ∧ xm_in i 20 = true then _ else none) = _
  simp only [true_and]
theorem W_74 (s : xS) (i : Int32) (x : Int32) : wI s 74 i x = if xm_in i 20 = true then some (xm_up s.1 74 i.toNatClampNeg x, s.2) else none := by
  unfold wI
  show (if 20 = 20 ∧ xm_in i 20 = true then _ else none) = _
  simp only [true_and]
  try rfl
theorem N_75 : aN 75 = some 20 := rfl
theorem A_75 (s : xS) (i : Int32) : aI s 75 i = if xm_in i 20 = true then some (s.1 75 i.toNatClampNeg) else none := by
  unfold aI
  show (if 20 = 20 ∧ xm_in i 20 = true then _ else none) = _
  simp only [true_and]
theorem W_75 (s : xS) (i : Int32) (x : Int32) : wI s 75 i x = if xm_in i 20 = true then some (xm_up s.1 75 i.toNatClampNeg x, s.2) else none := by
  unfold wI
  show (if 20 = 20 ∧ xm_in i 20 = true then _ else none) = _
  simp only [true_and]
  try rfl
theorem N_76 : aN 76 = some 20 := rfl
theorem A_76 (s : xS) (i : Int32) : aI s 76 i = if xm_in i 20 = true then some (s.1 76 i.toNatClampNeg) else none := by
  unfold aI
  show (if 20 = 20 ∧ xm_in i 20 = true then _ else none) = _
  simp only [true_and]
theorem W_76 (s : xS) (i : Int32) (x : Int32) : wI s 76 i x = if xm_in i 20 = true then some (xm_up s.1 76 i.toNatClampNeg x, s.2) else none := by
  unfold wI
  show (if 20 = 20 ∧ xm_in i 20 = true then _ else none) = _
  simp only [true_and]
  try rfl
theorem N_77 : aN 77 = some 20 := rfl
theorem A_77 (s : xS) (i : Int32) : aI s 77 i = if xm_in i 20 = true then some (s.1 77 i.toNatClampNeg) else none := by
  unfold aI
  show (if 20 = 20 ∧ xm_in i 20 = true then _ else none) = _
  simp only [true_and]
theorem W_77 (s : xS) (i : Int32) (x : Int32) : wI s 77 i x = if xm_in i 20 = true then some (xm_up s.1 77 i.toNatClampNeg x, s.2) else none := by
  unfold wI
  show (if 20 = 20 ∧ xm_in i 20 = true then _ else none) = _
  simp only [true_and]
  try rfl
theorem N_78 : aN 78 = some 343 := rfl
theorem A_78 (s : xS) (i : Int32) : aI s 78 i = if xm_in i 343 = true then some (s.1 78 i.toNatClampNeg) else none := by
  unfold aI
  show (if 20 = 20 ∧ xm_in i 343 = true then _ else none) = _
  simp only [true_and]
theorem W_78 (s : xS) (i : Int32) (x : Int32) : wI s 78 i x = if xm_in i 343 = true then some (xm_up s.1 78 i.toNatClampNeg x, s.2) else none := by
  unfold wI
  show (if 20 = 20 ∧ xm_in i 343 = true then _ else none) = _
  simp only [true_and]
  try rfl
theorem N_79 : aN 79 = some 343 := rfl
theorem A_79 (s : xS) (i : Int32) : aI s 79 i = if xm_in i 343 = true then some (s.1 79 i.toNatClampNeg) else none := by
  unfold aI
  show (if 20 = 20 ∧ xm_in i 343 = true then _ else none) = _
  simp only [true_and]
theorem W_79 (s : xS) (i : Int32) (x : Int32) : wI s 79 i x = if xm_in i 343 = true then some (xm_up s.1 79 i.toNatClampNeg x, s.2) else none := by
  unfold wI
  show (if 20 = 20 ∧ xm_in i 343 = true then _ else none) = _
  simp only [true_and]
  try rfl
theorem N_80 : aN 80 = some 3 := rfl
theorem A_80 (s : xS) (i : Int32) : aI s 80 i = if xm_in i 3 = true then some (s.1 80 i.toNatClampNeg) else none := by
  unfold aI
  show (if 20 = 20 ∧ xm_in i 3 = true then _ else none) = _
  simp only [true_and]
theorem W_80 (s : xS) (i : Int32) (x : Int32) : wI s 80 i x = if xm_in i 3 = true then some (xm_up s.1 80 i.toNatClampNeg x, s.2) else none := by
  unfold wI
  show (if 20 = 20 ∧ xm_in i 3 = true then _ else none) = _
  simp only [true_and]
  try rfl
theorem N_81 : aN 81 = some 4 := rfl
theorem A_81 (s : xS) (i : Int32) : aI s 81 i = if xm_in i 4 = true then some (s.1 81 i.toNatClampNeg) else none := by
  unfold aI
  show (if 20 = 20 ∧ xm_in i 4 = true then _ else none) = _
  simp only [true_and]
theorem W_81 (s : xS) (i : Int32) (x : Int32) : wI s 81 i x = if xm_in i 4 = true then some (xm_up s.1 81 i.toNatClampNeg x, s.2) else none := by
  unfold wI
  show (if 20 = 20 ∧ xm_in i 4 = true then _ else none) = _
  simp only [true_and]
  try rfl
theorem O_82 : oK 82 1 = true := rfl
theorem N_83 : aN 83 = some 16900 := rfl
theorem A_83 (s : xS) (i : Int32) : aI s 83 i = if xm_in i 16900 = true then some (s.1 83 i.toNatClampNeg) else none := by
  unfold aI
  show (if 20 = 20 ∧ xm_in i 16900 = true then _ else none) = _
  simp only [true_and]
theorem W_83 (s : xS) (i : Int32) (x : Int32) : wI s 83 i x = if xm_in i 16900 = true then some (xm_up s.1 83 i.toNatClampNeg x, s.2) else none := by
  unfold wI
  show (if 20 = 20 ∧ xm_in i 16900 = true then _ else none) = _
  simp only [true_and]
  try rfl
theorem N_84 : aN 84 = some 130 := rfl
theorem A_84 (s : xS) (i : Int32) : aB s 84 i = if xm_in i 130 = true then some (s.1 84 i.toNatClampNeg) else none := by
  unfold aB
  show (if (21 = 21 ∨ 21 = 22) ∧ xm_in i 130 = true then _ else none) = _
  simp only [Nat.reduceEqDiff, or_true, true_or, true_and]
theorem W_84 (s : xS) (i : Int32) (x : Int32) : wB s 84 i x = if xm_in i 130 = true then some (xm_up s.1 84 i.toNatClampNeg (vp_nar .boolean x), s.2) else none := by
  unfold wB
  show (if (21 = 21 ∨ 21 = 22) ∧ xm_in i 130 = true then _ else none) = _
  simp only [Nat.reduceEqDiff, or_true, true_or, true_and]
  try rfl
theorem N_85 : aN 85 = some 130 := rfl
theorem A_85 (s : xS) (i : Int32) : aI s 85 i = if xm_in i 130 = true then some (s.1 85 i.toNatClampNeg) else none := by
  unfold aI
  show (if 20 = 20 ∧ xm_in i 130 = true then _ else none) = _
  simp only [true_and]
theorem W_85 (s : xS) (i : Int32) (x : Int32) : wI s 85 i x = if xm_in i 130 = true then some (xm_up s.1 85 i.toNatClampNeg x, s.2) else none := by
  unfold wI
  show (if 20 = 20 ∧ xm_in i 130 = true then _ else none) = _
  simp only [true_and]
  try rfl
theorem O_86 : oK 86 2 = true := rfl
theorem N_87 : aN 87 = some 40 := rfl
theorem A_87 (s : xS) (i : Int32) : aI s 87 i = if xm_in i 40 = true then some (s.1 87 i.toNatClampNeg) else none := by
  unfold aI
  show (if 20 = 20 ∧ xm_in i 40 = true then _ else none) = _
  simp only [true_and]
theorem W_87 (s : xS) (i : Int32) (x : Int32) : wI s 87 i x = if xm_in i 40 = true then some (xm_up s.1 87 i.toNatClampNeg x, s.2) else none := by
  unfold wI
  show (if 20 = 20 ∧ xm_in i 40 = true then _ else none) = _
  simp only [true_and]
  try rfl
theorem N_88 : aN 88 = some 40 := rfl
theorem A_88 (s : xS) (i : Int32) : aI s 88 i = if xm_in i 40 = true then some (s.1 88 i.toNatClampNeg) else none := by
  unfold aI
  show (if 20 = 20 ∧ xm_in i 40 = true then _ else none) = _
  simp only [true_and]
theorem W_88 (s : xS) (i : Int32) (x : Int32) : wI s 88 i x = if xm_in i 40 = true then some (xm_up s.1 88 i.toNatClampNeg x, s.2) else none := by
  unfold wI
  show (if 20 = 20 ∧ xm_in i 40 = true then _ else none) = _
  simp only [true_and]
  try rfl
theorem O_89 : oK 89 0 = true := rfl
theorem N_90 : aN 90 = some 100 := rfl
theorem A_90 (s : xS) (i : Int32) : aI s 90 i = if xm_in i 100 = true then some (s.1 90 i.toNatClampNeg) else none := by
  unfold aI
  show (if 20 = 20 ∧ xm_in i 100 = true then _ else none) = _
  simp only [true_and]
theorem W_90 (s : xS) (i : Int32) (x : Int32) : wI s 90 i x = if xm_in i 100 = true then some (xm_up s.1 90 i.toNatClampNeg x, s.2) else none := by
  unfold wI
  show (if 20 = 20 ∧ xm_in i 100 = true then _ else none) = _
  simp only [true_and]
  try rfl
theorem N_91 : aN 91 = some 100 := rfl
theorem A_91 (s : xS) (i : Int32) : aI s 91 i = if xm_in i 100 = true then some (s.1 91 i.toNatClampNeg) else none := by
  unfold aI
  show (if 20 = 20 ∧ xm_in i 100 = true then _ else none) = _
  simp only [true_and]
theorem W_91 (s : xS) (i : Int32) (x : Int32) : wI s 91 i x = if xm_in i 100 = true then some (xm_up s.1 91 i.toNatClampNeg x, s.2) else none := by
  unfold wI
  show (if 20 = 20 ∧ xm_in i 100 = true then _ else none) = _
  simp only [true_and]
  try rfl
theorem N_92 : aN 92 = some 100 := rfl
theorem A_92 (s : xS) (i : Int32) : aI s 92 i = if xm_in i 100 = true then some (s.1 92 i.toNatClampNeg) else none := by
  unfold aI
  show (if 20 = 20 ∧ xm_in i 100 = true then _ else none) = _
  simp only [true_and]
theorem W_92 (s : xS) (i : Int32) (x : Int32) : wI s 92 i x = if xm_in i 100 = true then some (xm_up s.1 92 i.toNatClampNeg x, s.2) else none := by
  unfold wI
  show (if 20 = 20 ∧ xm_in i 100 = true then _ else none) = _
  simp only [true_and]
  try rfl
theorem O_93 : oK 93 0 = true := rfl
theorem N_94 : aN 94 = some 100 := rfl
theorem A_94 (s : xS) (i : Int32) : aI s 94 i = if xm_in i 100 = true then some (s.1 94 i.toNatClampNeg) else none := by
  unfold aI
  show (if 20 = 20 ∧ xm_in i 100 = true then _ else none) = _
  simp only [true_and]
theorem W_94 (s : xS) (i : Int32) (x : Int32) : wI s 94 i x = if xm_in i 100 = true then some (xm_up s.1 94 i.toNatClampNeg x, s.2) else none := by
  unfold wI
  show (if 20 = 20 ∧ xm_in i 100 = true then _ else none) = _
  simp only [true_and]
  try rfl
theorem N_95 : aN 95 = some 100 := rfl
theorem A_95 (s : xS) (i : Int32) : aI s 95 i = if xm_in i 100 = true then some (s.1 95 i.toNatClampNeg) else none := by
  unfold aI
  show (if 20 = 20 ∧ xm_in i 100 = true then _ else none) = _
  simp only [true_and]
theorem W_95 (s : xS) (i : Int32) (x : Int32) : wI s 95 i x = if xm_in i 100 = true then some (xm_up s.1 95 i.toNatClampNeg x, s.2) else none := by
  unfold wI
  show (if 20 = 20 ∧ xm_in i 100 = true then _ else none) = _
  simp only [true_and]
  try rfl
theorem N_96 : aN 96 = some 100 := rfl
theorem A_96 (s : xS) (i : Int32) : aI s 96 i = if xm_in i 100 = true then some (s.1 96 i.toNatClampNeg) else none := by
  unfold aI
  show (if 20 = 20 ∧ xm_in i 100 = true then _ else none) = _
  simp only [true_and]
theorem W_96 (s : xS) (i : Int32) (x : Int32) : wI s 96 i x = if xm_in i 100 = true then some (xm_up s.1 96 i.toNatClampNeg x, s.2) else none := by
  unfold wI
  show (if 20 = 20 ∧ xm_in i 100 = true then _ else none) = _
  simp only [true_and]
  try rfl
theorem O_97 : oK 97 0 = true := rfl
theorem N_98 : aN 98 = some 100 := rfl
theorem A_98 (s : xS) (i : Int32) : aI s 98 i = if xm_in i 100 = true then some (s.1 98 i.toNatClampNeg) else none := by
  unfold aI
  show (if 20 = 20 ∧ xm_in i 100 = true then _ else none) = _
  simp only [true_and]
theorem W_98 (s : xS) (i : Int32) (x : Int32) : wI s 98 i x = if xm_in i 100 = true then some (xm_up s.1 98 i.toNatClampNeg x, s.2) else none := by
  unfold wI
  show (if 20 = 20 ∧ xm_in i 100 = true then _ else none) = _
  simp only [true_and]
  try rfl
theorem N_99 : aN 99 = some 100 := rfl
theorem A_99 (s : xS) (i : Int32) : aI s 99 i = if xm_in i 100 = true then some (s.1 99 i.toNatClampNeg) else none := by
  unfold aI
  show (if 20 = 20 ∧ xm_in i 100 = true then _ else none) = _
  simp only [true_and]
theorem W_99 (s : xS) (i : Int32) (x : Int32) : wI s 99 i x = if xm_in i 100 = true then some (xm_up s.1 99 i.toNatClampNeg x, s.2) else none := by
  unfold wI
  show (if 20 = 20 ∧ xm_in i 100 = true then _ else none) = _
  simp only [true_and]
  try rfl
theorem N_100 : aN 100 = some 100 := rfl
theorem A_100 (s : xS) (i : Int32) : aI s 100 i = if xm_in i 100 = true then some (s.1 100 i.toNatClampNeg) else none := by
  unfold aI
  show (if 20 = 20 ∧ xm_in i 100 = true then _ else none) = _
  simp only [true_and]
theorem W_100 (s : xS) (i : Int32) (x : Int32) : wI s 100 i x = if xm_in i 100 = true then some (xm_up s.1 100 i.toNatClampNeg x, s.2) else none := by
  unfold wI
  show (if 20 = 20 ∧ xm_in i 100 = true then _ else none) = _
  simp only [true_and]
  try rfl
theorem O_101 : oK 101 12 = true := rfl
theorem N_102 : aN 102 = some 1220 := rfl
theorem A_102 (s : xS) (i : Int32) : aB s 102 i = if xm_in i 1220 = true then some (s.1 102 i.toNatClampNeg) else none := by
  unfold aB
  show (if (22 = 21 ∨ 22 = 22) ∧ xm_in i 1220 = true then _ else none) = _
  simp only [Nat.reduceEqDiff, or_true, true_or, true_and]
theorem W_102 (s : xS) (i : Int32) (x : Int32) : wB s 102 i x = if xm_in i 1220 = true then some (xm_up s.1 102 i.toNatClampNeg (vp_nar .byte x), s.2) else none := by
  unfold wB
  show (if (22 = 21 ∨ 22 = 22) ∧ xm_in i 1220 = true then _ else none) = _
  simp only [Nat.reduceEqDiff, or_true, true_or, true_and]
  try rfl
theorem N_103 : aN 103 = some 1200 := rfl
theorem A_103 (s : xS) (i : Int32) : aB s 103 i = if xm_in i 1200 = true then some (s.1 103 i.toNatClampNeg) else none := by
  unfold aB
  show (if (22 = 21 ∨ 22 = 22) ∧ xm_in i 1200 = true then _ else none) = _
  simp only [Nat.reduceEqDiff, or_true, true_or, true_and]
theorem W_103 (s : xS) (i : Int32) (x : Int32) : wB s 103 i x = if xm_in i 1200 = true then some (xm_up s.1 103 i.toNatClampNeg (vp_nar .byte x), s.2) else none := by
  unfold wB
  show (if (22 = 21 ∨ 22 = 22) ∧ xm_in i 1200 = true then _ else none) = _
  simp only [Nat.reduceEqDiff, or_true, true_or, true_and]
  try rfl
theorem N_104 : aN 104 = some 2 := rfl
theorem A_104 (s : xS) (i : Int32) : aI s 104 i = if xm_in i 2 = true then some (s.1 104 i.toNatClampNeg) else none := by
  unfold aI
  show (if 20 = 20 ∧ xm_in i 2 = true then _ else none) = _
  simp only [true_and]
theorem W_104 (s : xS) (i : Int32) (x : Int32) : wI s 104 i x = if xm_in i 2 = true then some (xm_up s.1 104 i.toNatClampNeg x, s.2) else none := by
  unfold wI
  show (if 20 = 20 ∧ xm_in i 2 = true then _ else none) = _
  simp only [true_and]
  try rfl
theorem N_105 : aN 105 = some 2 := rfl
theorem A_105 (s : xS) (i : Int32) : aI s 105 i = if xm_in i 2 = true then some (s.1 105 i.toNatClampNeg) else none := by
  unfold aI
  show (if 20 = 20 ∧ xm_in i 2 = true then _ else none) = _
  simp only [true_and]
theorem W_105 (s : xS) (i : Int32) (x : Int32) : wI s 105 i x = if xm_in i 2 = true then some (xm_up s.1 105 i.toNatClampNeg x, s.2) else none := by
  unfold wI
  show (if 20 = 20 ∧ xm_in i 2 = true then _ else none) = _
  simp only [true_and]
  try rfl
theorem N_106 : aN 106 = some 2 := rfl
theorem A_106 (s : xS) (i : Int32) : aI s 106 i = if xm_in i 2 = true then some (s.1 106 i.toNatClampNeg) else none := by
  unfold aI
  show (if 20 = 20 ∧ xm_in i 2 = true then _ else none) = _
  simp only [true_and]
theorem W_106 (s : xS) (i : Int32) (x : Int32) : wI s 106 i x = if xm_in i 2 = true then some (xm_up s.1 106 i.toNatClampNeg x, s.2) else none := by
  unfold wI
  show (if 20 = 20 ∧ xm_in i 2 = true then _ else none) = _
  simp only [true_and]
  try rfl
theorem N_107 : aN 107 = some 2 := rfl
theorem A_107 (s : xS) (i : Int32) : aI s 107 i = if xm_in i 2 = true then some (s.1 107 i.toNatClampNeg) else none := by
  unfold aI
  show (if 20 = 20 ∧ xm_in i 2 = true then _ else none) = _
  simp only [true_and]
theorem W_107 (s : xS) (i : Int32) (x : Int32) : wI s 107 i x = if xm_in i 2 = true then some (xm_up s.1 107 i.toNatClampNeg x, s.2) else none := by
  unfold wI
  show (if 20 = 20 ∧ xm_in i 2 = true then _ else none) = _
  simp only [true_and]
  try rfl
theorem N_108 : aN 108 = some 200 := rfl
theorem A_108 (s : xS) (i : Int32) : aI s 108 i = if xm_in i 200 = true then some (s.1 108 i.toNatClampNeg) else none := by
  unfold aI
  show (if 20 = 20 ∧ xm_in i 200 = true then _ else none) = _
  simp only [true_and]
theorem W_108 (s : xS) (i : Int32) (x : Int32) : wI s 108 i x = if xm_in i 200 = true then some (xm_up s.1 108 i.toNatClampNeg x, s.2) else none := by
  unfold wI
  show (if 20 = 20 ∧ xm_in i 200 = true then _ else none) = _
  simp only [true_and]
  try rfl
theorem N_109 : aN 109 = some 2 := rfl
theorem A_109 (s : xS) (i : Int32) : aB s 109 i = if xm_in i 2 = true then some (s.1 109 i.toNatClampNeg) else none := by
  unfold aB
  show (if (21 = 21 ∨ 21 = 22) ∧ xm_in i 2 = true then _ else none) = _
  simp only [Nat.reduceEqDiff, or_true, true_or, true_and]
theorem W_109 (s : xS) (i : Int32) (x : Int32) : wB s 109 i x = if xm_in i 2 = true then some (xm_up s.1 109 i.toNatClampNeg (vp_nar .boolean x), s.2) else none := by
  unfold wB
  show (if (21 = 21 ∨ 21 = 22) ∧ xm_in i 2 = true then _ else none) = _
  simp only [Nat.reduceEqDiff, or_true, true_or, true_and]
  try rfl
theorem N_110 : aN 110 = some 2 := rfl
theorem A_110 (s : xS) (i : Int32) : aB s 110 i = if xm_in i 2 = true then some (s.1 110 i.toNatClampNeg) else none := by
  unfold aB
  show (if (21 = 21 ∨ 21 = 22) ∧ xm_in i 2 = true then _ else none) = _
  simp only [Nat.reduceEqDiff, or_true, true_or, true_and]
theorem W_110 (s : xS) (i : Int32) (x : Int32) : wB s 110 i x = if xm_in i 2 = true then some (xm_up s.1 110 i.toNatClampNeg (vp_nar .boolean x), s.2) else none := by
  unfold wB
  show (if (21 = 21 ∨ 21 = 22) ∧ xm_in i 2 = true then _ else none) = _
  simp only [Nat.reduceEqDiff, or_true, true_or, true_and]
  try rfl
theorem N_111 : aN 111 = some 2 := rfl
theorem A_111 (s : xS) (i : Int32) : aB s 111 i = if xm_in i 2 = true then some (s.1 111 i.toNatClampNeg) else none := by
  unfold aB
  show (if (21 = 21 ∨ 21 = 22) ∧ xm_in i 2 = true then _ else none) = _
  simp only [Nat.reduceEqDiff, or_true, true_or, true_and]
theorem W_111 (s : xS) (i : Int32) (x : Int32) : wB s 111 i x = if xm_in i 2 = true then some (xm_up s.1 111 i.toNatClampNeg (vp_nar .boolean x), s.2) else none := by
  unfold wB
  show (if (21 = 21 ∨ 21 = 22) ∧ xm_in i 2 = true then _ else none) = _
  simp only [Nat.reduceEqDiff, or_true, true_or, true_and]
  try rfl
theorem N_112 : aN 112 = some 8 := rfl
theorem A_112 (s : xS) (i : Int32) : aL s 112 i = if xm_in i 8 = true then some (s.2 112 i.toNatClampNeg) else none := by
  unfold aL
  show (if 23 = 23 ∧ xm_in i 8 = true then _ else none) = _
  simp only [true_and]
theorem W_112 (s : xS) (i : Int32) (x : Int64) : wL s 112 i x = if xm_in i 8 = true then some (s.1, xm_up s.2 112 i.toNatClampNeg x) else none := by
  unfold wL
  show (if 23 = 23 ∧ xm_in i 8 = true then _ else none) = _
  simp only [true_and]
  try rfl
theorem N_113 : aN 113 = some 125 := rfl
theorem A_113 (s : xS) (i : Int32) : aI s 113 i = if xm_in i 125 = true then some (s.1 113 i.toNatClampNeg) else none := by
  unfold aI
  show (if 20 = 20 ∧ xm_in i 125 = true then _ else none) = _
  simp only [true_and]
theorem W_113 (s : xS) (i : Int32) (x : Int32) : wI s 113 i x = if xm_in i 125 = true then some (xm_up s.1 113 i.toNatClampNeg x, s.2) else none := by
  unfold wI
  show (if 20 = 20 ∧ xm_in i 125 = true then _ else none) = _
  simp only [true_and]
  try rfl
theorem N_114 : aN 114 = some 125 := rfl
theorem A_114 (s : xS) (i : Int32) : aI s 114 i = if xm_in i 125 = true then some (s.1 114 i.toNatClampNeg) else none := by
  unfold aI
  show (if 20 = 20 ∧ xm_in i 125 = true then _ else none) = _
  simp only [true_and]
theorem W_114 (s : xS) (i : Int32) (x : Int32) : wI s 114 i x = if xm_in i 125 = true then some (xm_up s.1 114 i.toNatClampNeg x, s.2) else none := by
  unfold wI
  show (if 20 = 20 ∧ xm_in i 125 = true then _ else none) = _
  simp only [true_and]
  try rfl
theorem N_115 : aN 115 = some 15 := rfl
theorem A_115 (s : xS) (i : Int32) : aI s 115 i = if xm_in i 15 = true then some (s.1 115 i.toNatClampNeg) else none := by
  unfold aI
  show (if 20 = 20 ∧ xm_in i 15 = true then _ else none) = _
  simp only [true_and]
theorem W_115 (s : xS) (i : Int32) (x : Int32) : wI s 115 i x = if xm_in i 15 = true then some (xm_up s.1 115 i.toNatClampNeg x, s.2) else none := by
  unfold wI
  show (if 20 = 20 ∧ xm_in i 15 = true then _ else none) = _
  simp only [true_and]
  try rfl
theorem N_116 : aN 116 = some 5 := rfl
theorem A_116 (s : xS) (i : Int32) : aI s 116 i = if xm_in i 5 = true then some (s.1 116 i.toNatClampNeg) else none := by
  unfold aI
  show (if 20 = 20 ∧ xm_in i 5 = true then _ else none) = _
  simp only [true_and]
theorem W_116 (s : xS) (i : Int32) (x : Int32) : wI s 116 i x = if xm_in i 5 = true then some (xm_up s.1 116 i.toNatClampNeg x, s.2) else none := by
  unfold wI
  show (if 20 = 20 ∧ xm_in i 5 = true then _ else none) = _
  simp only [true_and]
  try rfl
theorem N_117 : aN 117 = some 5 := rfl
theorem A_117 (s : xS) (i : Int32) : aB s 117 i = if xm_in i 5 = true then some (s.1 117 i.toNatClampNeg) else none := by
  unfold aB
  show (if (21 = 21 ∨ 21 = 22) ∧ xm_in i 5 = true then _ else none) = _
  simp only [Nat.reduceEqDiff, or_true, true_or, true_and]
theorem W_117 (s : xS) (i : Int32) (x : Int32) : wB s 117 i x = if xm_in i 5 = true then some (xm_up s.1 117 i.toNatClampNeg (vp_nar .boolean x), s.2) else none := by
  unfold wB
  show (if (21 = 21 ∨ 21 = 22) ∧ xm_in i 5 = true then _ else none) = _
  simp only [Nat.reduceEqDiff, or_true, true_or, true_and]
  try rfl
theorem N_118 : aN 118 = some 20 := rfl
theorem A_118 (s : xS) (i : Int32) : aI s 118 i = if xm_in i 20 = true then some (s.1 118 i.toNatClampNeg) else none := by
  unfold aI
  show (if 20 = 20 ∧ xm_in i 20 = true then _ else none) = _
  simp only [true_and]
theorem W_118 (s : xS) (i : Int32) (x : Int32) : wI s 118 i x = if xm_in i 20 = true then some (xm_up s.1 118 i.toNatClampNeg x, s.2) else none := by
  unfold wI
  show (if 20 = 20 ∧ xm_in i 20 = true then _ else none) = _
  simp only [true_and]
  try rfl
theorem N_119 : aN 119 = some 20 := rfl
theorem A_119 (s : xS) (i : Int32) : aI s 119 i = if xm_in i 20 = true then some (s.1 119 i.toNatClampNeg) else none := by
  unfold aI
  show (if 20 = 20 ∧ xm_in i 20 = true then _ else none) = _
  simp only [true_and]
theorem W_119 (s : xS) (i : Int32) (x : Int32) : wI s 119 i x = if xm_in i 20 = true then some (xm_up s.1 119 i.toNatClampNeg x, s.2) else none := by
  unfold wI
  show (if 20 = 20 ∧ xm_in i 20 = true then _ else none) = _
  simp only [true_and]
  try rfl
theorem N_120 : aN 120 = some 20 := rfl
theorem A_120 (s : xS) (i : Int32) : aI s 120 i = if xm_in i 20 = true then some (s.1 120 i.toNatClampNeg) else none := by
  unfold aI
  show (if 20 = 20 ∧ xm_in i 20 = true then _ else none) = _
  simp only [true_and]
theorem W_120 (s : xS) (i : Int32) (x : Int32) : wI s 120 i x = if xm_in i 20 = true then some (xm_up s.1 120 i.toNatClampNeg x, s.2) else none := by
  unfold wI
  show (if 20 = 20 ∧ xm_in i 20 = true then _ else none) = _
  simp only [true_and]
  try rfl
theorem N_121 : aN 121 = some 20 := rfl
theorem A_121 (s : xS) (i : Int32) : aI s 121 i = if xm_in i 20 = true then some (s.1 121 i.toNatClampNeg) else none := by
  unfold aI
  show (if 20 = 20 ∧ xm_in i 20 = true then _ else none) = _
  simp only [true_and]
theorem W_121 (s : xS) (i : Int32) (x : Int32) : wI s 121 i x = if xm_in i 20 = true then some (xm_up s.1 121 i.toNatClampNeg x, s.2) else none := by
  unfold wI
  show (if 20 = 20 ∧ xm_in i 20 = true then _ else none) = _
  simp only [true_and]
  try rfl
theorem N_122 : aN 122 = some 20 := rfl
theorem A_122 (s : xS) (i : Int32) : aI s 122 i = if xm_in i 20 = true then some (s.1 122 i.toNatClampNeg) else none := by
  unfold aI
  show (if 20 = 20 ∧ xm_in i 20 = true then _ else none) = _
  simp only [true_and]
theorem W_122 (s : xS) (i : Int32) (x : Int32) : wI s 122 i x = if xm_in i 20 = true then some (xm_up s.1 122 i.toNatClampNeg x, s.2) else none := by
  unfold wI
  show (if 20 = 20 ∧ xm_in i 20 = true then _ else none) = _
  simp only [true_and]
  try rfl
theorem N_123 : aN 123 = some 20 := rfl
theorem A_123 (s : xS) (i : Int32) : aI s 123 i = if xm_in i 20 = true then some (s.1 123 i.toNatClampNeg) else none := by
  unfold aI
  show (if 20 = 20 ∧ xm_in i 20 = true then _ else none) = _
  simp only [true_and]
theorem W_123 (s : xS) (i : Int32) (x : Int32) : wI s 123 i x = if xm_in i 20 = true then some (xm_up s.1 123 i.toNatClampNeg x, s.2) else none := by
  unfold wI
  show (if 20 = 20 ∧ xm_in i 20 = true then _ else none) = _
  simp only [true_and]
  try rfl
theorem N_124 : aN 124 = some 20 := rfl
theorem A_124 (s : xS) (i : Int32) : aI s 124 i = if xm_in i 20 = true then some (s.1 124 i.toNatClampNeg) else none := by
  unfold aI
  show (if 20 = 20 ∧ xm_in i 20 = true then _ else none) = _
  simp only [true_and]
theorem W_124 (s : xS) (i : Int32) (x : Int32) : wI s 124 i x = if xm_in i 20 = true then some (xm_up s.1 124 i.toNatClampNeg x, s.2) else none := by
  unfold wI
  show (if 20 = 20 ∧ xm_in i 20 = true then _ else none) = _
  simp only [true_and]
  try rfl
theorem N_125 : aN 125 = some 25 := rfl
theorem A_125 (s : xS) (i : Int32) : aI s 125 i = if xm_in i 25 = true then some (s.1 125 i.toNatClampNeg) else none := by
  unfold aI
  show (if 20 = 20 ∧ xm_in i 25 = true then _ else none) = _
  simp only [true_and]
theorem W_125 (s : xS) (i : Int32) (x : Int32) : wI s 125 i x = if xm_in i 25 = true then some (xm_up s.1 125 i.toNatClampNeg x, s.2) else none := by
  unfold wI
  show (if 20 = 20 ∧ xm_in i 25 = true then _ else none) = _
  simp only [true_and]
  try rfl
theorem N_126 : aN 126 = some 25 := rfl
theorem A_126 (s : xS) (i : Int32) : aI s 126 i = if xm_in i 25 = true then some (s.1 126 i.toNatClampNeg) else none := by
  unfold aI
  show (if 20 = 20 ∧ xm_in i 25 = true then _ else none) = _
  simp only [true_and]
theorem W_126 (s : xS) (i : Int32) (x : Int32) : wI s 126 i x = if xm_in i 25 = true then some (xm_up s.1 126 i.toNatClampNeg x, s.2) else none := by
  unfold wI
  show (if 20 = 20 ∧ xm_in i 25 = true then _ else none) = _
  simp only [true_and]
  try rfl
theorem N_127 : aN 127 = some 25 := rfl
theorem A_127 (s : xS) (i : Int32) : aB s 127 i = if xm_in i 25 = true then some (s.1 127 i.toNatClampNeg) else none := by
  unfold aB
  show (if (21 = 21 ∨ 21 = 22) ∧ xm_in i 25 = true then _ else none) = _
  simp only [Nat.reduceEqDiff, or_true, true_or, true_and]
theorem W_127 (s : xS) (i : Int32) (x : Int32) : wB s 127 i x = if xm_in i 25 = true then some (xm_up s.1 127 i.toNatClampNeg (vp_nar .boolean x), s.2) else none := by
  unfold wB
  show (if (21 = 21 ∨ 21 = 22) ∧ xm_in i 25 = true then _ else none) = _
  simp only [Nat.reduceEqDiff, or_true, true_or, true_and]
  try rfl
theorem N_128 : aN 128 = some 32500 := rfl
theorem A_128 (s : xS) (i : Int32) : aL s 128 i = if xm_in i 32500 = true then some (s.2 128 i.toNatClampNeg) else none := by
  unfold aL
  show (if 23 = 23 ∧ xm_in i 32500 = true then _ else none) = _
  simp only [true_and]
theorem W_128 (s : xS) (i : Int32) (x : Int64) : wL s 128 i x = if xm_in i 32500 = true then some (s.1, xm_up s.2 128 i.toNatClampNeg x) else none := by
  unfold wL
  show (if 23 = 23 ∧ xm_in i 32500 = true then _ else none) = _
  simp only [true_and]
  try rfl
theorem N_129 : aN 129 = some 4 := rfl
theorem A_129 (s : xS) (i : Int32) : aI s 129 i = if xm_in i 4 = true then some (s.1 129 i.toNatClampNeg) else none := by
  unfold aI
  show (if 20 = 20 ∧ xm_in i 4 = true then _ else none) = _
  simp only [true_and]
theorem W_129 (s : xS) (i : Int32) (x : Int32) : wI s 129 i x = if xm_in i 4 = true then some (xm_up s.1 129 i.toNatClampNeg x, s.2) else none := by
  unfold wI
  show (if 20 = 20 ∧ xm_in i 4 = true then _ else none) = _
  simp only [true_and]
  try rfl
theorem N_130 : aN 130 = some 400 := rfl
theorem A_130 (s : xS) (i : Int32) : aI s 130 i = if xm_in i 400 = true then some (s.1 130 i.toNatClampNeg) else none := by
  unfold aI
  show (if 20 = 20 ∧ xm_in i 400 = true then _ else none) = _
  simp only [true_and]
theorem W_130 (s : xS) (i : Int32) (x : Int32) : wI s 130 i x = if xm_in i 400 = true then some (xm_up s.1 130 i.toNatClampNeg x, s.2) else none := by
  unfold wI
  show (if 20 = 20 ∧ xm_in i 400 = true then _ else none) = _
  simp only [true_and]
  try rfl
theorem N_131 : aN 131 = some 400 := rfl
theorem A_131 (s : xS) (i : Int32) : aI s 131 i = if xm_in i 400 = true then some (s.1 131 i.toNatClampNeg) else none := by
  unfold aI
  show (if 20 = 20 ∧ xm_in i 400 = true then _ else none) = _
  simp only [true_and]
theorem W_131 (s : xS) (i : Int32) (x : Int32) : wI s 131 i x = if xm_in i 400 = true then some (xm_up s.1 131 i.toNatClampNeg x, s.2) else none := by
  unfold wI
  show (if 20 = 20 ∧ xm_in i 400 = true then _ else none) = _
  simp only [true_and]
  try rfl
theorem N_132 : aN 132 = some 4 := rfl
theorem A_132 (s : xS) (i : Int32) : aI s 132 i = if xm_in i 4 = true then some (s.1 132 i.toNatClampNeg) else none := by
  unfold aI
  show (if 20 = 20 ∧ xm_in i 4 = true then _ else none) = _
  simp only [true_and]
theorem W_132 (s : xS) (i : Int32) (x : Int32) : wI s 132 i x = if xm_in i 4 = true then some (xm_up s.1 132 i.toNatClampNeg x, s.2) else none := by
  unfold wI
  show (if 20 = 20 ∧ xm_in i 4 = true then _ else none) = _
  simp only [true_and]
  try rfl
theorem N_133 : aN 133 = some 4 := rfl
theorem A_133 (s : xS) (i : Int32) : aI s 133 i = if xm_in i 4 = true then some (s.1 133 i.toNatClampNeg) else none := by
  unfold aI
  show (if 20 = 20 ∧ xm_in i 4 = true then _ else none) = _
  simp only [true_and]
theorem W_133 (s : xS) (i : Int32) (x : Int32) : wI s 133 i x = if xm_in i 4 = true then some (xm_up s.1 133 i.toNatClampNeg x, s.2) else none := by
  unfold wI
  show (if 20 = 20 ∧ xm_in i 4 = true then _ else none) = _
  simp only [true_and]
  try rfl
theorem N_134 : aN 134 = some 4 := rfl
theorem A_134 (s : xS) (i : Int32) : aI s 134 i = if xm_in i 4 = true then some (s.1 134 i.toNatClampNeg) else none := by
  unfold aI
  show (if 20 = 20 ∧ xm_in i 4 = true then _ else none) = _
  simp only [true_and]
theorem W_134 (s : xS) (i : Int32) (x : Int32) : wI s 134 i x = if xm_in i 4 = true then some (xm_up s.1 134 i.toNatClampNeg x, s.2) else none := by
  unfold wI
  show (if 20 = 20 ∧ xm_in i 4 = true then _ else none) = _
  simp only [true_and]
  try rfl
theorem N_135 : aN 135 = some 60 := rfl
theorem A_135 (s : xS) (i : Int32) : aI s 135 i = if xm_in i 60 = true then some (s.1 135 i.toNatClampNeg) else none := by
  unfold aI
  show (if 20 = 20 ∧ xm_in i 60 = true then _ else none) = _
  simp only [true_and]
theorem W_135 (s : xS) (i : Int32) (x : Int32) : wI s 135 i x = if xm_in i 60 = true then some (xm_up s.1 135 i.toNatClampNeg x, s.2) else none := by
  unfold wI
  show (if 20 = 20 ∧ xm_in i 60 = true then _ else none) = _
  simp only [true_and]
  try rfl
theorem N_136 : aN 136 = some 20 := rfl
theorem A_136 (s : xS) (i : Int32) : aI s 136 i = if xm_in i 20 = true then some (s.1 136 i.toNatClampNeg) else none := by
  unfold aI
  show (if 20 = 20 ∧ xm_in i 20 = true then _ else none) = _
  simp only [true_and]
theorem W_136 (s : xS) (i : Int32) (x : Int32) : wI s 136 i x = if xm_in i 20 = true then some (xm_up s.1 136 i.toNatClampNeg x, s.2) else none := by
  unfold wI
  show (if 20 = 20 ∧ xm_in i 20 = true then _ else none) = _
  simp only [true_and]
  try rfl
theorem N_137 : aN 137 = some 20 := rfl
theorem A_137 (s : xS) (i : Int32) : aB s 137 i = if xm_in i 20 = true then some (s.1 137 i.toNatClampNeg) else none := by
  unfold aB
  show (if (21 = 21 ∨ 21 = 22) ∧ xm_in i 20 = true then _ else none) = _
  simp only [Nat.reduceEqDiff, or_true, true_or, true_and]
theorem W_137 (s : xS) (i : Int32) (x : Int32) : wB s 137 i x = if xm_in i 20 = true then some (xm_up s.1 137 i.toNatClampNeg (vp_nar .boolean x), s.2) else none := by
  unfold wB
  show (if (21 = 21 ∨ 21 = 22) ∧ xm_in i 20 = true then _ else none) = _
  simp only [Nat.reduceEqDiff, or_true, true_or, true_and]
  try rfl
theorem N_138 : aN 138 = some 20 := rfl
theorem A_138 (s : xS) (i : Int32) : aI s 138 i = if xm_in i 20 = true then some (s.1 138 i.toNatClampNeg) else none := by
  unfold aI
  show (if 20 = 20 ∧ xm_in i 20 = true then _ else none) = _
  simp only [true_and]
theorem W_138 (s : xS) (i : Int32) (x : Int32) : wI s 138 i x = if xm_in i 20 = true then some (xm_up s.1 138 i.toNatClampNeg x, s.2) else none := by
  unfold wI
  show (if 20 = 20 ∧ xm_in i 20 = true then _ else none) = _
  simp only [true_and]
  try rfl
theorem N_139 : aN 139 = some 20 := rfl
theorem A_139 (s : xS) (i : Int32) : aI s 139 i = if xm_in i 20 = true then some (s.1 139 i.toNatClampNeg) else none := by
  unfold aI
  show (if 20 = 20 ∧ xm_in i 20 = true then _ else none) = _
  simp only [true_and]
theorem W_139 (s : xS) (i : Int32) (x : Int32) : wI s 139 i x = if xm_in i 20 = true then some (xm_up s.1 139 i.toNatClampNeg x, s.2) else none := by
  unfold wI
  show (if 20 = 20 ∧ xm_in i 20 = true then _ else none) = _
  simp only [true_and]
  try rfl
theorem N_140 : aN 140 = some 20 := rfl
theorem A_140 (s : xS) (i : Int32) : aI s 140 i = if xm_in i 20 = true then some (s.1 140 i.toNatClampNeg) else none := by
  unfold aI
  show (if 20 = 20 ∧ xm_in i 20 = true then _ else none) = _
  simp only [true_and]
theorem W_140 (s : xS) (i : Int32) (x : Int32) : wI s 140 i x = if xm_in i 20 = true then some (xm_up s.1 140 i.toNatClampNeg x, s.2) else none := by
  unfold wI
  show (if 20 = 20 ∧ xm_in i 20 = true then _ else none) = _
  simp only [true_and]
  try rfl
theorem N_141 : aN 141 = some 20 := rfl
theorem A_141 (s : xS) (i : Int32) : aI s 141 i = if xm_in i 20 = true then some (s.1 141 i.toNatClampNeg) else none := by
  unfold aI
  show (if 20 = 20 ∧ xm_in i 20 = true then _ else none) = _
  simp only [true_and]
theorem W_141 (s : xS) (i : Int32) (x : Int32) : wI s 141 i x = if xm_in i 20 = true then some (xm_up s.1 141 i.toNatClampNeg x, s.2) else none := by
  unfold wI
  show (if 20 = 20 ∧ xm_in i 20 = true then _ else none) = _
  simp only [true_and]
  try rfl
theorem N_142 : aN 142 = some 20 := rfl
theorem A_142 (s : xS) (i : Int32) : aI s 142 i = if xm_in i 20 = true then some (s.1 142 i.toNatClampNeg) else none := by
  unfold aI
  show (if 20 = 20 ∧ xm_in i 20 = true then _ else none) = _
  simp only [true_and]
theorem W_142 (s : xS) (i : Int32) (x : Int32) : wI s 142 i x = if xm_in i 20 = true then some (xm_up s.1 142 i.toNatClampNeg x, s.2) else none := by
  unfold wI
  show (if 20 = 20 ∧ xm_in i 20 = true then _ else none) = _
  simp only [true_and]
  try rfl
theorem N_143 : aN 143 = some 343 := rfl
theorem A_143 (s : xS) (i : Int32) : aI s 143 i = if xm_in i 343 = true then some (s.1 143 i.toNatClampNeg) else none := by
  unfold aI
  show (if 20 = 20 ∧ xm_in i 343 = true then _ else none) = _
  simp only [true_and]
theorem W_143 (s : xS) (i : Int32) (x : Int32) : wI s 143 i x = if xm_in i 343 = true then some (xm_up s.1 143 i.toNatClampNeg x, s.2) else none := by
  unfold wI
  show (if 20 = 20 ∧ xm_in i 343 = true then _ else none) = _
  simp only [true_and]
  try rfl
theorem N_144 : aN 144 = some 40 := rfl
theorem A_144 (s : xS) (i : Int32) : aI s 144 i = if xm_in i 40 = true then some (s.1 144 i.toNatClampNeg) else none := by
  unfold aI
  show (if 20 = 20 ∧ xm_in i 40 = true then _ else none) = _
  simp only [true_and]
theorem W_144 (s : xS) (i : Int32) (x : Int32) : wI s 144 i x = if xm_in i 40 = true then some (xm_up s.1 144 i.toNatClampNeg x, s.2) else none := by
  unfold wI
  show (if 20 = 20 ∧ xm_in i 40 = true then _ else none) = _
  simp only [true_and]
  try rfl
theorem N_145 : aN 145 = some 40 := rfl
theorem A_145 (s : xS) (i : Int32) : aI s 145 i = if xm_in i 40 = true then some (s.1 145 i.toNatClampNeg) else none := by
  unfold aI
  show (if 20 = 20 ∧ xm_in i 40 = true then _ else none) = _
  simp only [true_and]
theorem W_145 (s : xS) (i : Int32) (x : Int32) : wI s 145 i x = if xm_in i 40 = true then some (xm_up s.1 145 i.toNatClampNeg x, s.2) else none := by
  unfold wI
  show (if 20 = 20 ∧ xm_in i 40 = true then _ else none) = _
  simp only [true_and]
  try rfl
