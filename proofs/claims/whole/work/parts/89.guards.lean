/-! what calls look at first -/
theorem arg (a : Int32) : ∃ z : Int, a = iz z ∧ -2147483648 ≤ z ∧ z ≤ 2147483647 := ⟨a.toInt, (iz_self a).symm, i_bd a⟩
section GU
variable {s : xS}
theorem g_off_t {z : Int} (z0 : -2147483648 ≤ z) (z1 : z ≤ 2147483647) (h : 0 ≤ z ∧ z ≤ 999) : f167 (iz z) s = some (s, iz 1) := by
  unfold f167 f167_15 f167_16
  simp (disch := omega) only [iz0, iz1, iz2, iz3, iz4, iz5, iz7, iz8, iz9, iz10, iz15, iz20, iz25, iz30, iz40, iz49, iz99, iz100, iz300, iz343, iz500, iz999, iz1000, iz1200, iz_add, iz_sub, iz_mul, iz_neg, it_le_t, it_le_f, it_lt_t, it_lt_f, it_eq_t, it_eq_f, bz0, bz1, ifg_T, or_true, true_or, if_true, if_false, Option.bind_some, Option.map_some]
theorem g_off_f {z : Int} (z0 : -2147483648 ≤ z) (z1 : z ≤ 2147483647) (h : ¬ (0 ≤ z ∧ z ≤ 999)) : f167 (iz z) s = some (s, iz 0) := by
  unfold f167 f167_15 f167_16
  by_cases g0 : 0 ≤ z
  case neg => simp (disch := omega) only [iz0, iz1, iz2, iz3, iz4, iz5, iz7, iz8, iz9, iz10, iz15, iz20, iz25, iz30, iz40, iz49, iz99, iz100, iz300, iz343, iz500, iz999, iz1000, iz1200, iz_add, iz_sub, iz_mul, iz_neg, it_le_t, it_le_f, it_lt_t, it_lt_f, it_eq_t, it_eq_f, bz0, bz1, ifg_T, or_true, true_or, if_true, if_false, Option.bind_some, Option.map_some]
  simp (disch := omega) only [iz0, iz1, iz2, iz3, iz4, iz5, iz7, iz8, iz9, iz10, iz15, iz20, iz25, iz30, iz40, iz49, iz99, iz100, iz300, iz343, iz500, iz999, iz1000, iz1200, iz_add, iz_sub, iz_mul, iz_neg, it_le_t, it_le_f, it_lt_t, it_lt_f, it_eq_t, it_eq_f, bz0, bz1, ifg_T, or_true, true_or, if_true, if_false, Option.bind_some, Option.map_some]
theorem g_turn_t {z : Int} (z0 : -2147483648 ≤ z) (z1 : z ≤ 2147483647) (h : 0 ≤ z ∧ z ≤ 3) : f168 (iz z) s = some (s, iz 1) := by
  unfold f168 f168_13 f168_14
  simp (disch := omega) only [iz0, iz1, iz2, iz3, iz4, iz5, iz7, iz8, iz9, iz10, iz15, iz20, iz25, iz30, iz40, iz49, iz99, iz100, iz300, iz343, iz500, iz999, iz1000, iz1200, iz_add, iz_sub, iz_mul, iz_neg, it_le_t, it_le_f, it_lt_t, it_lt_f, it_eq_t, it_eq_f, bz0, bz1, ifg_T, or_true, true_or, if_true, if_false, Option.bind_some, Option.map_some]
theorem g_turn_f {z : Int} (z0 : -2147483648 ≤ z) (z1 : z ≤ 2147483647) (h : ¬ (0 ≤ z ∧ z ≤ 3)) : f168 (iz z) s = some (s, iz 0) := by
  unfold f168 f168_13 f168_14
  by_cases g0 : 0 ≤ z
  case neg => simp (disch := omega) only [iz0, iz1, iz2, iz3, iz4, iz5, iz7, iz8, iz9, iz10, iz15, iz20, iz25, iz30, iz40, iz49, iz99, iz100, iz300, iz343, iz500, iz999, iz1000, iz1200, iz_add, iz_sub, iz_mul, iz_neg, it_le_t, it_le_f, it_lt_t, it_lt_f, it_eq_t, it_eq_f, bz0, bz1, ifg_T, or_true, true_or, if_true, if_false, Option.bind_some, Option.map_some]
  simp (disch := omega) only [iz0, iz1, iz2, iz3, iz4, iz5, iz7, iz8, iz9, iz10, iz15, iz20, iz25, iz30, iz40, iz49, iz99, iz100, iz300, iz343, iz500, iz999, iz1000, iz1200, iz_add, iz_sub, iz_mul, iz_neg, it_le_t, it_le_f, it_lt_t, it_lt_f, it_eq_t, it_eq_f, bz0, bz1, ifg_T, or_true, true_or, if_true, if_false, Option.bind_some, Option.map_some]
theorem g_shift_t {z : Int} (z0 : -2147483648 ≤ z) (z1 : z ≤ 2147483647) (h : -1 ≤ z ∧ z ≤ 1) : f169 (iz z) s = some (s, iz 1) := by
  unfold f169 f169_14 f169_15
  simp (disch := omega) only [iz0, iz1, iz2, iz3, iz4, iz5, iz7, iz8, iz9, iz10, iz15, iz20, iz25, iz30, iz40, iz49, iz99, iz100, iz300, iz343, iz500, iz999, iz1000, iz1200, iz_add, iz_sub, iz_mul, iz_neg, it_le_t, it_le_f, it_lt_t, it_lt_f, it_eq_t, it_eq_f, bz0, bz1, ifg_T, or_true, true_or, if_true, if_false, Option.bind_some, Option.map_some]
theorem g_shift_f {z : Int} (z0 : -2147483648 ≤ z) (z1 : z ≤ 2147483647) (h : ¬ (-1 ≤ z ∧ z ≤ 1)) : f169 (iz z) s = some (s, iz 0) := by
  unfold f169 f169_14 f169_15
  by_cases g0 : -1 ≤ z
  case neg => simp (disch := omega) only [iz0, iz1, iz2, iz3, iz4, iz5, iz7, iz8, iz9, iz10, iz15, iz20, iz25, iz30, iz40, iz49, iz99, iz100, iz300, iz343, iz500, iz999, iz1000, iz1200, iz_add, iz_sub, iz_mul, iz_neg, it_le_t, it_le_f, it_lt_t, it_lt_f, it_eq_t, it_eq_f, bz0, bz1, ifg_T, or_true, true_or, if_true, if_false, Option.bind_some, Option.map_some]
  simp (disch := omega) only [iz0, iz1, iz2, iz3, iz4, iz5, iz7, iz8, iz9, iz10, iz15, iz20, iz25, iz30, iz40, iz49, iz99, iz100, iz300, iz343, iz500, iz999, iz1000, iz1200, iz_add, iz_sub, iz_mul, iz_neg, it_le_t, it_le_f, it_lt_t, it_lt_f, it_eq_t, it_eq_f, bz0, bz1, ifg_T, or_true, true_or, if_true, if_false, Option.bind_some, Option.map_some]
theorem g_in_t {z l h0 : Int} (z0 : -2147483648 ≤ z) (z1 : z ≤ 2147483647) (l0 : -2147483648 ≤ l) (l1 : l ≤ 2147483647) (h1 : -2147483648 ≤ h0) (h2 : h0 ≤ 2147483647) (h : l ≤ z ∧ z ≤ h0) : f195 (iz z) (iz l) (iz h0) s = some (s, iz 1) := by
  unfold f195 f195_14 f195_15
  simp (disch := omega) only [iz0, iz1, iz2, iz3, iz4, iz5, iz7, iz8, iz9, iz10, iz15, iz20, iz25, iz30, iz40, iz49, iz99, iz100, iz300, iz343, iz500, iz999, iz1000, iz1200, iz_add, iz_sub, iz_mul, iz_neg, it_le_t, it_le_f, it_lt_t, it_lt_f, it_eq_t, it_eq_f, bz0, bz1, ifg_T, or_true, true_or, if_true, if_false, Option.bind_some, Option.map_some]
theorem g_in_f {z l h0 : Int} (z0 : -2147483648 ≤ z) (z1 : z ≤ 2147483647) (l0 : -2147483648 ≤ l) (l1 : l ≤ 2147483647) (h1 : -2147483648 ≤ h0) (h2 : h0 ≤ 2147483647) (h : ¬ (l ≤ z ∧ z ≤ h0)) : f195 (iz z) (iz l) (iz h0) s = some (s, iz 0) := by
  unfold f195 f195_14 f195_15
  by_cases g0 : l ≤ z
  case neg => simp (disch := omega) only [iz0, iz1, iz2, iz3, iz4, iz5, iz7, iz8, iz9, iz10, iz15, iz20, iz25, iz30, iz40, iz49, iz99, iz100, iz300, iz343, iz500, iz999, iz1000, iz1200, iz_add, iz_sub, iz_mul, iz_neg, it_le_t, it_le_f, it_lt_t, it_lt_f, it_eq_t, it_eq_f, bz0, bz1, ifg_T, or_true, true_or, if_true, if_false, Option.bind_some, Option.map_some]
  simp (disch := omega) only [iz0, iz1, iz2, iz3, iz4, iz5, iz7, iz8, iz9, iz10, iz15, iz20, iz25, iz30, iz40, iz49, iz99, iz100, iz300, iz343, iz500, iz999, iz1000, iz1200, iz_add, iz_sub, iz_mul, iz_neg, it_le_t, it_le_f, it_lt_t, it_lt_f, it_eq_t, it_eq_f, bz0, bz1, ifg_T, or_true, true_or, if_true, if_false, Option.bind_some, Option.map_some]
theorem g_part_t {z : Int} (z0 : -2147483648 ≤ z) (z1 : z ≤ 2147483647) (h : 0 ≤ z ∧ z ≤ 1) : f166 (iz z) s = some (s, iz 1) := by
  unfold f166 f166_9 f166_14
  by_cases g0 : z = 0
  case neg => simp (disch := omega) only [iz0, iz1, iz2, iz3, iz4, iz5, iz7, iz8, iz9, iz10, iz15, iz20, iz25, iz30, iz40, iz49, iz99, iz100, iz300, iz343, iz500, iz999, iz1000, iz1200, iz_add, iz_sub, iz_mul, iz_neg, it_le_t, it_le_f, it_lt_t, it_lt_f, it_eq_t, it_eq_f, bz0, bz1, ifg_T, or_true, true_or, if_true, if_false, Option.bind_some, Option.map_some]
  simp (disch := omega) only [iz0, iz1, iz2, iz3, iz4, iz5, iz7, iz8, iz9, iz10, iz15, iz20, iz25, iz30, iz40, iz49, iz99, iz100, iz300, iz343, iz500, iz999, iz1000, iz1200, iz_add, iz_sub, iz_mul, iz_neg, it_le_t, it_le_f, it_lt_t, it_lt_f, it_eq_t, it_eq_f, bz0, bz1, ifg_T, or_true, true_or, if_true, if_false, Option.bind_some, Option.map_some]
theorem g_part_f {z : Int} (z0 : -2147483648 ≤ z) (z1 : z ≤ 2147483647) (h : ¬ (0 ≤ z ∧ z ≤ 1)) : f166 (iz z) s = some (s, iz 0) := by
  unfold f166 f166_9 f166_14
  simp (disch := omega) only [iz0, iz1, iz2, iz3, iz4, iz5, iz7, iz8, iz9, iz10, iz15, iz20, iz25, iz30, iz40, iz49, iz99, iz100, iz300, iz343, iz500, iz999, iz1000, iz1200, iz_add, iz_sub, iz_mul, iz_neg, it_le_t, it_le_f, it_lt_t, it_lt_f, it_eq_t, it_eq_f, bz0, bz1, ifg_T, or_true, true_or, if_true, if_false, Option.bind_some, Option.map_some]
theorem g_mpart_t {z : Int} (z0 : -2147483648 ≤ z) (z1 : z ≤ 2147483647) (h : 0 ≤ z ∧ z ≤ 1) : f217 (iz z) s = some (s, iz 1) := by
  unfold f217
  simp (disch := omega) only [iz0, iz1, iz2, iz3, iz4, iz5, iz7, iz8, iz9, iz10, iz15, iz20, iz25, iz30, iz40, iz49, iz99, iz100, iz300, iz343, iz500, iz999, iz1000, iz1200, iz_add, iz_sub, iz_mul, iz_neg, it_le_t, it_le_f, it_lt_t, it_lt_f, it_eq_t, it_eq_f, bz0, bz1, ifg_T, or_true, true_or, if_true, if_false, Option.bind_some, Option.map_some, g_in_t, g_in_f]
theorem g_mpart_f {z : Int} (z0 : -2147483648 ≤ z) (z1 : z ≤ 2147483647) (h : ¬ (0 ≤ z ∧ z ≤ 1)) : f217 (iz z) s = some (s, iz 0) := by
  unfold f217
  by_cases g0 : 0 ≤ z
  case neg => simp (disch := omega) only [iz0, iz1, iz2, iz3, iz4, iz5, iz7, iz8, iz9, iz10, iz15, iz20, iz25, iz30, iz40, iz49, iz99, iz100, iz300, iz343, iz500, iz999, iz1000, iz1200, iz_add, iz_sub, iz_mul, iz_neg, it_le_t, it_le_f, it_lt_t, it_lt_f, it_eq_t, it_eq_f, bz0, bz1, ifg_T, or_true, true_or, if_true, if_false, Option.bind_some, Option.map_some, g_in_t, g_in_f]
  simp (disch := omega) only [iz0, iz1, iz2, iz3, iz4, iz5, iz7, iz8, iz9, iz10, iz15, iz20, iz25, iz30, iz40, iz49, iz99, iz100, iz300, iz343, iz500, iz999, iz1000, iz1200, iz_add, iz_sub, iz_mul, iz_neg, it_le_t, it_le_f, it_lt_t, it_lt_f, it_eq_t, it_eq_f, bz0, bz1, ifg_T, or_true, true_or, if_true, if_false, Option.bind_some, Option.map_some, g_in_t, g_in_f]
theorem g_plate_t {pl : Nat} (hp : s.1 3 2 = iz pl) (hl : pl ≤ 4) {z : Int} (z0 : -2147483648 ≤ z) (z1 : z ≤ 2147483647) (h : 0 ≤ z ∧ z < pl) : f66 3 (iz z) s = some (s, iz 1) := by
  unfold f66 f66_16 f66_17
  rw [ifg_pos O_3, hp]
  simp (disch := omega) only [iz0, iz1, iz2, iz3, iz4, iz5, iz7, iz8, iz9, iz10, iz15, iz20, iz25, iz30, iz40, iz49, iz99, iz100, iz300, iz343, iz500, iz999, iz1000, iz1200, iz_add, iz_sub, iz_mul, iz_neg, it_le_t, it_le_f, it_lt_t, it_lt_f, it_eq_t, it_eq_f, bz0, bz1, ifg_T, or_true, true_or, if_true, if_false, Option.bind_some, Option.map_some]
theorem g_plate_f {pl : Nat} (hp : s.1 3 2 = iz pl) (hl : pl ≤ 4) {z : Int} (z0 : -2147483648 ≤ z) (z1 : z ≤ 2147483647) (h : ¬ (0 ≤ z ∧ z < pl)) : f66 3 (iz z) s = some (s, iz 0) := by
  unfold f66 f66_16 f66_17
  rw [ifg_pos O_3, hp]
  by_cases g0 : 0 ≤ z
  case neg => simp (disch := omega) only [iz0, iz1, iz2, iz3, iz4, iz5, iz7, iz8, iz9, iz10, iz15, iz20, iz25, iz30, iz40, iz49, iz99, iz100, iz300, iz343, iz500, iz999, iz1000, iz1200, iz_add, iz_sub, iz_mul, iz_neg, it_le_t, it_le_f, it_lt_t, it_lt_f, it_eq_t, it_eq_f, bz0, bz1, ifg_T, or_true, true_or, if_true, if_false, Option.bind_some, Option.map_some]
  simp (disch := omega) only [iz0, iz1, iz2, iz3, iz4, iz5, iz7, iz8, iz9, iz10, iz15, iz20, iz25, iz30, iz40, iz49, iz99, iz100, iz300, iz343, iz500, iz999, iz1000, iz1200, iz_add, iz_sub, iz_mul, iz_neg, it_le_t, it_le_f, it_lt_t, it_lt_f, it_eq_t, it_eq_f, bz0, bz1, ifg_T, or_true, true_or, if_true, if_false, Option.bind_some, Option.map_some]
theorem g_cell_t {pl : Nat} (hp : s.1 3 2 = iz pl) (hl : pl ≤ 4) {n : Nat} (hn : Cn s n) {z c : Int} (z0 : -2147483648 ≤ z) (z1 : z ≤ 2147483647) (c0 : -2147483648 ≤ c) (c1 : c ≤ 2147483647) (h : 0 ≤ z ∧ z < pl ∧ 0 ≤ c ∧ c < (n * n : Nat)) : f67 3 (iz z) (iz c) s = some (s, iz 1) := by
  unfold f67 f67_29 f67_30
  have sq := hn.sq
  rw [ifg_pos O_3]
  have e : (n : Int) * n = ((n * n : Nat) : Int) := (Int.natCast_mul n n).symm
  generalize n * n = m at *
  simp (disch := omega) only [iz0, iz1, iz2, iz3, iz4, iz5, iz7, iz8, iz9, iz10, iz15, iz20, iz25, iz30, iz40, iz49, iz99, iz100, iz300, iz343, iz500, iz999, iz1000, iz1200, iz_add, iz_sub, iz_mul, iz_neg, it_le_t, it_le_f, it_lt_t, it_lt_f, it_eq_t, it_eq_f, bz0, bz1, ifg_T, or_true, true_or, if_true, if_false, Option.bind_some, Option.map_some, hn.1, e, g_plate_t hp hl, g_plate_f hp hl]
theorem g_cell_f {pl : Nat} (hp : s.1 3 2 = iz pl) (hl : pl ≤ 4) {n : Nat} (hn : Cn s n) {z c : Int} (z0 : -2147483648 ≤ z) (z1 : z ≤ 2147483647) (c0 : -2147483648 ≤ c) (c1 : c ≤ 2147483647) (h : ¬ (0 ≤ z ∧ z < pl ∧ 0 ≤ c ∧ c < (n * n : Nat))) : f67 3 (iz z) (iz c) s = some (s, iz 0) := by
  unfold f67 f67_29 f67_30
  have sq := hn.sq
  rw [ifg_pos O_3]
  have e : (n : Int) * n = ((n * n : Nat) : Int) := (Int.natCast_mul n n).symm
  generalize n * n = m at *
  by_cases g0 : 0 ≤ z
  case neg => simp (disch := omega) only [iz0, iz1, iz2, iz3, iz4, iz5, iz7, iz8, iz9, iz10, iz15, iz20, iz25, iz30, iz40, iz49, iz99, iz100, iz300, iz343, iz500, iz999, iz1000, iz1200, iz_add, iz_sub, iz_mul, iz_neg, it_le_t, it_le_f, it_lt_t, it_lt_f, it_eq_t, it_eq_f, bz0, bz1, ifg_T, or_true, true_or, if_true, if_false, Option.bind_some, Option.map_some, hn.1, e, g_plate_t hp hl, g_plate_f hp hl]
  by_cases g1 : z < pl
  case neg => simp (disch := omega) only [iz0, iz1, iz2, iz3, iz4, iz5, iz7, iz8, iz9, iz10, iz15, iz20, iz25, iz30, iz40, iz49, iz99, iz100, iz300, iz343, iz500, iz999, iz1000, iz1200, iz_add, iz_sub, iz_mul, iz_neg, it_le_t, it_le_f, it_lt_t, it_lt_f, it_eq_t, it_eq_f, bz0, bz1, ifg_T, or_true, true_or, if_true, if_false, Option.bind_some, Option.map_some, hn.1, e, g_plate_t hp hl, g_plate_f hp hl]
  by_cases g2 : 0 ≤ c
  case neg => simp (disch := omega) only [iz0, iz1, iz2, iz3, iz4, iz5, iz7, iz8, iz9, iz10, iz15, iz20, iz25, iz30, iz40, iz49, iz99, iz100, iz300, iz343, iz500, iz999, iz1000, iz1200, iz_add, iz_sub, iz_mul, iz_neg, it_le_t, it_le_f, it_lt_t, it_lt_f, it_eq_t, it_eq_f, bz0, bz1, ifg_T, or_true, true_or, if_true, if_false, Option.bind_some, Option.map_some, hn.1, e, g_plate_t hp hl, g_plate_f hp hl]
  simp (disch := omega) only [iz0, iz1, iz2, iz3, iz4, iz5, iz7, iz8, iz9, iz10, iz15, iz20, iz25, iz30, iz40, iz49, iz99, iz100, iz300, iz343, iz500, iz999, iz1000, iz1200, iz_add, iz_sub, iz_mul, iz_neg, it_le_t, it_le_f, it_lt_t, it_lt_f, it_eq_t, it_eq_f, bz0, bz1, ifg_T, or_true, true_or, if_true, if_false, Option.bind_some, Option.map_some, hn.1, e, g_plate_t hp hl, g_plate_f hp hl]
theorem g_lie_t {pl : Nat} (hp : s.1 3 2 = iz pl) (hl : pl ≤ 4) {a b t u v : Int} (a0 : -2147483648 ≤ a) (a1 : a ≤ 2147483647) (b0 : -2147483648 ≤ b) (b1 : b ≤ 2147483647) (t0 : -2147483648 ≤ t) (t1 : t ≤ 2147483647) (u0 : -2147483648 ≤ u) (u1 : u ≤ 2147483647) (v0 : -2147483648 ≤ v) (v1 : v ≤ 2147483647) (h : 0 ≤ a ∧ a < pl ∧ 0 ≤ b ∧ b < pl ∧ a ≠ b ∧ 0 ≤ t ∧ t ≤ 3 ∧ -1 ≤ u ∧ u ≤ 1 ∧ -1 ≤ v ∧ v ≤ 1) : f165 0 (iz a) (iz b) (iz t) (iz u) (iz v) s = some (s, iz 1) := by
  unfold f165 f165_54 f165_55
  rw [ifg_pos O_0]
  simp (disch := omega) only [iz0, iz1, iz2, iz3, iz4, iz5, iz7, iz8, iz9, iz10, iz15, iz20, iz25, iz30, iz40, iz49, iz99, iz100, iz300, iz343, iz500, iz999, iz1000, iz1200, iz_add, iz_sub, iz_mul, iz_neg, it_le_t, it_le_f, it_lt_t, it_lt_f, it_eq_t, it_eq_f, bz0, bz1, ifg_T, or_true, true_or, if_true, if_false, Option.bind_some, Option.map_some, R_0_1, g_plate_t hp hl, g_plate_f hp hl, g_turn_t, g_turn_f, g_shift_t, g_shift_f]
theorem g_lie_f {pl : Nat} (hp : s.1 3 2 = iz pl) (hl : pl ≤ 4) {a b t u v : Int} (a0 : -2147483648 ≤ a) (a1 : a ≤ 2147483647) (b0 : -2147483648 ≤ b) (b1 : b ≤ 2147483647) (t0 : -2147483648 ≤ t) (t1 : t ≤ 2147483647) (u0 : -2147483648 ≤ u) (u1 : u ≤ 2147483647) (v0 : -2147483648 ≤ v) (v1 : v ≤ 2147483647) (h : ¬ (0 ≤ a ∧ a < pl ∧ 0 ≤ b ∧ b < pl ∧ a ≠ b ∧ 0 ≤ t ∧ t ≤ 3 ∧ -1 ≤ u ∧ u ≤ 1 ∧ -1 ≤ v ∧ v ≤ 1)) : f165 0 (iz a) (iz b) (iz t) (iz u) (iz v) s = some (s, iz 0) := by
  unfold f165 f165_54 f165_55
  rw [ifg_pos O_0]
  by_cases g0 : 0 ≤ a
  case neg => simp (disch := omega) only [iz0, iz1, iz2, iz3, iz4, iz5, iz7, iz8, iz9, iz10, iz15, iz20, iz25, iz30, iz40, iz49, iz99, iz100, iz300, iz343, iz500, iz999, iz1000, iz1200, iz_add, iz_sub, iz_mul, iz_neg, it_le_t, it_le_f, it_lt_t, it_lt_f, it_eq_t, it_eq_f, bz0, bz1, ifg_T, or_true, true_or, if_true, if_false, Option.bind_some, Option.map_some, R_0_1, g_plate_t hp hl, g_plate_f hp hl, g_turn_t, g_turn_f, g_shift_t, g_shift_f]
  by_cases g1 : a < pl
  case neg => simp (disch := omega) only [iz0, iz1, iz2, iz3, iz4, iz5, iz7, iz8, iz9, iz10, iz15, iz20, iz25, iz30, iz40, iz49, iz99, iz100, iz300, iz343, iz500, iz999, iz1000, iz1200, iz_add, iz_sub, iz_mul, iz_neg, it_le_t, it_le_f, it_lt_t, it_lt_f, it_eq_t, it_eq_f, bz0, bz1, ifg_T, or_true, true_or, if_true, if_false, Option.bind_some, Option.map_some, R_0_1, g_plate_t hp hl, g_plate_f hp hl, g_turn_t, g_turn_f, g_shift_t, g_shift_f]
  by_cases g2 : 0 ≤ b
  case neg => simp (disch := omega) only [iz0, iz1, iz2, iz3, iz4, iz5, iz7, iz8, iz9, iz10, iz15, iz20, iz25, iz30, iz40, iz49, iz99, iz100, iz300, iz343, iz500, iz999, iz1000, iz1200, iz_add, iz_sub, iz_mul, iz_neg, it_le_t, it_le_f, it_lt_t, it_lt_f, it_eq_t, it_eq_f, bz0, bz1, ifg_T, or_true, true_or, if_true, if_false, Option.bind_some, Option.map_some, R_0_1, g_plate_t hp hl, g_plate_f hp hl, g_turn_t, g_turn_f, g_shift_t, g_shift_f]
  by_cases g3 : b < pl
  case neg => simp (disch := omega) only [iz0, iz1, iz2, iz3, iz4, iz5, iz7, iz8, iz9, iz10, iz15, iz20, iz25, iz30, iz40, iz49, iz99, iz100, iz300, iz343, iz500, iz999, iz1000, iz1200, iz_add, iz_sub, iz_mul, iz_neg, it_le_t, it_le_f, it_lt_t, it_lt_f, it_eq_t, it_eq_f, bz0, bz1, ifg_T, or_true, true_or, if_true, if_false, Option.bind_some, Option.map_some, R_0_1, g_plate_t hp hl, g_plate_f hp hl, g_turn_t, g_turn_f, g_shift_t, g_shift_f]
  by_cases g4 : a ≠ b
  case neg => simp (disch := omega) only [iz0, iz1, iz2, iz3, iz4, iz5, iz7, iz8, iz9, iz10, iz15, iz20, iz25, iz30, iz40, iz49, iz99, iz100, iz300, iz343, iz500, iz999, iz1000, iz1200, iz_add, iz_sub, iz_mul, iz_neg, it_le_t, it_le_f, it_lt_t, it_lt_f, it_eq_t, it_eq_f, bz0, bz1, ifg_T, or_true, true_or, if_true, if_false, Option.bind_some, Option.map_some, R_0_1, g_plate_t hp hl, g_plate_f hp hl, g_turn_t, g_turn_f, g_shift_t, g_shift_f]
  by_cases g5 : 0 ≤ t
  case neg => simp (disch := omega) only [iz0, iz1, iz2, iz3, iz4, iz5, iz7, iz8, iz9, iz10, iz15, iz20, iz25, iz30, iz40, iz49, iz99, iz100, iz300, iz343, iz500, iz999, iz1000, iz1200, iz_add, iz_sub, iz_mul, iz_neg, it_le_t, it_le_f, it_lt_t, it_lt_f, it_eq_t, it_eq_f, bz0, bz1, ifg_T, or_true, true_or, if_true, if_false, Option.bind_some, Option.map_some, R_0_1, g_plate_t hp hl, g_plate_f hp hl, g_turn_t, g_turn_f, g_shift_t, g_shift_f]
  by_cases g6 : t ≤ 3
  case neg => simp (disch := omega) only [iz0, iz1, iz2, iz3, iz4, iz5, iz7, iz8, iz9, iz10, iz15, iz20, iz25, iz30, iz40, iz49, iz99, iz100, iz300, iz343, iz500, iz999, iz1000, iz1200, iz_add, iz_sub, iz_mul, iz_neg, it_le_t, it_le_f, it_lt_t, it_lt_f, it_eq_t, it_eq_f, bz0, bz1, ifg_T, or_true, true_or, if_true, if_false, Option.bind_some, Option.map_some, R_0_1, g_plate_t hp hl, g_plate_f hp hl, g_turn_t, g_turn_f, g_shift_t, g_shift_f]
  by_cases g7 : -1 ≤ u
  case neg => simp (disch := omega) only [iz0, iz1, iz2, iz3, iz4, iz5, iz7, iz8, iz9, iz10, iz15, iz20, iz25, iz30, iz40, iz49, iz99, iz100, iz300, iz343, iz500, iz999, iz1000, iz1200, iz_add, iz_sub, iz_mul, iz_neg, it_le_t, it_le_f, it_lt_t, it_lt_f, it_eq_t, it_eq_f, bz0, bz1, ifg_T, or_true, true_or, if_true, if_false, Option.bind_some, Option.map_some, R_0_1, g_plate_t hp hl, g_plate_f hp hl, g_turn_t, g_turn_f, g_shift_t, g_shift_f]
  by_cases g8 : u ≤ 1
  case neg => simp (disch := omega) only [iz0, iz1, iz2, iz3, iz4, iz5, iz7, iz8, iz9, iz10, iz15, iz20, iz25, iz30, iz40, iz49, iz99, iz100, iz300, iz343, iz500, iz999, iz1000, iz1200, iz_add, iz_sub, iz_mul, iz_neg, it_le_t, it_le_f, it_lt_t, it_lt_f, it_eq_t, it_eq_f, bz0, bz1, ifg_T, or_true, true_or, if_true, if_false, Option.bind_some, Option.map_some, R_0_1, g_plate_t hp hl, g_plate_f hp hl, g_turn_t, g_turn_f, g_shift_t, g_shift_f]
  by_cases g9 : -1 ≤ v
  case neg => simp (disch := omega) only [iz0, iz1, iz2, iz3, iz4, iz5, iz7, iz8, iz9, iz10, iz15, iz20, iz25, iz30, iz40, iz49, iz99, iz100, iz300, iz343, iz500, iz999, iz1000, iz1200, iz_add, iz_sub, iz_mul, iz_neg, it_le_t, it_le_f, it_lt_t, it_lt_f, it_eq_t, it_eq_f, bz0, bz1, ifg_T, or_true, true_or, if_true, if_false, Option.bind_some, Option.map_some, R_0_1, g_plate_t hp hl, g_plate_f hp hl, g_turn_t, g_turn_f, g_shift_t, g_shift_f]
  simp (disch := omega) only [iz0, iz1, iz2, iz3, iz4, iz5, iz7, iz8, iz9, iz10, iz15, iz20, iz25, iz30, iz40, iz49, iz99, iz100, iz300, iz343, iz500, iz999, iz1000, iz1200, iz_add, iz_sub, iz_mul, iz_neg, it_le_t, it_le_f, it_lt_t, it_lt_f, it_eq_t, it_eq_f, bz0, bz1, ifg_T, or_true, true_or, if_true, if_false, Option.bind_some, Option.map_some, R_0_1, g_plate_t hp hl, g_plate_f hp hl, g_turn_t, g_turn_f, g_shift_t, g_shift_f]
variable {b n pl : Nat}
theorem g_mplate_t (hn : Mn s b (iz n) n) (hp : s.1 105 b = iz pl) (hl : pl ≤ 4) {z : Int} (z0 : -2147483648 ≤ z) (z1 : z ≤ 2147483647) (h : 0 ≤ z ∧ z < pl) : f198 101 (iz z) s = some (s, iz 1) := by
  unfold f198
  rw [ifg_pos O_101]
  simp (disch := omega) only [iz0, iz1, iz2, iz3, iz4, iz5, iz7, iz8, iz9, iz10, iz15, iz20, iz25, iz30, iz40, iz49, iz99, iz100, iz300, iz343, iz500, iz999, iz1000, iz1200, iz_add, iz_sub, iz_mul, iz_neg, it_le_t, it_le_f, it_lt_t, it_lt_f, it_eq_t, it_eq_f, bz0, bz1, ifg_T, or_true, true_or, if_true, if_false, Option.bind_some, Option.map_some, R_101_12, A_105, hn.b_in, hn.b_nat, hp, g_in_t, g_in_f]
theorem g_mplate_f (hn : Mn s b (iz n) n) (hp : s.1 105 b = iz pl) (hl : pl ≤ 4) {z : Int} (z0 : -2147483648 ≤ z) (z1 : z ≤ 2147483647) (h : ¬ (0 ≤ z ∧ z < pl)) : f198 101 (iz z) s = some (s, iz 0) := by
  unfold f198
  rw [ifg_pos O_101]
  by_cases g0 : 0 ≤ z
  case neg => simp (disch := omega) only [iz0, iz1, iz2, iz3, iz4, iz5, iz7, iz8, iz9, iz10, iz15, iz20, iz25, iz30, iz40, iz49, iz99, iz100, iz300, iz343, iz500, iz999, iz1000, iz1200, iz_add, iz_sub, iz_mul, iz_neg, it_le_t, it_le_f, it_lt_t, it_lt_f, it_eq_t, it_eq_f, bz0, bz1, ifg_T, or_true, true_or, if_true, if_false, Option.bind_some, Option.map_some, R_101_12, A_105, hn.b_in, hn.b_nat, hp, g_in_t, g_in_f]
  simp (disch := omega) only [iz0, iz1, iz2, iz3, iz4, iz5, iz7, iz8, iz9, iz10, iz15, iz20, iz25, iz30, iz40, iz49, iz99, iz100, iz300, iz343, iz500, iz999, iz1000, iz1200, iz_add, iz_sub, iz_mul, iz_neg, it_le_t, it_le_f, it_lt_t, it_lt_f, it_eq_t, it_eq_f, bz0, bz1, ifg_T, or_true, true_or, if_true, if_false, Option.bind_some, Option.map_some, R_101_12, A_105, hn.b_in, hn.b_nat, hp, g_in_t, g_in_f]
theorem g_mcell_t (hn : Mn s b (iz n) n) (hp : s.1 105 b = iz pl) (hl : pl ≤ 4) {z c : Int} (z0 : -2147483648 ≤ z) (z1 : z ≤ 2147483647) (c0 : -2147483648 ≤ c) (c1 : c ≤ 2147483647) (h : 0 ≤ z ∧ z < pl ∧ 0 ≤ c ∧ c < (n * n : Nat)) : f199 101 (iz z) (iz c) s = some (s, iz 1) := by
  unfold f199 f199_26 f199_27
  have sq := hn.sq25
  rw [ifg_pos O_101]
  have e := hn.zc
  have e1 := @g_mplate_t s b n pl hn hp hl
  have e2 := @g_mplate_f s b n pl hn hp hl
  clear hn
  generalize n * n = m at *
  simp (disch := omega) only [iz0, iz1, iz2, iz3, iz4, iz5, iz7, iz8, iz9, iz10, iz15, iz20, iz25, iz30, iz40, iz49, iz99, iz100, iz300, iz343, iz500, iz999, iz1000, iz1200, iz_add, iz_sub, iz_mul, iz_neg, it_le_t, it_le_f, it_lt_t, it_lt_f, it_eq_t, it_eq_f, bz0, bz1, ifg_T, or_true, true_or, if_true, if_false, Option.bind_some, Option.map_some, e, e1, e2, g_in_t, g_in_f]
theorem g_mcell_f (hn : Mn s b (iz n) n) (hp : s.1 105 b = iz pl) (hl : pl ≤ 4) {z c : Int} (z0 : -2147483648 ≤ z) (z1 : z ≤ 2147483647) (c0 : -2147483648 ≤ c) (c1 : c ≤ 2147483647) (h : ¬ (0 ≤ z ∧ z < pl ∧ 0 ≤ c ∧ c < (n * n : Nat))) : f199 101 (iz z) (iz c) s = some (s, iz 0) := by
  unfold f199 f199_26 f199_27
  have sq := hn.sq25
  rw [ifg_pos O_101]
  have e := hn.zc
  have e1 := @g_mplate_t s b n pl hn hp hl
  have e2 := @g_mplate_f s b n pl hn hp hl
  clear hn
  generalize n * n = m at *
  by_cases g0 : 0 ≤ z
  case neg => simp (disch := omega) only [iz0, iz1, iz2, iz3, iz4, iz5, iz7, iz8, iz9, iz10, iz15, iz20, iz25, iz30, iz40, iz49, iz99, iz100, iz300, iz343, iz500, iz999, iz1000, iz1200, iz_add, iz_sub, iz_mul, iz_neg, it_le_t, it_le_f, it_lt_t, it_lt_f, it_eq_t, it_eq_f, bz0, bz1, ifg_T, or_true, true_or, if_true, if_false, Option.bind_some, Option.map_some, e, e1, e2, g_in_t, g_in_f]
  by_cases g1 : z < pl
  case neg => simp (disch := omega) only [iz0, iz1, iz2, iz3, iz4, iz5, iz7, iz8, iz9, iz10, iz15, iz20, iz25, iz30, iz40, iz49, iz99, iz100, iz300, iz343, iz500, iz999, iz1000, iz1200, iz_add, iz_sub, iz_mul, iz_neg, it_le_t, it_le_f, it_lt_t, it_lt_f, it_eq_t, it_eq_f, bz0, bz1, ifg_T, or_true, true_or, if_true, if_false, Option.bind_some, Option.map_some, e, e1, e2, g_in_t, g_in_f]
  by_cases g2 : 0 ≤ c
  case neg => simp (disch := omega) only [iz0, iz1, iz2, iz3, iz4, iz5, iz7, iz8, iz9, iz10, iz15, iz20, iz25, iz30, iz40, iz49, iz99, iz100, iz300, iz343, iz500, iz999, iz1000, iz1200, iz_add, iz_sub, iz_mul, iz_neg, it_le_t, it_le_f, it_lt_t, it_lt_f, it_eq_t, it_eq_f, bz0, bz1, ifg_T, or_true, true_or, if_true, if_false, Option.bind_some, Option.map_some, e, e1, e2, g_in_t, g_in_f]
  simp (disch := omega) only [iz0, iz1, iz2, iz3, iz4, iz5, iz7, iz8, iz9, iz10, iz15, iz20, iz25, iz30, iz40, iz49, iz99, iz100, iz300, iz343, iz500, iz999, iz1000, iz1200, iz_add, iz_sub, iz_mul, iz_neg, it_le_t, it_le_f, it_lt_t, it_lt_f, it_eq_t, it_eq_f, bz0, bz1, ifg_T, or_true, true_or, if_true, if_false, Option.bind_some, Option.map_some, e, e1, e2, g_in_t, g_in_f]
theorem g_mlie_t (hn : Mn s b (iz n) n) (hp : s.1 105 b = iz pl) (hl : pl ≤ 4) {a c t u v : Int} (a0 : -2147483648 ≤ a) (a1 : a ≤ 2147483647) (c0 : -2147483648 ≤ c) (c1 : c ≤ 2147483647) (t0 : -2147483648 ≤ t) (t1 : t ≤ 2147483647) (u0 : -2147483648 ≤ u) (u1 : u ≤ 2147483647) (v0 : -2147483648 ≤ v) (v1 : v ≤ 2147483647) (h : 0 ≤ a ∧ a < pl ∧ 0 ≤ c ∧ c < pl ∧ a ≠ c ∧ 0 ≤ t ∧ t ≤ 3 ∧ -1 ≤ u ∧ u ≤ 1 ∧ -1 ≤ v ∧ v ≤ 1) : f218 101 (iz a) (iz c) (iz t) (iz u) (iz v) s = some (s, iz 1) := by
  unfold f218 f218_54 f218_55
  rw [ifg_pos O_101]
  simp (disch := omega) only [iz0, iz1, iz2, iz3, iz4, iz5, iz7, iz8, iz9, iz10, iz15, iz20, iz25, iz30, iz40, iz49, iz99, iz100, iz300, iz343, iz500, iz999, iz1000, iz1200, iz_add, iz_sub, iz_mul, iz_neg, it_le_t, it_le_f, it_lt_t, it_lt_f, it_eq_t, it_eq_f, bz0, bz1, ifg_T, or_true, true_or, if_true, if_false, Option.bind_some, Option.map_some, g_mplate_t hn hp hl, g_mplate_f hn hp hl, g_in_t, g_in_f]
theorem g_mlie_f (hn : Mn s b (iz n) n) (hp : s.1 105 b = iz pl) (hl : pl ≤ 4) {a c t u v : Int} (a0 : -2147483648 ≤ a) (a1 : a ≤ 2147483647) (c0 : -2147483648 ≤ c) (c1 : c ≤ 2147483647) (t0 : -2147483648 ≤ t) (t1 : t ≤ 2147483647) (u0 : -2147483648 ≤ u) (u1 : u ≤ 2147483647) (v0 : -2147483648 ≤ v) (v1 : v ≤ 2147483647) (h : ¬ (0 ≤ a ∧ a < pl ∧ 0 ≤ c ∧ c < pl ∧ a ≠ c ∧ 0 ≤ t ∧ t ≤ 3 ∧ -1 ≤ u ∧ u ≤ 1 ∧ -1 ≤ v ∧ v ≤ 1)) : f218 101 (iz a) (iz c) (iz t) (iz u) (iz v) s = some (s, iz 0) := by
  unfold f218 f218_54 f218_55
  rw [ifg_pos O_101]
  by_cases g0 : 0 ≤ a
  case neg => simp (disch := omega) only [iz0, iz1, iz2, iz3, iz4, iz5, iz7, iz8, iz9, iz10, iz15, iz20, iz25, iz30, iz40, iz49, iz99, iz100, iz300, iz343, iz500, iz999, iz1000, iz1200, iz_add, iz_sub, iz_mul, iz_neg, it_le_t, it_le_f, it_lt_t, it_lt_f, it_eq_t, it_eq_f, bz0, bz1, ifg_T, or_true, true_or, if_true, if_false, Option.bind_some, Option.map_some, g_mplate_t hn hp hl, g_mplate_f hn hp hl, g_in_t, g_in_f]
  by_cases g1 : a < pl
  case neg => simp (disch := omega) only [iz0, iz1, iz2, iz3, iz4, iz5, iz7, iz8, iz9, iz10, iz15, iz20, iz25, iz30, iz40, iz49, iz99, iz100, iz300, iz343, iz500, iz999, iz1000, iz1200, iz_add, iz_sub, iz_mul, iz_neg, it_le_t, it_le_f, it_lt_t, it_lt_f, it_eq_t, it_eq_f, bz0, bz1, ifg_T, or_true, true_or, if_true, if_false, Option.bind_some, Option.map_some, g_mplate_t hn hp hl, g_mplate_f hn hp hl, g_in_t, g_in_f]
  by_cases g2 : 0 ≤ c
  case neg => simp (disch := omega) only [iz0, iz1, iz2, iz3, iz4, iz5, iz7, iz8, iz9, iz10, iz15, iz20, iz25, iz30, iz40, iz49, iz99, iz100, iz300, iz343, iz500, iz999, iz1000, iz1200, iz_add, iz_sub, iz_mul, iz_neg, it_le_t, it_le_f, it_lt_t, it_lt_f, it_eq_t, it_eq_f, bz0, bz1, ifg_T, or_true, true_or, if_true, if_false, Option.bind_some, Option.map_some, g_mplate_t hn hp hl, g_mplate_f hn hp hl, g_in_t, g_in_f]
  by_cases g3 : c < pl
  case neg => simp (disch := omega) only [iz0, iz1, iz2, iz3, iz4, iz5, iz7, iz8, iz9, iz10, iz15, iz20, iz25, iz30, iz40, iz49, iz99, iz100, iz300, iz343, iz500, iz999, iz1000, iz1200, iz_add, iz_sub, iz_mul, iz_neg, it_le_t, it_le_f, it_lt_t, it_lt_f, it_eq_t, it_eq_f, bz0, bz1, ifg_T, or_true, true_or, if_true, if_false, Option.bind_some, Option.map_some, g_mplate_t hn hp hl, g_mplate_f hn hp hl, g_in_t, g_in_f]
  by_cases g4 : a ≠ c
  case neg => simp (disch := omega) only [iz0, iz1, iz2, iz3, iz4, iz5, iz7, iz8, iz9, iz10, iz15, iz20, iz25, iz30, iz40, iz49, iz99, iz100, iz300, iz343, iz500, iz999, iz1000, iz1200, iz_add, iz_sub, iz_mul, iz_neg, it_le_t, it_le_f, it_lt_t, it_lt_f, it_eq_t, it_eq_f, bz0, bz1, ifg_T, or_true, true_or, if_true, if_false, Option.bind_some, Option.map_some, g_mplate_t hn hp hl, g_mplate_f hn hp hl, g_in_t, g_in_f]
  by_cases g5 : 0 ≤ t
  case neg => simp (disch := omega) only [iz0, iz1, iz2, iz3, iz4, iz5, iz7, iz8, iz9, iz10, iz15, iz20, iz25, iz30, iz40, iz49, iz99, iz100, iz300, iz343, iz500, iz999, iz1000, iz1200, iz_add, iz_sub, iz_mul, iz_neg, it_le_t, it_le_f, it_lt_t, it_lt_f, it_eq_t, it_eq_f, bz0, bz1, ifg_T, or_true, true_or, if_true, if_false, Option.bind_some, Option.map_some, g_mplate_t hn hp hl, g_mplate_f hn hp hl, g_in_t, g_in_f]
  by_cases g6 : t ≤ 3
  case neg => simp (disch := omega) only [iz0, iz1, iz2, iz3, iz4, iz5, iz7, iz8, iz9, iz10, iz15, iz20, iz25, iz30, iz40, iz49, iz99, iz100, iz300, iz343, iz500, iz999, iz1000, iz1200, iz_add, iz_sub, iz_mul, iz_neg, it_le_t, it_le_f, it_lt_t, it_lt_f, it_eq_t, it_eq_f, bz0, bz1, ifg_T, or_true, true_or, if_true, if_false, Option.bind_some, Option.map_some, g_mplate_t hn hp hl, g_mplate_f hn hp hl, g_in_t, g_in_f]
  by_cases g7 : -1 ≤ u
  case neg => simp (disch := omega) only [iz0, iz1, iz2, iz3, iz4, iz5, iz7, iz8, iz9, iz10, iz15, iz20, iz25, iz30, iz40, iz49, iz99, iz100, iz300, iz343, iz500, iz999, iz1000, iz1200, iz_add, iz_sub, iz_mul, iz_neg, it_le_t, it_le_f, it_lt_t, it_lt_f, it_eq_t, it_eq_f, bz0, bz1, ifg_T, or_true, true_or, if_true, if_false, Option.bind_some, Option.map_some, g_mplate_t hn hp hl, g_mplate_f hn hp hl, g_in_t, g_in_f]
  by_cases g8 : u ≤ 1
  case neg => simp (disch := omega) only [iz0, iz1, iz2, iz3, iz4, iz5, iz7, iz8, iz9, iz10, iz15, iz20, iz25, iz30, iz40, iz49, iz99, iz100, iz300, iz343, iz500, iz999, iz1000, iz1200, iz_add, iz_sub, iz_mul, iz_neg, it_le_t, it_le_f, it_lt_t, it_lt_f, it_eq_t, it_eq_f, bz0, bz1, ifg_T, or_true, true_or, if_true, if_false, Option.bind_some, Option.map_some, g_mplate_t hn hp hl, g_mplate_f hn hp hl, g_in_t, g_in_f]
  by_cases g9 : -1 ≤ v
  case neg => simp (disch := omega) only [iz0, iz1, iz2, iz3, iz4, iz5, iz7, iz8, iz9, iz10, iz15, iz20, iz25, iz30, iz40, iz49, iz99, iz100, iz300, iz343, iz500, iz999, iz1000, iz1200, iz_add, iz_sub, iz_mul, iz_neg, it_le_t, it_le_f, it_lt_t, it_lt_f, it_eq_t, it_eq_f, bz0, bz1, ifg_T, or_true, true_or, if_true, if_false, Option.bind_some, Option.map_some, g_mplate_t hn hp hl, g_mplate_f hn hp hl, g_in_t, g_in_f]
  simp (disch := omega) only [iz0, iz1, iz2, iz3, iz4, iz5, iz7, iz8, iz9, iz10, iz15, iz20, iz25, iz30, iz40, iz49, iz99, iz100, iz300, iz343, iz500, iz999, iz1000, iz1200, iz_add, iz_sub, iz_mul, iz_neg, it_le_t, it_le_f, it_lt_t, it_lt_f, it_eq_t, it_eq_f, bz0, bz1, ifg_T, or_true, true_or, if_true, if_false, Option.bind_some, Option.map_some, g_mplate_t hn hp hl, g_mplate_f hn hp hl, g_in_t, g_in_f]
end GU
