/-! feed, end, fault, about, square, sight: both sides -/
def FTT (id k : Nat) : Bool := FTp id k || FTm id k
section SJ
variable {s : xS} {b n pl : Nat} {red slip : Int} {x : sS} {W S : Nat → Int} {st : Int32} {rc : Nat} {Rs : Nat → Rn}
set_option maxHeartbeats 400000 in
theorem c_feed (h : TpI s) (a b' c d e : Int32) : ok (f124 0 a b' c d e s) (fun r1 => ok (f282 101 a b' c d e r1.1) (fun r2 => r2.2 = r1.2 ∧ TpI r2.1 ∧ fr FTT s r2.1)) := by
  have hh := h
  obtain ⟨T, t1, t2, t3, t4, t5, t6⟩ := h
  unfold f124
  rw [ifg_pos O_0, R_0_0]
  simp only [Option.bind_some, t2]
  by_cases g : T + 20 ≤ 1200
  · rw [iz20, iz_add, iz1200, it_le_t (by omega) (by omega) (by omega)]
    refine (cl_append t2 (by omega) a).bind (fun r1 ⟨a1, a2, a3, a4⟩ => ?_)
    refine (cl_append a2 (by omega) b').bind (fun r2 ⟨b1, b2, b3, b4⟩ => ?_)
    refine (cl_append b2 (by omega) c).bind (fun r3 ⟨c1, c2, c3, c4⟩ => ?_)
    refine (cl_append c2 (by omega) d).bind (fun r4 ⟨d1, d2, d3, d4⟩ => ?_)
    refine (cl_append d2 (by omega) e).bind (fun r5 ⟨e1, e2, e3, e4⟩ => ?_)
    rw [ok_some]
    have f5 : fr FTp s r5.1 := (((a1.tr b1).tr c1).tr d1).tr e1
    refine (mo_feed (T := T) (by rw [f5.i _ _ rfl]; exact t3) g a b' c d e).mono (fun r6 ⟨g1, g2, g3, g4, g5⟩ => ?_)
    refine ⟨by rw [g5, e2], ⟨T + 20, g, by rw [g1.i _ _ rfl, e2], g2, fun k hk => ?_, by rw [g1.i _ _ rfl, g1.i _ _ rfl, f5.i _ _ rfl, f5.i _ _ rfl]; exact t5, by rw [g1.i _ _ rfl, g1.i _ _ rfl, f5.i _ _ rfl, f5.i _ _ rfl]; exact t6⟩, (f5.mono (fun id k hk => by unfold FTT; rw [hk]; rfl)).tr (g1.mono (fun id k hk => by unfold FTT; rw [hk, Bool.or_true]))⟩
    rw [g1.i 2 k rfl]
    by_cases q : k < T
    · rw [e4 k (by omega), d4 k (by omega), c4 k (by omega), b4 k (by omega), a4 k q, g4 k q, f5.i _ _ rfl]
      exact t4 k q
    · obtain ⟨j, rfl⟩ : ∃ j, k = T + j := ⟨k - T, by omega⟩
      have hj : j < 20 := by omega
      rw [g3 j hj]
      unfold wd5
      by_cases q1 : j < 4
      · rw [e4 _ (by omega), d4 _ (by omega), c4 _ (by omega), b4 _ (by omega), a3 j q1, if_pos q1, Nat.mod_eq_of_lt q1]
      · by_cases q2 : j < 8
        · obtain ⟨i, rfl⟩ : ∃ i, j = 4 + i := ⟨j - 4, by omega⟩
          rw [e4 _ (by omega), d4 _ (by omega), c4 _ (by omega), ← Nat.add_assoc, b3 i (by omega), if_neg q1, if_pos q2]
          congr 1
          omega
        · by_cases q3 : j < 12
          · obtain ⟨i, rfl⟩ : ∃ i, j = 8 + i := ⟨j - 8, by omega⟩
            rw [e4 _ (by omega), d4 _ (by omega), show T + (8 + i) = T + 4 + 4 + i by omega, c3 i (by omega), if_neg q1, if_neg q2, if_pos q3]
            congr 1
            omega
          · by_cases q4 : j < 16
            · obtain ⟨i, rfl⟩ : ∃ i, j = 12 + i := ⟨j - 12, by omega⟩
              rw [e4 _ (by omega), show T + (12 + i) = T + 4 + 4 + 4 + i by omega, d3 i (by omega), if_neg q1, if_neg q2, if_neg q3, if_pos q4]
              congr 1
              omega
            · obtain ⟨i, rfl⟩ : ∃ i, j = 16 + i := ⟨j - 16, by omega⟩
              rw [show T + (16 + i) = T + 4 + 4 + 4 + 4 + i by omega, e3 i (by omega), if_neg q1, if_neg q2, if_neg q3, if_neg q4]
              congr 1
              omega
  · rw [iz20, iz_add, iz1200, it_le_f (by omega) (by omega) (by omega), ok_some]
    unfold f282
    rw [ifg_pos O_101]
    simp (disch := omega) only [t3, iz0, iz1, iz2, iz3, iz4, iz5, iz7, iz8, iz9, iz10, iz15, iz20, iz25, iz30, iz40, iz49, iz99, iz100, iz300, iz343, iz500, iz999, iz1000, iz1200, iz_add, iz_sub, iz_mul, iz_neg, it_le_t, it_le_f, it_lt_t, it_lt_f, it_eq_t, it_eq_f, bz0, bz1, ifg_T, or_true, true_or, if_true, if_false, Option.bind_some, Option.map_some, ok_some, true_and]
    exact ⟨hh, fr.rf _ _⟩
theorem c_end (h : TpI s) {k : Int} (k0 : -2147483648 ≤ k) (k1 : k ≤ 2147483647) : ok (f125 0 (iz k) s) (fun r1 => ok (f283 101 (iz k) r1.1) (fun r2 => r2.2 = r1.2 ∧ TpI r2.1 ∧ fr FTT s r2.1)) := by
  have hh := h
  obtain ⟨T, t1, t2, t3, t4, t5, t6⟩ := h
  unfold f125 f125_15
  rw [ifg_pos O_0]
  by_cases g : 0 ≤ k ∧ k ≤ T
  · obtain ⟨j, rfl⟩ : ∃ j : Nat, k = j := ⟨k.toNat, by omega⟩
    simp (disch := omega) only [R_0_0, t2, iz0, iz1, iz2, iz3, iz4, iz5, iz7, iz8, iz9, iz10, iz15, iz20, iz25, iz30, iz40, iz49, iz99, iz100, iz300, iz343, iz500, iz999, iz1000, iz1200, iz_add, iz_sub, iz_mul, iz_neg, it_le_t, it_le_f, it_lt_t, it_lt_f, it_eq_t, it_eq_f, bz0, bz1, ifg_T, or_true, true_or, if_true, if_false, Option.bind_some, Option.map_some, pI, ok_some]
    unfold f283
    rw [ifg_pos O_101]
    simp (disch := omega) only [t3, up_id, iz0, iz1, iz2, iz3, iz4, iz5, iz7, iz8, iz9, iz10, iz15, iz20, iz25, iz30, iz40, iz49, iz99, iz100, iz300, iz343, iz500, iz999, iz1000, iz1200, iz_add, iz_sub, iz_mul, iz_neg, it_le_t, it_le_f, it_lt_t, it_lt_f, it_eq_t, it_eq_f, bz0, bz1, ifg_T, or_true, true_or, if_true, if_false, Option.bind_some, Option.map_some, pI, ok_some, true_and]
    refine ⟨⟨j, by omega, ?_, ?_, fun i hi => ?_, ?_, ?_⟩, ((fr.rf _ _).ui rfl).ui rfl⟩
    · simp (disch := omega) only [up_id, up_eq]
    · dsimp only; exact up_eq _ _ _ _
    · simp (disch := omega) only [up_id]; exact t4 i (by omega)
    · simp (disch := omega) only [up_id, up_ix]; exact t5
    · simp (disch := omega) only [up_id, up_ix]; exact t6
  · have fin : ok (f283 101 (iz k) s) (fun r2 => r2.2 = iz (-1) ∧ TpI r2.1 ∧ fr FTT s r2.1) := by
      unfold f283 f283_12
      rw [ifg_pos O_101]
      by_cases g0 : 0 ≤ k
      · simp (disch := omega) only [t3, iz0, iz1, iz2, iz3, iz4, iz5, iz7, iz8, iz9, iz10, iz15, iz20, iz25, iz30, iz40, iz49, iz99, iz100, iz300, iz343, iz500, iz999, iz1000, iz1200, iz_add, iz_sub, iz_mul, iz_neg, it_le_t, it_le_f, it_lt_t, it_lt_f, it_eq_t, it_eq_f, bz0, bz1, ifg_T, or_true, true_or, if_true, if_false, Option.bind_some, Option.map_some, ok_some, true_and]
        exact ⟨hh, fr.rf _ _⟩
      · simp (disch := omega) only [iz0, iz1, iz2, iz3, iz4, iz5, iz7, iz8, iz9, iz10, iz15, iz20, iz25, iz30, iz40, iz49, iz99, iz100, iz300, iz343, iz500, iz999, iz1000, iz1200, iz_add, iz_sub, iz_mul, iz_neg, it_le_t, it_le_f, it_lt_t, it_lt_f, it_eq_t, it_eq_f, bz0, bz1, ifg_T, or_true, true_or, if_true, if_false, Option.bind_some, Option.map_some, ok_some, true_and]
        exact ⟨hh, fr.rf _ _⟩
    by_cases g0 : 0 ≤ k
    · simp (disch := omega) only [R_0_0, t2, iz0, iz1, iz2, iz3, iz4, iz5, iz7, iz8, iz9, iz10, iz15, iz20, iz25, iz30, iz40, iz49, iz99, iz100, iz300, iz343, iz500, iz999, iz1000, iz1200, iz_add, iz_sub, iz_mul, iz_neg, it_le_t, it_le_f, it_lt_t, it_lt_f, it_eq_t, it_eq_f, bz0, bz1, ifg_T, or_true, true_or, if_true, if_false, Option.bind_some, Option.map_some, ok_some]
      exact fin
    · simp (disch := omega) only [iz0, iz1, iz2, iz3, iz4, iz5, iz7, iz8, iz9, iz10, iz15, iz20, iz25, iz30, iz40, iz49, iz99, iz100, iz300, iz343, iz500, iz999, iz1000, iz1200, iz_add, iz_sub, iz_mul, iz_neg, it_le_t, it_le_f, it_lt_t, it_lt_f, it_eq_t, it_eq_f, bz0, bz1, ifg_T, or_true, true_or, if_true, if_false, Option.bind_some, Option.map_some, ok_some]
      exact fin
theorem c_fault (h : TpI s) (w : Int32) : ∃ v, f128 0 w s = some (s, v) ∧ f191 101 w s = some (s, v) := by
  obtain ⟨T, t1, t2, t3, t4, t5, t6⟩ := h
  unfold f128 f128_28 f191 f191_24
  rw [ifg_pos O_0, ifg_pos O_101, R_0_0]
  simp only [Option.bind_some, t5, t6]
  by_cases q : w = 0
  · exact ⟨_, by rw [if_pos q], by rw [if_pos q]⟩
  · by_cases q2 : w = 1
    · exact ⟨_, by rw [if_neg q, if_pos q2], by rw [if_neg q, if_pos q2]⟩
    · exact ⟨_, by rw [if_neg q, if_neg q2], by rw [if_neg q, if_neg q2]⟩
theorem c_about (h : Core s b n pl red slip x W S st rc Rs) (hT : TpI s) (hH : HnI s) {m : Nat} {G : Nat → Sg} (hS : SgI s pl n m G) (w : Int32) : ∃ v, f163 0 w s = some (s, v) ∧ f281 101 w s = some (s, v) := by
  obtain ⟨T, t1, t2, t3, t4, t5, t6⟩ := hT
  obtain ⟨hm, a1, a2, a3, a4⟩ := hH
  obtain ⟨c1, c2, c3, c4, c5, c6, c7, c8, c9⟩ := h.1
  obtain ⟨d1, d2, d3, d4, d5, d6, d7, d8, d9, d10, d11⟩ := h.2.1
  unfold f163 f281
  rw [ifg_pos O_0, ifg_pos O_101]
  simp only [R_0_0, R_0_1, R_0_3, R_0_5, R_0_10, R_0_12, R_101_12, A_105, d1.b_in, d1.b_nat, d1.zn, if_true, Option.bind_some, t2, t3, a2, a3, c1, c2, c7, c8, c6.2.1, c6.2.2, d2, d6.2.1, d6.2.2, d7, d8, hS.2.1, hS.2.2.1]
  by_cases q0 : w = 0
  · exact ⟨_, if_pos q0, if_pos q0⟩
  rw [if_neg q0]
  by_cases q1 : w = 1
  · exact ⟨_, if_pos q1, if_pos q1⟩
  rw [if_neg q1]
  by_cases q2 : w = 2
  · exact ⟨_, if_pos q2, if_pos q2⟩
  rw [if_neg q2]
  by_cases q3 : w = 3
  · exact ⟨_, if_pos q3, if_pos q3⟩
  rw [if_neg q3]
  by_cases q4 : w = 4
  · exact ⟨_, if_pos q4, if_pos q4⟩
  rw [if_neg q4]
  by_cases q5 : w = 5
  · exact ⟨_, if_pos q5, if_pos q5⟩
  rw [if_neg q5]
  by_cases q6 : w = 6
  · exact ⟨_, if_pos q6, if_pos q6⟩
  rw [if_neg q6]
  by_cases q7 : w = 7
  · exact ⟨_, if_pos q7, if_pos q7⟩
  rw [if_neg q7]
  by_cases q8 : w = 8
  · exact ⟨_, if_pos q8, if_pos q8⟩
  rw [if_neg q8]
  exact ⟨_, rfl, rfl⟩
theorem g_shown_t {z : Int} (z0 : -2147483648 ≤ z) (z1 : z ≤ 2147483647) (h : -9999 ≤ z ∧ z ≤ 9999) : f170 (iz z) s = some (s, iz 1) ∧ f261 (iz z) s = some (s, iz 1) := by
  have e1 : (-9999 : Int32) = iz (-9999) := by decide
  have e2 : (9999 : Int32) = iz 9999 := by decide
  unfold f170 f170_18 f170_19 f261
  rw [e1, e2]
  simp (disch := omega) only [iz0, iz1, iz2, iz3, iz4, iz5, iz7, iz8, iz9, iz10, iz15, iz20, iz25, iz30, iz40, iz49, iz99, iz100, iz300, iz343, iz500, iz999, iz1000, iz1200, iz_add, iz_sub, iz_mul, iz_neg, it_le_t, it_le_f, it_lt_t, it_lt_f, it_eq_t, it_eq_f, bz0, bz1, ifg_T, or_true, true_or, if_true, if_false, Option.bind_some, Option.map_some, g_in_t, and_self]
theorem g_shown_f {z : Int} (z0 : -2147483648 ≤ z) (z1 : z ≤ 2147483647) (h : ¬ (-9999 ≤ z ∧ z ≤ 9999)) : f170 (iz z) s = some (s, iz 0) ∧ f261 (iz z) s = some (s, iz 0) := by
  have e1 : (-9999 : Int32) = iz (-9999) := by decide
  have e2 : (9999 : Int32) = iz 9999 := by decide
  unfold f170 f170_18 f170_19 f261
  rw [e1, e2]
  by_cases g0 : -9999 ≤ z
  · simp (disch := omega) only [iz0, iz1, iz2, iz3, iz4, iz5, iz7, iz8, iz9, iz10, iz15, iz20, iz25, iz30, iz40, iz49, iz99, iz100, iz300, iz343, iz500, iz999, iz1000, iz1200, iz_add, iz_sub, iz_mul, iz_neg, it_le_t, it_le_f, it_lt_t, it_lt_f, it_eq_t, it_eq_f, bz0, bz1, ifg_T, or_true, true_or, if_true, if_false, Option.bind_some, Option.map_some, g_in_f, and_self]
  · simp (disch := omega) only [iz0, iz1, iz2, iz3, iz4, iz5, iz7, iz8, iz9, iz10, iz15, iz20, iz25, iz30, iz40, iz49, iz99, iz100, iz300, iz343, iz500, iz999, iz1000, iz1200, iz_add, iz_sub, iz_mul, iz_neg, it_le_t, it_le_f, it_lt_t, it_lt_f, it_eq_t, it_eq_f, bz0, bz1, ifg_T, or_true, true_or, if_true, if_false, Option.bind_some, Option.map_some, g_in_f, and_self]
theorem c_square {a c d w p : Int} (a0 : -2147483648 ≤ a) (a1 : a ≤ 2147483647) (c0 : -2147483648 ≤ c) (c1 : c ≤ 2147483647) (d0 : -2147483648 ≤ d) (d1 : d ≤ 2147483647) (w0 : -2147483648 ≤ w) (w1 : w ≤ 2147483647) (p0 : -2147483648 ≤ p) (p1 : p ≤ 2147483647) : ∃ v, f148 0 (iz a) (iz c) (iz d) (iz w) (iz p) s = some (s, v) ∧ f262 101 (iz a) (iz c) (iz d) (iz w) (iz p) s = some (s, v) := by
  have e5 : (-100000 : Int32) = iz (-100000) := by decide
  have e2 : (2 : Int64) = lz 2 := by decide
  have nz1 : ¬ iz 1 = (0 : Int32) := by decide
  have zz0 : iz 0 = (0 : Int32) := by decide
  have cls : (¬ (0 ≤ p ∧ p ≤ 1) ∨ ¬ (-9999 ≤ a ∧ a ≤ 9999) ∨ ¬ (-9999 ≤ c ∧ c ≤ 9999) ∨ ¬ (-9999 ≤ d ∧ d ≤ 9999) ∨ ¬ (0 ≤ w ∧ w ≤ 2)) → f148 0 (iz a) (iz c) (iz d) (iz w) (iz p) s = some (s, iz (-100000)) ∧ f262 101 (iz a) (iz c) (iz d) (iz w) (iz p) s = some (s, iz (-100000)) := by
    intro hb
    constructor
    · unfold f148 f148_29
      rw [ifg_pos O_0, e5]
      by_cases k1 : 0 ≤ p ∧ p ≤ 1
      case neg => rw [g_part_f p0 p1 k1, Option.bind_some]; exact if_pos zz0
      rw [g_part_t p0 p1 k1, Option.bind_some]
      dsimp only
      rw [if_neg nz1]
      by_cases k2 : -9999 ≤ a ∧ a ≤ 9999
      case neg => rw [(g_shown_f a0 a1 k2).1, Option.bind_some]; exact if_pos zz0
      rw [(g_shown_t a0 a1 k2).1, Option.bind_some]
      dsimp only
      rw [if_neg nz1]
      by_cases k3 : -9999 ≤ c ∧ c ≤ 9999
      case neg => rw [(g_shown_f c0 c1 k3).1, Option.bind_some]; exact if_pos zz0
      rw [(g_shown_t c0 c1 k3).1, Option.bind_some]
      dsimp only
      rw [if_neg nz1]
      by_cases k4 : -9999 ≤ d ∧ d ≤ 9999
      case neg => rw [(g_shown_f d0 d1 k4).1, Option.bind_some]; exact if_pos zz0
      rw [(g_shown_t d0 d1 k4).1, Option.bind_some]
      dsimp only
      rw [if_neg nz1, iz0, iz1, iz2, it_eq_f (by omega) (by omega) (by omega) (by omega) (by omega), it_eq_f (by omega) (by omega) (by omega) (by omega) (by omega), it_eq_f (by omega) (by omega) (by omega) (by omega) (by omega)]
    · unfold f262 f262_39
      rw [ifg_pos O_101, e5]
      by_cases k2 : -9999 ≤ a ∧ a ≤ 9999
      case neg => rw [(g_shown_f a0 a1 k2).2, Option.bind_some]; exact if_pos zz0
      rw [(g_shown_t a0 a1 k2).2, Option.bind_some]
      dsimp only
      rw [if_neg nz1]
      by_cases k3 : -9999 ≤ c ∧ c ≤ 9999
      case neg => rw [(g_shown_f c0 c1 k3).2, Option.bind_some]; exact if_pos zz0
      rw [(g_shown_t c0 c1 k3).2, Option.bind_some]
      dsimp only
      rw [if_neg nz1]
      by_cases k4 : -9999 ≤ d ∧ d ≤ 9999
      case neg => rw [(g_shown_f d0 d1 k4).2, Option.bind_some]; exact if_pos zz0
      rw [(g_shown_t d0 d1 k4).2, Option.bind_some]
      dsimp only
      rw [if_neg nz1]
      by_cases k5 : 0 ≤ w ∧ w ≤ 2
      case neg => rw [iz0, iz2, g_in_f w0 w1 (by omega) (by omega) (by omega) (by omega) k5, Option.bind_some]; exact if_pos rfl
      rw [show f195 (iz w) 0 2 s = some (s, iz 1) by rw [iz0, iz2]; exact g_in_t w0 w1 (by omega) (by omega) (by omega) (by omega) k5, Option.bind_some]
      dsimp only
      rw [if_neg nz1, g_mpart_f p0 p1 (by omega), Option.bind_some]
      exact if_pos zz0
  by_cases g : (0 ≤ p ∧ p ≤ 1) ∧ (-9999 ≤ a ∧ a ≤ 9999) ∧ (-9999 ≤ c ∧ c ≤ 9999) ∧ (-9999 ≤ d ∧ d ≤ 9999) ∧ (0 ≤ w ∧ w ≤ 2)
  · obtain ⟨k1, k2, k3, k4, k5⟩ := g
    clear cls
    have t1 := g_shown_t (s := s) a0 a1 k2
    have t2 := g_shown_t (s := s) c0 c1 k3
    have t3 := g_shown_t (s := s) d0 d1 k4
    unfold f148 f262 f262_75
    rw [ifg_pos O_0, ifg_pos O_101, e2]
    by_cases q0 : w = 0
    · simp (disch := omega) only [iz0, iz1, iz2, iz3, iz4, iz5, iz7, iz8, iz9, iz10, iz15, iz20, iz25, iz30, iz40, iz49, iz99, iz100, iz300, iz343, iz500, iz999, iz1000, iz1200, iz_add, iz_sub, iz_mul, iz_neg, it_le_t, it_le_f, it_lt_t, it_lt_f, it_eq_t, it_eq_f, bz0, bz1, ifg_T, or_true, true_or, if_true, if_false, Option.bind_some, Option.map_some, g_part_t, g_mpart_t, g_in_t, t1.1, t1.2, t2.1, t2.2, t3.1, t3.2, iz_l, lowC, lowM]
      exact ⟨_, rfl, rfl⟩
    · by_cases q1 : w = 1
      · simp (disch := omega) only [iz0, iz1, iz2, iz3, iz4, iz5, iz7, iz8, iz9, iz10, iz15, iz20, iz25, iz30, iz40, iz49, iz99, iz100, iz300, iz343, iz500, iz999, iz1000, iz1200, iz_add, iz_sub, iz_mul, iz_neg, it_le_t, it_le_f, it_lt_t, it_lt_f, it_eq_t, it_eq_f, bz0, bz1, ifg_T, or_true, true_or, if_true, if_false, Option.bind_some, Option.map_some, g_part_t, g_mpart_t, g_in_t, t1.1, t1.2, t2.1, t2.2, t3.1, t3.2, iz_l, lowC, lowM]
        exact ⟨_, rfl, rfl⟩
      · simp (disch := omega) only [iz0, iz1, iz2, iz3, iz4, iz5, iz7, iz8, iz9, iz10, iz15, iz20, iz25, iz30, iz40, iz49, iz99, iz100, iz300, iz343, iz500, iz999, iz1000, iz1200, iz_add, iz_sub, iz_mul, iz_neg, it_le_t, it_le_f, it_lt_t, it_lt_f, it_eq_t, it_eq_f, bz0, bz1, ifg_T, or_true, true_or, if_true, if_false, Option.bind_some, Option.map_some, g_part_t, g_mpart_t, g_in_t, t1.1, t1.2, t2.1, t2.2, t3.1, t3.2, iz_l, lowC, lowM]
        exact ⟨_, rfl, rfl⟩
  · exact ⟨_, cls (by omega)⟩
end SJ
