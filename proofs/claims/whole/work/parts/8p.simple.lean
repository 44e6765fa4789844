/-! cut, clear, fits, tight, square, fault, end, about: both sides -/
section SI
variable {s : xS} {b n pl : Nat} {red slip : Int} {x : sS} {W S : Nat → Int} {st : Int32} {rc : Nat} {Rs : Nat → Rn}
theorem HnI.ct (h : HnI s) : ∃ m A T, Ct s 86 2 87 88 m A T ∧ Ct s 101 74 144 145 m A T := by
  obtain ⟨m, a1, a2, a3, a4⟩ := h
  refine ⟨m, fun k => (s.1 87 k).toInt, fun k => (s.1 88 k).toInt, ⟨a1, a2, fun j hj => ?_⟩, ⟨a1, a3, fun j hj => ?_⟩⟩
  · obtain ⟨-, -, a, t, e1, e2, b1, b2, b3, b4⟩ := a4 j hj
    dsimp only
    rw [e1, e2, iz_t (by omega) (by omega), iz_t (by omega) (by omega)]
    exact ⟨rfl, rfl, b1, b2, b3, b4⟩
  · obtain ⟨c1, c2, a, t, e1, e2, b1, b2, b3, b4⟩ := a4 j hj
    dsimp only
    rw [c1, c2, e1, e2, iz_t (by omega) (by omega), iz_t (by omega) (by omega)]
    exact ⟨rfl, rfl, b1, b2, b3, b4⟩
def FHn (id k : Nat) : Bool := (id == 86 && k == 2) || id == 87 || id == 88 || (id == 101 && k == 74) || id == 144 || id == 145
theorem c_fits (h : HnI s) : ∃ v, f151 0 s = some (s, v) ∧ f276 101 s = some (s, v) := by
  obtain ⟨m, A, T, h1, h2⟩ := h.ct
  refine ⟨iz (cO m A T 6), ?_, hm_fits h2⟩
  unfold f151
  rw [ifg_pos O_0, R_0_12, Option.bind_some, hc_fits h1]
  rfl
theorem c_tight (h : HnI s) {w : Int} (w0 : -2147483648 ≤ w) (w1 : w ≤ 2147483647) : ∃ v, f152 0 (iz w) s = some (s, v) ∧ f277 101 (iz w) s = some (s, v) := by
  obtain ⟨m, A, T, h1, h2⟩ := h.ct
  unfold f152 f152_20 f152_27 f277
  rw [ifg_pos O_0, ifg_pos O_101]
  by_cases g : 0 ≤ w ∧ w ≤ 1
  · have hw : w = 0 ∨ w = 1 := by omega
    obtain ⟨r1, e1, e2, e3⟩ := hc_tight h1 hw
    obtain ⟨r2, g1, g2, g3⟩ := hm_tight h2 hw
    refine ⟨r1.2, ?_, ?_⟩
    · unfold f24
      rcases hw with rfl | rfl
      · rw [if_pos rfl] at e1
        simp (disch := omega) only [R_0_12, iz0, iz1, iz2, iz3, iz4, iz5, iz7, iz8, iz9, iz10, iz15, iz20, iz25, iz30, iz40, iz49, iz99, iz100, iz300, iz343, iz500, iz999, iz1000, iz1200, iz_add, iz_sub, iz_mul, iz_neg, it_le_t, it_le_f, it_lt_t, it_lt_f, it_eq_t, it_eq_f, bz0, bz1, ifg_T, or_true, true_or, if_true, if_false, Option.bind_some, Option.map_some, g_part_t]
        rw [ifg_pos O_86, e1]
        simp only [Option.bind_some]
        rw [e2]
      · rw [if_neg (by decide)] at e1
        simp (disch := omega) only [R_0_12, iz0, iz1, iz2, iz3, iz4, iz5, iz7, iz8, iz9, iz10, iz15, iz20, iz25, iz30, iz40, iz49, iz99, iz100, iz300, iz343, iz500, iz999, iz1000, iz1200, iz_add, iz_sub, iz_mul, iz_neg, it_le_t, it_le_f, it_lt_t, it_lt_f, it_eq_t, it_eq_f, bz0, bz1, ifg_T, or_true, true_or, if_true, if_false, Option.bind_some, Option.map_some, g_part_t]
        rw [ifg_pos O_86, e1]
        simp only [Option.bind_some]
        rw [e2]
    · simp (disch := omega) only [iz0, iz1, iz2, iz3, iz4, iz5, iz7, iz8, iz9, iz10, iz15, iz20, iz25, iz30, iz40, iz49, iz99, iz100, iz300, iz343, iz500, iz999, iz1000, iz1200, iz_add, iz_sub, iz_mul, iz_neg, it_le_t, it_le_f, it_lt_t, it_lt_f, it_eq_t, it_eq_f, bz0, bz1, ifg_T, or_true, true_or, if_true, if_false, Option.bind_some, Option.map_some, g_in_t]
      rw [g1, tgt_u e3 g3, ← g2]
  · refine ⟨iz (-1), ?_, ?_⟩
    · simp (disch := omega) only [iz0, iz1, iz2, iz3, iz4, iz5, iz7, iz8, iz9, iz10, iz15, iz20, iz25, iz30, iz40, iz49, iz99, iz100, iz300, iz343, iz500, iz999, iz1000, iz1200, iz_add, iz_sub, iz_mul, iz_neg, it_le_t, it_le_f, it_lt_t, it_lt_f, it_eq_t, it_eq_f, bz0, bz1, ifg_T, or_true, true_or, if_true, if_false, Option.bind_some, Option.map_some, g_part_f]
    · simp (disch := omega) only [iz0, iz1, iz2, iz3, iz4, iz5, iz7, iz8, iz9, iz10, iz15, iz20, iz25, iz30, iz40, iz49, iz99, iz100, iz300, iz343, iz500, iz999, iz1000, iz1200, iz_add, iz_sub, iz_mul, iz_neg, it_le_t, it_le_f, it_lt_t, it_lt_f, it_eq_t, it_eq_f, bz0, bz1, ifg_T, or_true, true_or, if_true, if_false, Option.bind_some, Option.map_some, g_in_f]
theorem c_clear (h : HnI s) : ok (f150 0 s) (fun r1 => ok (f274 101 r1.1) (fun r2 => r2.2 = r1.2 ∧ HnI r2.1 ∧ fr FHn s r2.1)) := by
  obtain ⟨m, a1, a2, a3, a4⟩ := h
  unfold f150 f274
  rw [ifg_pos O_0]
  simp only [R_0_12, Option.bind_some, pI, ok_some]
  rw [ifg_pos O_101]
  simp only [ok_some, iz0]
  refine ⟨?_, ⟨0, by omega, ?_, ?_, fun k hk => by omega⟩, ((fr.rf _ _).ui rfl).ui rfl⟩
  · rw [up_id _ _ (by omega), a2, a3]
  · simp (disch := omega) only [up_id, up_eq]; rfl
  · dsimp only; rw [up_eq]; rfl
theorem c_cut (h : HnI s) {a t : Int} (a0 : -2147483648 ≤ a) (a1 : a ≤ 2147483647) (t0 : -2147483648 ≤ t) (t1 : t ≤ 2147483647) : ok (f149 0 (iz a) (iz t) s) (fun r1 => ok (f273 101 (iz a) (iz t) r1.1) (fun r2 => r2.2 = r1.2 ∧ HnI r2.1 ∧ fr FHn s r2.1)) := by
  have h' := h
  obtain ⟨m, m40, e2, e3, e4⟩ := h
  unfold f149 f21 f21_30
  rw [ifg_pos O_0]
  simp only [R_0_12, Option.bind_some]
  rw [ifg_pos O_86]
  by_cases g : (1 ≤ a ∧ a ≤ 9) ∧ (0 ≤ t ∧ t ≤ 99) ∧ m < 40
  · obtain ⟨⟨g1, g2⟩, ⟨g3, g4⟩, g5⟩ := g
    simp (disch := omega) only [R_86_0, R_86_1, W_87, W_88, iz0, iz1, iz2, iz3, iz4, iz5, iz7, iz8, iz9, iz10, iz15, iz20, iz25, iz30, iz40, iz49, iz99, iz100, iz300, iz343, iz500, iz999, iz1000, iz1200, iz_add, iz_sub, iz_mul, iz_neg, it_le_t, it_le_f, it_lt_t, it_lt_f, it_eq_t, it_eq_f, bz0, bz1, ifg_T, or_true, true_or, if_true, if_false, Option.bind_some, Option.map_some, iz_in, iz_n, nat_toNat, e2, pI, up_id, up_eq, ok_some]
    unfold f273
    rw [ifg_pos O_101]
    simp (disch := omega) only [R_101_72, R_101_73, W_144, W_145, iz0, iz1, iz2, iz3, iz4, iz5, iz7, iz8, iz9, iz10, iz15, iz20, iz25, iz30, iz40, iz49, iz99, iz100, iz300, iz343, iz500, iz999, iz1000, iz1200, iz_add, iz_sub, iz_mul, iz_neg, it_le_t, it_le_f, it_lt_t, it_lt_f, it_eq_t, it_eq_f, bz0, bz1, ifg_T, or_true, true_or, if_true, if_false, Option.bind_some, Option.map_some, iz_in, iz_n, nat_toNat, g_in_t, up_id, up_ix, up_eq, e3, pI, ok_some, true_and]
    refine ⟨⟨m + 1, by omega, ?_, ?_, fun k hk => ?_⟩, ?_⟩
    · simp (disch := omega) only [up_id, up_eq]; rfl
    · simp (disch := omega) only [up_eq]; rfl
    · by_cases q : k = m
      · subst q
        simp (disch := omega) only [up_id, up_eq, true_and]
        exact ⟨a, t, rfl, rfl, g1, g2, g3, g4⟩
      · simp (disch := omega) only [up_id, up_ix]
        exact e4 k (by omega)
    · exact (((((((fr.rf _ _).ui rfl).ui rfl).ui rfl).ui rfl).ui rfl).ui rfl)
  · have fin : ok (f273 101 (iz a) (iz t) s) (fun r2 => r2.2 = iz (-1) ∧ HnI r2.1 ∧ fr FHn s r2.1) := by
      unfold f273 f273_29
      rw [ifg_pos O_101]
      by_cases k1 : 1 ≤ a ∧ a ≤ 9
      case neg =>
        simp (disch := omega) only [iz0, iz1, iz2, iz3, iz4, iz5, iz7, iz8, iz9, iz10, iz15, iz20, iz25, iz30, iz40, iz49, iz99, iz100, iz300, iz343, iz500, iz999, iz1000, iz1200, iz_add, iz_sub, iz_mul, iz_neg, it_le_t, it_le_f, it_lt_t, it_lt_f, it_eq_t, it_eq_f, bz0, bz1, ifg_T, or_true, true_or, if_true, if_false, Option.bind_some, Option.map_some, g_in_f, ok_some, true_and]
        exact ⟨h', fr.rf _ _⟩
      by_cases k2 : 0 ≤ t ∧ t ≤ 99
      case neg =>
        rw [iz1, iz9, g_in_t a0 a1 (by omega) (by omega) (by omega) (by omega) k1]
        simp (disch := omega) only [iz0, iz1, iz2, iz3, iz4, iz5, iz7, iz8, iz9, iz10, iz15, iz20, iz25, iz30, iz40, iz49, iz99, iz100, iz300, iz343, iz500, iz999, iz1000, iz1200, iz_add, iz_sub, iz_mul, iz_neg, it_le_t, it_le_f, it_lt_t, it_lt_f, it_eq_t, it_eq_f, bz0, bz1, ifg_T, or_true, true_or, if_true, if_false, Option.bind_some, Option.map_some, g_in_f, ok_some, true_and]
        exact ⟨h', fr.rf _ _⟩
      simp (disch := omega) only [iz0, iz1, iz2, iz3, iz4, iz5, iz7, iz8, iz9, iz10, iz15, iz20, iz25, iz30, iz40, iz49, iz99, iz100, iz300, iz343, iz500, iz999, iz1000, iz1200, iz_add, iz_sub, iz_mul, iz_neg, it_le_t, it_le_f, it_lt_t, it_lt_f, it_eq_t, it_eq_f, bz0, bz1, ifg_T, or_true, true_or, if_true, if_false, Option.bind_some, Option.map_some, g_in_t, e3, ok_some, true_and]
      exact ⟨h', fr.rf _ _⟩
    by_cases k1 : 1 ≤ a
    case neg =>
      simp (disch := omega) only [iz0, iz1, iz2, iz3, iz4, iz5, iz7, iz8, iz9, iz10, iz15, iz20, iz25, iz30, iz40, iz49, iz99, iz100, iz300, iz343, iz500, iz999, iz1000, iz1200, iz_add, iz_sub, iz_mul, iz_neg, it_le_t, it_le_f, it_lt_t, it_lt_f, it_eq_t, it_eq_f, bz0, bz1, ifg_T, or_true, true_or, if_true, if_false, Option.bind_some, Option.map_some, ok_some]
      exact fin
    by_cases k2 : a ≤ 9
    case neg =>
      simp (disch := omega) only [iz0, iz1, iz2, iz3, iz4, iz5, iz7, iz8, iz9, iz10, iz15, iz20, iz25, iz30, iz40, iz49, iz99, iz100, iz300, iz343, iz500, iz999, iz1000, iz1200, iz_add, iz_sub, iz_mul, iz_neg, it_le_t, it_le_f, it_lt_t, it_lt_f, it_eq_t, it_eq_f, bz0, bz1, ifg_T, or_true, true_or, if_true, if_false, Option.bind_some, Option.map_some, ok_some]
      exact fin
    by_cases k3 : 0 ≤ t
    case neg =>
      simp (disch := omega) only [iz0, iz1, iz2, iz3, iz4, iz5, iz7, iz8, iz9, iz10, iz15, iz20, iz25, iz30, iz40, iz49, iz99, iz100, iz300, iz343, iz500, iz999, iz1000, iz1200, iz_add, iz_sub, iz_mul, iz_neg, it_le_t, it_le_f, it_lt_t, it_lt_f, it_eq_t, it_eq_f, bz0, bz1, ifg_T, or_true, true_or, if_true, if_false, Option.bind_some, Option.map_some, ok_some]
      exact fin
    by_cases k4 : t ≤ 99
    case neg =>
      simp (disch := omega) only [iz0, iz1, iz2, iz3, iz4, iz5, iz7, iz8, iz9, iz10, iz15, iz20, iz25, iz30, iz40, iz49, iz99, iz100, iz300, iz343, iz500, iz999, iz1000, iz1200, iz_add, iz_sub, iz_mul, iz_neg, it_le_t, it_le_f, it_lt_t, it_lt_f, it_eq_t, it_eq_f, bz0, bz1, ifg_T, or_true, true_or, if_true, if_false, Option.bind_some, Option.map_some, ok_some]
      exact fin
    simp (disch := omega) only [iz0, iz1, iz2, iz3, iz4, iz5, iz7, iz8, iz9, iz10, iz15, iz20, iz25, iz30, iz40, iz49, iz99, iz100, iz300, iz343, iz500, iz999, iz1000, iz1200, iz_add, iz_sub, iz_mul, iz_neg, it_le_t, it_le_f, it_lt_t, it_lt_f, it_eq_t, it_eq_f, bz0, bz1, ifg_T, or_true, true_or, if_true, if_false, Option.bind_some, Option.map_some, e2, ok_some]
    exact fin
end SI
