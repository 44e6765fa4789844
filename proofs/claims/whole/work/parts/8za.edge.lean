/-! edge: the class -/
section EC
variable {s : xS} {n : Nat}
def tr : Nat → Int
  | 0 => 0
  | k + 1 => tr k + k
def EPt (s : xS) (z : Nat → Int) (k : Nat) : Prop := s.1 40 5 = iz k ∧ s.1 40 6 = iz (tr k) ∧ ∀ j, j < k → s.1 41 j = iz j ∧ s.1 42 j = iz 0 ∧ s.1 43 j = iz (z j)
def FQ (id k : Nat) : Bool := (id == 40 && Nat.ble 8 k) || id == 45
theorem FQ_FL (id k : Nat) (h : FQ id k = true) : FL id k = true := by
  unfold FQ at h
  unfold FL
  simp only [Bool.or_eq_true, Bool.and_eq_true, beq_iff_eq, Nat.ble_eq] at h ⊢
  omega
theorem EPt.fr {s' : xS} {z : Nat → Int} {k : Nat} (h : EPt s z k) (hf : fr FQ s s') : EPt s' z k := ⟨by rw [hf.i 40 5 rfl]; exact h.1, by rw [hf.i 40 6 rfl]; exact h.2.1, fun j hj => by rw [hf.i 41 j rfl, hf.i 42 j rfl, hf.i 43 j rfl]; exact h.2.2 j hj⟩
def ES (s : xS) (z : Nat → Int) (i j : Nat) : Prop := s.1 40 11 = iz ((j : Int) - i) ∧ s.1 40 9 = iz (z j - z i) ∧ s.1 40 10 = iz 0 ∧ s.1 40 8 = iz (z i * ((j : Int) - i) - (z j - z i) * i)
theorem ce_str {z : Nat → Int} (h : EPt s z n) (n5 : n ≤ 5) {i j : Nat} (hi : i < n) (hj : j < n) : ok (f58 40 (iz i) (iz j) s) (fun r => fr FQ s r.1 ∧ ES r.1 z i j) := by
  obtain ⟨x1, y1, z1⟩ := h.2.2 i hi
  obtain ⟨x2, y2, z2⟩ := h.2.2 j hj
  unfold f58
  rw [ifg_pos O_40]
  simp (disch := omega) only [R_40_0, R_40_2, A_41, A_43, iz0, iz1, iz2, iz3, iz4, iz5, iz7, iz8, iz9, iz10, iz15, iz20, iz25, iz30, iz40, iz49, iz99, iz100, iz300, iz343, iz500, iz999, iz1000, iz1200, iz_add, iz_sub, iz_mul, iz_neg, it_le_t, it_le_f, it_lt_t, it_lt_f, it_eq_t, it_eq_f, bz0, bz1, ifg_T, or_true, true_or, if_true, if_false, Option.bind_some, Option.map_some, iz_in, iz_n, nat_toNat, pI, x1, x2, z1, z2, up_id, up_ix, up_eq, ok_some]
  refine ⟨((((fr.rf _ _).ui rfl).ui rfl).ui rfl).ui rfl, ?_, ?_, ?_, ?_⟩
  all_goals simp (disch := omega) only [up_ix, up_eq]
theorem ce_above {z : Nat → Int} (h : EPt s z n) (hz : Zy n z) (n5 : n ≤ 5) {i j : Nat} (hi : i < j) (hj : j < n) (hE : ES s z i j) : ok (f51 40 s) (fun r => fr FQ s r.1 ∧ ES r.1 z i j ∧ r.2 = (if va z n i j = true then iz (-1) else r.2) ∧ (va z n i j = false → ∃ m : Nat, m < n ∧ r.2 = iz m) ∧ (va z n i j = true → ∀ k, k < n → r.1.1 45 k = iz (gp z i j k))) := by
  unfold f51
  rw [ifg_pos O_40]
  simp only [iz0]
  refine forz (fun k w => fr FQ s w ∧ ES w z i j ∧ ∀ m, m < k → 0 ≤ gp z i j m ∧ w.1 45 m = iz (gp z i j m)) 0 n (by omega) (by omega) ⟨fr.rf _ _, hE, fun m hm => by omega⟩ (fun k w _ hk ⟨h1, h2, h3⟩ => ?_) (fun w ⟨h1, h2, h3⟩ => ?_)
  · have hw := h.fr h1
    obtain ⟨x1, y1, z1⟩ := hw.2.2 k hk
    obtain ⟨e1, e2, e3, e4⟩ := h2
    have gb := gp_bd hz n5 hi hj hk
    have ge : iz ((z i * ((j : Int) - i) - (z j - z i) * i) + (z j - z i) * k + 0 * 0 - z k * ((j : Int) - i)) = iz (gp z i j k) := rfl
    unfold f51_2
    simp (disch := omega) only [iz0, iz1, iz2, iz3, iz4, iz5, iz7, iz8, iz9, iz10, iz15, iz20, iz25, iz30, iz40, iz49, iz99, iz100, iz300, iz343, iz500, iz999, iz1000, iz1200, iz_add, iz_sub, iz_mul, iz_neg, it_le_t, it_le_f, it_lt_t, it_lt_f, it_eq_t, it_eq_f, bz0, bz1, ifg_T, or_true, true_or, if_true, if_false, Option.bind_some, Option.map_some, iz_in, iz_n, nat_toNat, hw.1, R_40_4, R_40_0, R_40_1, R_40_2, A_41, A_42, A_43, x1, y1, z1, e1, e2, e3, e4, W_45, A_45, up_eq, ge]
    have f1 : fr FQ s (xm_up w.1 45 k (iz (gp z i j k)), w.2) := h1.ui rfl
    have f2 : ES (xm_up w.1 45 k (iz (gp z i j k)), w.2) z i j := by
      refine ⟨?_, ?_, ?_, ?_⟩ <;> simp (disch := omega) only [up_id, e1, e2, e3, e4]
    by_cases q : 0 ≤ gp z i j k
    · simp (disch := omega) only [iz0, iz1, iz2, iz3, iz4, iz5, iz7, iz8, iz9, iz10, iz15, iz20, iz25, iz30, iz40, iz49, iz99, iz100, iz300, iz343, iz500, iz999, iz1000, iz1200, iz_add, iz_sub, iz_mul, iz_neg, it_le_t, it_le_f, it_lt_t, it_lt_f, it_eq_t, it_eq_f, bz0, bz1, ifg_T, or_true, true_or, if_true, if_false, Option.bind_some, Option.map_some, ok_some, ok_map, lp_l, lp_r, lpA_l, lpA_r, true_and]
      refine ⟨f1, f2, fun m hm => ?_⟩
      by_cases r : m = k
      · subst r
        exact ⟨q, by simp only [up_eq]⟩
      · simp (disch := omega) only [up_ix]
        exact h3 m (by omega)
    · have : va z n i j = false := by
        unfold va
        rw [decide_eq_false_iff_not]
        exact fun r => q (r k hk)
      simp (disch := omega) only [iz0, iz1, iz2, iz3, iz4, iz5, iz7, iz8, iz9, iz10, iz15, iz20, iz25, iz30, iz40, iz49, iz99, iz100, iz300, iz343, iz500, iz999, iz1000, iz1200, iz_add, iz_sub, iz_mul, iz_neg, it_le_t, it_le_f, it_lt_t, it_lt_f, it_eq_t, it_eq_f, bz0, bz1, ifg_T, or_true, true_or, if_true, if_false, Option.bind_some, Option.map_some, ok_some, ok_map, lp_l, lp_r, lpA_l, lpA_r, true_and]
      rw [this]
      exact ⟨f1, f2, by rw [if_neg (by decide)], fun _ => ⟨k, hk, rfl⟩, fun r => by cases r⟩
  · have hw := h.fr h1
    have : va z n i j = true := by
      unfold va
      rw [decide_eq_true_eq]
      exact fun k hk => (h3 k hk).1
    unfold f51_2
    simp (disch := omega) only [iz0, iz1, iz2, iz3, iz4, iz5, iz7, iz8, iz9, iz10, iz15, iz20, iz25, iz30, iz40, iz49, iz99, iz100, iz300, iz343, iz500, iz999, iz1000, iz1200, iz_add, iz_sub, iz_mul, iz_neg, it_le_t, it_le_f, it_lt_t, it_lt_f, it_eq_t, it_eq_f, bz0, bz1, ifg_T, or_true, true_or, if_true, if_false, Option.bind_some, Option.map_some, hw.1, ok_some, ok_map, lp_l, lp_r, lpA_l, lpA_r, true_and]
    rw [this]
    exact ⟨h1, h2, by rw [if_pos rfl], (fun r => by cases r), fun _ k hk => (h3 k hk).2⟩
end EC
