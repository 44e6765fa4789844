/-! hidden: takeRow at the class -/
def F85 (id _k : Nat) : Bool := id == 85
def tkR (c : Nat) (R E : Nat → Nat) (j : Nat) : Nat := if c ≤ j then (R j + (1000003 - R c) * E j) % 1000003 else R j
theorem ce_take {s : xS} {c K : Nat} {R E : Nat → Nat} (hc : c < K) (hK : K ≤ 130) (hR : ∀ j, j < K → s.1 85 j = iz (R j) ∧ R j < 1000003) (hE : ∀ j, c ≤ j → j < K → s.1 83 (c * 130 + j) = iz (E j) ∧ E j < 1000003) : ok (f17 82 (iz c) (iz K) s) (fun r => fr F85 s r.1 ∧ ∀ j, j < K → r.1.1 85 j = iz (tkR c R E j) ∧ tkR c R E j < 1000003) := by
  have LP : (1000003 : Int32) = iz ((1000003 : Nat) : Int) := rfl
  have LL : (1000003 : Int64) = lz ((1000003 : Nat) : Int) := rfl
  have L130 : (130 : Int32) = iz ((130 : Nat) : Int) := rfl
  have rc := hR c hc
  unfold f17
  rw [ifg_pos O_82]
  simp (disch := omega) only [R_82_5, A_85, iz_in, iz_n, nat_toNat, iz0, iz1, iz2, iz3, iz4, iz5, iz7, iz8, iz9, iz10, iz15, iz20, iz25, iz30, iz40, iz49, iz99, iz100, iz300, iz343, iz500, iz999, iz1000, iz1200, iz_add, iz_sub, iz_mul, iz_neg, it_le_t, it_le_f, it_lt_t, it_lt_f, it_eq_t, it_eq_f, bz0, bz1, ifg_T, or_true, true_or, if_true, if_false, Option.bind_some, Option.map_some, rc.1, LP, L130]
  refine (forz (fun m w => fr F85 s w ∧ ∀ j, j < K → w.1 85 j = iz ((if j < m then tkR c R E j else R j : Nat) : Int)) c K (by omega) (by omega) ⟨fr.rf _ _, fun j hj => ?_⟩ (fun m w m0 hm ⟨h1, h2⟩ => ?_) (fun w ⟨h1, h2⟩ => ?_))
  · rw [(hR j hj).1]
    unfold tkR
    by_cases q : j < c
    · rw [if_pos q, if_neg (by omega)]
    · rw [if_neg q]
  · obtain ⟨e1, e2⟩ := hE m m0 hm
    obtain ⟨g1, g2⟩ := hR m hm
    have k1 : w.1 83 (c * 130 + m) = iz (E m) := by rw [h1.i 83 _ rfl]; exact e1
    have k2 := h2 m hm
    rw [if_neg (show ¬ m < m by omega)] at k2
    have ei : (c : Int) * ((130 : Nat) : Int) + m = ((c * 130 + m : Nat) : Int) := by push_cast; omega
    have nx : ∀ (v : Int32), v = iz ((tkR c R E m : Nat) : Int) → ∀ j, j < K → xm_up w.1 85 m v 85 j = iz ((if j < m + 1 then tkR c R E j else R j : Nat) : Int) := fun v hv j hj => by
      by_cases q : j = m
      · subst q
        rw [up_eq, if_pos (by omega), hv]
      · rw [up_ix _ _ q, h2 j hj]
        by_cases r : j < m
        · rw [if_pos r, if_pos (by omega)]
        · rw [if_neg r, if_neg (by omega)]
    unfold f17_21 f17_74
    simp (disch := omega) only [iz0, iz1, iz2, iz3, iz4, iz5, iz7, iz8, iz9, iz10, iz15, iz20, iz25, iz30, iz40, iz49, iz99, iz100, iz300, iz343, iz500, iz999, iz1000, iz1200, iz_add, iz_sub, iz_mul, iz_neg, it_le_t, it_le_f, it_lt_t, it_lt_f, it_eq_t, it_eq_f, bz0, bz1, ifg_T, or_true, true_or, if_true, if_false, Option.bind_some, Option.map_some, R_82_3, R_82_5, A_83, A_85, ei, iz_in, iz_n, nat_toNat, k1, k2]
    by_cases q : E m = 0
    · simp (disch := omega) only [iz0, iz1, iz2, iz3, iz4, iz5, iz7, iz8, iz9, iz10, iz15, iz20, iz25, iz30, iz40, iz49, iz99, iz100, iz300, iz343, iz500, iz999, iz1000, iz1200, iz_add, iz_sub, iz_mul, iz_neg, it_le_t, it_le_f, it_lt_t, it_lt_f, it_eq_t, it_eq_f, bz0, bz1, ifg_T, or_true, true_or, if_true, if_false, Option.bind_some, Option.map_some, ok_some, ok_map, lp_l, lp_r, lpA_l, lpA_r, true_and]
      refine ⟨h1, fun j hj => ?_⟩
      rw [h2 j hj]
      by_cases r : j < m
      · rw [if_pos r, if_pos (by omega)]
      · rw [if_neg r]
        by_cases r2 : j = m
        · subst r2
          rw [if_pos (by omega)]
          unfold tkR
          rw [if_pos m0, q, Nat.mul_zero, Nat.add_zero, Nat.mod_eq_of_lt g2]
        · rw [if_neg (by omega)]
    · have b2 := Nat.mul_le_mul (show 1000003 - R c ≤ 1000003 by omega) (show E m ≤ 1000003 by omega)
      have eq : ((R m : Int) + (((1000003 : Nat) : Int) - (R c : Int)) * (E m : Int)) = ((R m + (1000003 - R c) * E m : Nat) : Int) := by
        rw [Int.natCast_add, Int.natCast_mul, Int.natCast_sub (by omega)]
      have lt := Nat.mod_lt (R m + (1000003 - R c) * E m) (show 0 < 1000003 by omega)
      have hv : (lrm (lz (R m) + lz (((1000003 : Nat) : Int) - (R c : Int)) * lz (E m)) (1000003 : Int64)).toInt32 = iz ((tkR c R E m : Nat) : Int) := by
        rw [lz_mul, lz_add, eq, LL, lz_remN (by omega) (by omega) (by omega), lz_i (by omega) (by omega)]
        unfold tkR
        rw [if_pos m0]
      simp (disch := omega) only [iz0, iz1, iz2, iz3, iz4, iz5, iz7, iz8, iz9, iz10, iz15, iz20, iz25, iz30, iz40, iz49, iz99, iz100, iz300, iz343, iz500, iz999, iz1000, iz1200, iz_add, iz_sub, iz_mul, iz_neg, it_le_t, it_le_f, it_lt_t, it_lt_f, it_eq_t, it_eq_f, bz0, bz1, ifg_T, or_true, true_or, if_true, if_false, Option.bind_some, Option.map_some, iz_l, W_85, iz_in, iz_n, nat_toNat, hv, ok_some, ok_map, lp_l, lp_r, lpA_l, lpA_r, true_and]
      exact ⟨h1.ui rfl, nx _ rfl⟩
  · unfold f17_21
    simp (disch := omega) only [iz0, iz1, iz2, iz3, iz4, iz5, iz7, iz8, iz9, iz10, iz15, iz20, iz25, iz30, iz40, iz49, iz99, iz100, iz300, iz343, iz500, iz999, iz1000, iz1200, iz_add, iz_sub, iz_mul, iz_neg, it_le_t, it_le_f, it_lt_t, it_lt_f, it_eq_t, it_eq_f, bz0, bz1, ifg_T, or_true, true_or, if_true, if_false, Option.bind_some, Option.map_some, ok_some, ok_map, lp_l, lp_r, lpA_l, lpA_r, true_and]
    refine ⟨h1, fun j hj => ⟨?_, ?_⟩⟩
    · rw [h2 j hj, if_pos hj]
    · unfold tkR
      split
      · exact Nat.mod_lt _ (by omega)
      · exact (hR j hj).2
