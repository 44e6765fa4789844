/-! benches become others; the model's keep and bring -/
def FBm (id a _k : Nat) : Bool := a == id || a == id + 1 || a == id + 2 || a == id + 3
theorem fr.row {F : Nat → Nat → Bool} {s s' : xS} (h : fr F s s') {d : Nat} {r : Nat → Int32} (hk : ∀ k, F d k = true) : fr F s (xm_row s'.1 d r, s'.2) := fun a k hab => by
  have hn : a ≠ d := fun q => by subst q; rw [hk k] at hab; exact absurd hab (by decide)
  exact ⟨by show (if a = d then r else s'.1 a) k = _; rw [if_neg hn]; exact (h a k hab).1, (h a k hab).2⟩
theorem row_at (f : Nat → Nat → Int32) (d : Nat) (r : Nat → Int32) (k : Nat) : xm_row f d r d k = r k := by unfold xm_row; rw [if_pos rfl]
theorem row_ne (f : Nat → Nat → Int32) {d a : Nat} (r : Nat → Int32) (h : a ≠ d) (k : Nat) : xm_row f d r a k = f a k := by unfold xm_row; rw [if_neg h]
theorem cp100 {a d : Nat} (ka : hk_ks[a]? = some (20, 100)) (kd : hk_ks[d]? = some (20, 100)) (s : xS) : cpI s a 0 d 0 100 = some (xm_row s.1 d (va_cpy (s.1 a) (s.1 d) 0 0 100), s.2) := by
  have e0 : (0 : Int32).toNatClampNeg = 0 := by decide +kernel
  have e1 : (100 : Int32).toNatClampNeg = 100 := by decide +kernel
  unfold cpI
  rw [ka, kd]
  simp only [e0, e1]
  rw [if_pos (by refine ⟨trivial, trivial, by decide +kernel, by decide +kernel, by decide +kernel, by omega, by omega⟩)]
theorem cpy_at (f g : Nat → Int32) {k : Nat} (h : k < 100) : va_cpy f g 0 0 100 k = f k := by
  unfold va_cpy
  rw [if_pos ⟨by omega, by omega⟩]
  congr 1
  omega
theorem B_N {id : Nat} (h : isB id) : aN (id + 1) = some 100 ∧ aN (id + 2) = some 100 ∧ aN (id + 3) = some 100 := by rcases h with rfl | rfl | rfl | rfl | rfl | rfl | rfl | rfl <;> exact ⟨rfl, rfl, rfl⟩
set_option maxHeartbeats 400000 in
theorem cl_become {s : xS} {p q : Nat} (hp : isB p) (hq : isB q) (hne : p ≠ q) {y : sS} {W S : Nat → Int} {st : Int32} (h : BxC s q y W S st) : ok (f3 p q s) (fun r => fr (FBm p) s r.1 ∧ BxC r.1 p y W S st) := by
  obtain ⟨p1, p2, p3⟩ := B_ks hp
  obtain ⟨q1, q2, q3⟩ := B_ks hq
  obtain ⟨n1, n2, n3⟩ := B_N hp
  have far : q + 4 ≤ p ∨ p + 4 ≤ q := by
    rcases hp with rfl | rfl | rfl | rfl | rfl | rfl | rfl | rfl <;> rcases hq with rfl | rfl | rfl | rfl | rfl | rfl | rfl | rfl <;> omega
  obtain ⟨h1, h2, h3⟩ := h
  have F0 : ∀ k, FBm p p k = true := fun k => by simp [FBm]
  have F1' : ∀ k, FBm p (p + 1) k = true := fun k => by simp [FBm]
  have F2 : ∀ k, FBm p (p + 2) k = true := fun k => by simp [FBm]
  have F3 : ∀ k, FBm p (p + 3) k = true := fun k => by simp [FBm]
  unfold f3
  rw [ifg_pos (B_O hp), ifg_pos (B_O hq)]
  simp only [B_0 hp, B_1 hp, B_2 hp, B_0 hq, B_1 hq, B_2 hq, Option.bind_some, n1, n2, n3, cp100 q1 p1, cp100 q2 p2, cp100 q3 p3, pI, ok_some]
  refine ⟨((((((fr.rf _ _).row F1').row F2).row F3).ui (F0 3)).ui (F0 4)).ui (F0 5), fun k hk => ⟨?_, ?_, ?_⟩, ⟨fun k hk => ?_, ?_, ?_⟩, ?_⟩
  · simp (disch := omega) only [up_id, row_ne, row_at, cpy_at]; exact (h1 k hk).1
  · simp (disch := omega) only [up_id, row_ne, row_at, cpy_at]; exact (h1 k hk).2.1
  · simp (disch := omega) only [up_id, row_ne, row_at, cpy_at]; exact (h1 k hk).2.2
  · simp (disch := omega) only [up_id, row_ne, row_at, cpy_at]; exact h2.1 k hk
  · simp (disch := omega) only [up_id, up_ix, up_eq, row_ne]; exact h2.2.1
  · simp (disch := omega) only [up_id, up_ix, up_eq, row_ne]; exact h2.2.2
  · simp (disch := omega) only [up_id, up_ix, up_eq, row_ne]; exact h3
/-- keep: box q gets all -/
def FK (q id k : Nat) : Bool := (id == 129 && k == q) || ((id == 130 || id == 131) && Nat.ble (100 * q) k && Nat.ble (k + 1) (100 * q + 100)) || (id == 132 && k == q) || (id == 133 && k == q) || (id == 134 && k == q) || (id == 135 && Nat.ble (15 * q) k && Nat.ble (k + 1) (15 * q + 15)) || ((id == 136 || id == 137) && Nat.ble (5 * q) k && Nat.ble (k + 1) (5 * q + 5))
theorem bleT {a b : Nat} (h : a ≤ b) : Nat.ble a b = true := Nat.ble_eq_true_of_le h
theorem FK_130 {q k : Nat} (h : k < 100) : FK q 130 (100 * q + k) = true ∧ FK q 131 (100 * q + k) = true := by
  unfold FK
  rw [bleT (show 100 * q ≤ 100 * q + k by omega), bleT (show 100 * q + k + 1 ≤ 100 * q + 100 by omega)]
  simp
theorem FK_135 {q k : Nat} (h : k < 15) : FK q 135 (15 * q + k) = true := by
  unfold FK
  rw [bleT (show 15 * q ≤ 15 * q + k by omega), bleT (show 15 * q + k + 1 ≤ 15 * q + 15 by omega)]
  simp
theorem FK_136 {q k : Nat} (h : k < 5) : FK q 136 (5 * q + k) = true ∧ FK q 137 (5 * q + k) = true := by
  unfold FK
  rw [bleT (show 5 * q ≤ 5 * q + k by omega), bleT (show 5 * q + k + 1 ≤ 5 * q + 5 by omega)]
  simp
theorem FK_1 (q : Nat) : FK q 129 q = true ∧ FK q 132 q = true ∧ FK q 133 q = true ∧ FK q 134 q = true := by
  unfold FK
  simp
theorem nbz {v : Int32} (h : v = iz 0 ∨ v = iz 1) : vp_nar .boolean v = v := by
  rcases h with rfl | rfl
  · exact nb0
  · exact nb1
section KP
variable {s : xS} {b n pl : Nat} {red slip : Int} {x : sS} {W S : Nat → Int} {st : Int32} {rc : Nat} {Rs : Nat → Rn}
theorem MFg.z {ft so sd : Nat → Int32} (h : MFg ft so sd n S) {p : Nat} (hp : p < 4) : sd p = iz 0 ∨ sd p = iz 1 := by
  rcases h p hp with h | h
  · exact Or.inl h.1
  · exact Or.inr h.1
set_option maxHeartbeats 400000 in
theorem mo_keep (h : KM s b n pl red slip x W S st rc Rs) {q : Nat} (hq : q < 4) (hpl : pl ≤ 4) : ok (f245 101 (iz q) s) (fun r => fr (FK q) s r.1 ∧ BxM r.1 q n pl x W S st ∧ r.1.1 129 q = iz pl) := by
  obtain ⟨c1, c2, c3, c4, c5, c6, c7, c8, c9, c10, c11⟩ := h
  unfold f245
  rw [ifg_pos O_101]
  simp (disch := omega) only [R_101_52, R_101_12, A_105, W_129, c1.b_in, c1.b_nat, c2, iz0, iz1, iz2, iz3, iz4, iz5, iz7, iz8, iz9, iz10, iz15, iz20, iz25, iz30, iz40, iz49, iz99, iz100, iz300, iz343, iz500, iz999, iz1000, iz1200, iz_add, iz_sub, iz_mul, iz_neg, it_le_t, it_le_f, it_lt_t, it_lt_f, it_eq_t, it_eq_f, bz0, bz1, ifg_T, or_true, true_or, if_true, if_false, Option.bind_some, Option.map_some, iz_in, iz_n, nat_toNat]
  have keepF : ∀ w, fr (FK q) s w → (∀ k, w.1 113 k = s.1 113 k) ∧ (∀ k, w.1 114 k = s.1 114 k) ∧ (∀ k, w.1 115 k = s.1 115 k) ∧ (∀ k, w.1 116 k = s.1 116 k) ∧ (∀ k, w.1 117 k = s.1 117 k) ∧ w.1 101 27 = s.1 101 27 ∧ w.1 101 28 = s.1 101 28 ∧ w.1 101 29 = s.1 101 29 := fun w hw => ⟨fun k => hw.i _ _ rfl, fun k => hw.i _ _ rfl, fun k => hw.i _ _ rfl, fun k => hw.i _ _ rfl, fun k => hw.i _ _ rfl, hw.i _ _ rfl, hw.i _ _ rfl, hw.i _ _ rfl⟩
  have hsd : ∀ p, p < 5 → s.1 117 p = iz 0 ∨ s.1 117 p = iz 1 := fun p hp => by
    by_cases e : p = 4
    · subst e; exact Or.inl c11
    · exact MFg.z (n := n) (S := S) c5.2 (show p < 4 by omega)
  refine forz (fun j w => fr (FK q) s w ∧ w.1 129 q = iz pl ∧ ∀ k, k < j → w.1 130 (100 * q + k) = s.1 113 k ∧ w.1 131 (100 * q + k) = s.1 114 k) 0 100 (by omega) (by omega) ⟨(fr.rf _ _).ui (FK_1 q).1, by dsimp only; exact up_eq _ _ _ _, fun k hk => by omega⟩ (fun j w _ hj ⟨h1, h2, h3⟩ => ?_) (fun w ⟨h1, h2, h3⟩ => ?_)
  · obtain ⟨k1, k2, k3, k4, k5, k6, k7, k8⟩ := keepF w h1
    have en : (100 * (q : Int) + j).toNat = 100 * q + j := by omega
    unfold f245_17
    simp (disch := omega) only [R_101_53, R_101_54, R_101_20, R_101_21, A_113, A_114, W_130, W_131, iz0, iz1, iz2, iz3, iz4, iz5, iz7, iz8, iz9, iz10, iz15, iz20, iz25, iz30, iz40, iz49, iz99, iz100, iz300, iz343, iz500, iz999, iz1000, iz1200, iz_add, iz_sub, iz_mul, iz_neg, it_le_t, it_le_f, it_lt_t, it_lt_f, it_eq_t, it_eq_f, bz0, bz1, ifg_T, or_true, true_or, if_true, if_false, Option.bind_some, Option.map_some, iz_in, iz_n, nat_toNat, en, up_id, k1, k2, h2, ok_some, ok_map, lp_l, lp_r, lpA_l, lpA_r, true_and]
    refine ⟨(h1.ui (FK_130 hj).1).ui (FK_130 hj).2, fun k hk => ?_⟩
    by_cases e : k = j
    · subst e
      simp (disch := omega) only [up_eq, up_id, and_self]
    · simp (disch := omega) only [up_ix, up_id]
      exact h3 k (by omega)
  · unfold f245_17
    simp (disch := omega) only [iz0, iz1, iz2, iz3, iz4, iz5, iz7, iz8, iz9, iz10, iz15, iz20, iz25, iz30, iz40, iz49, iz99, iz100, iz300, iz343, iz500, iz999, iz1000, iz1200, iz_add, iz_sub, iz_mul, iz_neg, it_le_t, it_le_f, it_lt_t, it_lt_f, it_eq_t, it_eq_f, bz0, bz1, ifg_T, or_true, true_or, if_true, if_false, Option.bind_some, Option.map_some, ok_some, ok_map, lp_l, lp_r, lpA_l, lpA_r, true_and]
    refine forz (fun j w => fr (FK q) s w ∧ w.1 129 q = iz pl ∧ (∀ k, k < 100 → w.1 130 (100 * q + k) = s.1 113 k ∧ w.1 131 (100 * q + k) = s.1 114 k) ∧ ∀ k, k < j → w.1 135 (15 * q + k) = s.1 115 k) 0 15 (by omega) (by omega) ⟨h1, h2, h3, fun k hk => by omega⟩ (fun j w _ hj ⟨h1, h2, h3, h4⟩ => ?_) (fun w ⟨h1, h2, h3, h4⟩ => ?_)
    · obtain ⟨k1, k2, k3, k4, k5, k6, k7, k8⟩ := keepF w h1
      have en : (15 * (q : Int) + j).toNat = 15 * q + j := by omega
      unfold f245_65
      simp (disch := omega) only [R_101_58, R_101_22, A_115, W_135, iz0, iz1, iz2, iz3, iz4, iz5, iz7, iz8, iz9, iz10, iz15, iz20, iz25, iz30, iz40, iz49, iz99, iz100, iz300, iz343, iz500, iz999, iz1000, iz1200, iz_add, iz_sub, iz_mul, iz_neg, it_le_t, it_le_f, it_lt_t, it_lt_f, it_eq_t, it_eq_f, bz0, bz1, ifg_T, or_true, true_or, if_true, if_false, Option.bind_some, Option.map_some, iz_in, iz_n, nat_toNat, en, up_id, k3, h2, ok_some, ok_map, lp_l, lp_r, lpA_l, lpA_r, true_and]
      refine ⟨h1.ui (FK_135 hj), h3, fun k hk => ?_⟩
      by_cases e : k = j
      · subst e
        exact up_eq _ _ _ _
      · rw [up_ix _ _ (by omega)]
        exact h4 k (by omega)
    · unfold f245_65
      simp (disch := omega) only [iz0, iz1, iz2, iz3, iz4, iz5, iz7, iz8, iz9, iz10, iz15, iz20, iz25, iz30, iz40, iz49, iz99, iz100, iz300, iz343, iz500, iz999, iz1000, iz1200, iz_add, iz_sub, iz_mul, iz_neg, it_le_t, it_le_f, it_lt_t, it_lt_f, it_eq_t, it_eq_f, bz0, bz1, ifg_T, or_true, true_or, if_true, if_false, Option.bind_some, Option.map_some, ok_some, ok_map, lp_l, lp_r, lpA_l, lpA_r, true_and]
      refine forz (fun j w => fr (FK q) s w ∧ w.1 129 q = iz pl ∧ (∀ k, k < 100 → w.1 130 (100 * q + k) = s.1 113 k ∧ w.1 131 (100 * q + k) = s.1 114 k) ∧ (∀ k, k < 15 → w.1 135 (15 * q + k) = s.1 115 k) ∧ ∀ k, k < j → w.1 136 (5 * q + k) = s.1 116 k ∧ w.1 137 (5 * q + k) = s.1 117 k) 0 5 (by omega) (by omega) ⟨h1, h2, h3, h4, fun k hk => by omega⟩ (fun j w _ hj ⟨h1, h2, h3, h4, h5⟩ => ?_) (fun w ⟨h1, h2, h3, h4, h5⟩ => ?_)
      · obtain ⟨k1, k2, k3, k4, k5, k6, k7, k8⟩ := keepF w h1
        have en : (5 * (q : Int) + j).toNat = 5 * q + j := by omega
        have hz := nbz (hsd j hj)
        unfold f245_96
        simp (disch := omega) only [R_101_59, R_101_60, R_101_23, R_101_24, A_116, A_117, W_136, W_137, iz0, iz1, iz2, iz3, iz4, iz5, iz7, iz8, iz9, iz10, iz15, iz20, iz25, iz30, iz40, iz49, iz99, iz100, iz300, iz343, iz500, iz999, iz1000, iz1200, iz_add, iz_sub, iz_mul, iz_neg, it_le_t, it_le_f, it_lt_t, it_lt_f, it_eq_t, it_eq_f, bz0, bz1, ifg_T, or_true, true_or, if_true, if_false, Option.bind_some, Option.map_some, iz_in, iz_n, nat_toNat, en, up_id, k4, k5, hz, h2, ok_some, ok_map, lp_l, lp_r, lpA_l, lpA_r, true_and]
        refine ⟨(h1.ui (FK_136 hj).1).ui (FK_136 hj).2, h3, h4, fun k hk => ?_⟩
        by_cases e : k = j
        · subst e
          simp (disch := omega) only [up_eq, up_id, and_self]
        · simp (disch := omega) only [up_ix, up_id]
          exact h5 k (by omega)
      · obtain ⟨k1, k2, k3, k4, k5, k6, k7, k8⟩ := keepF w h1
        unfold f245_96
        simp (disch := omega) only [R_101_55, R_101_56, R_101_57, W_132, W_133, W_134, iz0, iz1, iz2, iz3, iz4, iz5, iz7, iz8, iz9, iz10, iz15, iz20, iz25, iz30, iz40, iz49, iz99, iz100, iz300, iz343, iz500, iz999, iz1000, iz1200, iz_add, iz_sub, iz_mul, iz_neg, it_le_t, it_le_f, it_lt_t, it_lt_f, it_eq_t, it_eq_f, bz0, bz1, ifg_T, or_true, true_or, if_true, if_false, Option.bind_some, Option.map_some, iz_in, iz_n, nat_toNat, up_id, k6, k7, k8, h2, ok_some, ok_map, lp_l, lp_r, lpA_l, lpA_r, true_and, and_true]
        refine ⟨((h1.ui (FK_1 q).2.1).ui (FK_1 q).2.2.1).ui (FK_1 q).2.2.2, fun k hk => ?_, ?_, ?_, ?_, ?_, ?_⟩
        · simp (disch := omega) only [up_id]
          rw [(h3 k hk).1, (h3 k hk).2]
          exact c5.1 k hk
        · refine MFg.congr (ft := s.1 115) (so := s.1 116) (sd := s.1 117) c5.2 (fun k hk => ?_) (fun k hk => ?_) (fun k hk => ?_)
          · simp (disch := omega) only [up_id]; exact h4 k (by omega)
          · simp (disch := omega) only [up_id]; exact (h5 k (by omega)).1
          · simp (disch := omega) only [up_id]; exact (h5 k (by omega)).2
        · simp (disch := omega) only [up_id]
          rw [(h5 4 (by omega)).2]
          exact c11
        · simp (disch := omega) only [up_id, up_eq]; exact c7
        · simp (disch := omega) only [up_id, up_eq]; exact c6.2.1
        · simp (disch := omega) only [up_eq]; exact c6.2.2
end KP
