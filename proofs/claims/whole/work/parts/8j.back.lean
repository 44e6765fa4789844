/-! bring, image, back -/
def FG (id k : Nat) : Bool := (id == 113 && Nat.ble (k + 1) 100) || (id == 114 && Nat.ble (k + 1) 100) || id == 115 || id == 116 || id == 117 || (id == 101 && (k == 27 || k == 28 || k == 29))
theorem FG_113 {k : Nat} (h : k < 100) : FG 113 k = true ∧ FG 114 k = true := by
  unfold FG
  rw [bleT (show k + 1 ≤ 100 by omega)]
  simp
theorem FG_100 (c : Nat) : FG 114 (100 + c) = false ∧ FG 113 (100 + c) = false := by
  unfold FG
  rw [ble_f (show 100 < 100 + c + 1 by omega)]
  exact ⟨rfl, rfl⟩
section BR
variable {s : xS} {b n pl : Nat} {red slip : Int} {x y : sS} {W S W' S' : Nat → Int} {st st' : Int32} {rc : Nat} {Rs : Nat → Rn}
set_option maxHeartbeats 400000 in
/-- bring: all of box q -/
theorem mo_bring (h : KM s b n pl red slip x W S st rc Rs) {q : Nat} (hq : q < 4) (hx : BxM s q n pl y W' S' st') : ok (f246 101 (iz q) s) (fun r => fr FG s r.1 ∧ KM r.1 b n pl red slip y W' S' st' rc Rs) := by
  obtain ⟨c1, c2, c3, c4, c5, c6, c7, c8, c9, c10, c11⟩ := h
  obtain ⟨g1, g2, g3, g4, g5, g6⟩ := hx
  have keepF : ∀ w, fr FG s w → (∀ k, w.1 130 k = s.1 130 k) ∧ (∀ k, w.1 131 k = s.1 131 k) ∧ (∀ k, w.1 135 k = s.1 135 k) ∧ (∀ k, w.1 136 k = s.1 136 k) ∧ (∀ k, w.1 137 k = s.1 137 k) ∧ w.1 132 q = s.1 132 q ∧ w.1 133 q = s.1 133 q ∧ w.1 134 q = s.1 134 q := fun w hw => ⟨fun k => hw.i _ _ rfl, fun k => hw.i _ _ rfl, fun k => hw.i _ _ rfl, fun k => hw.i _ _ rfl, fun k => hw.i _ _ rfl, hw.i _ _ rfl, hw.i _ _ rfl, hw.i _ _ rfl⟩
  have hsd : ∀ p, p < 5 → s.1 137 (5 * q + p) = iz 0 ∨ s.1 137 (5 * q + p) = iz 1 := fun p hp => by
    by_cases e : p = 4
    · subst e; exact Or.inl g3
    · exact MFg.z g2 (show p < 4 by omega)
  unfold f246
  rw [ifg_pos O_101]
  simp only [iz0]
  refine forz (fun j w => fr FG s w ∧ ∀ k, k < j → w.1 113 k = s.1 130 (100 * q + k) ∧ w.1 114 k = s.1 131 (100 * q + k)) 0 100 (by omega) (by omega) ⟨fr.rf _ _, fun k hk => by omega⟩ (fun j w _ hj ⟨h1, h2⟩ => ?_) (fun w ⟨h1, h2⟩ => ?_)
  · obtain ⟨k1, k2, k3, k4, k5, k6, k7, k8⟩ := keepF w h1
    have en : (100 * (q : Int) + j).toNat = 100 * q + j := by omega
    unfold f246_2
    simp (disch := omega) only [R_101_53, R_101_54, R_101_20, R_101_21, A_130, A_131, W_113, W_114, iz0, iz1, iz2, iz3, iz4, iz5, iz7, iz8, iz9, iz10, iz15, iz20, iz25, iz30, iz40, iz49, iz99, iz100, iz300, iz343, iz500, iz999, iz1000, iz1200, iz_add, iz_sub, iz_mul, iz_neg, it_le_t, it_le_f, it_lt_t, it_lt_f, it_eq_t, it_eq_f, bz0, bz1, ifg_T, or_true, true_or, if_true, if_false, Option.bind_some, Option.map_some, iz_in, iz_n, nat_toNat, en, up_id, k1, k2, ok_some, ok_map, lp_l, lp_r, lpA_l, lpA_r, true_and]
    refine ⟨(h1.ui (FG_113 hj).1).ui (FG_113 hj).2, fun k hk => ?_⟩
    by_cases e : k = j
    · subst e
      simp (disch := omega) only [up_eq, up_id, and_self]
    · simp (disch := omega) only [up_ix, up_id]
      exact h2 k (by omega)
  · unfold f246_2
    simp (disch := omega) only [iz0, iz1, iz2, iz3, iz4, iz5, iz7, iz8, iz9, iz10, iz15, iz20, iz25, iz30, iz40, iz49, iz99, iz100, iz300, iz343, iz500, iz999, iz1000, iz1200, iz_add, iz_sub, iz_mul, iz_neg, it_le_t, it_le_f, it_lt_t, it_lt_f, it_eq_t, it_eq_f, bz0, bz1, ifg_T, or_true, true_or, if_true, if_false, Option.bind_some, Option.map_some, ok_some, ok_map, lp_l, lp_r, lpA_l, lpA_r, true_and]
    refine forz (fun j w => fr FG s w ∧ (∀ k, k < 100 → w.1 113 k = s.1 130 (100 * q + k) ∧ w.1 114 k = s.1 131 (100 * q + k)) ∧ ∀ k, k < j → w.1 115 k = s.1 135 (15 * q + k)) 0 15 (by omega) (by omega) ⟨h1, h2, fun k hk => by omega⟩ (fun j w _ hj ⟨h1, h2, h4⟩ => ?_) (fun w ⟨h1, h2, h4⟩ => ?_)
    · obtain ⟨k1, k2, k3, k4, k5, k6, k7, k8⟩ := keepF w h1
      have en : (15 * (q : Int) + j).toNat = 15 * q + j := by omega
      unfold f246_50
      simp (disch := omega) only [R_101_58, R_101_22, A_135, W_115, iz0, iz1, iz2, iz3, iz4, iz5, iz7, iz8, iz9, iz10, iz15, iz20, iz25, iz30, iz40, iz49, iz99, iz100, iz300, iz343, iz500, iz999, iz1000, iz1200, iz_add, iz_sub, iz_mul, iz_neg, it_le_t, it_le_f, it_lt_t, it_lt_f, it_eq_t, it_eq_f, bz0, bz1, ifg_T, or_true, true_or, if_true, if_false, Option.bind_some, Option.map_some, iz_in, iz_n, nat_toNat, en, up_id, k3, ok_some, ok_map, lp_l, lp_r, lpA_l, lpA_r, true_and]
      refine ⟨h1.ui rfl, h2, fun k hk => ?_⟩
      by_cases e : k = j
      · subst e
        exact up_eq _ _ _ _
      · rw [up_ix _ _ (by omega)]
        exact h4 k (by omega)
    · unfold f246_50
      simp (disch := omega) only [iz0, iz1, iz2, iz3, iz4, iz5, iz7, iz8, iz9, iz10, iz15, iz20, iz25, iz30, iz40, iz49, iz99, iz100, iz300, iz343, iz500, iz999, iz1000, iz1200, iz_add, iz_sub, iz_mul, iz_neg, it_le_t, it_le_f, it_lt_t, it_lt_f, it_eq_t, it_eq_f, bz0, bz1, ifg_T, or_true, true_or, if_true, if_false, Option.bind_some, Option.map_some, ok_some, ok_map, lp_l, lp_r, lpA_l, lpA_r, true_and]
      refine forz (fun j w => fr FG s w ∧ (∀ k, k < 100 → w.1 113 k = s.1 130 (100 * q + k) ∧ w.1 114 k = s.1 131 (100 * q + k)) ∧ (∀ k, k < 15 → w.1 115 k = s.1 135 (15 * q + k)) ∧ ∀ k, k < j → w.1 116 k = s.1 136 (5 * q + k) ∧ w.1 117 k = s.1 137 (5 * q + k)) 0 5 (by omega) (by omega) ⟨h1, h2, h4, fun k hk => by omega⟩ (fun j w _ hj ⟨h1, h2, h4, h5⟩ => ?_) (fun w ⟨h1, h2, h4, h5⟩ => ?_)
      · obtain ⟨k1, k2, k3, k4, k5, k6, k7, k8⟩ := keepF w h1
        have en : (5 * (q : Int) + j).toNat = 5 * q + j := by omega
        have hz := nbz (hsd j hj)
        unfold f246_81
        simp (disch := omega) only [R_101_59, R_101_60, R_101_23, R_101_24, A_136, A_137, W_116, W_117, iz0, iz1, iz2, iz3, iz4, iz5, iz7, iz8, iz9, iz10, iz15, iz20, iz25, iz30, iz40, iz49, iz99, iz100, iz300, iz343, iz500, iz999, iz1000, iz1200, iz_add, iz_sub, iz_mul, iz_neg, it_le_t, it_le_f, it_lt_t, it_lt_f, it_eq_t, it_eq_f, bz0, bz1, ifg_T, or_true, true_or, if_true, if_false, Option.bind_some, Option.map_some, iz_in, iz_n, nat_toNat, en, up_id, k4, k5, hz, ok_some, ok_map, lp_l, lp_r, lpA_l, lpA_r, true_and]
        refine ⟨(h1.ui rfl).ui rfl, h2, h4, fun k hk => ?_⟩
        by_cases e : k = j
        · subst e
          simp (disch := omega) only [up_eq, up_id, and_self]
        · simp (disch := omega) only [up_ix, up_id]
          exact h5 k (by omega)
      · obtain ⟨k1, k2, k3, k4, k5, k6, k7, k8⟩ := keepF w h1
        unfold f246_81
        simp (disch := omega) only [R_101_55, R_101_56, R_101_57, A_132, A_133, A_134, iz0, iz1, iz2, iz3, iz4, iz5, iz7, iz8, iz9, iz10, iz15, iz20, iz25, iz30, iz40, iz49, iz99, iz100, iz300, iz343, iz500, iz999, iz1000, iz1200, iz_add, iz_sub, iz_mul, iz_neg, it_le_t, it_le_f, it_lt_t, it_lt_f, it_eq_t, it_eq_f, bz0, bz1, ifg_T, or_true, true_or, if_true, if_false, Option.bind_some, Option.map_some, iz_in, iz_n, nat_toNat, pI, up_id, k6, k7, k8, ok_some, ok_map, lp_l, lp_r, lpA_l, lpA_r, true_and]
        have f1 : fr FG s (xm_up (xm_up (xm_up w.1 101 27 (s.1 132 q)) 101 28 (s.1 133 q)) 101 29 (s.1 134 q), w.2) := ((h1.ui rfl).ui rfl).ui rfl
        refine ⟨f1, c1.fr f1 rfl (fun _ => rfl), by rw [f1.i _ _ rfl]; exact c2, by rw [f1.i _ _ rfl]; exact c3, by rw [f1.i _ _ rfl]; exact c4, ⟨fun k hk => ⟨fun u => ?_, ?_⟩, ?_⟩, ⟨fun k hk => ?_, ?_, ?_⟩, ?_, by rw [f1.i _ _ rfl]; exact c8, fun r hr => (c9 r hr).fr f1 rfl rfl rfl rfl rfl rfl rfl, fun c hc => by rw [f1.i _ _ (FG_100 c).1]; exact c10 c hc, ?_⟩
        · simp (disch := omega) only [up_id]; rw [(h2 k hk).1]; exact (g1 k hk).1 u
        · simp (disch := omega) only [up_id]; rw [(h2 k hk).2]; exact (g1 k hk).2
        · refine MFg.congr (ft := fun k => s.1 135 (15 * q + k)) (so := fun k => s.1 136 (5 * q + k)) (sd := fun k => s.1 137 (5 * q + k)) g2 (fun k hk => ?_) (fun k hk => ?_) (fun k hk => ?_)
          · simp (disch := omega) only [up_id]; exact h4 k (by omega)
          · simp (disch := omega) only [up_id]; exact (h5 k (by omega)).1
          · simp (disch := omega) only [up_id]; exact (h5 k (by omega)).2
        · simp (disch := omega) only [up_id]; rw [(h2 k hk.1).1]; exact (g1 k hk.1).1 hk
        · simp (disch := omega) only [up_ix, up_eq]; exact g5
        · simp (disch := omega) only [up_eq]; exact g6
        · simp (disch := omega) only [up_ix, up_eq]; exact g4
        · simp (disch := omega) only [up_id]
          rw [(h5 4 (by omega)).2]
          exact g3
theorem AR_37 {q : Nat} (h : q < 3) : aR 37 (iz q) = some (89 + 4 * q) := by
  have : q = 0 ∨ q = 1 ∨ q = 2 := by omega
  have e : hk_ks[37]? = some (24, 3) := by decide +kernel
  unfold aR
  rw [e]
  simp (disch := omega) only [iz_in, iz_n, nat_toNat, if_true, and_true, true_or]
  rcases this with rfl | rfl | rfl <;> exact (hk_R_at (by decide) (by decide)).trans rfl
theorem isBq {q : Nat} (h : q < 3) : isB (89 + 4 * q) := by
  have : q = 0 ∨ q = 1 ∨ q = 2 := by omega
  unfold isB
  omega
theorem FBm_f {p id k : Nat} (h : id < p ∨ p + 3 < id) : FBm p id k = false := by
  unfold FBm
  rw [show (id == p) = false by rw [beq_eq_false_iff_ne]; omega, show (id == p + 1) = false by rw [beq_eq_false_iff_ne]; omega, show (id == p + 2) = false by rw [beq_eq_false_iff_ne]; omega, show (id == p + 3) = false by rw [beq_eq_false_iff_ne]; omega]
  rfl
theorem KC_bx (h : KC s n pl red slip x W S st rc Rs) : BxC s 33 x W S st := ⟨h.2.2.2.2.1, h.2.2.2.2.2.1, h.2.2.2.2.2.2.1⟩
/-- the class's bench is another one -/
theorem KC_becomes {s' : xS} (h : KC s n pl red slip x W S st rc Rs) (hf : fr (FBm 33) s s') (hb : BxC s' 33 y W' S' st') (hrc : rc ≤ 10) : KC s' n pl red slip y W' S' st' rc Rs := by
  obtain ⟨c1, c2, c3, c4, c5, c6, c7, c8, c9⟩ := h
  exact ⟨by rw [hf.i _ _ rfl]; exact c1, by rw [hf.i _ _ rfl]; exact c2, by rw [hf.i _ _ rfl]; exact c3, by rw [hf.i _ _ rfl]; exact c4, hb.1, hb.2.1, hb.2.2, by rw [hf.i _ _ rfl]; exact c8, fun r hr => (c9 r hr).fr hf (fun k => FBm_f (Or.inl (by omega)))⟩
end BR
