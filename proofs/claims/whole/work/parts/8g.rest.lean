/-! rest, seed, stand -/
def coolW (W : Nat → Int) (m : Int) : Nat → Int := fun k => if W k ≤ m then 0 else W k - m
section WD
variable {s : xS} {b n pl : Nat} {red slip : Int} {x : sS} {W S : Nat → Int} {st : Int32} {rc : Nat} {Rs : Nat → Rn}
theorem coolW_b (h : ∀ k, k < 100 → 0 ≤ W k ∧ W k ≤ 99) {m : Int} (m0 : 0 ≤ m) : ∀ k, k < 100 → 0 ≤ coolW W m k ∧ coolW W m k ≤ 99 := by
  intro k hk
  have := h k hk
  unfold coolW
  split <;> omega
theorem cl_cool (h : isW s 35 W) {m : Int} (m0 : 0 ≤ m) (m1 : m ≤ 1000) : ok (f8 33 (iz m) s) (fun r => fr (F1 35) s r.1 ∧ isW r.1 35 (coolW W m)) := by
  unfold f8
  rw [ifg_pos O_33]
  simp only [iz0]
  refine forz (fun j w => fr (F1 35) s w ∧ ∀ k, k < 100 → w.1 35 k = if k < j then iz (coolW W m k) else iz (W k)) 0 100 (by omega) (by omega) ⟨fr.rf _ _, fun k hk => by rw [if_neg (by omega)]; exact h.1 k hk⟩ (fun j w _ hj ⟨h1, h2⟩ => ?_) (fun w ⟨h1, h2⟩ => ?_)
  · have e := h2 j hj
    rw [if_neg (by omega)] at e
    have hb := h.2 j hj
    unfold f8_2
    simp (disch := omega) only [R_33_1, N_35, A_35, W_35, iz0, iz1, iz2, iz3, iz4, iz5, iz7, iz8, iz9, iz10, iz15, iz20, iz25, iz30, iz40, iz49, iz99, iz100, iz300, iz343, iz500, iz999, iz1000, iz1200, iz_add, iz_sub, iz_mul, iz_neg, it_le_t, it_le_f, it_lt_t, it_lt_f, it_eq_t, it_eq_f, bz0, bz1, ifg_T, or_true, true_or, if_true, if_false, Option.bind_some, Option.map_some, iz_in, iz_n, nat_toNat, e, ok_some, ok_map, lp_l, lp_r, lpA_l, lpA_r, true_and]
    refine ⟨h1.ui rfl, fun k hk => ?_⟩
    by_cases q : k = j
    · subst q
      have q3 : k < k + 1 := by omega
      rw [up_eq, if_pos q3]
      unfold coolW
      by_cases q2 : W k ≤ m
      · rw [it_lt_f (by omega) (by omega) (by omega), if_pos q2]
      · rw [it_lt_t (by omega) (by omega) (by omega), if_neg q2]
    · rw [up_ix _ _ q, h2 k hk]
      by_cases q2 : k < j
      · rw [if_pos q2, if_pos (by omega)]
      · rw [if_neg q2, if_neg (by omega)]
  · unfold f8_2
    simp (disch := omega) only [R_33_1, N_35, iz0, iz1, iz2, iz3, iz4, iz5, iz7, iz8, iz9, iz10, iz15, iz20, iz25, iz30, iz40, iz49, iz99, iz100, iz300, iz343, iz500, iz999, iz1000, iz1200, iz_add, iz_sub, iz_mul, iz_neg, it_le_t, it_le_f, it_lt_t, it_lt_f, it_eq_t, it_eq_f, bz0, bz1, ifg_T, or_true, true_or, if_true, if_false, Option.bind_some, Option.map_some, ok_some, ok_map, lp_l, lp_r, lpA_l, lpA_r, true_and]
    exact ⟨h1, fun k hk => by rw [h2 k hk, if_pos hk], coolW_b h.2 m0⟩
theorem mo_cool (h : isW s 114 W) {m : Int} (m0 : 0 ≤ m) (m1 : m ≤ 1000) : ok (whl (fun q : (Int32 × xS) => f238_15 101 (iz m) q.1 q.2) (iz 0, s)) (fun r => fr F100 s r.1 ∧ isW r.1 114 (coolW W m) ∧ r.2 = iz 1) := by
  have hF : ∀ j, j < 100 → F100 114 j = true := fun j hj => by
    unfold F100
    rw [Nat.ble_eq_true_of_le (by omega)]
    rfl
  refine forz (fun j w => fr F100 s w ∧ ∀ k, k < 100 → w.1 114 k = if k < j then iz (coolW W m k) else iz (W k)) 0 100 (by omega) (by omega) ⟨fr.rf _ _, fun k hk => by rw [if_neg (by omega)]; exact h.1 k hk⟩ (fun j w _ hj ⟨h1, h2⟩ => ?_) (fun w ⟨h1, h2⟩ => ?_)
  · have e := h2 j hj
    rw [if_neg (by omega)] at e
    have hb := h.2 j hj
    have fin : ∀ v, v = iz (coolW W m j) → ∀ k, k < 100 → xm_up w.1 114 j v 114 k = if k < j + 1 then iz (coolW W m k) else iz (W k) := by
      intro v hv k hk
      by_cases q : k = j
      · subst q
        rw [up_eq, if_pos (by omega), hv]
      · rw [up_ix _ _ q, h2 k hk]
        by_cases q2 : k < j
        · rw [if_pos q2, if_pos (by omega)]
        · rw [if_neg q2, if_neg (by omega)]
    unfold f238_15 f238_48
    by_cases q2 : W j ≤ m
    · simp (disch := omega) only [R_101_21, A_114, W_114, iz0, iz1, iz2, iz3, iz4, iz5, iz7, iz8, iz9, iz10, iz15, iz20, iz25, iz30, iz40, iz49, iz99, iz100, iz300, iz343, iz500, iz999, iz1000, iz1200, iz_add, iz_sub, iz_mul, iz_neg, it_le_t, it_le_f, it_lt_t, it_lt_f, it_eq_t, it_eq_f, bz0, bz1, ifg_T, or_true, true_or, if_true, if_false, Option.bind_some, Option.map_some, iz_in, iz_n, nat_toNat, e, ok_some, ok_map, lp_l, lp_r, lpA_l, lpA_r, true_and]
      exact ⟨h1.ui (hF j hj), fin _ (by unfold coolW; rw [if_pos q2])⟩
    · simp (disch := omega) only [R_101_21, A_114, W_114, iz0, iz1, iz2, iz3, iz4, iz5, iz7, iz8, iz9, iz10, iz15, iz20, iz25, iz30, iz40, iz49, iz99, iz100, iz300, iz343, iz500, iz999, iz1000, iz1200, iz_add, iz_sub, iz_mul, iz_neg, it_le_t, it_le_f, it_lt_t, it_lt_f, it_eq_t, it_eq_f, bz0, bz1, ifg_T, or_true, true_or, if_true, if_false, Option.bind_some, Option.map_some, iz_in, iz_n, nat_toNat, e, ok_some, ok_map, lp_l, lp_r, lpA_l, lpA_r, true_and]
      exact ⟨h1.ui (hF j hj), fin _ (by unfold coolW; rw [if_neg q2])⟩
  · unfold f238_15
    simp (disch := omega) only [iz0, iz1, iz2, iz3, iz4, iz5, iz7, iz8, iz9, iz10, iz15, iz20, iz25, iz30, iz40, iz49, iz99, iz100, iz300, iz343, iz500, iz999, iz1000, iz1200, iz_add, iz_sub, iz_mul, iz_neg, it_le_t, it_le_f, it_lt_t, it_lt_f, it_eq_t, it_eq_f, bz0, bz1, ifg_T, or_true, true_or, if_true, if_false, Option.bind_some, Option.map_some, ok_some, ok_map, lp_l, lp_r, lpA_l, lpA_r, true_and]
    exact ⟨h1, ⟨fun k hk => by rw [h2 k hk, if_pos hk], coolW_b h.2 m0⟩, trivial⟩
theorem c_rest (h : Core s b n pl red slip x W S st rc Rs) {m : Int} (m0 : -2147483648 ≤ m) (m1 : m ≤ 2147483647) : ok (f140 0 (iz m) s) (fun r1 => ok (f238 101 (iz m) r1.1) (fun r2 => r2.2 = r1.2 ∧ ChP s r2.1 b n pl red slip rc Rs)) := by
  have hrc := h.rc10
  unfold f140 f140_11
  rw [ifg_pos O_0]
  by_cases g : 0 ≤ m ∧ m ≤ 1000
  · simp (disch := omega) only [iz0, iz1, iz2, iz3, iz4, iz5, iz7, iz8, iz9, iz10, iz15, iz20, iz25, iz30, iz40, iz49, iz99, iz100, iz300, iz343, iz500, iz999, iz1000, iz1200, iz_add, iz_sub, iz_mul, iz_neg, it_le_t, it_le_f, it_lt_t, it_lt_f, it_eq_t, it_eq_f, bz0, bz1, ifg_T, or_true, true_or, if_true, if_false, Option.bind_some, Option.map_some]
    refine (cl_changed s).bind (fun q0 ⟨a1, a2⟩ => ?_)
    have hC := KC_H h.1 a1 hrc
    have hM := KM_H h.2.1 a1 hrc
    have iw := Core.iw (s := q0.1) ⟨hC, hM, h.2.2⟩
    simp only [R_0_5, Option.bind_some]
    refine (cl_cool iw.1 g.1 g.2).bind (fun q1 ⟨b1, b2⟩ => ?_)
    rw [ok_some]
    have hM1 := KM_35 hM b1 hrc
    have iw1 : isW q1.1 114 W := ⟨fun k hk => by rw [b1.i _ _ rfl]; exact iw.2.1 k hk, iw.2.2⟩
    unfold f238
    rw [ifg_pos O_101]
    simp (disch := omega) only [iz0, iz1, iz2, iz3, iz4, iz5, iz7, iz8, iz9, iz10, iz15, iz20, iz25, iz30, iz40, iz49, iz99, iz100, iz300, iz343, iz500, iz999, iz1000, iz1200, iz_add, iz_sub, iz_mul, iz_neg, it_le_t, it_le_f, it_lt_t, it_lt_f, it_eq_t, it_eq_f, bz0, bz1, ifg_T, or_true, true_or, if_true, if_false, Option.bind_some, Option.map_some, g_in_t]
    refine (mo_cool iw1 g.1 g.2).mono (fun r2 ⟨k1, k2, k3⟩ => ⟨k3, Or.inr ⟨((a1.mono FH_A).tr (b1.mono F35_A)).tr (k1.mono F100_A), (a2.fr b1 rfl rfl rfl rfl).fr k1 rfl rfl rfl rfl, x, _, S, st, KC_114 (KC_w hC hrc b1 b2) k1 hrc, KM_w hM1 k1 k2, KV_w h.2.2 k2.2⟩⟩)
  · have fin : ok (f238 101 (iz m) s) (fun r2 => r2.2 = iz 0 ∧ ChP s r2.1 b n pl red slip rc Rs) := by
      unfold f238
      rw [ifg_pos O_101]
      simp (disch := omega) only [iz0, iz1, iz2, iz3, iz4, iz5, iz7, iz8, iz9, iz10, iz15, iz20, iz25, iz30, iz40, iz49, iz99, iz100, iz300, iz343, iz500, iz999, iz1000, iz1200, iz_add, iz_sub, iz_mul, iz_neg, it_le_t, it_le_f, it_lt_t, it_lt_f, it_eq_t, it_eq_f, bz0, bz1, ifg_T, or_true, true_or, if_true, if_false, Option.bind_some, Option.map_some, g_in_f, ok_some, true_and]
      exact Or.inl (fr.rf _ _)
    by_cases g1 : 0 ≤ m
    · simp (disch := omega) only [iz0, iz1, iz2, iz3, iz4, iz5, iz7, iz8, iz9, iz10, iz15, iz20, iz25, iz30, iz40, iz49, iz99, iz100, iz300, iz343, iz500, iz999, iz1000, iz1200, iz_add, iz_sub, iz_mul, iz_neg, it_le_t, it_le_f, it_lt_t, it_lt_f, it_eq_t, it_eq_f, bz0, bz1, ifg_T, or_true, true_or, if_true, if_false, Option.bind_some, Option.map_some, ok_some]
      exact fin
    · simp (disch := omega) only [iz0, iz1, iz2, iz3, iz4, iz5, iz7, iz8, iz9, iz10, iz15, iz20, iz25, iz30, iz40, iz49, iz99, iz100, iz300, iz343, iz500, iz999, iz1000, iz1200, iz_add, iz_sub, iz_mul, iz_neg, it_le_t, it_le_f, it_lt_t, it_lt_f, it_eq_t, it_eq_f, bz0, bz1, ifg_T, or_true, true_or, if_true, if_false, Option.bind_some, Option.map_some, ok_some]
      exact fin
def F5 (id k : Nat) : Bool := id == 33 && k == 5
def F29 (id k : Nat) : Bool := id == 101 && k == 29
theorem c_seed (h : Core s b n pl red slip x W S st rc Rs) (v : Int32) : ok (f160 0 v s) (fun r1 => ok (f278 101 v r1.1) (fun r2 => r2.2 = r1.2 ∧ ChP s r2.1 b n pl red slip rc Rs)) := by
  have hrc := h.rc10
  obtain ⟨hK, hM, hV⟩ := h
  have hK0 := hK
  obtain ⟨c1, c2, c3, c4, c5, c6, c7, c8, c9⟩ := hK
  unfold f160
  rw [ifg_pos O_0]
  simp only [R_0_5, Option.bind_some, pI]
  refine (cl_changed _).bind (fun q0 ⟨a1, a2⟩ => ?_)
  rw [ok_some]
  unfold f278
  rw [ifg_pos O_101]
  simp only [Option.bind_some, pI, ok_some]
  have f0 : fr F5 s (xm_up s.1 33 5 v, s.2) := (fr.rf _ _).ui rfl
  have f1 : fr F29 q0.1 (xm_up q0.1.1 101 29 v, q0.1.2) := (fr.rf _ _).ui rfl
  have m0 : KM (xm_up s.1 33 5 v, s.2) b n pl red slip x W S st rc Rs := by
    refine hM.fr f0 ⟨rfl, rfl, rfl, rfl, rfl⟩ (fun _ => rfl) (fun _ => rfl) (fun _ => rfl) (fun _ => rfl) (fun _ _ => rfl) (fun _ => rfl) (fun _ => rfl) (fun _ => rfl) (fun _ => rfl) (fun id k h1 h2 _ => ?_) hrc
    unfold F5
    rw [show (id == 33) = false by rw [beq_eq_false_iff_ne]; omega]
    rfl
  have m1 := KM_H m0 a1 hrc
  have k0 : KC (xm_up s.1 33 5 v, s.2) n pl red slip (x.1, x.2.1, v) W S st rc Rs := by
    refine ⟨by rw [f0.i _ _ rfl]; exact c1, by rw [f0.i _ _ rfl]; exact c2, by rw [f0.i _ _ rfl]; exact c3, by rw [f0.i _ _ rfl]; exact c4, c5.fr f0 (fun _ => rfl) (fun _ => rfl) (fun _ => rfl), ⟨fun k hk => by rw [f0.i _ _ rfl]; exact c6.1 k hk, by rw [f0.i _ _ rfl]; exact c6.2.1, by dsimp only; exact up_eq _ _ _ _⟩, by rw [f0.i _ _ rfl]; exact c7, by rw [f0.i _ _ rfl]; exact c8, fun r hr => (c9 r hr).fr f0 (fun k => ?_)⟩
    unfold F5
    rw [show (11 + r == 33) = false by rw [beq_eq_false_iff_ne]; omega]
    rfl
  have k1 := KC_H k0 a1 hrc
  refine ⟨?_, Or.inr ⟨?_, ?_, (x.1, x.2.1, v), W, S, st, ?_, ?_, ?_⟩⟩
  · rw [c6.2.2]
    exact m1.2.2.2.2.2.1.2.2
  · refine ((f0.mono (fun id k hk => ?_)).tr (a1.mono FH_A)).tr (f1.mono (fun id k hk => ?_))
    · unfold F5 at hk
      rw [Bool.and_eq_true, beq_iff_eq] at hk
      obtain ⟨rfl, -⟩ := hk
      unfold FA
      simp only [Bool.or_true, Bool.true_or, beq_self_eq_true]
    · unfold F29 at hk
      rw [Bool.and_eq_true, beq_iff_eq, beq_iff_eq] at hk
      obtain ⟨rfl, rfl⟩ := hk
      rfl
  · exact a2.fr f1 rfl rfl rfl rfl
  · refine k1.fr f1 (fun _ => rfl) (fun _ => rfl) (fun _ => rfl) (fun _ => rfl) (fun _ => rfl) rfl (fun id k h1 h2 => ?_) hrc
    unfold F29
    rw [show (id == 101) = false by rw [beq_eq_false_iff_ne]; omega]
    rfl
  · obtain ⟨d1, d2, d3, d4, d5, d6, d7, d8, d9, d10, d11⟩ := m1
    refine ⟨d1.fr f1 rfl (fun _ => rfl), by rw [f1.i _ _ rfl]; exact d2, by rw [f1.i _ _ rfl]; exact d3, by rw [f1.i _ _ rfl]; exact d4, d5.fr f1 (fun _ => rfl) (fun _ => rfl) (fun _ => rfl) (fun _ => rfl) (fun _ => rfl), ⟨fun k hk => by rw [f1.i _ _ rfl]; exact d6.1 k hk, by rw [f1.i _ _ rfl]; exact d6.2.1, by dsimp only; exact up_eq _ _ _ _⟩, by rw [f1.i _ _ rfl]; exact d7, by rw [f1.i _ _ rfl]; exact d8, fun r hr => (d9 r hr).fr f1 rfl rfl rfl rfl rfl rfl rfl, fun c hc => by rw [f1.i _ _ rfl]; exact d10 c hc, by rw [f1.i _ _ rfl]; exact d11⟩
  · obtain ⟨a1, a2, a3, a4, a5, a6, a7, a8, a9, a10, a11⟩ := hV
    exact ⟨a1, a2, a3, a4, a5, a6, a7, Hb_w a8 v, a9, a10, a11⟩
end WD
