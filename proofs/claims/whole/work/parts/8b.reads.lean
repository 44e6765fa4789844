/-! gap, lift, off, hole, flat, hides -/
section RE
variable {s : xS} {b n pl : Nat} {red slip : Int} {x : sS} {W S : Nat → Int} {st : Int32} {rc : Nat} {Rs : Nat → Rn}
theorem c_lift (h : Core s b n pl red slip x W S st rc Rs) {a c t u v w : Int} (a0 : -2147483648 ≤ a) (a1 : a ≤ 2147483647) (c0 : -2147483648 ≤ c) (c1 : c ≤ 2147483647) (t0 : -2147483648 ≤ t) (t1 : t ≤ 2147483647) (u0 : -2147483648 ≤ u) (u1 : u ≤ 2147483647) (v0 : -2147483648 ≤ v) (v1 : v ≤ 2147483647) (w0 : -2147483648 ≤ w) (w1 : w ≤ 2147483647) : RO s (f134 0 (iz a) (iz c) (iz t) (iz u) (iz v) (iz w)) (f225 101 (iz a) (iz c) (iz t) (iz u) (iz v) (iz w)) := by
  have hpl := h.p4
  have sq := h.cn.sq
  have gt := @g_lie_t s pl h.1.1 hpl
  have gf := @g_lie_f s pl h.1.1 hpl
  have mt := @g_mlie_t s b n pl h.mn h.2.1.2.1 hpl
  have mf := @g_mlie_f s b n pl h.mn h.2.1.2.1 hpl
  unfold RO f134 f134_22 f134_62
  rw [ifg_pos O_0]
  by_cases gp : 0 ≤ w ∧ w ≤ 999
  · by_cases g : 0 ≤ a ∧ a < pl ∧ 0 ≤ c ∧ c < pl ∧ a ≠ c ∧ 0 ≤ t ∧ t ≤ 3 ∧ -1 ≤ u ∧ u ≤ 1 ∧ -1 ≤ v ∧ v ≤ 1
    · simp (disch := omega) only [R_0_8, R_0_5, R_39_1, iz0, iz1, iz2, iz3, iz4, iz5, iz7, iz8, iz9, iz10, iz15, iz20, iz25, iz30, iz40, iz49, iz99, iz100, iz300, iz343, iz500, iz999, iz1000, iz1200, iz_add, iz_sub, iz_mul, iz_neg, it_le_t, it_le_f, it_lt_t, it_lt_f, it_eq_t, it_eq_f, bz0, bz1, ifg_T, or_true, true_or, if_true, if_false, Option.bind_some, Option.map_some, g_off_t, gt]
      obtain ⟨p, q, r, rfl, rfl, rfl, hp, hq, hL⟩ := ly_of h g
      refine (both_lay h hp hq hL).bind (fun r1 ⟨b1, b2, D, G, b3, b4, b5⟩ => ?_)
      have h1 := Core_scr h b1
      rw [cl_within b3 sq b4 gp.1 gp.2]
      simp only [Option.bind_some]
      have hm : ∀ Q : Prop, Q → Q := fun _ h => h
      have mt1 := @g_mlie_t r1.1 b n pl h1.mn h1.2.1.2.1 hpl
      have key : ok (f225 101 (iz p) (iz q) (iz r) (iz u) (iz v) (iz w) r1.1) (fun r2 => fr Fz r1.1 r2.1 ∧ r2.2 = if wi n (Zl (sm x.1 W S p) (sm x.1 W S q) n r u v) (dR n u v) w = true then iz 1 else iz 0) := by
        unfold f225 f225_26 f225_60
        rw [ifg_pos O_101]
        simp (disch := omega) only [iz0, iz1, iz2, iz3, iz4, iz5, iz7, iz8, iz9, iz10, iz15, iz20, iz25, iz30, iz40, iz49, iz99, iz100, iz300, iz343, iz500, iz999, iz1000, iz1200, iz_add, iz_sub, iz_mul, iz_neg, it_le_t, it_le_f, it_lt_t, it_lt_f, it_eq_t, it_eq_f, bz0, bz1, ifg_T, or_true, true_or, if_true, if_false, Option.bind_some, Option.map_some, mt1, g_in_t]
        refine (mo_lay h1 hp hq hL).bind (fun r2 ⟨e1, e2, e3⟩ => ?_)
        have h2 := Core_scr h1 e1
        have hb := mxS_bd (dR n u v) (GP n (Zl (sm x.1 W S p) (sm x.1 W S q) n r u v) (dR n u v)) (B := 1000000) (by omega) (n * n) (fun c hc hd => (mo_gapOf h2.mn e3 hc hd).2.2)
        have hm2 := mbd (B := 32) (C := 999) (x := GD n (Zl (sm x.1 W S p) (sm x.1 W S q) n r u v) (dR n u v)) (y := w) (by omega) b5 (by omega) (by omega)
        rw [mo_most h2.mn e3]
        simp (disch := omega) only [iz0, iz1, iz2, iz3, iz4, iz5, iz7, iz8, iz9, iz10, iz15, iz20, iz25, iz30, iz40, iz49, iz99, iz100, iz300, iz343, iz500, iz999, iz1000, iz1200, iz_add, iz_sub, iz_mul, iz_neg, it_le_t, it_le_f, it_lt_t, it_lt_f, it_eq_t, it_eq_f, bz0, bz1, ifg_T, or_true, true_or, if_true, if_false, Option.bind_some, Option.map_some, e3.e45, iz_l, lz_mul]
        by_cases q1 : GD n (Zl (sm x.1 W S p) (sm x.1 W S q) n r u v) (dR n u v) * w < mxS (dR n u v) (GP n (Zl (sm x.1 W S p) (sm x.1 W S q) n r u v) (dR n u v)) (n * n)
        · have : ¬ wi n (Zl (sm x.1 W S p) (sm x.1 W S q) n r u v) (dR n u v) w = true := by unfold wi; rw [decide_eq_true_eq, Int.mul_comm]; omega
          rw [lk_gt_t q1 (by omega) (by omega) (by omega) (by omega), ok_some, if_neg this]
          exact ⟨e1, rfl⟩
        · have : wi n (Zl (sm x.1 W S p) (sm x.1 W S q) n r u v) (dR n u v) w = true := by unfold wi; rw [decide_eq_true_eq, Int.mul_comm w]; omega
          rw [lk_gt_f (by omega) (by omega) (by omega) (by omega) (by omega), ok_some, if_pos this]
          exact ⟨e1, rfl⟩
      by_cases q2 : wi n (Zl (sm x.1 W S p) (sm x.1 W S q) n r u v) (dR n u v) w = true
      · rw [if_pos q2] at key ⊢
        simp (disch := omega) only [iz0, iz1, iz2, iz3, iz4, iz5, iz7, iz8, iz9, iz10, iz15, iz20, iz25, iz30, iz40, iz49, iz99, iz100, iz300, iz343, iz500, iz999, iz1000, iz1200, iz_add, iz_sub, iz_mul, iz_neg, it_le_t, it_le_f, it_lt_t, it_lt_f, it_eq_t, it_eq_f, bz0, bz1, ifg_T, or_true, true_or, if_true, if_false, Option.bind_some, Option.map_some, ok_some]
        exact ⟨b1, key⟩
      · rw [if_neg q2] at key ⊢
        simp (disch := omega) only [iz0, iz1, iz2, iz3, iz4, iz5, iz7, iz8, iz9, iz10, iz15, iz20, iz25, iz30, iz40, iz49, iz99, iz100, iz300, iz343, iz500, iz999, iz1000, iz1200, iz_add, iz_sub, iz_mul, iz_neg, it_le_t, it_le_f, it_lt_t, it_lt_f, it_eq_t, it_eq_f, bz0, bz1, ifg_T, or_true, true_or, if_true, if_false, Option.bind_some, Option.map_some, ok_some]
        exact ⟨b1, key⟩
    · simp (disch := omega) only [iz0, iz1, iz2, iz3, iz4, iz5, iz7, iz8, iz9, iz10, iz15, iz20, iz25, iz30, iz40, iz49, iz99, iz100, iz300, iz343, iz500, iz999, iz1000, iz1200, iz_add, iz_sub, iz_mul, iz_neg, it_le_t, it_le_f, it_lt_t, it_lt_f, it_eq_t, it_eq_f, bz0, bz1, ifg_T, or_true, true_or, if_true, if_false, Option.bind_some, Option.map_some, g_off_t, gf, ok_some]
      refine ⟨fr.rf _ _, ?_⟩
      unfold f225 f225_26
      rw [ifg_pos O_101]
      simp (disch := omega) only [iz0, iz1, iz2, iz3, iz4, iz5, iz7, iz8, iz9, iz10, iz15, iz20, iz25, iz30, iz40, iz49, iz99, iz100, iz300, iz343, iz500, iz999, iz1000, iz1200, iz_add, iz_sub, iz_mul, iz_neg, it_le_t, it_le_f, it_lt_t, it_lt_f, it_eq_t, it_eq_f, bz0, bz1, ifg_T, or_true, true_or, if_true, if_false, Option.bind_some, Option.map_some, mf, ok_some, and_true]
      exact fr.rf _ _
  · simp (disch := omega) only [iz0, iz1, iz2, iz3, iz4, iz5, iz7, iz8, iz9, iz10, iz15, iz20, iz25, iz30, iz40, iz49, iz99, iz100, iz300, iz343, iz500, iz999, iz1000, iz1200, iz_add, iz_sub, iz_mul, iz_neg, it_le_t, it_le_f, it_lt_t, it_lt_f, it_eq_t, it_eq_f, bz0, bz1, ifg_T, or_true, true_or, if_true, if_false, Option.bind_some, Option.map_some, g_off_f, ok_some]
    refine ⟨fr.rf _ _, ?_⟩
    unfold f225 f225_26
    rw [ifg_pos O_101]
    by_cases g : 0 ≤ a ∧ a < pl ∧ 0 ≤ c ∧ c < pl ∧ a ≠ c ∧ 0 ≤ t ∧ t ≤ 3 ∧ -1 ≤ u ∧ u ≤ 1 ∧ -1 ≤ v ∧ v ≤ 1
    · simp (disch := omega) only [iz0, iz1, iz2, iz3, iz4, iz5, iz7, iz8, iz9, iz10, iz15, iz20, iz25, iz30, iz40, iz49, iz99, iz100, iz300, iz343, iz500, iz999, iz1000, iz1200, iz_add, iz_sub, iz_mul, iz_neg, it_le_t, it_le_f, it_lt_t, it_lt_f, it_eq_t, it_eq_f, bz0, bz1, ifg_T, or_true, true_or, if_true, if_false, Option.bind_some, Option.map_some, mt, g_in_f, ok_some, and_true]
      exact fr.rf _ _
    · simp (disch := omega) only [iz0, iz1, iz2, iz3, iz4, iz5, iz7, iz8, iz9, iz10, iz15, iz20, iz25, iz30, iz40, iz49, iz99, iz100, iz300, iz343, iz500, iz999, iz1000, iz1200, iz_add, iz_sub, iz_mul, iz_neg, it_le_t, it_le_f, it_lt_t, it_lt_f, it_eq_t, it_eq_f, bz0, bz1, ifg_T, or_true, true_or, if_true, if_false, Option.bind_some, Option.map_some, mf, ok_some, and_true]
      exact fr.rf _ _
theorem c_gap (h : Core s b n pl red slip x W S st rc Rs) {a c t u v e w : Int} (a0 : -2147483648 ≤ a) (a1 : a ≤ 2147483647) (c0 : -2147483648 ≤ c) (c1 : c ≤ 2147483647) (t0 : -2147483648 ≤ t) (t1 : t ≤ 2147483647) (u0 : -2147483648 ≤ u) (u1 : u ≤ 2147483647) (v0 : -2147483648 ≤ v) (v1 : v ≤ 2147483647) (e0 : -2147483648 ≤ e) (e1 : e ≤ 2147483647) (w0 : -2147483648 ≤ w) (w1 : w ≤ 2147483647) : RO s (f132 0 (iz a) (iz c) (iz t) (iz u) (iz v) (iz e) (iz w)) (f221 101 (iz a) (iz c) (iz t) (iz u) (iz v) (iz e) (iz w)) := by
  have hpl := h.p4
  have sq := h.cn.sq
  have gt := @g_lie_t s pl h.1.1 hpl
  have gf := @g_lie_f s pl h.1.1 hpl
  have mt := @g_mlie_t s b n pl h.mn h.2.1.2.1 hpl
  have mf := @g_mlie_f s b n pl h.mn h.2.1.2.1 hpl
  have ct := @g_cell_t s pl h.1.1 hpl n h.cn
  have cf := @g_cell_f s pl h.1.1 hpl n h.cn
  have mct := @g_mcell_t s b n pl h.mn h.2.1.2.1 hpl
  have mcf := @g_mcell_f s b n pl h.mn h.2.1.2.1 hpl
  unfold RO f132 f132_35
  rw [ifg_pos O_0]
  by_cases gp : 0 ≤ w ∧ w ≤ 1
  · by_cases g : 0 ≤ a ∧ a < pl ∧ 0 ≤ c ∧ c < pl ∧ a ≠ c ∧ 0 ≤ t ∧ t ≤ 3 ∧ -1 ≤ u ∧ u ≤ 1 ∧ -1 ≤ v ∧ v ≤ 1
    · by_cases gc : 0 ≤ a ∧ a < pl ∧ 0 ≤ e ∧ e < (n * n : Nat)
      · simp (disch := omega) only [R_0_8, R_0_5, R_0_1, R_39_1, R_40_4, iz0, iz1, iz2, iz3, iz4, iz5, iz7, iz8, iz9, iz10, iz15, iz20, iz25, iz30, iz40, iz49, iz99, iz100, iz300, iz343, iz500, iz999, iz1000, iz1200, iz_add, iz_sub, iz_mul, iz_neg, it_le_t, it_le_f, it_lt_t, it_lt_f, it_eq_t, it_eq_f, bz0, bz1, ifg_T, or_true, true_or, if_true, if_false, Option.bind_some, Option.map_some, g_part_t, gt, ct]
        obtain ⟨p, q, r, rfl, rfl, rfl, hp, hq, hL⟩ := ly_of h g
        obtain ⟨k, rfl⟩ : ∃ k : Nat, e = k := ⟨e.toNat, by omega⟩
        have hk : k < n * n := by omega
        refine (both_lay h hp hq hL).bind (fun r1 ⟨b1, b2, D, G, b3, b4, b5⟩ => ?_)
        have h1 := Core_scr h b1
        have hD := b3.1
        have hD2 := b3.2.1
        have cl := cnt_le (dR n u v) (n * n)
        rw [cl_over b2 sq hk]
        have mt1 := @g_mlie_t r1.1 b n pl h1.mn h1.2.1.2.1 hpl
        have mct1 := @g_mcell_t r1.1 b n pl h1.mn h1.2.1.2.1 hpl
        have key : ok (f221 101 (iz p) (iz q) (iz r) (iz u) (iz v) (iz k) (iz w) r1.1) (fun r2 => fr Fz r1.1 r2.1 ∧ r2.2 = if dR n u v k = true then (lz (prt (GP n (Zl (sm x.1 W S p) (sm x.1 W S q) n r u v) (dR n u v) k) (GD n (Zl (sm x.1 W S p) (sm x.1 W S q) n r u v) (dR n u v)).toNat w)).toInt32 else iz (-1)) := by
          unfold f221 f221_32 f221_75
          rw [ifg_pos O_101]
          simp (disch := omega) only [iz0, iz1, iz2, iz3, iz4, iz5, iz7, iz8, iz9, iz10, iz15, iz20, iz25, iz30, iz40, iz49, iz99, iz100, iz300, iz343, iz500, iz999, iz1000, iz1200, iz_add, iz_sub, iz_mul, iz_neg, it_le_t, it_le_f, it_lt_t, it_lt_f, it_eq_t, it_eq_f, bz0, bz1, ifg_T, or_true, true_or, if_true, if_false, Option.bind_some, Option.map_some, mt1, mct1, g_mpart_t]
          refine (mo_lay h1 hp hq hL).bind (fun r2 ⟨e1, e2, e3⟩ => ?_)
          have h2 := Core_scr h1 e1
          simp (disch := omega) only [iz0, iz1, iz2, iz3, iz4, iz5, iz7, iz8, iz9, iz10, iz15, iz20, iz25, iz30, iz40, iz49, iz99, iz100, iz300, iz343, iz500, iz999, iz1000, iz1200, iz_add, iz_sub, iz_mul, iz_neg, it_le_t, it_le_f, it_lt_t, it_lt_f, it_eq_t, it_eq_f, bz0, bz1, ifg_T, or_true, true_or, if_true, if_false, Option.bind_some, Option.map_some, iz_in, iz_n, nat_toNat, R_101_39, A_125, e3.1.pos hk]
          by_cases q1 : dR n u v k = true
          · obtain ⟨g1, g2, g3⟩ := mo_gapOf h2.mn e3 hk q1
            rw [if_pos q1, if_pos q1, g1]
            simp (disch := omega) only [Option.bind_some, e3.e45, lowM, ok_some, and_true]
            exact e1
          · rw [if_neg q1, if_neg q1, ok_some]
            exact ⟨e1, rfl⟩
        by_cases q1 : dR n u v k = true
        · rw [if_pos q1] at key ⊢
          have hlt := cnt_lt hk q1
          obtain ⟨f1, f2, f3, f4⟩ := b3.2.2.2.2 _ hlt
          rw [en_at hk q1] at f4
          simp (disch := omega) only [iz0, iz1, iz2, iz3, iz4, iz5, iz7, iz8, iz9, iz10, iz15, iz20, iz25, iz30, iz40, iz49, iz99, iz100, iz300, iz343, iz500, iz999, iz1000, iz1200, iz_add, iz_sub, iz_mul, iz_neg, it_le_t, it_le_f, it_lt_t, it_lt_f, it_eq_t, it_eq_f, bz0, bz1, ifg_T, or_true, true_or, if_true, if_false, Option.bind_some, Option.map_some, iz_in, iz_n, nat_toNat, A_45, f1, b3.2.2.1, iz_l, lowC, ok_some]
          refine ⟨b1, ?_⟩
          rw [prt_E hD b4 f4]
          exact key
        · rw [if_neg q1] at key ⊢
          simp (disch := omega) only [iz0, iz1, iz2, iz3, iz4, iz5, iz7, iz8, iz9, iz10, iz15, iz20, iz25, iz30, iz40, iz49, iz99, iz100, iz300, iz343, iz500, iz999, iz1000, iz1200, iz_add, iz_sub, iz_mul, iz_neg, it_le_t, it_le_f, it_lt_t, it_lt_f, it_eq_t, it_eq_f, bz0, bz1, ifg_T, or_true, true_or, if_true, if_false, Option.bind_some, Option.map_some, ok_some]
          exact ⟨b1, key⟩
      · simp (disch := omega) only [R_0_1, iz0, iz1, iz2, iz3, iz4, iz5, iz7, iz8, iz9, iz10, iz15, iz20, iz25, iz30, iz40, iz49, iz99, iz100, iz300, iz343, iz500, iz999, iz1000, iz1200, iz_add, iz_sub, iz_mul, iz_neg, it_le_t, it_le_f, it_lt_t, it_lt_f, it_eq_t, it_eq_f, bz0, bz1, ifg_T, or_true, true_or, if_true, if_false, Option.bind_some, Option.map_some, g_part_t, gt, cf, ok_some]
        refine ⟨fr.rf _ _, ?_⟩
        unfold f221 f221_32
        rw [ifg_pos O_101]
        simp (disch := omega) only [iz0, iz1, iz2, iz3, iz4, iz5, iz7, iz8, iz9, iz10, iz15, iz20, iz25, iz30, iz40, iz49, iz99, iz100, iz300, iz343, iz500, iz999, iz1000, iz1200, iz_add, iz_sub, iz_mul, iz_neg, it_le_t, it_le_f, it_lt_t, it_lt_f, it_eq_t, it_eq_f, bz0, bz1, ifg_T, or_true, true_or, if_true, if_false, Option.bind_some, Option.map_some, mt, mcf, ok_some, and_true]
        exact fr.rf _ _
    · simp (disch := omega) only [iz0, iz1, iz2, iz3, iz4, iz5, iz7, iz8, iz9, iz10, iz15, iz20, iz25, iz30, iz40, iz49, iz99, iz100, iz300, iz343, iz500, iz999, iz1000, iz1200, iz_add, iz_sub, iz_mul, iz_neg, it_le_t, it_le_f, it_lt_t, it_lt_f, it_eq_t, it_eq_f, bz0, bz1, ifg_T, or_true, true_or, if_true, if_false, Option.bind_some, Option.map_some, g_part_t, gf, ok_some]
      refine ⟨fr.rf _ _, ?_⟩
      unfold f221 f221_32
      rw [ifg_pos O_101]
      simp (disch := omega) only [iz0, iz1, iz2, iz3, iz4, iz5, iz7, iz8, iz9, iz10, iz15, iz20, iz25, iz30, iz40, iz49, iz99, iz100, iz300, iz343, iz500, iz999, iz1000, iz1200, iz_add, iz_sub, iz_mul, iz_neg, it_le_t, it_le_f, it_lt_t, it_lt_f, it_eq_t, it_eq_f, bz0, bz1, ifg_T, or_true, true_or, if_true, if_false, Option.bind_some, Option.map_some, mf, ok_some, and_true]
      exact fr.rf _ _
  · simp (disch := omega) only [iz0, iz1, iz2, iz3, iz4, iz5, iz7, iz8, iz9, iz10, iz15, iz20, iz25, iz30, iz40, iz49, iz99, iz100, iz300, iz343, iz500, iz999, iz1000, iz1200, iz_add, iz_sub, iz_mul, iz_neg, it_le_t, it_le_f, it_lt_t, it_lt_f, it_eq_t, it_eq_f, bz0, bz1, ifg_T, or_true, true_or, if_true, if_false, Option.bind_some, Option.map_some, g_part_f, ok_some]
    refine ⟨fr.rf _ _, ?_⟩
    unfold f221 f221_32
    rw [ifg_pos O_101]
    by_cases g : 0 ≤ a ∧ a < pl ∧ 0 ≤ c ∧ c < pl ∧ a ≠ c ∧ 0 ≤ t ∧ t ≤ 3 ∧ -1 ≤ u ∧ u ≤ 1 ∧ -1 ≤ v ∧ v ≤ 1
    · by_cases gc : 0 ≤ a ∧ a < pl ∧ 0 ≤ e ∧ e < (n * n : Nat)
      · simp (disch := omega) only [iz0, iz1, iz2, iz3, iz4, iz5, iz7, iz8, iz9, iz10, iz15, iz20, iz25, iz30, iz40, iz49, iz99, iz100, iz300, iz343, iz500, iz999, iz1000, iz1200, iz_add, iz_sub, iz_mul, iz_neg, it_le_t, it_le_f, it_lt_t, it_lt_f, it_eq_t, it_eq_f, bz0, bz1, ifg_T, or_true, true_or, if_true, if_false, Option.bind_some, Option.map_some, mt, mct, g_mpart_f, ok_some, and_true]
        exact fr.rf _ _
      · simp (disch := omega) only [iz0, iz1, iz2, iz3, iz4, iz5, iz7, iz8, iz9, iz10, iz15, iz20, iz25, iz30, iz40, iz49, iz99, iz100, iz300, iz343, iz500, iz999, iz1000, iz1200, iz_add, iz_sub, iz_mul, iz_neg, it_le_t, it_le_f, it_lt_t, it_lt_f, it_eq_t, it_eq_f, bz0, bz1, ifg_T, or_true, true_or, if_true, if_false, Option.bind_some, Option.map_some, mt, mcf, ok_some, and_true]
        exact fr.rf _ _
    · simp (disch := omega) only [iz0, iz1, iz2, iz3, iz4, iz5, iz7, iz8, iz9, iz10, iz15, iz20, iz25, iz30, iz40, iz49, iz99, iz100, iz300, iz343, iz500, iz999, iz1000, iz1200, iz_add, iz_sub, iz_mul, iz_neg, it_le_t, it_le_f, it_lt_t, it_lt_f, it_eq_t, it_eq_f, bz0, bz1, ifg_T, or_true, true_or, if_true, if_false, Option.bind_some, Option.map_some, mf, ok_some, and_true]
      exact fr.rf _ _
/-- a plate alone, heights by sign g -/
def hZ (g : Int) (H : Nat → Int) (p c : Nat) : Int := g * H (25 * p + c)
theorem hZ_b {H W S : Nat → Int} (hb : Bd H W S) {p : Nat} (hp : p < 4) (n5 : n ≤ 5) {g : Int} (hg : g = 1 ∨ g = -1) : Zb n (dR n 0 0) (hZ g H p) := by
  intro c hc _
  have sq : n * n ≤ 25 := mul_le_nat n5 n5
  have := hb (25 * p + c) (by omega)
  unfold hZ
  rcases hg with rfl | rfl <;> omega
theorem cl_alone (hn : Cn s n) {id : Nat} (hB : isB id) {H W S : Nat → Int} (h : CB s id H W S) (hb : Bd H W S) {p : Nat} (hp : p < 4) {g : Int} (hg : g = 1 ∨ g = -1) : ok (f30 39 id (iz p) (iz g) s) (fun z => ok (f49 40 z.1) (fun y => fr FL s y.1 ∧ ∃ D G, CG y.1 n (dR n 0 0) (hZ g H p) D G)) := by
  refine (cl_plate hn hB h hp hg).mono (fun r1 ⟨a1, a2⟩ => ?_)
  obtain ⟨s', D, G, e1, e2, e3⟩ := cl_settle (Z := hZ g H p) (RC_at hn.2.1 hn.2.2 (by omega) (by omega) (by omega) (by omega)) (hZ_b hb hp hn.2.2 hg) a2
  exact ok.eq e1 ⟨(a1.mono FP_FL).tr e2.fr, D, G, e3⟩
theorem mo_alone1 {N : Int32} (hn : Mn s b N n) {p : Nat} (hp : p < 5) {H : Nat → Int} (hH : ∀ c, c < n * n → s.1 113 (25 * p + c) = iz (H c)) (bH : ∀ c, c < n * n → -2500 ≤ H c ∧ H c ≤ 2500) {g : Int} (hg : g = 1 ∨ g = -1) : ok (f207 101 (iz p) (iz g) s) (fun z => ok (f212 101 z.1) (fun y => fr FD0 s y.1 ∧ MG y.1 n (dR n 0 0) (fun c => g * H c))) := by
  refine (mo_alone hn hp hH bH hg).mono (fun r1 ⟨a1, a2, a3, a4⟩ => ?_)
  have hn1 : Mn r1.1 b N n := hn.fr a1 rfl (fun _ => rfl)
  obtain ⟨s', e1, e2, e3⟩ := mo_settle1 hn1 a4 (RC_at hn.2.2.2.2.1 hn.2.2.2.2.2 (by omega) (by omega) (by omega) (by omega))
  exact ok.eq e1 ⟨(a1.mono FO_D).tr (e2.mono FS_D), e3⟩
theorem mo_aloneP (h : Core s b n pl red slip x W S st rc Rs) {p : Nat} (hp : p < pl) {g : Int} (hg : g = 1 ∨ g = -1) : ok (f207 101 (iz p) (iz g) s) (fun z => ok (f212 101 z.1) (fun y => fr Fz s y.1 ∧ MG y.1 n (dR n 0 0) (hZ g x.1 p))) := by
  have hpl := h.p4
  have sq := h.cn.sq
  refine (mo_alone1 h.mn (show p < 5 by omega) (H := fun c => x.1 (25 * p + c)) (fun c hc => (h.2.1.2.2.2.2.1.1 (25 * p + c) (by omega)).1 (us_of hp hpl hc sq)) (fun c hc => by have := h.bd (25 * p + c) (by omega); omega) hg).mono (fun r hr => hr.mono (fun y ⟨a1, a2⟩ => ⟨a1.mono FD0_z, a2⟩))
theorem bind_assoc' {α β γ : Type} (p : Option α) (f : α → Option β) (g : β → Option γ) : (p.bind f).bind g = p.bind fun a => (f a).bind g := by cases p <;> rfl
theorem c_off (h : Core s b n pl red slip x W S st rc Rs) {a w : Int} (a0 : -2147483648 ≤ a) (a1 : a ≤ 2147483647) (w0 : -2147483648 ≤ w) (w1 : w ≤ 2147483647) : RO s (f137 0 (iz a) (iz w)) (f233 101 (iz a) (iz w)) := by
  have hpl := h.p4
  have sq := h.cn.sq
  have pt := @g_plate_t s pl h.1.1 hpl
  have pf := @g_plate_f s pl h.1.1 hpl
  have mpt := @g_mplate_t s b n pl h.mn h.2.1.2.1 hpl
  have mpf := @g_mplate_f s b n pl h.mn h.2.1.2.1 hpl
  unfold RO f137 f137_18
  rw [ifg_pos O_0]
  by_cases gp : 0 ≤ w ∧ w ≤ 1
  · by_cases g : 0 ≤ a ∧ a < pl
    · simp (disch := omega) only [R_0_8, R_0_5, R_0_1, R_39_1, iz0, iz1, iz2, iz3, iz4, iz5, iz7, iz8, iz9, iz10, iz15, iz20, iz25, iz30, iz40, iz49, iz99, iz100, iz300, iz343, iz500, iz999, iz1000, iz1200, iz_add, iz_sub, iz_mul, iz_neg, it_le_t, it_le_f, it_lt_t, it_lt_f, it_eq_t, it_eq_f, bz0, bz1, ifg_T, or_true, true_or, if_true, if_false, Option.bind_some, Option.map_some, g_part_t, pt]
      obtain ⟨p, rfl⟩ : ∃ p : Nat, a = p := ⟨a.toNat, by omega⟩
      have hE := GD_bd (Z := hZ 1 x.1 p) (RC_at h.2.2.1 h.2.2.2.1 (by omega) (by omega) (by omega) (by omega)) (hZ_b (n := n) h.bd (show p < 4 by omega) h.2.2.2.1 (g := 1) (by omega))
      refine (cl_alone h.cn is33 h.1.2.2.2.2.1 h.bd (show p < 4 by omega) (g := 1) (by omega)).bind (fun r0 hr0 => ?_)
      refine hr0.bind (fun r1 ⟨b1, D, G, b3⟩ => ?_)
      have h1 := Core_scr h (b1.mono FL_z)
      have hD := b3.1
      have hD2 := b3.2.1
      have hs := b3.mbd
      rw [cl_most b3 sq]
      simp (disch := omega) only [iz0, iz1, iz2, iz3, iz4, iz5, iz7, iz8, iz9, iz10, iz15, iz20, iz25, iz30, iz40, iz49, iz99, iz100, iz300, iz343, iz500, iz999, iz1000, iz1200, iz_add, iz_sub, iz_mul, iz_neg, it_le_t, it_le_f, it_lt_t, it_lt_f, it_eq_t, it_eq_f, bz0, bz1, ifg_T, or_true, true_or, if_true, if_false, Option.bind_some, Option.map_some, b3.2.2.1, iz_l, lowC, ok_some]
      refine ⟨b1.mono FL_z, ?_⟩
      unfold f233 f233_15
      rw [ifg_pos O_101]
      have mpt1 := @g_mplate_t r1.1 b n pl h1.mn h1.2.1.2.1 hpl
      simp (disch := omega) only [iz0, iz1, iz2, iz3, iz4, iz5, iz7, iz8, iz9, iz10, iz15, iz20, iz25, iz30, iz40, iz49, iz99, iz100, iz300, iz343, iz500, iz999, iz1000, iz1200, iz_add, iz_sub, iz_mul, iz_neg, it_le_t, it_le_f, it_lt_t, it_lt_f, it_eq_t, it_eq_f, bz0, bz1, ifg_T, or_true, true_or, if_true, if_false, Option.bind_some, Option.map_some, mpt1, g_mpart_t]
      unfold f232
      rw [ifg_pos O_101]
      simp only [bind_assoc', Option.bind_some, iz0, iz1, iz2, iz3, iz4, iz5, iz7, iz8, iz9, iz10, iz15, iz20, iz25, iz30, iz40, iz49, iz99, iz100, iz300, iz343, iz500, iz999, iz1000, iz1200, iz_add, iz_sub, iz_mul, iz_neg, it_le_t, it_le_f, it_lt_t, it_lt_f, it_eq_t, it_eq_f, bz0, bz1, ifg_T, or_true, true_or, if_true, if_false, Option.bind_some, Option.map_some]
      refine (mo_aloneP h1 (show p < pl by omega) (g := 1) (by omega)).bind (fun r2 hr2 => ?_)
      refine hr2.bind (fun r3 ⟨e1, e3⟩ => ?_)
      have h2 := Core_scr h1 e1
      rw [mo_most h2.mn e3]
      have hs2 := mxS_bd (dR n 0 0) (GP n (hZ 1 x.1 p) (dR n 0 0)) (B := 1000000) (by omega) (n * n) (fun c hc hd => (mo_gapOf h2.mn e3 hc hd).2.2)
      simp (disch := omega) only [iz0, iz1, iz2, iz3, iz4, iz5, iz7, iz8, iz9, iz10, iz15, iz20, iz25, iz30, iz40, iz49, iz99, iz100, iz300, iz343, iz500, iz999, iz1000, iz1200, iz_add, iz_sub, iz_mul, iz_neg, it_le_t, it_le_f, it_lt_t, it_lt_f, it_eq_t, it_eq_f, bz0, bz1, ifg_T, or_true, true_or, if_true, if_false, Option.bind_some, Option.map_some, e3.e45, lowM, ok_some]
      exact ⟨e1, by rw [prt_E hD hE.1 (b3.most hE.1)]⟩
    · simp (disch := omega) only [R_0_1, iz0, iz1, iz2, iz3, iz4, iz5, iz7, iz8, iz9, iz10, iz15, iz20, iz25, iz30, iz40, iz49, iz99, iz100, iz300, iz343, iz500, iz999, iz1000, iz1200, iz_add, iz_sub, iz_mul, iz_neg, it_le_t, it_le_f, it_lt_t, it_lt_f, it_eq_t, it_eq_f, bz0, bz1, ifg_T, or_true, true_or, if_true, if_false, Option.bind_some, Option.map_some, g_part_t, pf, ok_some]
      refine ⟨fr.rf _ _, ?_⟩
      unfold f233 f233_15
      rw [ifg_pos O_101]
      simp (disch := omega) only [iz0, iz1, iz2, iz3, iz4, iz5, iz7, iz8, iz9, iz10, iz15, iz20, iz25, iz30, iz40, iz49, iz99, iz100, iz300, iz343, iz500, iz999, iz1000, iz1200, iz_add, iz_sub, iz_mul, iz_neg, it_le_t, it_le_f, it_lt_t, it_lt_f, it_eq_t, it_eq_f, bz0, bz1, ifg_T, or_true, true_or, if_true, if_false, Option.bind_some, Option.map_some, mpf, ok_some, and_true]
      exact fr.rf _ _
  · simp (disch := omega) only [iz0, iz1, iz2, iz3, iz4, iz5, iz7, iz8, iz9, iz10, iz15, iz20, iz25, iz30, iz40, iz49, iz99, iz100, iz300, iz343, iz500, iz999, iz1000, iz1200, iz_add, iz_sub, iz_mul, iz_neg, it_le_t, it_le_f, it_lt_t, it_lt_f, it_eq_t, it_eq_f, bz0, bz1, ifg_T, or_true, true_or, if_true, if_false, Option.bind_some, Option.map_some, g_part_f, ok_some]
    refine ⟨fr.rf _ _, ?_⟩
    unfold f233 f233_15
    rw [ifg_pos O_101]
    by_cases g : 0 ≤ a ∧ a < pl
    · simp (disch := omega) only [iz0, iz1, iz2, iz3, iz4, iz5, iz7, iz8, iz9, iz10, iz15, iz20, iz25, iz30, iz40, iz49, iz99, iz100, iz300, iz343, iz500, iz999, iz1000, iz1200, iz_add, iz_sub, iz_mul, iz_neg, it_le_t, it_le_f, it_lt_t, it_lt_f, it_eq_t, it_eq_f, bz0, bz1, ifg_T, or_true, true_or, if_true, if_false, Option.bind_some, Option.map_some, mpt, g_mpart_f, ok_some, and_true]
      exact fr.rf _ _
    · simp (disch := omega) only [iz0, iz1, iz2, iz3, iz4, iz5, iz7, iz8, iz9, iz10, iz15, iz20, iz25, iz30, iz40, iz49, iz99, iz100, iz300, iz343, iz500, iz999, iz1000, iz1200, iz_add, iz_sub, iz_mul, iz_neg, it_le_t, it_le_f, it_lt_t, it_lt_f, it_eq_t, it_eq_f, bz0, bz1, ifg_T, or_true, true_or, if_true, if_false, Option.bind_some, Option.map_some, mpf, ok_some, and_true]
      exact fr.rf _ _
theorem c_hole (h : Core s b n pl red slip x W S st rc Rs) {a w : Int} (a0 : -2147483648 ≤ a) (a1 : a ≤ 2147483647) (w0 : -2147483648 ≤ w) (w1 : w ≤ 2147483647) : RO s (f146 0 (iz a) (iz w)) (f256 101 (iz a) (iz w)) := by
  have hpl := h.p4
  have sq := h.cn.sq
  have pt := @g_plate_t s pl h.1.1 hpl
  have pf := @g_plate_f s pl h.1.1 hpl
  have mpt := @g_mplate_t s b n pl h.mn h.2.1.2.1 hpl
  have mpf := @g_mplate_f s b n pl h.mn h.2.1.2.1 hpl
  unfold RO f146 f146_18
  rw [ifg_pos O_0]
  by_cases gp : 0 ≤ w ∧ w ≤ 1
  · by_cases g : 0 ≤ a ∧ a < pl
    · simp (disch := omega) only [R_0_8, R_0_5, R_0_1, R_39_1, iz0, iz1, iz2, iz3, iz4, iz5, iz7, iz8, iz9, iz10, iz15, iz20, iz25, iz30, iz40, iz49, iz99, iz100, iz300, iz343, iz500, iz999, iz1000, iz1200, iz_add, iz_sub, iz_mul, iz_neg, it_le_t, it_le_f, it_lt_t, it_lt_f, it_eq_t, it_eq_f, bz0, bz1, ifg_T, or_true, true_or, if_true, if_false, Option.bind_some, Option.map_some, g_part_t, pt]
      obtain ⟨p, rfl⟩ : ∃ p : Nat, a = p := ⟨a.toNat, by omega⟩
      have hE := GD_bd (Z := hZ (-1) x.1 p) (RC_at h.2.2.1 h.2.2.2.1 (by omega) (by omega) (by omega) (by omega)) (hZ_b (n := n) h.bd (show p < 4 by omega) h.2.2.2.1 (g := (-1)) (by omega))
      refine (cl_alone h.cn is33 h.1.2.2.2.2.1 h.bd (show p < 4 by omega) (g := (-1)) (by omega)).bind (fun r0 hr0 => ?_)
      refine hr0.bind (fun r1 ⟨b1, D, G, b3⟩ => ?_)
      have h1 := Core_scr h (b1.mono FL_z)
      have hD := b3.1
      have hD2 := b3.2.1
      have hs := b3.sbd sq
      rw [cl_all b3 sq]
      simp (disch := omega) only [iz0, iz1, iz2, iz3, iz4, iz5, iz7, iz8, iz9, iz10, iz15, iz20, iz25, iz30, iz40, iz49, iz99, iz100, iz300, iz343, iz500, iz999, iz1000, iz1200, iz_add, iz_sub, iz_mul, iz_neg, it_le_t, it_le_f, it_lt_t, it_lt_f, it_eq_t, it_eq_f, bz0, bz1, ifg_T, or_true, true_or, if_true, if_false, Option.bind_some, Option.map_some, b3.2.2.1, iz_l, lowC, ok_some]
      refine ⟨b1.mono FL_z, ?_⟩
      unfold f256 f256_15
      rw [ifg_pos O_101]
      have mpt1 := @g_mplate_t r1.1 b n pl h1.mn h1.2.1.2.1 hpl
      simp (disch := omega) only [iz0, iz1, iz2, iz3, iz4, iz5, iz7, iz8, iz9, iz10, iz15, iz20, iz25, iz30, iz40, iz49, iz99, iz100, iz300, iz343, iz500, iz999, iz1000, iz1200, iz_add, iz_sub, iz_mul, iz_neg, it_le_t, it_le_f, it_lt_t, it_lt_f, it_eq_t, it_eq_f, bz0, bz1, ifg_T, or_true, true_or, if_true, if_false, Option.bind_some, Option.map_some, mpt1, g_mpart_t]
      refine (mo_aloneP h1 (show p < pl by omega) (g := (-1)) (by omega)).bind (fun r2 hr2 => ?_)
      refine hr2.bind (fun r3 ⟨e1, e3⟩ => ?_)
      have h2 := Core_scr h1 e1
      rw [mo_sum h2.mn e3]
      have hs2 := smS_bd (d := dR n 0 0) (f := GP n (hZ (-1) x.1 p) (dR n 0 0)) (N := n * n) (B := 1000000) (by omega) (fun c hc hd => by have := (mo_gapOf h2.mn e3 hc hd).2; omega)
      simp (disch := omega) only [iz0, iz1, iz2, iz3, iz4, iz5, iz7, iz8, iz9, iz10, iz15, iz20, iz25, iz30, iz40, iz49, iz99, iz100, iz300, iz343, iz500, iz999, iz1000, iz1200, iz_add, iz_sub, iz_mul, iz_neg, it_le_t, it_le_f, it_lt_t, it_lt_f, it_eq_t, it_eq_f, bz0, bz1, ifg_T, or_true, true_or, if_true, if_false, Option.bind_some, Option.map_some, e3.e45, lowM, ok_some]
      exact ⟨e1, by rw [prt_E hD hE.1 (b3.sum)]⟩
    · simp (disch := omega) only [R_0_1, iz0, iz1, iz2, iz3, iz4, iz5, iz7, iz8, iz9, iz10, iz15, iz20, iz25, iz30, iz40, iz49, iz99, iz100, iz300, iz343, iz500, iz999, iz1000, iz1200, iz_add, iz_sub, iz_mul, iz_neg, it_le_t, it_le_f, it_lt_t, it_lt_f, it_eq_t, it_eq_f, bz0, bz1, ifg_T, or_true, true_or, if_true, if_false, Option.bind_some, Option.map_some, g_part_t, pf, ok_some]
      refine ⟨fr.rf _ _, ?_⟩
      unfold f256 f256_15
      rw [ifg_pos O_101]
      simp (disch := omega) only [iz0, iz1, iz2, iz3, iz4, iz5, iz7, iz8, iz9, iz10, iz15, iz20, iz25, iz30, iz40, iz49, iz99, iz100, iz300, iz343, iz500, iz999, iz1000, iz1200, iz_add, iz_sub, iz_mul, iz_neg, it_le_t, it_le_f, it_lt_t, it_lt_f, it_eq_t, it_eq_f, bz0, bz1, ifg_T, or_true, true_or, if_true, if_false, Option.bind_some, Option.map_some, mpf, ok_some, and_true]
      exact fr.rf _ _
  · simp (disch := omega) only [iz0, iz1, iz2, iz3, iz4, iz5, iz7, iz8, iz9, iz10, iz15, iz20, iz25, iz30, iz40, iz49, iz99, iz100, iz300, iz343, iz500, iz999, iz1000, iz1200, iz_add, iz_sub, iz_mul, iz_neg, it_le_t, it_le_f, it_lt_t, it_lt_f, it_eq_t, it_eq_f, bz0, bz1, ifg_T, or_true, true_or, if_true, if_false, Option.bind_some, Option.map_some, g_part_f, ok_some]
    refine ⟨fr.rf _ _, ?_⟩
    unfold f256 f256_15
    rw [ifg_pos O_101]
    by_cases g : 0 ≤ a ∧ a < pl
    · simp (disch := omega) only [iz0, iz1, iz2, iz3, iz4, iz5, iz7, iz8, iz9, iz10, iz15, iz20, iz25, iz30, iz40, iz49, iz99, iz100, iz300, iz343, iz500, iz999, iz1000, iz1200, iz_add, iz_sub, iz_mul, iz_neg, it_le_t, it_le_f, it_lt_t, it_lt_f, it_eq_t, it_eq_f, bz0, bz1, ifg_T, or_true, true_or, if_true, if_false, Option.bind_some, Option.map_some, mpt, g_mpart_f, ok_some, and_true]
      exact fr.rf _ _
    · simp (disch := omega) only [iz0, iz1, iz2, iz3, iz4, iz5, iz7, iz8, iz9, iz10, iz15, iz20, iz25, iz30, iz40, iz49, iz99, iz100, iz300, iz343, iz500, iz999, iz1000, iz1200, iz_add, iz_sub, iz_mul, iz_neg, it_le_t, it_le_f, it_lt_t, it_lt_f, it_eq_t, it_eq_f, bz0, bz1, ifg_T, or_true, true_or, if_true, if_false, Option.bind_some, Option.map_some, mpf, ok_some, and_true]
      exact fr.rf _ _
end RE
