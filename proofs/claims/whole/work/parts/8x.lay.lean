/-! lay: both sides -/
section LA
variable {s : xS} {b n pl : Nat} {red slip : Int} {x : sS} {W S : Nat → Int} {st : Int32} {rc : Nat} {Rs : Nat → Rn}
/-- the red cells counted: the model -/
theorem mo_layC {d : Nat → Bool} {Z : Nat → Int} {N : Int32} (hn : Mn s b N n) (hg : MG s n d Z) (hRC : RCb n d = true) {red : Int} (hr : s.1 106 b = iz red) (r0 : 0 ≤ red) (r20 : red ≤ 20) {w : Int} (hw : 0 ≤ w ∧ w ≤ 1) :
    whl (fun q : (Int32 × Int32 × xS) => f220_43 101 (iz w) q.1 q.2.1 q.2.2) (iz 0, iz 0, s) = some (s, if w = 0 then iz (cnt (rd n Z d red) (n * n)) else s.1 101 41) := by
  have sq := hn.sq25
  have key : ok (whl (fun q : (Int32 × Int32 × xS) => f220_43 101 (iz w) q.1 q.2.1 q.2.2) (iz 0, iz 0, s)) (fun r => r = (s, if w = 0 then iz (cnt (rd n Z d red) (n * n)) else s.1 101 41)) := by
    refine forzA (A := Int32) (fun c L v => v = s ∧ L = iz (cnt (rd n Z d red) c)) 0 (n * n) (by omega) (by omega) ⟨rfl, rfl⟩ (fun c L v _ hc ⟨h1, h2⟩ => ?_) (fun L v ⟨h1, h2⟩ => ?_)
    · subst h1 h2
      unfold f220_43 f220_68
      simp (disch := omega) only [iz0, iz1, iz2, iz3, iz4, iz5, iz7, iz8, iz9, iz10, iz15, iz20, iz25, iz30, iz40, iz49, iz99, iz100, iz300, iz343, iz500, iz999, iz1000, iz1200, iz_add, iz_sub, iz_mul, iz_neg, it_le_t, it_le_f, it_lt_t, it_lt_f, it_eq_t, it_eq_f, bz0, bz1, ifg_T, or_true, true_or, if_true, if_false, Option.bind_some, Option.map_some, iz_in, iz_n, nat_toNat, hn.zc]
      rw [mo_red hn hg hRC hr r0 r20 hc]
      by_cases q : rd n Z d red c = true
      · simp only [if_pos q, Option.bind_some]
        rw [if_neg (by decide)]
        simp only [iz1, iz_add, ok_some, ok_map, lp_l, lp_r, lpA_l, lpA_r, true_and]
        simp only [cnt, if_pos q]
        rfl
      · simp only [if_neg q, Option.bind_some]
        rw [if_pos (show (0 : Int32) = iz 0 from rfl)]
        simp only [iz0, iz1, iz_add, ok_some, ok_map, lp_l, lp_r, lpA_l, lpA_r, true_and]
        simp only [cnt, if_neg q]
        rfl
    · subst h1 h2
      unfold f220_43 f220_91
      simp (disch := omega) only [iz0, iz1, iz2, iz3, iz4, iz5, iz7, iz8, iz9, iz10, iz15, iz20, iz25, iz30, iz40, iz49, iz99, iz100, iz300, iz343, iz500, iz999, iz1000, iz1200, iz_add, iz_sub, iz_mul, iz_neg, it_le_t, it_le_f, it_lt_t, it_lt_f, it_eq_t, it_eq_f, bz0, bz1, ifg_T, or_true, true_or, if_true, if_false, Option.bind_some, Option.map_some, hn.zc]
      by_cases q : w = 0
      · subst q
        simp (disch := omega) only [iz0, iz1, iz2, iz3, iz4, iz5, iz7, iz8, iz9, iz10, iz15, iz20, iz25, iz30, iz40, iz49, iz99, iz100, iz300, iz343, iz500, iz999, iz1000, iz1200, iz_add, iz_sub, iz_mul, iz_neg, it_le_t, it_le_f, it_lt_t, it_lt_f, it_eq_t, it_eq_f, bz0, bz1, ifg_T, or_true, true_or, if_true, if_false, Option.bind_some, Option.map_some, ok_some, ok_map, lp_l, lp_r, lpA_l, lpA_r, true_and]
      · have : w = 1 := by omega
        subst this
        simp (disch := omega) only [iz0, iz1, iz2, iz3, iz4, iz5, iz7, iz8, iz9, iz10, iz15, iz20, iz25, iz30, iz40, iz49, iz99, iz100, iz300, iz343, iz500, iz999, iz1000, iz1200, iz_add, iz_sub, iz_mul, iz_neg, it_le_t, it_le_f, it_lt_t, it_lt_f, it_eq_t, it_eq_f, bz0, bz1, ifg_T, or_true, true_or, if_true, if_false, Option.bind_some, Option.map_some, ok_some, ok_map, lp_l, lp_r, lpA_l, lpA_r, true_and]
        rw [if_neg (by omega)]
  obtain ⟨r, e1, e2⟩ := key
  rw [e1, e2]
theorem c_lay (h : Core s b n pl red slip x W S st rc Rs) {a c t u v w : Int} (a0 : -2147483648 ≤ a) (a1 : a ≤ 2147483647) (c0 : -2147483648 ≤ c) (c1 : c ≤ 2147483647) (t0 : -2147483648 ≤ t) (t1 : t ≤ 2147483647) (u0 : -2147483648 ≤ u) (u1 : u ≤ 2147483647) (v0 : -2147483648 ≤ v) (v1 : v ≤ 2147483647) (w0 : -2147483648 ≤ w) (w1 : w ≤ 2147483647) : RO s (f131 0 (iz a) (iz c) (iz t) (iz u) (iz v) (iz w)) (f220 101 (iz a) (iz c) (iz t) (iz u) (iz v) (iz w)) := by
  have hpl := h.p4
  have sq := h.cn.sq
  have gt := @g_lie_t s pl h.1.1 hpl
  have gf := @g_lie_f s pl h.1.1 hpl
  have mt := @g_mlie_t s b n pl h.mn h.2.1.2.1 hpl
  have mf := @g_mlie_f s b n pl h.mn h.2.1.2.1 hpl
  unfold RO f131 f131_22 f131_74
  rw [ifg_pos O_0]
  by_cases gp : 0 ≤ w ∧ w ≤ 1
  · by_cases g : 0 ≤ a ∧ a < pl ∧ 0 ≤ c ∧ c < pl ∧ a ≠ c ∧ 0 ≤ t ∧ t ≤ 3 ∧ -1 ≤ u ∧ u ≤ 1 ∧ -1 ≤ v ∧ v ≤ 1
    · simp (disch := omega) only [R_0_8, R_0_5, R_39_5, iz0, iz1, iz2, iz3, iz4, iz5, iz7, iz8, iz9, iz10, iz15, iz20, iz25, iz30, iz40, iz49, iz99, iz100, iz300, iz343, iz500, iz999, iz1000, iz1200, iz_add, iz_sub, iz_mul, iz_neg, it_le_t, it_le_f, it_lt_t, it_lt_f, it_eq_t, it_eq_f, bz0, bz1, ifg_T, or_true, true_or, if_true, if_false, Option.bind_some, Option.map_some, g_part_t, gt]
      obtain ⟨p, q, r, rfl, rfl, rfl, hp, hq, hL⟩ := ly_of h g
      refine (both_lay h hp hq hL).bind (fun r1 ⟨b1, b2, D, G, b3, b4, b5⟩ => ?_)
      have h1 := Core_scr h b1
      have hr0 : 0 ≤ red ∧ red ≤ 20 := ⟨h1.2.2.2.2.2.1, h1.2.2.2.2.2.2.1⟩
      have mt1 := @g_mlie_t r1.1 b n pl h1.mn h1.2.1.2.1 hpl
      have key : ok (f220 101 (iz p) (iz q) (iz r) (iz u) (iz v) (iz w) r1.1) (fun r2 => fr Fz r1.1 r2.1 ∧ r2.2 = if w = 0 then iz (cnt (rd n (Zl (sm x.1 W S p) (sm x.1 W S q) n r u v) (dR n u v) red) (n * n)) else iz (cnt (dR n u v) (n * n))) := by
        unfold f220 f220_24
        rw [ifg_pos O_101]
        simp (disch := omega) only [iz0, iz1, iz2, iz3, iz4, iz5, iz7, iz8, iz9, iz10, iz15, iz20, iz25, iz30, iz40, iz49, iz99, iz100, iz300, iz343, iz500, iz999, iz1000, iz1200, iz_add, iz_sub, iz_mul, iz_neg, it_le_t, it_le_f, it_lt_t, it_lt_f, it_eq_t, it_eq_f, bz0, bz1, ifg_T, or_true, true_or, if_true, if_false, Option.bind_some, Option.map_some, mt1, g_in_t]
        refine (mo_lay h1 hp hq hL).bind (fun r2 ⟨e1, e2, e3⟩ => ?_)
        have h2 := Core_scr h1 e1
        rw [mo_layC h2.mn e3 hL.RC h2.2.1.2.2.1 hr0.1 hr0.2 gp, ok_some]
        exact ⟨e1, by rw [e2.2]⟩
      by_cases q2 : w = 0
      · subst q2
        rw [if_pos rfl] at key
        obtain ⟨y, g1, g2⟩ := cl_reds b3 sq h1.1.2.2.1 hr0.1 hr0.2 (a := 49) (Or.inl rfl) (e := fun k => en (dR n u v) (n * n) k) (fun k hk => ⟨(b2.2 k hk).1, by have := (en_ok hk).1; omega⟩) b2.1
        simp (disch := omega) only [iz0, iz1, iz2, iz3, iz4, iz5, iz7, iz8, iz9, iz10, iz15, iz20, iz25, iz30, iz40, iz49, iz99, iz100, iz300, iz343, iz500, iz999, iz1000, iz1200, iz_add, iz_sub, iz_mul, iz_neg, it_le_t, it_le_f, it_lt_t, it_lt_f, it_eq_t, it_eq_f, bz0, bz1, ifg_T, or_true, true_or, if_true, if_false, Option.bind_some, Option.map_some, g1, pc_all, ok_some]
        refine ⟨b1, ?_⟩
        have hc : cnt (hb y) 32 = cnt (rd n (Zl (sm x.1 W S p) (sm x.1 W S q) n r u v) (dR n u v) red) (n * n) := by
          have e : ∀ c, hb y c = true ↔ (c < n * n ∧ rd n (Zl (sm x.1 W S p) (sm x.1 W S q) n r u v) (dR n u v) red c = true) := fun c => by
            rw [g2 c, b3.reds b4 red (fun e => e) c]
            constructor
            · rintro ⟨e, e1, e2, rfl⟩
              exact ⟨e1, e2⟩
            · rintro ⟨e1, e2⟩
              exact ⟨c, e1, e2, rfl⟩
          rw [cnt_ff (N := n * n) (fun c hc => by
            cases q : hb y c with
            | false => rfl
            | true => have := (e c).mp q; omega) (by omega)]
          refine cnt_cg (fun c hc => ?_)
          rw [Bool.eq_iff_iff, e c]
          exact ⟨fun q => q.2, fun q => ⟨hc, q⟩⟩
        rw [hc]
        exact key
      · rw [if_neg q2] at key
        simp (disch := omega) only [iz0, iz1, iz2, iz3, iz4, iz5, iz7, iz8, iz9, iz10, iz15, iz20, iz25, iz30, iz40, iz49, iz99, iz100, iz300, iz343, iz500, iz999, iz1000, iz1200, iz_add, iz_sub, iz_mul, iz_neg, it_le_t, it_le_f, it_lt_t, it_lt_f, it_eq_t, it_eq_f, bz0, bz1, ifg_T, or_true, true_or, if_true, if_false, Option.bind_some, Option.map_some, b2.1, ok_some]
        exact ⟨b1, key⟩
    · simp (disch := omega) only [iz0, iz1, iz2, iz3, iz4, iz5, iz7, iz8, iz9, iz10, iz15, iz20, iz25, iz30, iz40, iz49, iz99, iz100, iz300, iz343, iz500, iz999, iz1000, iz1200, iz_add, iz_sub, iz_mul, iz_neg, it_le_t, it_le_f, it_lt_t, it_lt_f, it_eq_t, it_eq_f, bz0, bz1, ifg_T, or_true, true_or, if_true, if_false, Option.bind_some, Option.map_some, g_part_t, gf, ok_some]
      refine ⟨fr.rf _ _, ?_⟩
      unfold f220 f220_24
      rw [ifg_pos O_101]
      simp (disch := omega) only [iz0, iz1, iz2, iz3, iz4, iz5, iz7, iz8, iz9, iz10, iz15, iz20, iz25, iz30, iz40, iz49, iz99, iz100, iz300, iz343, iz500, iz999, iz1000, iz1200, iz_add, iz_sub, iz_mul, iz_neg, it_le_t, it_le_f, it_lt_t, it_lt_f, it_eq_t, it_eq_f, bz0, bz1, ifg_T, or_true, true_or, if_true, if_false, Option.bind_some, Option.map_some, mf, ok_some, and_true]
      exact fr.rf _ _
  · simp (disch := omega) only [iz0, iz1, iz2, iz3, iz4, iz5, iz7, iz8, iz9, iz10, iz15, iz20, iz25, iz30, iz40, iz49, iz99, iz100, iz300, iz343, iz500, iz999, iz1000, iz1200, iz_add, iz_sub, iz_mul, iz_neg, it_le_t, it_le_f, it_lt_t, it_lt_f, it_eq_t, it_eq_f, bz0, bz1, ifg_T, or_true, true_or, if_true, if_false, Option.bind_some, Option.map_some, g_part_f, ok_some]
    refine ⟨fr.rf _ _, ?_⟩
    unfold f220 f220_24
    rw [ifg_pos O_101]
    by_cases g : 0 ≤ a ∧ a < pl ∧ 0 ≤ c ∧ c < pl ∧ a ≠ c ∧ 0 ≤ t ∧ t ≤ 3 ∧ -1 ≤ u ∧ u ≤ 1 ∧ -1 ≤ v ∧ v ≤ 1
    · simp (disch := omega) only [iz0, iz1, iz2, iz3, iz4, iz5, iz7, iz8, iz9, iz10, iz15, iz20, iz25, iz30, iz40, iz49, iz99, iz100, iz300, iz343, iz500, iz999, iz1000, iz1200, iz_add, iz_sub, iz_mul, iz_neg, it_le_t, it_le_f, it_lt_t, it_lt_f, it_eq_t, it_eq_f, bz0, bz1, ifg_T, or_true, true_or, if_true, if_false, Option.bind_some, Option.map_some, mt, g_in_f, ok_some, and_true]
      exact fr.rf _ _
    · simp (disch := omega) only [iz0, iz1, iz2, iz3, iz4, iz5, iz7, iz8, iz9, iz10, iz15, iz20, iz25, iz30, iz40, iz49, iz99, iz100, iz300, iz343, iz500, iz999, iz1000, iz1200, iz_add, iz_sub, iz_mul, iz_neg, it_le_t, it_le_f, it_lt_t, it_lt_f, it_eq_t, it_eq_f, bz0, bz1, ifg_T, or_true, true_or, if_true, if_false, Option.bind_some, Option.map_some, mf, ok_some, and_true]
      exact fr.rf _ _
end LA
