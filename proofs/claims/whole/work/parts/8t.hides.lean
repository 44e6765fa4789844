/-! hides -/
theorem mxS_le {d : Nat → Bool} {f : Nat → Int} {B : Int} (hB : 0 ≤ B) : ∀ N, mxS d f N ≤ B ↔ ∀ c, c < N → d c = true → f c ≤ B := by
  intro N
  induction N with
  | zero => exact ⟨fun _ c hc => by omega, fun _ => by simpa [mxS] using hB⟩
  | succ N ih =>
    simp only [mxS]
    by_cases q : d N = true ∧ mxS d f N < f N
    · rw [if_pos q]
      constructor
      · intro h c hc hd
        by_cases e : c = N
        · rw [e]; exact h
        · exact ih.mp (by omega) c (by omega) hd
      · intro h
        exact h N (by omega) q.1
    · rw [if_neg q, ih]
      constructor
      · intro h c hc hd
        by_cases e : c = N
        · subst e
          have h1 := ih.mpr h
          have : ¬ mxS d f c < f c := fun r => q ⟨hd, r⟩
          omega
        · exact h c (by omega) hd
      · intro h c hc hd
        exact h c (by omega) hd
section HI
variable {s : xS} {b n pl : Nat} {red slip : Int} {x : sS} {W S : Nat → Int} {st : Int32} {rc : Nat} {Rs : Nat → Rn}
/-- round r shows red all over -/
noncomputable def hidR (n : Nat) (red : Int) (W S : Nat → Int) (H : Nat → Int) (R : Rn) : Bool := wi n (rZ n W S R H) (dR n R.2.2.2.1 R.2.2.2.2.1) red
theorem c_hides (h : Core s b n pl red slip x W S st rc Rs) : RO s (f142 0) (f244 101) := by
  have hpl := h.p4
  have hrc := h.rc10
  have sq := h.cn.sq
  have c9 := h.1.2.2.2.2.2.2.2.1
  have m37 := h.2.1.2.2.2.2.2.2.2.1
  have hV := h.2.2
  have r0 := hV.2.2.2.1
  have r20 := hV.2.2.2.2.1
  unfold RO f142
  rw [ifg_pos O_0]
  by_cases g0 : rc = 0
  · subst g0
    simp (disch := omega) only [R_0_3, c9, iz0, iz1, iz2, iz3, iz4, iz5, iz7, iz8, iz9, iz10, iz15, iz20, iz25, iz30, iz40, iz49, iz99, iz100, iz300, iz343, iz500, iz999, iz1000, iz1200, iz_add, iz_sub, iz_mul, iz_neg, it_le_t, it_le_f, it_lt_t, it_lt_f, it_eq_t, it_eq_f, bz0, bz1, ifg_T, or_true, true_or, if_true, if_false, Option.bind_some, Option.map_some, ok_some]
    refine ⟨fr.rf _ _, ?_⟩
    unfold f244
    rw [ifg_pos O_101]
    simp (disch := omega) only [m37, iz0, iz1, iz2, iz3, iz4, iz5, iz7, iz8, iz9, iz10, iz15, iz20, iz25, iz30, iz40, iz49, iz99, iz100, iz300, iz343, iz500, iz999, iz1000, iz1200, iz_add, iz_sub, iz_mul, iz_neg, it_le_t, it_le_f, it_lt_t, it_lt_f, it_eq_t, it_eq_f, bz0, bz1, ifg_T, or_true, true_or, if_true, if_false, Option.bind_some, Option.map_some, ok_some, and_true]
    exact fr.rf _ _
  · simp (disch := omega) only [R_0_3, c9, iz0, iz1, iz2, iz3, iz4, iz5, iz7, iz8, iz9, iz10, iz15, iz20, iz25, iz30, iz40, iz49, iz99, iz100, iz300, iz343, iz500, iz999, iz1000, iz1200, iz_add, iz_sub, iz_mul, iz_neg, it_le_t, it_le_f, it_lt_t, it_lt_f, it_eq_t, it_eq_f, bz0, bz1, ifg_T, or_true, true_or, if_true, if_false, Option.bind_some, Option.map_some]
    have cl : ok (whl (fun q : (Int32 × xS) => f142_14 0 q.1 q.2) (iz 0, s)) (fun r => fr Fz s r.1 ∧ ((r.2 = iz 1 ∧ ∀ i, i < rc → hidR n red W S x.1 (Rs i) = true) ∨ (r.2 = iz 0 ∧ ¬ ∀ i, i < rc → hidR n red W S x.1 (Rs i) = true))) := by
      refine forz (fun j w => fr Fz s w ∧ ∀ i, i < j → hidR n red W S x.1 (Rs i) = true) 0 rc (by omega) (by omega) ⟨fr.rf _ _, fun i hi => by omega⟩ (fun j w _ hj ⟨h1, h2⟩ => ?_) (fun w ⟨h1, h2⟩ => ?_)
      · have hw := Core_scr h h1
        obtain ⟨v1, v2, v3, v4, v5, v6, v7⟩ := hV.2.2.2.2.2.2.2.2.2.2 j hj
        obtain ⟨q0, q1, q2, q3, q4, q5, q6⟩ := hw.1.2.2.2.2.2.2.2.2 j hj
        have w9 := hw.1.2.2.2.2.2.2.2.1
        unfold f142_14
        simp (disch := omega) only [R_0_3, R_9_0, R_0_8, R_0_5, R_0_1, R_39_1, w9, iz0, iz1, iz2, iz3, iz4, iz5, iz7, iz8, iz9, iz10, iz15, iz20, iz25, iz30, iz40, iz49, iz99, iz100, iz300, iz343, iz500, iz999, iz1000, iz1200, iz_add, iz_sub, iz_mul, iz_neg, it_le_t, it_le_f, it_lt_t, it_lt_f, it_eq_t, it_eq_f, bz0, bz1, ifg_T, or_true, true_or, if_true, if_false, Option.bind_some, Option.map_some, AR_10 (show j < 10 by omega)]
        rw [ifg_pos (R_O (isR_of (show j < 10 by omega))), q0, q1, q2, q3, q4]
        refine (both_lay hw v2 v1 v4).bind (fun r1 ⟨b1, b2, D, G, b3, b4, b5⟩ => ?_)
        have e34 : r1.1.1 3 4 = iz red := by rw [b1.i _ _ rfl]; exact hw.1.2.2.1
        rw [e34, cl_within b3 sq b4 r0 (by omega)]
        simp only [Option.bind_some]
        by_cases q : hidR n red W S x.1 (Rs j) = true
        · have q' := q
          unfold hidR rZ at q'
          rw [if_pos q']
          simp (disch := omega) only [iz0, iz1, iz2, iz3, iz4, iz5, iz7, iz8, iz9, iz10, iz15, iz20, iz25, iz30, iz40, iz49, iz99, iz100, iz300, iz343, iz500, iz999, iz1000, iz1200, iz_add, iz_sub, iz_mul, iz_neg, it_le_t, it_le_f, it_lt_t, it_lt_f, it_eq_t, it_eq_f, bz0, bz1, ifg_T, or_true, true_or, if_true, if_false, Option.bind_some, Option.map_some, ok_some, ok_map, lp_l, lp_r, lpA_l, lpA_r, true_and]
          refine ⟨h1.tr b1, fun i hi => ?_⟩
          by_cases e : i = j
          · rw [e]; exact q
          · exact h2 i (by omega)
        · have q' := q
          unfold hidR rZ at q'
          rw [if_neg q']
          simp (disch := omega) only [iz0, iz1, iz2, iz3, iz4, iz5, iz7, iz8, iz9, iz10, iz15, iz20, iz25, iz30, iz40, iz49, iz99, iz100, iz300, iz343, iz500, iz999, iz1000, iz1200, iz_add, iz_sub, iz_mul, iz_neg, it_le_t, it_le_f, it_lt_t, it_lt_f, it_eq_t, it_eq_f, bz0, bz1, ifg_T, or_true, true_or, if_true, if_false, Option.bind_some, Option.map_some, ok_some, ok_map, lp_l, lp_r, lpA_l, lpA_r, true_and]
          exact ⟨h1.tr b1, Or.inr (fun r => q (r j hj))⟩
      · have hw := Core_scr h h1
        have w9 := hw.1.2.2.2.2.2.2.2.1
        unfold f142_14
        simp (disch := omega) only [R_0_3, w9, iz0, iz1, iz2, iz3, iz4, iz5, iz7, iz8, iz9, iz10, iz15, iz20, iz25, iz30, iz40, iz49, iz99, iz100, iz300, iz343, iz500, iz999, iz1000, iz1200, iz_add, iz_sub, iz_mul, iz_neg, it_le_t, it_le_f, it_lt_t, it_lt_f, it_eq_t, it_eq_f, bz0, bz1, ifg_T, or_true, true_or, if_true, if_false, Option.bind_some, Option.map_some, ok_some, ok_map, lp_l, lp_r, lpA_l, lpA_r, true_and]
        exact ⟨h1, Or.inl h2⟩
    refine cl.mono (fun r1 ⟨a1, a2⟩ => ⟨a1, ?_⟩)
    have h1 := Core_scr h a1
    have m38 := h1.2.1.2.2.2.2.2.2.2.1
    have mo : ok (f244 101 r1.1) (fun r => fr Fz r1.1 r.1 ∧ ((r.2 = iz 1 ∧ ∀ i, i < rc → hidR n red W S x.1 (Rs i) = true) ∨ (r.2 = iz 0 ∧ ¬ ∀ i, i < rc → hidR n red W S x.1 (Rs i) = true))) := by
      unfold f244
      rw [ifg_pos O_101]
      simp (disch := omega) only [m38, iz0, iz1, iz2, iz3, iz4, iz5, iz7, iz8, iz9, iz10, iz15, iz20, iz25, iz30, iz40, iz49, iz99, iz100, iz300, iz343, iz500, iz999, iz1000, iz1200, iz_add, iz_sub, iz_mul, iz_neg, it_le_t, it_le_f, it_lt_t, it_lt_f, it_eq_t, it_eq_f, bz0, bz1, ifg_T, or_true, true_or, if_true, if_false, Option.bind_some, Option.map_some]
      refine forz (fun j w => fr Fz r1.1 w ∧ ∀ i, i < j → hidR n red W S x.1 (Rs i) = true) 0 rc (by omega) (by omega) ⟨fr.rf _ _, fun i hi => by omega⟩ (fun j w _ hj ⟨h3, h2⟩ => ?_) (fun w ⟨h3, h2⟩ => ?_)
      · have hw := Core_scr h1 h3
        obtain ⟨v1, v2, v3, v4, v5, v6, v7⟩ := hV.2.2.2.2.2.2.2.2.2.2 j hj
        obtain ⟨q0, q1, q2, q3, q4, q5, q6⟩ := hw.2.1.2.2.2.2.2.2.2.2.1 j hj
        have w9 := hw.2.1.2.2.2.2.2.2.2.1
        unfold f244_11
        simp (disch := omega) only [R_101_30, R_101_31, R_101_32, R_101_33, R_101_34, A_118, A_119, A_120, A_121, A_122, w9, iz0, iz1, iz2, iz3, iz4, iz5, iz7, iz8, iz9, iz10, iz15, iz20, iz25, iz30, iz40, iz49, iz99, iz100, iz300, iz343, iz500, iz999, iz1000, iz1200, iz_add, iz_sub, iz_mul, iz_neg, it_le_t, it_le_f, it_lt_t, it_lt_f, it_eq_t, it_eq_f, bz0, bz1, ifg_T, or_true, true_or, if_true, if_false, Option.bind_some, Option.map_some, iz_in, iz_n, nat_toNat, q0, q1, q2, q3, q4]
        refine (mo_lay hw v2 v1 v4).bind (fun r2 ⟨e1, e2, e3⟩ => ?_)
        have h2' := Core_scr hw e1
        have hE := GD_bd (Z := rZ n W S (Rs j) x.1) v4.RC (Zl_b h.bd (by omega) (by omega) v4)
        have hB : 0 ≤ red * GD n (rZ n W S (Rs j) x.1) (dR n (Rs j).2.2.2.1 (Rs j).2.2.2.2.1) := Int.mul_nonneg r0 (by omega)
        have hin := forz (body := fun q : (Int32 × xS) => f244_55 101 (iz j) q.1 q.2) (fun c u => u = r2.1 ∧ ∀ e, e < c → dR n (Rs j).2.2.2.1 (Rs j).2.2.2.2.1 e = true → GP n (rZ n W S (Rs j) x.1) (dR n (Rs j).2.2.2.1 (Rs j).2.2.2.2.1) e ≤ red * GD n (rZ n W S (Rs j) x.1) (dR n (Rs j).2.2.2.1 (Rs j).2.2.2.2.1)) 0 (n * n) (Q := fun r : (Int32 × xS) ⊕ (xS × Int32) => (r = .inl (iz ((j : Int) + 1), r2.1) ∧ hidR n red W S x.1 (Rs j) = true) ∨ (r = .inr (r2.1, iz 0) ∧ ¬ hidR n red W S x.1 (Rs j) = true)) (s0 := r2.1) (by omega) (by omega) ⟨rfl, fun e he => by omega⟩ (fun c u _ hc ⟨u1, u2⟩ => ?_) (fun u ⟨u1, u2⟩ => ?_)
        · refine hin.mono (fun r hr => ?_)
          rcases hr with ⟨rfl, hr⟩ | ⟨rfl, hr⟩
          · refine ⟨rfl, h3.tr e1, fun i hi => ?_⟩
            by_cases e : i = j
            · rw [e]; exact hr
            · exact h2 i (by omega)
          · exact ⟨h3.tr e1, Or.inr ⟨rfl, fun r => hr (r j hj)⟩⟩
        · subst u1
          have hred := mo_red h2'.mn e3 v4.RC h2'.2.1.2.2.1 r0 r20 hc
          unfold f244_55 f244_82
          simp (disch := omega) only [h2'.mn.zc, R_101_39, A_125, iz0, iz1, iz2, iz3, iz4, iz5, iz7, iz8, iz9, iz10, iz15, iz20, iz25, iz30, iz40, iz49, iz99, iz100, iz300, iz343, iz500, iz999, iz1000, iz1200, iz_add, iz_sub, iz_mul, iz_neg, it_le_t, it_le_f, it_lt_t, it_lt_f, it_eq_t, it_eq_f, bz0, bz1, ifg_T, or_true, true_or, if_true, if_false, Option.bind_some, Option.map_some, iz_in, iz_n, nat_toNat, e3.1.neg hc, hred]
          by_cases qd : dR n (Rs j).2.2.2.1 (Rs j).2.2.2.2.1 c = true
          · rw [if_pos qd]
            by_cases qr : rd n (rZ n W S (Rs j) x.1) (dR n (Rs j).2.2.2.1 (Rs j).2.2.2.2.1) red c = true
            · have qr' := qr
              unfold rZ at qr'
              rw [if_pos qr']
              simp (disch := omega) only [iz0, iz1, iz2, iz3, iz4, iz5, iz7, iz8, iz9, iz10, iz15, iz20, iz25, iz30, iz40, iz49, iz99, iz100, iz300, iz343, iz500, iz999, iz1000, iz1200, iz_add, iz_sub, iz_mul, iz_neg, it_le_t, it_le_f, it_lt_t, it_lt_f, it_eq_t, it_eq_f, bz0, bz1, ifg_T, or_true, true_or, if_true, if_false, Option.bind_some, Option.map_some, ok_some, ok_map, lp_l, lp_r, lpA_l, lpA_r, true_and]
              intro e he hd
              by_cases q : e = c
              · rw [q]
                unfold rd at qr
                rw [Bool.and_eq_true, decide_eq_true_eq] at qr
                exact qr.2
              · exact u2 e (by omega) hd
            · have qr' := qr
              unfold rZ at qr'
              rw [if_neg qr']
              simp (disch := omega) only [iz0, iz1, iz2, iz3, iz4, iz5, iz7, iz8, iz9, iz10, iz15, iz20, iz25, iz30, iz40, iz49, iz99, iz100, iz300, iz343, iz500, iz999, iz1000, iz1200, iz_add, iz_sub, iz_mul, iz_neg, it_le_t, it_le_f, it_lt_t, it_lt_f, it_eq_t, it_eq_f, bz0, bz1, ifg_T, or_true, true_or, if_true, if_false, Option.bind_some, Option.map_some, ok_some, ok_map, lp_l, lp_r, lpA_l, lpA_r, true_and]
              refine Or.inr (fun r => qr ?_)
              unfold hidR wi at r
              rw [decide_eq_true_eq, mxS_le hB] at r
              unfold rd
              rw [Bool.and_eq_true, decide_eq_true_eq]
              exact ⟨qd, r c hc qd⟩
          · rw [if_neg qd]
            simp (disch := omega) only [iz0, iz1, iz2, iz3, iz4, iz5, iz7, iz8, iz9, iz10, iz15, iz20, iz25, iz30, iz40, iz49, iz99, iz100, iz300, iz343, iz500, iz999, iz1000, iz1200, iz_add, iz_sub, iz_mul, iz_neg, it_le_t, it_le_f, it_lt_t, it_lt_f, it_eq_t, it_eq_f, bz0, bz1, ifg_T, or_true, true_or, if_true, if_false, Option.bind_some, Option.map_some, ok_some, ok_map, lp_l, lp_r, lpA_l, lpA_r, true_and]
            intro e he hd
            by_cases q : e = c
            · rw [q] at hd; exact absurd hd qd
            · exact u2 e (by omega) hd
        · subst u1
          unfold f244_55
          simp (disch := omega) only [h2'.mn.zc, iz0, iz1, iz2, iz3, iz4, iz5, iz7, iz8, iz9, iz10, iz15, iz20, iz25, iz30, iz40, iz49, iz99, iz100, iz300, iz343, iz500, iz999, iz1000, iz1200, iz_add, iz_sub, iz_mul, iz_neg, it_le_t, it_le_f, it_lt_t, it_lt_f, it_eq_t, it_eq_f, bz0, bz1, ifg_T, or_true, true_or, if_true, if_false, Option.bind_some, Option.map_some, ok_some, ok_map, lp_l, lp_r, lpA_l, lpA_r, true_and]
          refine Or.inl ?_
          unfold hidR wi
          rw [decide_eq_true_eq, mxS_le hB]
          exact u2
      · have hw := Core_scr h1 h3
        have w9 := hw.2.1.2.2.2.2.2.2.2.1
        unfold f244_11
        simp (disch := omega) only [w9, iz0, iz1, iz2, iz3, iz4, iz5, iz7, iz8, iz9, iz10, iz15, iz20, iz25, iz30, iz40, iz49, iz99, iz100, iz300, iz343, iz500, iz999, iz1000, iz1200, iz_add, iz_sub, iz_mul, iz_neg, it_le_t, it_le_f, it_lt_t, it_lt_f, it_eq_t, it_eq_f, bz0, bz1, ifg_T, or_true, true_or, if_true, if_false, Option.bind_some, Option.map_some, ok_some, ok_map, lp_l, lp_r, lpA_l, lpA_r, true_and]
        exact ⟨h3, Or.inl h2⟩
    refine mo.mono (fun r2 ⟨b1, b2⟩ => ⟨b1, ?_⟩)
    rcases a2 with ⟨a2, a3⟩ | ⟨a2, a3⟩
    · rcases b2 with ⟨b2, b3⟩ | ⟨b2, b3⟩
      · rw [a2, b2]
      · exact absurd a3 b3
    · rcases b2 with ⟨b2, b3⟩ | ⟨b2, b3⟩
      · exact absurd b3 a3
      · rw [a2, b2]
end HI
