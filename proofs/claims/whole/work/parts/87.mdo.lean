/-! doRound, at the model -/
def MX (s : xS) (n pl : Nat) (x : sS) : Prop := (∀ k, Us n pl k → s.1 113 k = iz (x.1 k)) ∧ s.1 101 28 = x.2.1 ∧ s.1 101 29 = x.2.2
def FQ (id k : Nat) : Bool := id == 113 || (id == 101 && (k == 28 || k == 29))
theorem mo_slip {s : xS} {n pl : Nat} {x : sS} (h : MX s n pl x) (hx : Hb x) {a : Nat} (hu : Us n pl a) : ok (f229 101 (iz a) s) (fun r => fr FQ s r.1 ∧ MX r.1 n pl (tk a 1 x)) := by
  obtain ⟨h1, h2, h3⟩ := h
  have ha := hu.1
  have e := h1 a hu
  have hxa := hx a ha
  unfold f229 tk
  rw [ifg_pos O_101]
  by_cases q : x.1 a < -999
  · rw [if_pos q]
    simp (disch := omega) only [R_101_20, iz0, iz1, iz2, iz3, iz4, iz5, iz7, iz8, iz9, iz10, iz15, iz20, iz25, iz30, iz40, iz49, iz99, iz100, iz300, iz343, iz500, iz999, iz1000, iz1200, iz_add, iz_sub, iz_mul, iz_neg, it_le_t, it_le_f, it_lt_t, it_lt_f, it_eq_t, it_eq_f, bz0, bz1, ifg_T, or_true, true_or, if_true, if_false, Option.bind_some, Option.map_some, iz_in, iz_n, nat_toNat, A_113, e, ok_some, ok_map, lp_l, lp_r, lpA_l, lpA_r, true_and]
    exact ⟨fr.rf _ _, h1, h2, h3⟩
  · rw [if_neg q]
    simp (disch := omega) only [R_101_20, iz0, iz1, iz2, iz3, iz4, iz5, iz7, iz8, iz9, iz10, iz15, iz20, iz25, iz30, iz40, iz49, iz99, iz100, iz300, iz343, iz500, iz999, iz1000, iz1200, iz_add, iz_sub, iz_mul, iz_neg, it_le_t, it_le_f, it_lt_t, it_lt_f, it_eq_t, it_eq_f, bz0, bz1, ifg_T, or_true, true_or, if_true, if_false, Option.bind_some, Option.map_some, iz_in, iz_n, nat_toNat, A_113, W_113, e, pI, up_id, ok_some, ok_map, lp_l, lp_r, lpA_l, lpA_r, true_and]
    refine ⟨((fr.rf _ _).ui rfl).ui rfl, fun k hk => ?_, ?_, ?_⟩
    · by_cases q2 : k = a
      · subst q2
        simp (disch := omega) only [up_id, up_eq, if_true]
      · simp (disch := omega) only [up_id, up_ix, if_neg q2]
        exact h1 k hk
    · dsimp only
      rw [up_eq, h2]
    · simp (disch := omega) only [up_id, up_ix]
      exact h3
theorem mo_draw {s : xS} {n pl : Nat} {x : sS} (h : MX s n pl x) : ok (f226 101 (iz 8) s) (fun r => fr FQ s r.1 ∧ MX r.1 n pl (x.1, x.2.1, dw x.2.2) ∧ r.2 = dr (dw x.2.2)) := by
  obtain ⟨h1, h2, h3⟩ := h
  unfold f226
  rw [ifg_pos O_101]
  simp only [pI, Option.bind_some]
  rw [nz (by omega) (by omega) (by omega), ← iz8]
  simp only [dw_eq, dr_eq, up_eq, h3, ok_some, and_true]
  refine ⟨(fr.rf _ _).ui rfl, fun k hk => ?_, ?_, ?_⟩
  · simp (disch := omega) only [up_id]; exact h1 k hk
  · simp (disch := omega) only [up_ix]; exact h2
  · show xm_up s.1 101 29 (dw x.2.2) 101 29 = dw x.2.2
    exact up_eq _ _ _ _
def FW (id k : Nat) : Bool := FF id k || id == 113 || (id == 101 && (k == 27 || k == 28 || k == 29))
def FV (id k : Nat) : Bool := id == 113 || (id == 101 && (k == 27 || k == 28 || k == 29))
theorem FF_W (id k : Nat) (h : FF id k = true) : FW id k = true := by unfold FW; rw [h]; rfl
theorem FV_W (id k : Nat) (h : FV id k = true) : FW id k = true := by
  unfold FV at h
  unfold FW
  simp only [Bool.or_eq_true, Bool.and_eq_true, beq_iff_eq] at h ⊢
  omega
theorem FQ_V (id k : Nat) (h : FQ id k = true) : FV id k = true := by
  unfold FQ at h
  unfold FV
  simp only [Bool.or_eq_true, Bool.and_eq_true, beq_iff_eq] at h ⊢
  omega
theorem row_next {n c : Nat} (hc : c < n * n) (h : ¬ n - 1 ≤ c % n) : c + 1 < n * n := by
  have w1 := Nat.div_add_mod c n
  have w2 : c / n < n := Nat.div_lt_of_lt_mul hc
  have w3 : n * (c / n) + n ≤ n * n := by
    have := Nat.mul_le_mul_left n (show c / n + 1 ≤ n by omega)
    rw [Nat.mul_add, Nat.mul_one] at this
    exact this
  omega
set_option maxHeartbeats 1000000 in
/-- one cell of doRound -/
theorem mo_cell {s : xS} {b : Nat} {N : Int32} {n pl : Nat} (hn : Mn s b N n) {x : sS} (h : MX s n pl x) (hx : Hb x) {p c r : Nat} (hpl : pl ≤ 4) (hpp : p < pl) (hc : c < n * n) (hr : r < 20) {dp slip : Int} (d1 : 1 ≤ dp) (d9 : dp ≤ 9) (hdp : s.1 124 r = iz dp) (s0 : 0 ≤ slip) (s8 : slip ≤ 8) (hsl : s.1 107 b = iz slip) {T : Bool} (hT : s.1 127 c = if T = true then iz 1 else iz 0) {L : Int} :
    ok (f228_20 101 (iz r) (iz L) (iz (25 * p : Nat)) (iz c) s) (lpA ((c : Int) + 1) (fun L' w => fr FV s w ∧ w.1 101 27 = s.1 101 27 ∧ if T = true ∧ -999 ≤ x.1 (25 * p + c) then MX w n pl (sl1 n slip (25 * p) c (tk (25 * p + c) dp x)) ∧ L' = iz (L + 1) else MX w n pl x ∧ L' = iz L) (fun _ : xS × Int32 => False)) := by
  have n3 := hn.2.2.2.2.1
  have n5 := hn.2.2.2.2.2
  have sq := hn.sq25
  have hp : p < 4 := by omega
  have e := h.1 (25 * p + c) (us_of hpp hpl hc sq)
  have hxa := hx (25 * p + c) (by omega)
  have e2 : (((25 * p : Nat) : Int) + c).toNat = 25 * p + c := by omega
  have e3 : iz (((25 * p : Nat) : Int) + c) = iz ((25 * p + c : Nat) : Int) := by congr 1
  unfold f228_20 f228_160
  simp (disch := omega) only [hn.zc, iz0, iz1, iz2, iz3, iz4, iz5, iz7, iz8, iz9, iz10, iz15, iz20, iz25, iz30, iz40, iz49, iz99, iz100, iz300, iz343, iz500, iz999, iz1000, iz1200, iz_add, iz_sub, iz_mul, iz_neg, it_le_t, it_le_f, it_lt_t, it_lt_f, it_eq_t, it_eq_f, bz0, bz1, ifg_T, or_true, true_or, if_true, if_false, Option.bind_some, Option.map_some, iz_in, iz_n, nat_toNat, R_101_49, A_127, hT]
  cases T with
  | false =>
    rw [if_neg (show ¬ false = true by decide)]
    simp (disch := omega) only [iz0, iz1, iz2, iz3, iz4, iz5, iz7, iz8, iz9, iz10, iz15, iz20, iz25, iz30, iz40, iz49, iz99, iz100, iz300, iz343, iz500, iz999, iz1000, iz1200, iz_add, iz_sub, iz_mul, iz_neg, it_le_t, it_le_f, it_lt_t, it_lt_f, it_eq_t, it_eq_f, bz0, bz1, ifg_T, or_true, true_or, if_true, if_false, Option.bind_some, Option.map_some, ok_some, ok_map, lp_l, lp_r, lpA_l, lpA_r, true_and, Bool.false_eq_true, false_and]
    exact ⟨fr.rf _ _, h, trivial⟩
  | true =>
    rw [if_pos (show true = true from rfl)]
    simp (disch := omega) only [iz0, iz1, iz2, iz3, iz4, iz5, iz7, iz8, iz9, iz10, iz15, iz20, iz25, iz30, iz40, iz49, iz99, iz100, iz300, iz343, iz500, iz999, iz1000, iz1200, iz_add, iz_sub, iz_mul, iz_neg, it_le_t, it_le_f, it_lt_t, it_lt_f, it_eq_t, it_eq_f, bz0, bz1, ifg_T, or_true, true_or, if_true, if_false, Option.bind_some, Option.map_some, iz_in, iz_n, nat_toNat, R_101_20, A_113, e2, e]
    by_cases q : -999 ≤ x.1 (25 * p + c)
    · have hx1 := tk_b hx (show 25 * p + c < 100 by omega) (show 0 ≤ dp by omega) d9
      rw [it_le_t q (by omega) (by omega)]
      have q' : ¬ x.1 (25 * p + c) < -999 := by omega
      have hpos : (true = true ∧ -999 ≤ x.1 (25 * p + c)) := ⟨rfl, q⟩
      simp only [if_pos q, true_and]
      simp (disch := omega) only [iz0, iz1, iz2, iz3, iz4, iz5, iz7, iz8, iz9, iz10, iz15, iz20, iz25, iz30, iz40, iz49, iz99, iz100, iz300, iz343, iz500, iz999, iz1000, iz1200, iz_add, iz_sub, iz_mul, iz_neg, it_le_t, it_le_f, it_lt_t, it_lt_f, it_eq_t, it_eq_f, bz0, bz1, ifg_T, or_true, true_or, if_true, if_false, Option.bind_some, Option.map_some, iz_in, iz_n, nat_toNat, R_101_20, R_101_36, R_101_14, A_113, W_113, A_124, e2, e, hdp, pI, up_id, up_ix, A_107, hn.b_in, hn.b_nat, hsl]
      have b1 : fr FV s (xm_up (xm_up s.1 113 (25 * p + c) (iz (x.1 (25 * p + c) - dp))) 101 28 (s.1 101 28 + iz dp), s.2) := ((fr.rf _ _).ui rfl).ui rfl
      have b2 : MX (xm_up (xm_up s.1 113 (25 * p + c) (iz (x.1 (25 * p + c) - dp))) 101 28 (s.1 101 28 + iz dp), s.2) n pl (tk (25 * p + c) dp x) := by
        unfold tk
        rw [if_neg q']
        refine ⟨fun k hk => ?_, ?_, ?_⟩
        · by_cases q2 : k = 25 * p + c
          · subst q2
            simp (disch := omega) only [up_id, up_eq, if_true]
          · simp (disch := omega) only [up_id, up_ix, if_neg q2]
            exact h.1 k hk
        · dsimp only
          rw [up_eq, h.2.1]
        · simp (disch := omega) only [up_id, up_ix]
          exact h.2.2
      have b3 : (xm_up (xm_up s.1 113 (25 * p + c) (iz (x.1 (25 * p + c) - dp))) 101 28 (s.1 101 28 + iz dp)) 101 27 = s.1 101 27 := by simp (disch := omega) only [up_id, up_ix]
      generalize hS : (xm_up (xm_up s.1 113 (25 * p + c) (iz (x.1 (25 * p + c) - dp))) 101 28 (s.1 101 28 + iz dp), s.2) = S at b1 b2 ⊢
      have b4 : S.1 101 27 = s.1 101 27 := by rw [← hS]; exact b3
      have b5 : ∀ w, fr FV s w → Mn w b N n := fun w hw => hn.fr hw rfl (fun _ => rfl)
      have b6 : ∀ w, fr FV s w → w.1 107 b = iz slip := fun w hw => by rw [hw.i 107 b rfl]; exact hsl
      generalize hy : tk (25 * p + c) dp x = y at b2 hx1 ⊢
      unfold sl1
      by_cases z : slip ≤ 0
      · have z0 : slip = 0 := by omega
        simp (disch := omega) only [iz0, iz1, iz2, iz3, iz4, iz5, iz7, iz8, iz9, iz10, iz15, iz20, iz25, iz30, iz40, iz49, iz99, iz100, iz300, iz343, iz500, iz999, iz1000, iz1200, iz_add, iz_sub, iz_mul, iz_neg, it_le_t, it_le_f, it_lt_t, it_lt_f, it_eq_t, it_eq_f, bz0, bz1, ifg_T, or_true, true_or, if_true, if_false, Option.bind_some, Option.map_some, ok_some, ok_map, lp_l, lp_r, lpA_l, lpA_r, true_and, if_pos z]
        exact ⟨b1, b4, b2, trivial⟩
      · simp (disch := omega) only [iz0, iz1, iz2, iz3, iz4, iz5, iz7, iz8, iz9, iz10, iz15, iz20, iz25, iz30, iz40, iz49, iz99, iz100, iz300, iz343, iz500, iz999, iz1000, iz1200, iz_add, iz_sub, iz_mul, iz_neg, it_le_t, it_le_f, it_lt_t, it_lt_f, it_eq_t, it_eq_f, bz0, bz1, ifg_T, or_true, true_or, if_true, if_false, Option.bind_some, Option.map_some, if_neg z]
        refine (mo_draw b2).bind (fun r2 ⟨c1, c2, c3⟩ => ?_)
        have c4 := b1.tr (c1.mono FQ_V)
        have c5 : r2.1.1 101 27 = s.1 101 27 := by rw [c1.i 101 27 rfl]; exact b4
        simp (disch := omega) only [iz0, iz1, iz2, iz3, iz4, iz5, iz7, iz8, iz9, iz10, iz15, iz20, iz25, iz30, iz40, iz49, iz99, iz100, iz300, iz343, iz500, iz999, iz1000, iz1200, iz_add, iz_sub, iz_mul, iz_neg, it_le_t, it_le_f, it_lt_t, it_lt_f, it_eq_t, it_eq_f, bz0, bz1, ifg_T, or_true, true_or, if_true, if_false, Option.bind_some, Option.map_some, R_101_14, A_107, (b5 _ c4).b_in, (b5 _ c4).b_nat, b6 _ c4, c3]
        by_cases z2 : dr (dw y.2.2) < iz slip
        · have z3 : ¬ iz slip ≤ dr (dw y.2.2) := fun w => by have := i_le.mp w; have := i_lt.mp z2; omega
          simp only [if_pos z2, if_neg z3]
          have hx2 : Hb (y.1, y.2.1, dw y.2.2) := Hb_w hx1 _
          rw [e3]
          refine (mo_slip c2 hx2 (us_of hpp hpl hc sq)).bind (fun r3 ⟨g1, g2⟩ => ?_)
          have g4 := c4.tr (g1.mono FQ_V)
          have g5 : r3.1.1 101 27 = s.1 101 27 := by rw [g1.i 101 27 rfl]; exact c5
          have hmod : c % n < n := Nat.mod_lt _ (by omega)
          have hnx := row_next (n := n) (c := c) hc
          simp (disch := omega) only [iz0, iz1, iz2, iz3, iz4, iz5, iz7, iz8, iz9, iz10, iz15, iz20, iz25, iz30, iz40, iz49, iz99, iz100, iz300, iz343, iz500, iz999, iz1000, iz1200, iz_add, iz_sub, iz_mul, iz_neg, it_le_t, it_le_f, it_lt_t, it_lt_f, it_eq_t, it_eq_f, bz0, bz1, ifg_T, or_true, true_or, if_true, if_false, Option.bind_some, Option.map_some, (b5 _ g4).zn, nz', iz_remN]
          generalize c % n = mm at hmod hnx ⊢
          by_cases z4 : n - 1 ≤ mm
          · rw [it_le_t (by omega) (by omega) (by omega)]
            simp only [ok_some, ok_map, lp_l, lp_r, lpA_l, lpA_r, true_and, if_pos z4, and_true]
            exact ⟨g4, g5, g2⟩
          · have hc1 := hnx z4
            rw [it_le_f (by omega) (by omega) (by omega)]
            simp only [if_neg z4]
            have e5 : iz (((25 * p : Nat) : Int) + (c : Int) + 1) = iz ((25 * p + c + 1 : Nat) : Int) := by congr 1
            rw [e5]
            have hx3 := tk_b hx2 (show 25 * p + c < 100 by omega) (show (0 : Int) ≤ 1 by omega) (by omega)
            refine (mo_slip g2 hx3 (us_of hpp hpl hc1 sq)).bind (fun r4 ⟨l1, l2⟩ => ?_)
            simp only [ok_some, ok_map, lp_l, lp_r, lpA_l, lpA_r, true_and, and_true]
            exact ⟨g4.tr (l1.mono FQ_V), by rw [l1.i 101 27 rfl]; exact g5, l2⟩
        · have z3 : iz slip ≤ dr (dw y.2.2) := i_le.mpr (Int.not_lt.mp (fun w => z2 (i_lt.mpr w)))
          simp only [if_neg z2, if_pos z3, ok_some, ok_map, lp_l, lp_r, lpA_l, lpA_r, true_and, and_true]
          exact ⟨c4, c5, c2⟩
    · rw [it_le_f (by omega) (by omega) (by omega)]
      have hneg : ¬ (true = true ∧ -999 ≤ x.1 (25 * p + c)) := fun r => q r.2
      simp only [ok_some, ok_map, lp_l, lp_r, lpA_l, lpA_r, true_and, if_neg q]
      exact ⟨fr.rf _ _, h, trivial⟩
theorem mo_round {s : xS} {b : Nat} {N : Int32} {n pl : Nat} (hn : Mn s b N n) {x : sS} {W S : Nat → Int} (h : MB s n pl x.1 W S) (hM : MX s n pl x) (hb : Bd x.1 W S) {R : Rn} (hv : Rv pl n R) (hpl : pl ≤ 4) {r : Nat} (hr : r < 20) (hR : MR s r R) {red slip : Int} (hred : s.1 106 b = iz red) (r0 : 0 ≤ red) (r20 : red ≤ 20) (hsl : s.1 107 b = iz slip) (s0 : 0 ≤ slip) (s8 : slip ≤ 8) :
    ok (f228 101 (iz r) s) (fun o => fr FW s o.1 ∧ MB o.1 n pl (dRd n red slip W S R x).1.1 W S ∧ MX o.1 n pl (dRd n red slip W S R x).1 ∧ o.1.1 101 27 = s.1 101 27 + iz (dRd n red slip W S R x).2 ∧ o.2 = iz (dRd n red slip W S R x).2) := by
  have hv' := hv
  obtain ⟨v1, v2, v3, v4, v5, v6, v7⟩ := hv
  have sq := hn.sq25
  unfold f228
  rw [ifg_pos O_101]
  refine (mo_findRed hn h hb hv' hpl hr hR hred r0 r20).bind (fun r1 ⟨a1, a2⟩ => ?_)
  have hR1 : MR r1.1 r R := hR.fr a1 rfl rfl rfl rfl rfl rfl rfl
  obtain ⟨p0, p1, p2, p3, p4, p5, p6⟩ := hR1
  have hpp : R.2.2.2.2.2.1 < pl := by rcases v5 with v5 | v5 <;> rw [v5] <;> omega
  have hp : R.2.2.2.2.2.1 < 4 := by omega
  simp (disch := omega) only [R_101_35, A_123, p5, iz0, iz1, iz2, iz3, iz4, iz5, iz7, iz8, iz9, iz10, iz15, iz20, iz25, iz30, iz40, iz49, iz99, iz100, iz300, iz343, iz500, iz999, iz1000, iz1200, iz_add, iz_sub, iz_mul, iz_neg, it_le_t, it_le_f, it_lt_t, it_lt_f, it_eq_t, it_eq_f, bz0, bz1, ifg_T, or_true, true_or, if_true, if_false, Option.bind_some, Option.map_some, iz_in, iz_n, nat_toNat]
  have hM1 : MX r1.1 n pl x := ⟨fun k hk => by rw [a1.i 113 k rfl]; exact hM.1 k hk, by rw [a1.i 101 28 rfl]; exact hM.2.1, by rw [a1.i 101 29 rfl]; exact hM.2.2⟩
  have e25 : iz (25 * (R.2.2.2.2.2.1 : Int)) = iz ((25 * R.2.2.2.2.2.1 : Nat) : Int) := by congr 1
  rw [e25]
  unfold dRd
  refine forzA (A := Int32) (fun c L w => fr FV r1.1 w ∧ w.1 101 27 = r1.1.1 101 27 ∧ MX w n pl (scr n slip R.2.2.2.2.2.2 (25 * R.2.2.2.2.2.1) (rS n red W S R x.1) c x).1 ∧ L = iz (scr n slip R.2.2.2.2.2.2 (25 * R.2.2.2.2.2.1) (rS n red W S R x.1) c x).2) 0 (n * n) (by omega) (by omega) ⟨fr.rf _ _, rfl, hM1, rfl⟩ (fun c L w _ hc ⟨h1, h2, h3, h4⟩ => ?_) (fun L w ⟨h1, h2, h3, h4⟩ => ?_)
  · subst h4
    have hnw : Mn w b N n := hn.fr ((a1.mono FF_W).tr (h1.mono FV_W)) rfl (fun _ => rfl)
    have hxc := scr_b (slip := slip) (r := rS n red W S R x.1) hb.Hb (show 25 * R.2.2.2.2.2.1 + n * n ≤ 100 by omega) (show 0 ≤ R.2.2.2.2.2.2 by omega) v7 c (by omega)
    refine (mo_cell hnw h3 hxc hpl hpp hc hr v6 v7 (by rw [h1.i 124 r rfl]; exact p6) s0 s8 (by rw [h1.i 107 b rfl, a1.i 107 b rfl]; exact hsl) (T := rS n red W S R x.1 c) (by rw [h1.i 127 c rfl]; exact a2 c hc)).mono (fun o ho => ?_)
    cases o with
    | inr o => exact ho.elim
    | inl o =>
      obtain ⟨oL, oi, ow⟩ := o
      obtain ⟨k1, k2, k3, k4⟩ := ho
      refine ⟨k1, h1.tr k2, k3.trans h2, ?_⟩
      rw [scr]
      by_cases q : rS n red W S R x.1 c = true ∧ -999 ≤ (scr n slip R.2.2.2.2.2.2 (25 * R.2.2.2.2.2.1) (rS n red W S R x.1) c x).1.1 (25 * R.2.2.2.2.2.1 + c)
      · rw [if_pos q] at k4 ⊢
        exact k4
      · rw [if_neg q] at k4 ⊢
        exact k4
  · subst h4
    have hnw : Mn w b N n := hn.fr ((a1.mono FF_W).tr (h1.mono FV_W)) rfl (fun _ => rfl)
    unfold f228_20
    rw [hnw.zc, Option.bind_some, it_le_t (Int.le_refl _) (by omega) (by omega)]
    simp only [pI, Option.bind_some, ok_some, ok_map, lp_l, lp_r, lpA_l, lpA_r, true_and]
    refine ⟨((a1.mono FF_W).tr (h1.mono FV_W)).ui rfl, ⟨fun k hk => ⟨fun u => ?_, ?_⟩, ?_⟩, ⟨fun k hk => ?_, ?_, ?_⟩, ?_, trivial⟩
    · simp (disch := omega) only [up_id]; exact h3.1 k u
    · simp (disch := omega) only [up_id]; rw [h1.i 114 k rfl, a1.i 114 k rfl]; exact (h.1 k hk).2
    · have e5 : (xm_up w.1 101 27 (w.1 101 27 + iz (scr n slip R.2.2.2.2.2.2 (25 * R.2.2.2.2.2.1) (rS n red W S R x.1) (n * n) x).2), w.2).1 115 = s.1 115 := funext fun k => by dsimp only; rw [up_id _ _ (by decide), h1.i 115 k rfl, a1.i 115 k rfl]
      have e6 : (xm_up w.1 101 27 (w.1 101 27 + iz (scr n slip R.2.2.2.2.2.2 (25 * R.2.2.2.2.2.1) (rS n red W S R x.1) (n * n) x).2), w.2).1 116 = s.1 116 := funext fun k => by dsimp only; rw [up_id _ _ (by decide), h1.i 116 k rfl, a1.i 116 k rfl]
      have e7 : (xm_up w.1 101 27 (w.1 101 27 + iz (scr n slip R.2.2.2.2.2.2 (25 * R.2.2.2.2.2.1) (rS n red W S R x.1) (n * n) x).2), w.2).1 117 = s.1 117 := funext fun k => by dsimp only; rw [up_id _ _ (by decide), h1.i 117 k rfl, a1.i 117 k rfl]
      unfold MF
      rw [e5, e6, e7]
      exact h.2
    · simp (disch := omega) only [up_id]; exact h3.1 k hk
    · simp (disch := omega) only [up_ix]; exact h3.2.1
    · simp (disch := omega) only [up_ix]; exact h3.2.2
    · rw [up_eq, h2, a1.i 101 27 rfl]
