/-! edge: both sides -/
section EB
variable {s : xS} {b n pl : Nat} {red slip : Int} {x : sS} {W S : Nat → Int} {st : Int32} {rc : Nat} {Rs : Nat → Rn}
theorem ce_line {z : Nat → Int} (h : EPt s z n) (hz : Zy n z) (n3 : 3 ≤ n) (n5 : n ≤ 5) {q : Nat × Nat} (hq : outn z n n = some q) : ok (f57 40 s) (fun r => fr FEq s r.1 ∧ r.1.1 40 11 = iz ((q.2 : Int) - q.1) ∧ ∀ k, k < n → r.1.1 45 k = iz (gp z q.1 q.2 k)) := by
  obtain ⟨q1, q2, q3⟩ := outn_wf (z := z) (n := n) (m := n) q hq
  unfold f57
  rw [ifg_pos O_40]
  simp only [iz0, iz1, iz_neg]
  refine forzG (fun (c : Int32 × Int32 × Int32 × Int32) i s => (c.1, c.2.1, c.2.2.1, c.2.2.2, i, s)) (fun i c v => fr FEq s v ∧ c = eC z n (outn z n i)) 0 n (c0 := (iz (-1), iz (-1), iz 0, iz 0)) (by omega) ⟨fr.rf _ _, rfl⟩ (fun i c v _ hi ⟨h1, h2⟩ => ?_) (fun c v ⟨h1, h2⟩ => ?_)
  · subst h2
    have hv := h.fr h1
    obtain ⟨r, e1, w, e2, e3⟩ := ce_in hv hz n3 n5 hi (outn_wf (z := z) (n := n) (m := i)) h1
    refine ⟨eC z n (outn z n (i + 1)), w, ?_, e3, rfl⟩
    unfold f57_12
    simp (disch := omega) only [iz0, iz1, iz2, iz3, iz4, iz5, iz7, iz8, iz9, iz10, iz15, iz20, iz25, iz30, iz40, iz49, iz99, iz100, iz300, iz343, iz500, iz999, iz1000, iz1200, iz_add, iz_sub, iz_mul, iz_neg, it_le_t, it_le_f, it_lt_t, it_lt_f, it_eq_t, it_eq_f, bz0, bz1, ifg_T, or_true, true_or, if_true, if_false, Option.bind_some, Option.map_some, hv.1]
    rw [show ((i : Int) + 1) = ((i + 1 : Nat) : Int) from rfl, e1, e2]
    rfl
  · subst h2
    have hv := h.fr h1
    rw [hq]
    obtain ⟨r, e1, e2, e3⟩ := ce_str hv n5 (show q.1 < n by omega) q2
    obtain ⟨r2, g1, g2, g3, g4, g5, g6⟩ := ce_above (hv.fr e2) hz n5 q1 q2 e3
    refine ⟨(r2.1, ()), ?_, (h1.tr e2).tr g2, g3.1, g6 q3⟩
    unfold f57_12 f57_147
    simp (disch := omega) only [eC, iz0, iz1, iz2, iz3, iz4, iz5, iz7, iz8, iz9, iz10, iz15, iz20, iz25, iz30, iz40, iz49, iz99, iz100, iz300, iz343, iz500, iz999, iz1000, iz1200, iz_add, iz_sub, iz_mul, iz_neg, it_le_t, it_le_f, it_lt_t, it_lt_f, it_eq_t, it_eq_f, bz0, bz1, ifg_T, or_true, true_or, if_true, if_false, Option.bind_some, Option.map_some, hv.1, e1, g1]
theorem ce_most {z : Nat → Int} {G : Nat → Int} (h : s.1 40 5 = iz n) (n5 : n ≤ 5) (hG : ∀ k, k < n → s.1 45 k = iz (G k)) (bG : ∀ k, k < n → -100000 ≤ G k ∧ G k ≤ 100000) : f46 40 s = some (s, iz (mN G n)) := by
  have key : ok (f46 40 s) (fun r => r = (s, iz (mN G n))) := by
    unfold f46
    rw [ifg_pos O_40]
    simp only [iz0]
    refine forzA (A := Int32) (fun k L w => w = s ∧ L = iz (mN G k)) 0 n (by omega) (by omega) ⟨rfl, rfl⟩ (fun k L w _ hk ⟨h1, h2⟩ => ?_) (fun L w ⟨h1, h2⟩ => ?_)
    · subst h1 h2
      have g1 := hG k hk
      have g2 := bG k hk
      have hb := mN_bd G (B := 100000) (by omega) k (fun j hj => (bG j (by omega)).2)
      unfold f46_4
      simp (disch := omega) only [iz0, iz1, iz2, iz3, iz4, iz5, iz7, iz8, iz9, iz10, iz15, iz20, iz25, iz30, iz40, iz49, iz99, iz100, iz300, iz343, iz500, iz999, iz1000, iz1200, iz_add, iz_sub, iz_mul, iz_neg, it_le_t, it_le_f, it_lt_t, it_lt_f, it_eq_t, it_eq_f, bz0, bz1, ifg_T, or_true, true_or, if_true, if_false, Option.bind_some, Option.map_some, iz_in, iz_n, nat_toNat, h, R_40_4, A_45, g1, ok_some, ok_map, lp_l, lp_r, lpA_l, lpA_r, true_and]
      rw [mN]
      by_cases q : mN G k < G k
      · rw [it_lt_t q (by omega) (by omega), if_pos q]
      · rw [it_lt_f (by omega) (by omega) (by omega), if_neg q]
    · subst h1 h2
      unfold f46_4
      simp (disch := omega) only [iz0, iz1, iz2, iz3, iz4, iz5, iz7, iz8, iz9, iz10, iz15, iz20, iz25, iz30, iz40, iz49, iz99, iz100, iz300, iz343, iz500, iz999, iz1000, iz1200, iz_add, iz_sub, iz_mul, iz_neg, it_le_t, it_le_f, it_lt_t, it_lt_f, it_eq_t, it_eq_f, bz0, bz1, ifg_T, or_true, true_or, if_true, if_false, Option.bind_some, Option.map_some, h, ok_some, ok_map, lp_l, lp_r, lpA_l, lpA_r, true_and]
  obtain ⟨r, e1, e2⟩ := key
  rw [e1, e2]
theorem FP_EPt {s' : xS} {z : Nat → Int} {k : Nat} (h : EPt s z k) (hk : k < 25) {v : Int} (ev : v = z k) : ok (f45 40 (iz k) (iz 0) (iz v) s) (fun r => fr FP s r.1 ∧ EPt r.1 z (k + 1)) := by
  obtain ⟨h5, h6, hp⟩ := h
  subst ev
  unfold f45
  rw [ifg_pos O_40]
  simp (disch := omega) only [h5, iz0, iz1, iz2, iz3, iz4, iz5, iz7, iz8, iz9, iz10, iz15, iz20, iz25, iz30, iz40, iz49, iz99, iz100, iz300, iz343, iz500, iz999, iz1000, iz1200, iz_add, iz_sub, iz_mul, iz_neg, it_le_t, it_le_f, it_lt_t, it_lt_f, it_eq_t, it_eq_f, bz0, bz1, ifg_T, or_true, true_or, if_true, if_false, Option.bind_some, Option.map_some, iz_in, iz_n, nat_toNat, R_40_0, R_40_1, R_40_2, W_41, W_42, W_43, up_id, up_ix, h6, pI, ok_some]
  refine ⟨((((((fr.rf _ _).ui rfl).ui rfl).ui rfl).ui rfl).ui rfl).ui rfl, ?_, ?_, fun j hj => ?_⟩
  · simp (disch := omega) only [up_eq]; rfl
  · simp (disch := omega) only [up_eq, up_ix]; rfl
  · by_cases q : j = k
    · subst q
      simp (disch := omega) only [up_eq, up_id, and_self]
    · simp (disch := omega) only [up_ix, up_id]
      exact hp j (by omega)
theorem nk5 {n k : Nat} (n5 : n ≤ 5) (hk : k < n) : n * k ≤ 20 ∧ n * k + n ≤ n * n := by
  have h1 := Nat.mul_le_mul n5 (show k ≤ 4 by omega)
  have h2 := Nat.mul_le_mul (Nat.le_refl n) (show k + 1 ≤ n by omega)
  rw [Nat.mul_add, Nat.mul_one] at h2
  exact ⟨h1, h2⟩
def zE (H : Nat → Int) (p n L : Nat) (B : Int32) (k : Nat) : Int := H (25 * p + (if B = 0 then n * k + L else n * L + k))
theorem zE_t {H : Nat → Int} {p n L : Nat} {B : Int32} (h : B = 0) (k : Nat) : zE H p n L B k = H (25 * p + (n * k + L)) := by unfold zE; rw [if_pos h]
theorem zE_f {H : Nat → Int} {p n L : Nat} {B : Int32} (h : ¬ B = 0) (k : Nat) : zE H p n L B k = H (25 * p + (n * L + k)) := by unfold zE; rw [if_neg h]
theorem ce_load (hn : Cn s n) {H W S : Nat → Int} (h : CB s 33 H W S) {p L : Nat} (hp : p < 4) (hL : L < n) (B : Int32) : ok (f32 39 33 (iz p) B (iz L) s) (fun r => fr FP s r.1 ∧ EPt r.1 (zE H p n L B) n) := by
  have n5 := hn.2.2
  have hl := nk5 n5 hL
  unfold f32
  rw [ifg_pos O_39, ifg_pos O_33, R_39_1, Option.bind_some]
  have b0 : ok (f44 40 s) (fun r => fr FP s r.1 ∧ EPt r.1 (zE H p n L B) 0) := by
    unfold f44
    rw [ifg_pos O_40]
    simp only [pI, Option.bind_some, ok_some]
    refine ⟨(((fr.rf _ _).ui rfl).ui rfl).ui rfl, ?_, ?_, fun j hj => by omega⟩
    · simp (disch := omega) only [up_ix, up_eq]; rfl
    · simp (disch := omega) only [up_ix, up_eq]; rfl
  refine b0.bind (fun r0 ⟨g1, g2⟩ => ?_)
  simp only [iz0]
  refine forz (fun k w => fr FP s w ∧ EPt w (zE H p n L B) k) 0 n (by omega) (by omega) ⟨g1, g2⟩ (fun k w _ hk ⟨h1, h2⟩ => ?_) (fun w ⟨h1, h2⟩ => ?_)
  · have hk2 := nk5 n5 hk
    have hnw : Cn w n := hn.fr h1 rfl
    have hc : ∀ m, m < 100 → w.1 34 m = iz (H m) := fun m hm => by rw [h1.i 34 m rfl]; exact (h m hm).1
    unfold f32_10 f32_55
    by_cases q : B = 0
    · have e1 := hc (25 * p + (n * k + L)) (by omega)
      have q' : B = iz 0 := by rw [← iz0]; exact q
      have ei : (p : Int) * 25 + ((n : Int) * k + L) = ((25 * p + (n * k + L) : Nat) : Int) := by push_cast; omega
      simp (disch := omega) only [iz0, iz1, iz2, iz3, iz4, iz5, iz7, iz8, iz9, iz10, iz15, iz20, iz25, iz30, iz40, iz49, iz99, iz100, iz300, iz343, iz500, iz999, iz1000, iz1200, iz_add, iz_sub, iz_mul, iz_neg, it_le_t, it_le_f, it_lt_t, it_lt_f, it_eq_t, it_eq_f, bz0, bz1, ifg_T, or_true, true_or, if_true, if_false, Option.bind_some, Option.map_some, hnw.1, R_39_0, R_39_1, R_33_0, if_pos q', ei, A_34, iz_in, iz_n, nat_toNat, e1]
      refine (FP_EPt (s' := s) h2 (by omega) (v := H (25 * p + (n * k + L))) (by rw [zE_t q])).bind (fun r ⟨f1, f2⟩ => ?_)
      simp only [ok_some, ok_map, lp_l, lp_r, lpA_l, lpA_r, true_and]
      exact ⟨h1.tr f1, f2⟩
    · have e1 := hc (25 * p + (n * L + k)) (by omega)
      have ei : (p : Int) * 25 + ((n : Int) * L + k) = ((25 * p + (n * L + k) : Nat) : Int) := by push_cast; omega
      have q' : ¬ B = iz 0 := by rw [← iz0]; exact q
      simp (disch := omega) only [iz0, iz1, iz2, iz3, iz4, iz5, iz7, iz8, iz9, iz10, iz15, iz20, iz25, iz30, iz40, iz49, iz99, iz100, iz300, iz343, iz500, iz999, iz1000, iz1200, iz_add, iz_sub, iz_mul, iz_neg, it_le_t, it_le_f, it_lt_t, it_lt_f, it_eq_t, it_eq_f, bz0, bz1, ifg_T, or_true, true_or, if_true, if_false, Option.bind_some, Option.map_some, hnw.1, R_39_0, R_39_1, R_33_0, if_neg q', ei, A_34, iz_in, iz_n, nat_toNat, e1]
      refine (FP_EPt (s' := s) h2 (by omega) (v := H (25 * p + (n * L + k))) (by rw [zE_f q])).bind (fun r ⟨f1, f2⟩ => ?_)
      simp only [ok_some, ok_map, lp_l, lp_r, lpA_l, lpA_r, true_and]
      exact ⟨h1.tr f1, f2⟩
  · have hnw : Cn w n := hn.fr h1 rfl
    unfold f32_10
    simp (disch := omega) only [iz0, iz1, iz2, iz3, iz4, iz5, iz7, iz8, iz9, iz10, iz15, iz20, iz25, iz30, iz40, iz49, iz99, iz100, iz300, iz343, iz500, iz999, iz1000, iz1200, iz_add, iz_sub, iz_mul, iz_neg, it_le_t, it_le_f, it_lt_t, it_lt_f, it_eq_t, it_eq_f, bz0, bz1, ifg_T, or_true, true_or, if_true, if_false, Option.bind_some, Option.map_some, hnw.1, R_39_0, ok_some, ok_map, lp_l, lp_r, lpA_l, lpA_r, true_and]
    exact ⟨h1, h2⟩
theorem c_edge (h : Core s b n pl red slip x W S st rc Rs) {a l w : Int} (B : Int32) (a0 : -2147483648 ≤ a) (a1 : a ≤ 2147483647) (l0 : -2147483648 ≤ l) (l1 : l ≤ 2147483647) (w0 : -2147483648 ≤ w) (w1 : w ≤ 2147483647) : RO s (f147 0 (iz a) B (iz l) (iz w)) (f260 101 (iz a) B (iz l) (iz w)) := by
  have hpl := h.p4
  have n5 := h.cn.2.2
  have n3 := h.cn.2.1
  have pt := @g_plate_t s pl h.1.1 hpl
  have pf := @g_plate_f s pl h.1.1 hpl
  have mpt := @g_mplate_t s b n pl h.mn h.2.1.2.1 hpl
  have mpf := @g_mplate_f s b n pl h.mn h.2.1.2.1 hpl
  have zn := h.mn.zn
  unfold RO f147 f147_34
  rw [ifg_pos O_0]
  by_cases gw : 0 ≤ w ∧ w ≤ 1
  · by_cases g : 0 ≤ a ∧ a < pl
    · by_cases gl : 0 ≤ l ∧ l < n
      · simp (disch := omega) only [R_0_8, R_0_5, R_0_1, R_39_1, iz0, iz1, iz2, iz3, iz4, iz5, iz7, iz8, iz9, iz10, iz15, iz20, iz25, iz30, iz40, iz49, iz99, iz100, iz300, iz343, iz500, iz999, iz1000, iz1200, iz_add, iz_sub, iz_mul, iz_neg, it_le_t, it_le_f, it_lt_t, it_lt_f, it_eq_t, it_eq_f, bz0, bz1, ifg_T, or_true, true_or, if_true, if_false, Option.bind_some, Option.map_some, g_part_t, pt, h.cn.1]
        obtain ⟨p, rfl⟩ : ∃ p : Nat, a = p := ⟨a.toNat, by omega⟩
        obtain ⟨L, rfl⟩ : ∃ L : Nat, l = L := ⟨l.toNat, by omega⟩
        have hL : L < n := by omega
        have hl := nk5 n5 hL
        have hz : Zy n (zE x.1 p n L B) := fun k hk => by
          have hk2 := nk5 n5 hk
          by_cases q : B = 0
          · rw [zE_t q]
            have := h.bd (25 * p + (n * k + L)) (by omega)
            omega
          · rw [zE_f q]
            have := h.bd (25 * p + (n * L + k)) (by omega)
            omega
        obtain ⟨q, hq⟩ := outn_some (zE x.1 p n L B) n3 n5
        obtain ⟨q1, q2, q3⟩ := outn_wf (z := zE x.1 p n L B) (n := n) (m := n) q hq
        refine (ce_load h.cn h.1.2.2.2.2.1 (show p < 4 by omega) hL B).bind (fun r0 ⟨b1, b2⟩ => ?_)
        refine (ce_line b2 hz n3 n5 hq).bind (fun r1 ⟨b3, b4, b5⟩ => ?_)
        have f1 : fr Fz s r1.1 := ((b1.mono FP_FL).tr (b3.mono FEq_FL)).mono FL_z
        have h1 := Core_scr h f1
        have hm := mN_bd (gp (zE x.1 p n L B) q.1 q.2) (B := 100000) (by omega) n (fun k hk => (gp_bd hz n5 q1 q2 hk).2)
        rw [ce_most (z := zE x.1 p n L B) (b2.fr b3).1 n5 b5 (fun k hk => gp_bd hz n5 q1 q2 hk)]
        simp (disch := omega) only [iz0, iz1, iz2, iz3, iz4, iz5, iz7, iz8, iz9, iz10, iz15, iz20, iz25, iz30, iz40, iz49, iz99, iz100, iz300, iz343, iz500, iz999, iz1000, iz1200, iz_add, iz_sub, iz_mul, iz_neg, it_le_t, it_le_f, it_lt_t, it_lt_f, it_eq_t, it_eq_f, bz0, bz1, ifg_T, or_true, true_or, if_true, if_false, Option.bind_some, Option.map_some, b4, iz_l, lowC, ok_some]
        refine ⟨f1, ?_⟩
        unfold f260
        rw [ifg_pos O_101]
        have mpt1 := @g_mplate_t r1.1 b n pl h1.mn h1.2.1.2.1 hpl
        have hc : ∀ m, Us n pl m → r1.1.1 113 m = iz (x.1 m) := fun m hm => (h1.2.1.2.2.2.2.1.1 m hm.1).1 hm
        by_cases qB : B = 0
        · have qB' : B = iz 0 := by rw [← iz0]; exact qB
          have hZ : Zr r1.1 n (iz (25 * (p : Int) + L)) (iz n) (zE x.1 p n L B) := fun k hk => by
            have hk2 := nk5 n5 hk
            have e1 := hc (25 * p + (n * k + L)) (us_of (by omega) hpl (by omega) h.cn.sq)
            have ei : 25 * (p : Int) + L + (n : Int) * k = ((25 * p + (n * k + L) : Nat) : Int) := by push_cast; omega
            rw [zE_t qB]
            simp (disch := omega) only [iz0, iz1, iz2, iz3, iz4, iz5, iz7, iz8, iz9, iz10, iz15, iz20, iz25, iz30, iz40, iz49, iz99, iz100, iz300, iz343, iz500, iz999, iz1000, iz1200, iz_add, iz_sub, iz_mul, iz_neg, it_le_t, it_le_f, it_lt_t, it_lt_f, it_eq_t, it_eq_f, bz0, bz1, ifg_T, or_true, true_or, if_true, if_false, Option.bind_some, Option.map_some, ei, A_113, iz_in, iz_n, nat_toNat, e1]
          have key := me_edge h1.mn hZ hz w0 w1 hq
          unfold f260_50
          simp (disch := omega) only [iz0, iz1, iz2, iz3, iz4, iz5, iz7, iz8, iz9, iz10, iz15, iz20, iz25, iz30, iz40, iz49, iz99, iz100, iz300, iz343, iz500, iz999, iz1000, iz1200, iz_add, iz_sub, iz_mul, iz_neg, it_le_t, it_le_f, it_lt_t, it_lt_f, it_eq_t, it_eq_f, bz0, bz1, ifg_T, or_true, true_or, if_true, if_false, Option.bind_some, Option.map_some, h1.mn.zn, mpt1, g_in_t, g_mpart_t, if_pos qB', key, ok_some, and_true]
          exact fr.rf _ _
        · have qB' : ¬ B = iz 0 := by rw [← iz0]; exact qB
          have hZ : Zr r1.1 n (iz (25 * (p : Int) + (n : Int) * L)) (iz 1) (zE x.1 p n L B) := fun k hk => by
            have hk2 := nk5 n5 hk
            have e1 := hc (25 * p + (n * L + k)) (us_of (by omega) hpl (by omega) h.cn.sq)
            have ei : 25 * (p : Int) + (n : Int) * L + 1 * k = ((25 * p + (n * L + k) : Nat) : Int) := by push_cast; omega
            rw [zE_f qB]
            simp (disch := omega) only [iz0, iz1, iz2, iz3, iz4, iz5, iz7, iz8, iz9, iz10, iz15, iz20, iz25, iz30, iz40, iz49, iz99, iz100, iz300, iz343, iz500, iz999, iz1000, iz1200, iz_add, iz_sub, iz_mul, iz_neg, it_le_t, it_le_f, it_lt_t, it_lt_f, it_eq_t, it_eq_f, bz0, bz1, ifg_T, or_true, true_or, if_true, if_false, Option.bind_some, Option.map_some, ei, A_113, iz_in, iz_n, nat_toNat, e1]
          have key := me_edge h1.mn hZ hz w0 w1 hq
          unfold f260_50
          simp (disch := omega) only [iz0, iz1, iz2, iz3, iz4, iz5, iz7, iz8, iz9, iz10, iz15, iz20, iz25, iz30, iz40, iz49, iz99, iz100, iz300, iz343, iz500, iz999, iz1000, iz1200, iz_add, iz_sub, iz_mul, iz_neg, it_le_t, it_le_f, it_lt_t, it_lt_f, it_eq_t, it_eq_f, bz0, bz1, ifg_T, or_true, true_or, if_true, if_false, Option.bind_some, Option.map_some, h1.mn.zn, mpt1, g_in_t, g_mpart_t, if_neg qB', key, ok_some, and_true]
          exact fr.rf _ _
      · have hc : ok (some (s, iz (-1)) : Option (xS × Int32)) (fun r1 => fr Fz s r1.1 ∧ ok (f260 101 (iz a) B (iz l) (iz w) r1.1) (fun r2 => fr Fz r1.1 r2.1 ∧ r2.2 = r1.2)) := by
          rw [ok_some]
          refine ⟨fr.rf _ _, ?_⟩
          unfold f260 f260_30
          rw [ifg_pos O_101]
          simp (disch := omega) only [iz0, iz1, iz2, iz3, iz4, iz5, iz7, iz8, iz9, iz10, iz15, iz20, iz25, iz30, iz40, iz49, iz99, iz100, iz300, iz343, iz500, iz999, iz1000, iz1200, iz_add, iz_sub, iz_mul, iz_neg, it_le_t, it_le_f, it_lt_t, it_lt_f, it_eq_t, it_eq_f, bz0, bz1, ifg_T, or_true, true_or, if_true, if_false, Option.bind_some, Option.map_some, zn, mpt, g_in_f, ok_some, and_true]
          exact fr.rf _ _
        by_cases gz : l < 0
        · simp (disch := omega) only [R_0_1, iz0, iz1, iz2, iz3, iz4, iz5, iz7, iz8, iz9, iz10, iz15, iz20, iz25, iz30, iz40, iz49, iz99, iz100, iz300, iz343, iz500, iz999, iz1000, iz1200, iz_add, iz_sub, iz_mul, iz_neg, it_le_t, it_le_f, it_lt_t, it_lt_f, it_eq_t, it_eq_f, bz0, bz1, ifg_T, or_true, true_or, if_true, if_false, Option.bind_some, Option.map_some, g_part_t, pt, h.cn.1]
          exact hc
        · simp (disch := omega) only [R_0_1, iz0, iz1, iz2, iz3, iz4, iz5, iz7, iz8, iz9, iz10, iz15, iz20, iz25, iz30, iz40, iz49, iz99, iz100, iz300, iz343, iz500, iz999, iz1000, iz1200, iz_add, iz_sub, iz_mul, iz_neg, it_le_t, it_le_f, it_lt_t, it_lt_f, it_eq_t, it_eq_f, bz0, bz1, ifg_T, or_true, true_or, if_true, if_false, Option.bind_some, Option.map_some, g_part_t, pt, h.cn.1]
          exact hc
    · simp (disch := omega) only [R_0_1, iz0, iz1, iz2, iz3, iz4, iz5, iz7, iz8, iz9, iz10, iz15, iz20, iz25, iz30, iz40, iz49, iz99, iz100, iz300, iz343, iz500, iz999, iz1000, iz1200, iz_add, iz_sub, iz_mul, iz_neg, it_le_t, it_le_f, it_lt_t, it_lt_f, it_eq_t, it_eq_f, bz0, bz1, ifg_T, or_true, true_or, if_true, if_false, Option.bind_some, Option.map_some, g_part_t, pf, ok_some]
      refine ⟨fr.rf _ _, ?_⟩
      unfold f260 f260_30
      rw [ifg_pos O_101]
      simp (disch := omega) only [iz0, iz1, iz2, iz3, iz4, iz5, iz7, iz8, iz9, iz10, iz15, iz20, iz25, iz30, iz40, iz49, iz99, iz100, iz300, iz343, iz500, iz999, iz1000, iz1200, iz_add, iz_sub, iz_mul, iz_neg, it_le_t, it_le_f, it_lt_t, it_lt_f, it_eq_t, it_eq_f, bz0, bz1, ifg_T, or_true, true_or, if_true, if_false, Option.bind_some, Option.map_some, mpf, ok_some, and_true]
      exact fr.rf _ _
  · simp (disch := omega) only [iz0, iz1, iz2, iz3, iz4, iz5, iz7, iz8, iz9, iz10, iz15, iz20, iz25, iz30, iz40, iz49, iz99, iz100, iz300, iz343, iz500, iz999, iz1000, iz1200, iz_add, iz_sub, iz_mul, iz_neg, it_le_t, it_le_f, it_lt_t, it_lt_f, it_eq_t, it_eq_f, bz0, bz1, ifg_T, or_true, true_or, if_true, if_false, Option.bind_some, Option.map_some, g_part_f, ok_some]
    refine ⟨fr.rf _ _, ?_⟩
    unfold f260 f260_30
    rw [ifg_pos O_101]
    by_cases g : 0 ≤ a ∧ a < pl
    · by_cases gl : 0 ≤ l ∧ l < n
      · simp (disch := omega) only [iz0, iz1, iz2, iz3, iz4, iz5, iz7, iz8, iz9, iz10, iz15, iz20, iz25, iz30, iz40, iz49, iz99, iz100, iz300, iz343, iz500, iz999, iz1000, iz1200, iz_add, iz_sub, iz_mul, iz_neg, it_le_t, it_le_f, it_lt_t, it_lt_f, it_eq_t, it_eq_f, bz0, bz1, ifg_T, or_true, true_or, if_true, if_false, Option.bind_some, Option.map_some, zn, mpt, g_in_t, g_mpart_f, ok_some, and_true]
        exact fr.rf _ _
      · simp (disch := omega) only [iz0, iz1, iz2, iz3, iz4, iz5, iz7, iz8, iz9, iz10, iz15, iz20, iz25, iz30, iz40, iz49, iz99, iz100, iz300, iz343, iz500, iz999, iz1000, iz1200, iz_add, iz_sub, iz_mul, iz_neg, it_le_t, it_le_f, it_lt_t, it_lt_f, it_eq_t, it_eq_f, bz0, bz1, ifg_T, or_true, true_or, if_true, if_false, Option.bind_some, Option.map_some, zn, mpt, g_in_f, ok_some, and_true]
        exact fr.rf _ _
    · simp (disch := omega) only [iz0, iz1, iz2, iz3, iz4, iz5, iz7, iz8, iz9, iz10, iz15, iz20, iz25, iz30, iz40, iz49, iz99, iz100, iz300, iz343, iz500, iz999, iz1000, iz1200, iz_add, iz_sub, iz_mul, iz_neg, it_le_t, it_le_f, it_lt_t, it_lt_f, it_eq_t, it_eq_f, bz0, bz1, ifg_T, or_true, true_or, if_true, if_false, Option.bind_some, Option.map_some, mpf, ok_some, and_true]
      exact fr.rf _ _
end EB
