/-! flat, hides; rounds and what they leave -/
theorem AR_10 {r : Nat} (h : r < 10) : aR 10 (iz r) = some (11 + r) := by
  have : r = 0 ∨ r = 1 ∨ r = 2 ∨ r = 3 ∨ r = 4 ∨ r = 5 ∨ r = 6 ∨ r = 7 ∨ r = 8 ∨ r = 9 := by omega
  have e : hk_ks[10]? = some (25, 10) := by decide +kernel
  unfold aR
  rw [e]
  simp (disch := omega) only [iz_in, iz_n, nat_toNat, if_true, and_true, or_true]
  rcases this with rfl | rfl | rfl | rfl | rfl | rfl | rfl | rfl | rfl | rfl <;> exact (hk_R_at (by decide) (by decide)).trans rfl
theorem isR_of {r : Nat} (h : r < 10) : isR (11 + r) := ⟨by omega, by omega⟩
noncomputable def flP (n : Nat) (H : Nat → Int) (p : Nat) (k : Int) : Bool := wi n (hZ 1 H p) (dR n 0 0) k
section RG
variable {s : xS} {b n pl : Nat} {red slip : Int} {x : sS} {W S : Nat → Int} {st : Int32} {rc : Nat} {Rs : Nat → Rn}
theorem cl_isFlat (hn : Cn s n) {id : Nat} (hB : isB id) {H : Nat → Int} (h : CB s id H W S) (hb : Bd H W S) {p : Nat} (hp : p < 4) {k : Int} (k0 : 0 ≤ k) (k9 : k ≤ 999) : ok (f96 51 id (iz p) (iz k) s) (fun r => fr FL s r.1 ∧ r.2 = if flP n H p k = true then iz 1 else iz 0) := by
  have sq := hn.sq
  have hE := GD_bd (Z := hZ 1 H p) (RC_at hn.2.1 hn.2.2 (by omega) (by omega) (by omega) (by omega)) (hZ_b (n := n) hb hp hn.2.2 (g := 1) (by omega))
  unfold f96
  rw [ifg_pos O_51, ifg_pos (B_O hB)]
  simp only [R_51_3, R_39_1, Option.bind_some, iz1]
  refine (cl_alone hn hB h hb hp (g := 1) (by omega)).bind (fun r0 hr0 => ?_)
  refine hr0.bind (fun r1 ⟨b1, D, G, b3⟩ => ?_)
  rw [cl_within b3 sq hE.1 k0 k9]
  simp only [Option.bind_some]
  unfold flP
  by_cases q : wi n (hZ 1 H p) (dR n 0 0) k = true
  · rw [if_pos q, if_pos q]
    simp (disch := omega) only [iz0, iz1, iz2, iz3, iz4, iz5, iz7, iz8, iz9, iz10, iz15, iz20, iz25, iz30, iz40, iz49, iz99, iz100, iz300, iz343, iz500, iz999, iz1000, iz1200, iz_add, iz_sub, iz_mul, iz_neg, it_le_t, it_le_f, it_lt_t, it_lt_f, it_eq_t, it_eq_f, bz0, bz1, ifg_T, or_true, true_or, if_true, if_false, Option.bind_some, Option.map_some, ok_some, and_true]
    exact b1
  · rw [if_neg q, if_neg q]
    simp (disch := omega) only [iz0, iz1, iz2, iz3, iz4, iz5, iz7, iz8, iz9, iz10, iz15, iz20, iz25, iz30, iz40, iz49, iz99, iz100, iz300, iz343, iz500, iz999, iz1000, iz1200, iz_add, iz_sub, iz_mul, iz_neg, it_le_t, it_le_f, it_lt_t, it_lt_f, it_eq_t, it_eq_f, bz0, bz1, ifg_T, or_true, true_or, if_true, if_false, Option.bind_some, Option.map_some, ok_some, and_true]
    exact b1
/-- flat, all of them -/
def flA (n pl : Nat) (H : Nat → Int) (k : Int) : Prop := ∀ p, p < pl → flP n H p k = true
theorem cl_allFlat (h : Core s b n pl red slip x W S st rc Rs) {k : Int} (k0 : 0 ≤ k) (k9 : k ≤ 999) : ok (f97 51 (iz k) s) (fun r => fr Fz s r.1 ∧ ((r.2 = iz 1 ∧ flA n pl x.1 k) ∨ (r.2 = iz 0 ∧ ¬ flA n pl x.1 k))) := by
  have hpl := h.p4
  unfold f97
  rw [ifg_pos O_51]
  simp only [iz0]
  refine forz (fun p w => fr Fz s w ∧ ∀ q, q < p → flP n x.1 q k = true) 0 pl (by omega) (by omega) ⟨fr.rf _ _, fun q hq => by omega⟩ (fun p w _ hp ⟨h1, h2⟩ => ?_) (fun w ⟨h1, h2⟩ => ?_)
  · have hw := Core_scr h h1
    unfold f97_2
    simp (disch := omega) only [R_51_0, R_51_2, hw.1.1, iz0, iz1, iz2, iz3, iz4, iz5, iz7, iz8, iz9, iz10, iz15, iz20, iz25, iz30, iz40, iz49, iz99, iz100, iz300, iz343, iz500, iz999, iz1000, iz1200, iz_add, iz_sub, iz_mul, iz_neg, it_le_t, it_le_f, it_lt_t, it_lt_f, it_eq_t, it_eq_f, bz0, bz1, ifg_T, or_true, true_or, if_true, if_false, Option.bind_some, Option.map_some]
    refine (cl_isFlat hw.cn is33 hw.1.2.2.2.2.1 hw.bd (show p < 4 by omega) k0 k9).bind (fun r1 ⟨a1, a2⟩ => ?_)
    rw [a2]
    by_cases q : flP n x.1 p k = true
    · rw [if_pos q]
      simp (disch := omega) only [iz0, iz1, iz2, iz3, iz4, iz5, iz7, iz8, iz9, iz10, iz15, iz20, iz25, iz30, iz40, iz49, iz99, iz100, iz300, iz343, iz500, iz999, iz1000, iz1200, iz_add, iz_sub, iz_mul, iz_neg, it_le_t, it_le_f, it_lt_t, it_lt_f, it_eq_t, it_eq_f, bz0, bz1, ifg_T, or_true, true_or, if_true, if_false, Option.bind_some, Option.map_some, ok_some, ok_map, lp_l, lp_r, lpA_l, lpA_r, true_and]
      refine ⟨h1.tr (a1.mono FL_z), fun j hj => ?_⟩
      by_cases r : j = p
      · rw [r]; exact q
      · exact h2 j (by omega)
    · rw [if_neg q]
      simp (disch := omega) only [iz0, iz1, iz2, iz3, iz4, iz5, iz7, iz8, iz9, iz10, iz15, iz20, iz25, iz30, iz40, iz49, iz99, iz100, iz300, iz343, iz500, iz999, iz1000, iz1200, iz_add, iz_sub, iz_mul, iz_neg, it_le_t, it_le_f, it_lt_t, it_lt_f, it_eq_t, it_eq_f, bz0, bz1, ifg_T, or_true, true_or, if_true, if_false, Option.bind_some, Option.map_some, ok_some, ok_map, lp_l, lp_r, lpA_l, lpA_r, true_and]
      exact ⟨h1.tr (a1.mono FL_z), Or.inr (fun r => q (r p hp))⟩
  · have hw := Core_scr h h1
    unfold f97_2
    simp (disch := omega) only [R_51_0, hw.1.1, iz0, iz1, iz2, iz3, iz4, iz5, iz7, iz8, iz9, iz10, iz15, iz20, iz25, iz30, iz40, iz49, iz99, iz100, iz300, iz343, iz500, iz999, iz1000, iz1200, iz_add, iz_sub, iz_mul, iz_neg, it_le_t, it_le_f, it_lt_t, it_lt_f, it_eq_t, it_eq_f, bz0, bz1, ifg_T, or_true, true_or, if_true, if_false, Option.bind_some, Option.map_some, ok_some, ok_map, lp_l, lp_r, lpA_l, lpA_r, true_and]
    exact ⟨h1, Or.inl h2⟩
theorem mo_isFlat (h : Core s b n pl red slip x W S st rc Rs) {k : Int} (k0 : 0 ≤ k) (k9 : k ≤ 999) : ok (f234 101 (iz k) s) (fun r => fr FD0 s r.1 ∧ ((r.2 = iz 1 ∧ flA n pl x.1 k) ∨ (r.2 = iz 0 ∧ ¬ flA n pl x.1 k))) := by
  have hpl := h.p4
  have sq := h.cn.sq
  unfold f234
  rw [ifg_pos O_101]
  simp only [iz0]
  refine forz (fun p w => fr FD0 s w ∧ ∀ q, q < p → flP n x.1 q k = true) 0 pl (by omega) (by omega) ⟨fr.rf _ _, fun q hq => by omega⟩ (fun p w _ hp ⟨h1, h2⟩ => ?_) (fun w ⟨h1, h2⟩ => ?_)
  · have hw := Core_scr h (h1.mono FD0_z)
    have hE := GD_bd (Z := hZ 1 x.1 p) (RC_at h.2.2.1 h.2.2.2.1 (by omega) (by omega) (by omega) (by omega)) (hZ_b (n := n) h.bd (show p < 4 by omega) h.2.2.2.1 (g := 1) (by omega))
    unfold f234_2 f232
    rw [ifg_pos O_101]
    simp (disch := omega) only [R_101_12, A_105, hw.mn.b_in, hw.mn.b_nat, hw.2.1.2.1, iz0, iz1, iz2, iz3, iz4, iz5, iz7, iz8, iz9, iz10, iz15, iz20, iz25, iz30, iz40, iz49, iz99, iz100, iz300, iz343, iz500, iz999, iz1000, iz1200, iz_add, iz_sub, iz_mul, iz_neg, it_le_t, it_le_f, it_lt_t, it_lt_f, it_eq_t, it_eq_f, bz0, bz1, ifg_T, or_true, true_or, if_true, if_false, Option.bind_some, Option.map_some, bind_assoc']
    refine (mo_alone1 hw.mn (show p < 5 by omega) (H := fun c => x.1 (25 * p + c)) (fun c hc => (hw.2.1.2.2.2.2.1.1 (25 * p + c) (by omega)).1 (us_of hp hpl hc sq)) (fun c hc => by have := h.bd (25 * p + c) (by omega); omega) (g := 1) (by omega)).bind (fun r0 hr0 => ?_)
    refine hr0.bind (fun r1 ⟨b1, b2⟩ => ?_)
    have b3 : MG r1.1 n (dR n 0 0) (hZ 1 x.1 p) := b2
    have hw1 := Core_scr hw (b1.mono FD0_z)
    have hb := mxS_bd (dR n 0 0) (GP n (hZ 1 x.1 p) (dR n 0 0)) (B := 1000000) (by omega) (n * n) (fun c hc hd => (mo_gapOf hw1.mn b3 hc hd).2.2)
    have hm2 := mbd (B := 32) (C := 999) (x := GD n (hZ 1 x.1 p) (dR n 0 0)) (y := k) (by omega) hE.2 (by omega) (by omega)
    rw [mo_most hw1.mn b3]
    simp (disch := omega) only [iz0, iz1, iz2, iz3, iz4, iz5, iz7, iz8, iz9, iz10, iz15, iz20, iz25, iz30, iz40, iz49, iz99, iz100, iz300, iz343, iz500, iz999, iz1000, iz1200, iz_add, iz_sub, iz_mul, iz_neg, it_le_t, it_le_f, it_lt_t, it_lt_f, it_eq_t, it_eq_f, bz0, bz1, ifg_T, or_true, true_or, if_true, if_false, Option.bind_some, Option.map_some, b3.e45, iz_l, lz_mul]
    by_cases q1 : mxS (dR n 0 0) (GP n (hZ 1 x.1 p) (dR n 0 0)) (n * n) ≤ GD n (hZ 1 x.1 p) (dR n 0 0) * k
    · have : flP n x.1 p k = true := by unfold flP wi; rw [decide_eq_true_eq, Int.mul_comm k]; exact q1
      rw [lk_le_t q1 (by omega) (by omega) (by omega) (by omega)]
      simp only [ok_some, ok_map, lp_l, lp_r, lpA_l, lpA_r, true_and]
      refine ⟨h1.tr b1, fun j hj => ?_⟩
      by_cases r : j = p
      · rw [r]; exact this
      · exact h2 j (by omega)
    · have : ¬ flP n x.1 p k = true := by unfold flP wi; rw [decide_eq_true_eq, Int.mul_comm k]; exact q1
      rw [lk_le_f (by omega) (by omega) (by omega) (by omega) (by omega)]
      simp only [ok_some, ok_map, lp_l, lp_r, lpA_l, lpA_r, true_and]
      exact ⟨h1.tr b1, Or.inr (fun r => this (r p hp))⟩
  · have hw := Core_scr h (h1.mono FD0_z)
    unfold f234_2
    simp (disch := omega) only [R_101_12, A_105, hw.mn.b_in, hw.mn.b_nat, hw.2.1.2.1, iz0, iz1, iz2, iz3, iz4, iz5, iz7, iz8, iz9, iz10, iz15, iz20, iz25, iz30, iz40, iz49, iz99, iz100, iz300, iz343, iz500, iz999, iz1000, iz1200, iz_add, iz_sub, iz_mul, iz_neg, it_le_t, it_le_f, it_lt_t, it_lt_f, it_eq_t, it_eq_f, bz0, bz1, ifg_T, or_true, true_or, if_true, if_false, Option.bind_some, Option.map_some, ok_some, ok_map, lp_l, lp_r, lpA_l, lpA_r, true_and]
    exact ⟨h1, Or.inl h2⟩
theorem c_flat (h : Core s b n pl red slip x W S st rc Rs) {k : Int} (k0 : -2147483648 ≤ k) (k1 : k ≤ 2147483647) : RO s (f138 0 (iz k)) (f235 101 (iz k)) := by
  unfold RO f138 f138_25
  rw [ifg_pos O_0]
  by_cases g : 0 ≤ k ∧ k ≤ 999
  · simp (disch := omega) only [iz0, iz1, iz2, iz3, iz4, iz5, iz7, iz8, iz9, iz10, iz15, iz20, iz25, iz30, iz40, iz49, iz99, iz100, iz300, iz343, iz500, iz999, iz1000, iz1200, iz_add, iz_sub, iz_mul, iz_neg, it_le_t, it_le_f, it_lt_t, it_lt_f, it_eq_t, it_eq_f, bz0, bz1, ifg_T, or_true, true_or, if_true, if_false, Option.bind_some, Option.map_some, g_off_t, R_0_9]
    refine (cl_allFlat h g.1 g.2).bind (fun r1 ⟨a1, a2⟩ => ?_)
    have key := mo_isFlat (Core_scr h a1) g.1 g.2
    have fin : ∀ v : Int32, (v = iz 1 ∧ flA n pl x.1 k ∨ v = iz 0 ∧ ¬ flA n pl x.1 k) → ok (f235 101 (iz k) r1.1) (fun r2 => fr Fz r1.1 r2.1 ∧ r2.2 = v) := by
      intro v hv
      unfold f235 f235_28
      rw [ifg_pos O_101]
      simp (disch := omega) only [iz0, iz1, iz2, iz3, iz4, iz5, iz7, iz8, iz9, iz10, iz15, iz20, iz25, iz30, iz40, iz49, iz99, iz100, iz300, iz343, iz500, iz999, iz1000, iz1200, iz_add, iz_sub, iz_mul, iz_neg, it_le_t, it_le_f, it_lt_t, it_lt_f, it_eq_t, it_eq_f, bz0, bz1, ifg_T, or_true, true_or, if_true, if_false, Option.bind_some, Option.map_some, g_in_t]
      refine key.bind (fun r2 ⟨e1, e2⟩ => ?_)
      rcases e2 with ⟨e2, e3⟩ | ⟨e2, e3⟩
      · rw [e2]
        simp (disch := omega) only [iz0, iz1, iz2, iz3, iz4, iz5, iz7, iz8, iz9, iz10, iz15, iz20, iz25, iz30, iz40, iz49, iz99, iz100, iz300, iz343, iz500, iz999, iz1000, iz1200, iz_add, iz_sub, iz_mul, iz_neg, it_le_t, it_le_f, it_lt_t, it_lt_f, it_eq_t, it_eq_f, bz0, bz1, ifg_T, or_true, true_or, if_true, if_false, Option.bind_some, Option.map_some, ok_some]
        rcases hv with ⟨q1, q2⟩ | ⟨q1, q2⟩
        · exact ⟨e1.mono FD0_z, q1.symm⟩
        · exact absurd e3 q2
      · rw [e2]
        simp (disch := omega) only [iz0, iz1, iz2, iz3, iz4, iz5, iz7, iz8, iz9, iz10, iz15, iz20, iz25, iz30, iz40, iz49, iz99, iz100, iz300, iz343, iz500, iz999, iz1000, iz1200, iz_add, iz_sub, iz_mul, iz_neg, it_le_t, it_le_f, it_lt_t, it_lt_f, it_eq_t, it_eq_f, bz0, bz1, ifg_T, or_true, true_or, if_true, if_false, Option.bind_some, Option.map_some, ok_some]
        rcases hv with ⟨q1, q2⟩ | ⟨q1, q2⟩
        · exact absurd q2 e3
        · exact ⟨e1.mono FD0_z, q1.symm⟩
    rcases a2 with ⟨a2, a3⟩ | ⟨a2, a3⟩
    · rw [a2]
      simp (disch := omega) only [iz0, iz1, iz2, iz3, iz4, iz5, iz7, iz8, iz9, iz10, iz15, iz20, iz25, iz30, iz40, iz49, iz99, iz100, iz300, iz343, iz500, iz999, iz1000, iz1200, iz_add, iz_sub, iz_mul, iz_neg, it_le_t, it_le_f, it_lt_t, it_lt_f, it_eq_t, it_eq_f, bz0, bz1, ifg_T, or_true, true_or, if_true, if_false, Option.bind_some, Option.map_some, ok_some]
      exact ⟨a1, fin _ (Or.inl ⟨rfl, a3⟩)⟩
    · rw [a2]
      simp (disch := omega) only [iz0, iz1, iz2, iz3, iz4, iz5, iz7, iz8, iz9, iz10, iz15, iz20, iz25, iz30, iz40, iz49, iz99, iz100, iz300, iz343, iz500, iz999, iz1000, iz1200, iz_add, iz_sub, iz_mul, iz_neg, it_le_t, it_le_f, it_lt_t, it_lt_f, it_eq_t, it_eq_f, bz0, bz1, ifg_T, or_true, true_or, if_true, if_false, Option.bind_some, Option.map_some, ok_some]
      exact ⟨a1, fin _ (Or.inr ⟨rfl, a3⟩)⟩
  · simp (disch := omega) only [iz0, iz1, iz2, iz3, iz4, iz5, iz7, iz8, iz9, iz10, iz15, iz20, iz25, iz30, iz40, iz49, iz99, iz100, iz300, iz343, iz500, iz999, iz1000, iz1200, iz_add, iz_sub, iz_mul, iz_neg, it_le_t, it_le_f, it_lt_t, it_lt_f, it_eq_t, it_eq_f, bz0, bz1, ifg_T, or_true, true_or, if_true, if_false, Option.bind_some, Option.map_some, g_off_f, ok_some]
    refine ⟨fr.rf _ _, ?_⟩
    unfold f235 f235_28
    rw [ifg_pos O_101]
    simp (disch := omega) only [iz0, iz1, iz2, iz3, iz4, iz5, iz7, iz8, iz9, iz10, iz15, iz20, iz25, iz30, iz40, iz49, iz99, iz100, iz300, iz343, iz500, iz999, iz1000, iz1200, iz_add, iz_sub, iz_mul, iz_neg, it_le_t, it_le_f, it_lt_t, it_lt_f, it_eq_t, it_eq_f, bz0, bz1, ifg_T, or_true, true_or, if_true, if_false, Option.bind_some, Option.map_some, g_in_f, ok_some, and_true]
    exact fr.rf _ _
theorem KV_round (h : KV n pl red slip x W S rc Rs) {r : Nat} (hr : r < rc) : KV n pl red slip (dRd n red slip W S (Rs r) x).1 W S rc Rs := by
  obtain ⟨a1, a2, a3, a4, a5, a6, a7, a8, a9, a10, a11⟩ := h
  exact ⟨a1, a2, a3, a4, a5, a6, a7, dRd_b a8 (a11 r hr) a3, a9, a10, a11⟩
theorem FC_R (id k : Nat) (h1 : 11 ≤ id) (h2 : id ≤ 20) : FC 33 id k = false := by
  have : id = 11 ∨ id = 12 ∨ id = 13 ∨ id = 14 ∨ id = 15 ∨ id = 16 ∨ id = 17 ∨ id = 18 ∨ id = 19 ∨ id = 20 := by omega
  rcases this with rfl | rfl | rfl | rfl | rfl | rfl | rfl | rfl | rfl | rfl <;> rfl
theorem FW_R (id k : Nat) (h1 : 11 ≤ id) (h2 : id ≤ 20) : FW id k = false := by
  have : id = 11 ∨ id = 12 ∨ id = 13 ∨ id = 14 ∨ id = 15 ∨ id = 16 ∨ id = 17 ∨ id = 18 ∨ id = 19 ∨ id = 20 := by omega
  rcases this with rfl | rfl | rfl | rfl | rfl | rfl | rfl | rfl | rfl | rfl <;> rfl
theorem FC_118 (id k : Nat) (h1 : 118 ≤ id) (h2 : id ≤ 124) (_ : k < 10) : FC 33 id k = false := by
  have : id = 118 ∨ id = 119 ∨ id = 120 ∨ id = 121 ∨ id = 122 ∨ id = 123 ∨ id = 124 := by omega
  rcases this with rfl | rfl | rfl | rfl | rfl | rfl | rfl <;> rfl
theorem KC_round (h : KC s n pl red slip x W S st rc Rs) (hV : KV n pl red slip x W S rc Rs) {r : Nat} (hr : r < rc) : ok (f36 39 33 (11 + r) s) (fun o => fr (FC 33) s o.1 ∧ KC o.1 n pl red slip (dRd n red slip W S (Rs r) x).1 W S (st + iz (dRd n red slip W S (Rs r) x).2) rc Rs ∧ o.2 = iz (dRd n red slip W S (Rs r) x).2) := by
  obtain ⟨a1, a2, a3, a4, a5, a6, a7, a8, a9, a10, a11⟩ := hV
  obtain ⟨c1, c2, c3, c4, c5, c6, c7, c8, c9⟩ := h
  refine (cl_scrape (s := s) ⟨c2, a1, a2⟩ is33 c5 c6 (Hb.bd a8 a9) (a11 r hr) a3 (isR_of (show r < 10 by omega)) (c9 r hr) c3 a4 a5 c4 a6 a7).mono (fun o ⟨e1, e2, e3, e4, e5⟩ => ?_)
  refine ⟨e1, ⟨by rw [e1.i _ _ rfl]; exact c1, by rw [e1.i _ _ rfl]; exact c2, by rw [e1.i _ _ rfl]; exact c3, by rw [e1.i _ _ rfl]; exact c4, e2, e3, by rw [e4, c7], by rw [e1.i _ _ rfl]; exact c8, fun q hq => (c9 q hq).fr e1 (fun k => FC_R _ k (by omega) (by omega))⟩, e5⟩
theorem KM_round (h : KM s b n pl red slip x W S st rc Rs) (hV : KV n pl red slip x W S rc Rs) {r : Nat} (hr : r < rc) : ok (f228 101 (iz r) s) (fun o => fr FW s o.1 ∧ KM o.1 b n pl red slip (dRd n red slip W S (Rs r) x).1 W S (st + iz (dRd n red slip W S (Rs r) x).2) rc Rs ∧ o.2 = iz (dRd n red slip W S (Rs r) x).2) := by
  obtain ⟨a1, a2, a3, a4, a5, a6, a7, a8, a9, a10, a11⟩ := hV
  obtain ⟨c1, c2, c3, c4, c5, c6, c7, c8, c9, c10, c11⟩ := h
  refine (mo_round c1 c5 c6 (Hb.bd a8 a9) (a11 r hr) a3 (show r < 20 by omega) (c9 r hr) c3 a4 a5 c4 a6 a7).mono (fun o ⟨e1, e2, e3, e4, e5⟩ => ?_)
  exact ⟨e1, ⟨c1.fr e1 rfl (fun _ => rfl), by rw [e1.i _ _ rfl]; exact c2, by rw [e1.i _ _ rfl]; exact c3, by rw [e1.i _ _ rfl]; exact c4, e2, e3, by rw [e4, c7], by rw [e1.i _ _ rfl]; exact c8, fun q hq => (c9 q hq).fr e1 rfl rfl rfl rfl rfl rfl rfl, fun c hc => by rw [e1.i _ _ rfl]; exact c10 c hc, by rw [e1.i _ _ rfl]; exact c11⟩, e5⟩
end RG
