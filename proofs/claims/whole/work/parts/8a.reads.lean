/-! calls that only look: height, seems, gap, air, lift, off, hole, flat, hides -/
def Core (s : xS) (b n pl : Nat) (red slip : Int) (x : sS) (W S : Nat → Int) (st : Int32) (rc : Nat) (Rs : Nat → Rn) : Prop := KC s n pl red slip x W S st rc Rs ∧ KM s b n pl red slip x W S st rc Rs ∧ KV n pl red slip x W S rc Rs
/-- both answer alike, and nothing that counts changes -/
def RO {α : Type} (s : xS) (fc fm : xS → Option (xS × α)) : Prop := ok (fc s) (fun r1 => fr Fz s r1.1 ∧ ok (fm r1.1) (fun r2 => fr Fz r1.1 r2.1 ∧ r2.2 = r1.2))
theorem lowC {g D p : Int} (h1 : -1000000000000 ≤ g) (h2 : g ≤ 1000000000000) (h3 : 0 < D) (h4 : D ≤ 1000000000000) (p0 : -2147483648 ≤ p) (p1 : p ≤ 2147483647) (s : xS) : f171 (lz g) (lz D) (iz p) s = some (s, lz (prt g D.toNat p)) := by
  have e : D = (D.toNat : Int) := by omega
  have := cl_lowest (a := g) (b := D.toNat) (p := p) (by omega) (by omega) (by omega) p0 p1 s
  rw [← e] at this
  exact this
theorem lowM {g D p : Int} (h1 : -1000000000000 ≤ g) (h2 : g ≤ 1000000000000) (h3 : 0 < D) (h4 : D ≤ 1000000000000) (p0 : -2147483648 ≤ p) (p1 : p ≤ 2147483647) (s : xS) : f216 (lz g) (lz D) (iz p) s = some (s, lz (prt g D.toNat p)) := by
  have e : D = (D.toNat : Int) := by omega
  have := mo_part (a := g) (b := D.toNat) (p := p) (by omega) (by omega) (by omega) p0 p1 s
  rw [← e] at this
  exact this
theorem prt_E {g D P E : Int} (hD : 0 < D) (hE : 0 < E) (h : g * E = P * D) (p : Int) : prt g D.toNat p = prt P E.toNat p := by
  refine prt_eq (by omega) (by omega) ?_ p
  rw [show ((D.toNat : Nat) : Int) = D by omega, show ((E.toNat : Nat) : Int) = E by omega]
  exact h
section RD
variable {s : xS} {b n pl : Nat} {red slip : Int} {x : sS} {W S : Nat → Int} {st : Int32} {rc : Nat} {Rs : Nat → Rn}
theorem Core_scr {s' : xS} (h : Core s b n pl red slip x W S st rc Rs) (hf : fr Fz s s') : Core s' b n pl red slip x W S st rc Rs := ⟨KC_scr h.1 hf h.2.2.2.2.2.2.2.2.2.2.2.1, KM_scr h.2.1 hf h.2.2.2.2.2.2.2.2.2.2.2.1, h.2.2⟩
theorem Core.cn (h : Core s b n pl red slip x W S st rc Rs) : Cn s n := ⟨h.1.2.1, h.2.2.1, h.2.2.2.1⟩
theorem Core.p4 (h : Core s b n pl red slip x W S st rc Rs) : pl ≤ 4 := h.2.2.2.2.1
theorem Core.bd (h : Core s b n pl red slip x W S st rc Rs) : Bd x.1 W S := Hb.bd h.2.2.2.2.2.2.2.2.2.1 h.2.2.2.2.2.2.2.2.2.2.1
theorem Core.mn (h : Core s b n pl red slip x W S st rc Rs) : Mn s b (iz n) n := h.2.1.1
theorem is33 : isB 33 := Or.inl rfl
theorem c_height (h : Core s b n pl red slip x W S st rc Rs) {p c : Int} (p0 : -2147483648 ≤ p) (p1 : p ≤ 2147483647) (c0 : -2147483648 ≤ c) (c1 : c ≤ 2147483647) : RO s (f129 0 (iz p) (iz c)) (f200 101 (iz p) (iz c)) := by
  have hpl := h.p4
  have sq := h.cn.sq
  have gt := @g_cell_t s pl h.1.1 hpl n h.cn
  have gf := @g_cell_f s pl h.1.1 hpl n h.cn
  have mt := @g_mcell_t s b n pl h.mn h.2.1.2.1 hpl
  have mf := @g_mcell_f s b n pl h.mn h.2.1.2.1 hpl
  unfold RO f129 f129_31 f200 f200_26
  by_cases g : 0 ≤ p ∧ p < pl ∧ 0 ≤ c ∧ c < (n * n : Nat)
  · obtain ⟨p', rfl⟩ : ∃ p' : Nat, p = p' := ⟨p.toNat, by omega⟩
    obtain ⟨c', rfl⟩ : ∃ c' : Nat, c = c' := ⟨c.toNat, by omega⟩
    have e1 := (h.1.2.2.2.2.1 (25 * p' + c') (by omega)).1
    have e2 := (h.2.1.2.2.2.2.1.1 (25 * p' + c') (by omega)).1 (us_of (by omega) hpl (by omega) h.cn.sq)
    have n1 : ((p' : Int) * 25 + c').toNat = 25 * p' + c' := by omega
    have n2 : (25 * (p' : Int) + c').toNat = 25 * p' + c' := by omega
    rw [ifg_pos O_0]
    simp (disch := omega) only [R_0_1, R_0_5, R_33_0, A_34, iz0, iz1, iz2, iz3, iz4, iz5, iz7, iz8, iz9, iz10, iz15, iz20, iz25, iz30, iz40, iz49, iz99, iz100, iz300, iz343, iz500, iz999, iz1000, iz1200, iz_add, iz_sub, iz_mul, iz_neg, it_le_t, it_le_f, it_lt_t, it_lt_f, it_eq_t, it_eq_f, bz0, bz1, ifg_T, or_true, true_or, if_true, if_false, Option.bind_some, Option.map_some, iz_in, iz_n, nat_toNat, gt, n1, e1, ok_some]
    refine ⟨fr.rf _ _, ?_⟩
    rw [ifg_pos O_101]
    simp (disch := omega) only [R_101_20, A_113, iz0, iz1, iz2, iz3, iz4, iz5, iz7, iz8, iz9, iz10, iz15, iz20, iz25, iz30, iz40, iz49, iz99, iz100, iz300, iz343, iz500, iz999, iz1000, iz1200, iz_add, iz_sub, iz_mul, iz_neg, it_le_t, it_le_f, it_lt_t, it_lt_f, it_eq_t, it_eq_f, bz0, bz1, ifg_T, or_true, true_or, if_true, if_false, Option.bind_some, Option.map_some, iz_in, iz_n, nat_toNat, mt, n2, e2, ok_some, and_true]
    exact fr.rf _ _
  · rw [ifg_pos O_0]
    simp (disch := omega) only [R_0_1, iz0, iz1, iz2, iz3, iz4, iz5, iz7, iz8, iz9, iz10, iz15, iz20, iz25, iz30, iz40, iz49, iz99, iz100, iz300, iz343, iz500, iz999, iz1000, iz1200, iz_add, iz_sub, iz_mul, iz_neg, it_le_t, it_le_f, it_lt_t, it_lt_f, it_eq_t, it_eq_f, bz0, bz1, ifg_T, or_true, true_or, if_true, if_false, Option.bind_some, Option.map_some, gf, ok_some]
    refine ⟨fr.rf _ _, ?_⟩
    rw [ifg_pos O_101]
    simp (disch := omega) only [iz0, iz1, iz2, iz3, iz4, iz5, iz7, iz8, iz9, iz10, iz15, iz20, iz25, iz30, iz40, iz49, iz99, iz100, iz300, iz343, iz500, iz999, iz1000, iz1200, iz_add, iz_sub, iz_mul, iz_neg, it_le_t, it_le_f, it_lt_t, it_lt_f, it_eq_t, it_eq_f, bz0, bz1, ifg_T, or_true, true_or, if_true, if_false, Option.bind_some, Option.map_some, mf, ok_some, and_true]
    exact fr.rf _ _
theorem c_seems (h : Core s b n pl red slip x W S st rc Rs) {p c : Int} (p0 : -2147483648 ≤ p) (p1 : p ≤ 2147483647) (c0 : -2147483648 ≤ c) (c1 : c ≤ 2147483647) : RO s (f130 0 (iz p) (iz c)) (f201 101 (iz p) (iz c)) := by
  have hpl := h.p4
  have sq := h.cn.sq
  have gt := @g_cell_t s pl h.1.1 hpl n h.cn
  have gf := @g_cell_f s pl h.1.1 hpl n h.cn
  have mt := @g_mcell_t s b n pl h.mn h.2.1.2.1 hpl
  have mf := @g_mcell_f s b n pl h.mn h.2.1.2.1 hpl
  unfold RO f130 f130_30 f201 f201_21
  by_cases g : 0 ≤ p ∧ p < pl ∧ 0 ≤ c ∧ c < (n * n : Nat)
  · obtain ⟨p', rfl⟩ : ∃ p' : Nat, p = p' := ⟨p.toNat, by omega⟩
    obtain ⟨c', rfl⟩ : ∃ c' : Nat, c = c' := ⟨c.toNat, by omega⟩
    have e1 := cl_seems is33 h.1.2.2.2.2.1 (show p' < 4 by omega) (show c' < 25 by omega)
    have e2 := mo_seem h.mn h.2.1.2.2.2.2.1 (show p' < pl by omega) hpl (show c' < n * n by omega)
    have n1 : (p' : Int) * 25 + c' = 25 * p' + c' := by omega
    rw [ifg_pos O_0]
    simp (disch := omega) only [R_0_1, R_0_5, iz0, iz1, iz2, iz3, iz4, iz5, iz7, iz8, iz9, iz10, iz15, iz20, iz25, iz30, iz40, iz49, iz99, iz100, iz300, iz343, iz500, iz999, iz1000, iz1200, iz_add, iz_sub, iz_mul, iz_neg, it_le_t, it_le_f, it_lt_t, it_lt_f, it_eq_t, it_eq_f, bz0, bz1, ifg_T, or_true, true_or, if_true, if_false, Option.bind_some, Option.map_some, gt, n1, e1, ok_some]
    refine ⟨fr.rf _ _, ?_⟩
    rw [ifg_pos O_101]
    simp (disch := omega) only [iz0, iz1, iz2, iz3, iz4, iz5, iz7, iz8, iz9, iz10, iz15, iz20, iz25, iz30, iz40, iz49, iz99, iz100, iz300, iz343, iz500, iz999, iz1000, iz1200, iz_add, iz_sub, iz_mul, iz_neg, it_le_t, it_le_f, it_lt_t, it_lt_f, it_eq_t, it_eq_f, bz0, bz1, ifg_T, or_true, true_or, if_true, if_false, Option.bind_some, Option.map_some, mt, e2, ok_some, and_true]
    exact fr.rf _ _
  · rw [ifg_pos O_0]
    simp (disch := omega) only [R_0_1, iz0, iz1, iz2, iz3, iz4, iz5, iz7, iz8, iz9, iz10, iz15, iz20, iz25, iz30, iz40, iz49, iz99, iz100, iz300, iz343, iz500, iz999, iz1000, iz1200, iz_add, iz_sub, iz_mul, iz_neg, it_le_t, it_le_f, it_lt_t, it_lt_f, it_eq_t, it_eq_f, bz0, bz1, ifg_T, or_true, true_or, if_true, if_false, Option.bind_some, Option.map_some, gf, ok_some]
    refine ⟨fr.rf _ _, ?_⟩
    rw [ifg_pos O_101]
    simp (disch := omega) only [iz0, iz1, iz2, iz3, iz4, iz5, iz7, iz8, iz9, iz10, iz15, iz20, iz25, iz30, iz40, iz49, iz99, iz100, iz300, iz343, iz500, iz999, iz1000, iz1200, iz_add, iz_sub, iz_mul, iz_neg, it_le_t, it_le_f, it_lt_t, it_lt_f, it_eq_t, it_eq_f, bz0, bz1, ifg_T, or_true, true_or, if_true, if_false, Option.bind_some, Option.map_some, mf, ok_some, and_true]
    exact fr.rf _ _
/-- both lay one plate on another -/
theorem both_lay (h : Core s b n pl red slip x W S st rc Rs) {p q t : Nat} {u v : Int} (hp : p < pl) (hq : q < pl) (hL : Ly n t u v) : ok (f26 39 33 (iz p) (iz q) (iz t) (iz u) (iz v) s) (fun r => fr Fz s r.1 ∧ CM r.1 n t u v ∧ ∃ D G, CG r.1 n (dR n u v) (Zl (sm x.1 W S p) (sm x.1 W S q) n t u v) D G ∧ 0 < GD n (Zl (sm x.1 W S p) (sm x.1 W S q) n t u v) (dR n u v) ∧ GD n (Zl (sm x.1 W S p) (sm x.1 W S q) n t u v) (dR n u v) ≤ 32) := by
  have hpl := h.p4
  refine (cl_put h.cn is33 h.1.2.2.2.2.1 h.bd (a := p) (b := q) (by omega) (by omega) hL).mono (fun r ⟨a1, a2, D, G, a3⟩ => ?_)
  have hE := GD_bd (Z := Zl (sm x.1 W S p) (sm x.1 W S q) n t u v) hL.RC (Zl_b h.bd (by omega) (by omega) hL)
  exact ⟨a1.mono FL_z, a2, D, G, a3, hE⟩
theorem mo_lay (h : Core s b n pl red slip x W S st rc Rs) {p q t : Nat} {u v : Int} (hp : p < pl) (hq : q < pl) (hL : Ly n t u v) : ok (f219 101 (iz p) (iz q) (iz t) (iz u) (iz v) s) (fun r => fr Fz s r.1 ∧ MO r.1 n t u v ∧ MG r.1 n (dR n u v) (Zl (sm x.1 W S p) (sm x.1 W S q) n t u v)) := by
  have hpl := h.p4
  exact (mo_downP h.mn hL h.2.1.2.2.2.2.1 h.bd hpl hp hq).mono (fun r ⟨a1, a2⟩ => ⟨a1.mono FD0_z, a2⟩)
theorem MG.e45 {d : Nat → Bool} {Z : Nat → Int} (h : MG s n d Z) : s.2 101 45 = lz (GD n Z d) := by obtain ⟨-, i, j, k, -, -, -, -, h⟩ := h; exact h
/-- the place of a lower cell among the pairs -/
theorem cl_over {t : Nat} {u v : Int} (hM : CM s n t u v) (sq : n * n ≤ 25) {c : Nat} (hc : c < n * n) : f33 39 (iz c) s = some (s, if dR n u v c = true then iz (cnt (dR n u v) c) else iz (-1)) := by
  have cl := cnt_le (dR n u v) (n * n)
  have key : ok (f33 39 (iz c) s) (fun r => r = (s, if dR n u v c = true then iz (cnt (dR n u v) c) else iz (-1))) := by
    unfold f33
    rw [ifg_pos O_39]
    simp only [iz0]
    refine forz (fun k w => w = s ∧ ∀ j, j < k → en (dR n u v) (n * n) j ≠ c) 0 (cnt (dR n u v) (n * n)) (by omega) (by omega) ⟨rfl, fun j hj => by omega⟩ (fun k w _ hk ⟨h1, h2⟩ => ?_) (fun w ⟨h1, h2⟩ => ?_)
    · subst h1
      have e1 := (hM.2 k hk).1
      obtain ⟨o1, o2, o3⟩ := en_ok hk
      unfold f33_2
      simp (disch := omega) only [hM.1, R_39_5, A_49, iz0, iz1, iz2, iz3, iz4, iz5, iz7, iz8, iz9, iz10, iz15, iz20, iz25, iz30, iz40, iz49, iz99, iz100, iz300, iz343, iz500, iz999, iz1000, iz1200, iz_add, iz_sub, iz_mul, iz_neg, it_le_t, it_le_f, it_lt_t, it_lt_f, it_eq_t, it_eq_f, bz0, bz1, ifg_T, or_true, true_or, if_true, if_false, Option.bind_some, Option.map_some, iz_in, iz_n, nat_toNat, e1]
      by_cases q : en (dR n u v) (n * n) k = c
      · rw [it_eq_t (by rw [q])]
        simp only [ok_some, ok_map, lp_l, lp_r, lpA_l, lpA_r, true_and]
        rw [q] at o2 o3
        rw [if_pos o2, o3]
      · rw [it_eq_f (by omega) (by omega) (by omega) (by omega) (by omega)]
        simp only [ok_some, ok_map, lp_l, lp_r, lpA_l, lpA_r, true_and]
        intro j hj
        by_cases r : j = k
        · rw [r]; exact q
        · exact h2 j (by omega)
    · subst h1
      unfold f33_2
      simp (disch := omega) only [hM.1, iz0, iz1, iz2, iz3, iz4, iz5, iz7, iz8, iz9, iz10, iz15, iz20, iz25, iz30, iz40, iz49, iz99, iz100, iz300, iz343, iz500, iz999, iz1000, iz1200, iz_add, iz_sub, iz_mul, iz_neg, it_le_t, it_le_f, it_lt_t, it_lt_f, it_eq_t, it_eq_f, bz0, bz1, ifg_T, or_true, true_or, if_true, if_false, Option.bind_some, Option.map_some, ok_some, ok_map, lp_l, lp_r, lpA_l, lpA_r, true_and]
      have : ¬ dR n u v c = true := fun r => h2 (cnt (dR n u v) c) (cnt_lt hc r) (en_at hc r)
      rw [if_neg this]
  obtain ⟨r, e1, e2⟩ := key
  rw [e1, e2]
/-- what a laying must be -/
theorem ly_of {a c t u v : Int} (h : Core s b n pl red slip x W S st rc Rs) (g : 0 ≤ a ∧ a < pl ∧ 0 ≤ c ∧ c < pl ∧ a ≠ c ∧ 0 ≤ t ∧ t ≤ 3 ∧ -1 ≤ u ∧ u ≤ 1 ∧ -1 ≤ v ∧ v ≤ 1) : ∃ p q r : Nat, a = p ∧ c = q ∧ t = r ∧ p < pl ∧ q < pl ∧ Ly n r u v := ⟨a.toNat, c.toNat, t.toNat, by omega, by omega, by omega, by omega, by omega, h.2.2.1, h.2.2.2.1, by omega, by omega, by omega, by omega, by omega⟩
theorem c_air (h : Core s b n pl red slip x W S st rc Rs) {a c t u v w : Int} (a0 : -2147483648 ≤ a) (a1 : a ≤ 2147483647) (c0 : -2147483648 ≤ c) (c1 : c ≤ 2147483647) (t0 : -2147483648 ≤ t) (t1 : t ≤ 2147483647) (u0 : -2147483648 ≤ u) (u1 : u ≤ 2147483647) (v0 : -2147483648 ≤ v) (v1 : v ≤ 2147483647) (w0 : -2147483648 ≤ w) (w1 : w ≤ 2147483647) : RO s (f133 0 (iz a) (iz c) (iz t) (iz u) (iz v) (iz w)) (f224 101 (iz a) (iz c) (iz t) (iz u) (iz v) (iz w)) := by
  have hpl := h.p4
  have sq := h.cn.sq
  have gt := @g_lie_t s pl h.1.1 hpl
  have gf := @g_lie_f s pl h.1.1 hpl
  have mt := @g_mlie_t s b n pl h.mn h.2.1.2.1 hpl
  have mf := @g_mlie_f s b n pl h.mn h.2.1.2.1 hpl
  unfold RO f133 f133_22
  rw [ifg_pos O_0]
  by_cases gp : 0 ≤ w ∧ w ≤ 1
  · by_cases g : 0 ≤ a ∧ a < pl ∧ 0 ≤ c ∧ c < pl ∧ a ≠ c ∧ 0 ≤ t ∧ t ≤ 3 ∧ -1 ≤ u ∧ u ≤ 1 ∧ -1 ≤ v ∧ v ≤ 1
    · simp (disch := omega) only [R_0_8, R_0_5, R_39_1, iz0, iz1, iz2, iz3, iz4, iz5, iz7, iz8, iz9, iz10, iz15, iz20, iz25, iz30, iz40, iz49, iz99, iz100, iz300, iz343, iz500, iz999, iz1000, iz1200, iz_add, iz_sub, iz_mul, iz_neg, it_le_t, it_le_f, it_lt_t, it_lt_f, it_eq_t, it_eq_f, bz0, bz1, ifg_T, or_true, true_or, if_true, if_false, Option.bind_some, Option.map_some, g_part_t, gt]
      obtain ⟨p, q, r, rfl, rfl, rfl, hp, hq, hL⟩ := ly_of h g
      refine (both_lay h hp hq hL).bind (fun r1 ⟨b1, b2, D, G, b3, b4, b5⟩ => ?_)
      have hs := b3.sbd sq
      have hD := b3.1
      have hD2 := b3.2.1
      have h1 := Core_scr h b1
      rw [cl_all b3 sq]
      simp (disch := omega) only [iz0, iz1, iz2, iz3, iz4, iz5, iz7, iz8, iz9, iz10, iz15, iz20, iz25, iz30, iz40, iz49, iz99, iz100, iz300, iz343, iz500, iz999, iz1000, iz1200, iz_add, iz_sub, iz_mul, iz_neg, it_le_t, it_le_f, it_lt_t, it_lt_f, it_eq_t, it_eq_f, bz0, bz1, ifg_T, or_true, true_or, if_true, if_false, Option.bind_some, Option.map_some, b3.2.2.1, iz_l, lowC, ok_some]
      refine ⟨b1, ?_⟩
      unfold f224 f224_22
      rw [ifg_pos O_101]
      have mt1 := @g_mlie_t r1.1 b n pl h1.mn h1.2.1.2.1 hpl
      simp (disch := omega) only [iz0, iz1, iz2, iz3, iz4, iz5, iz7, iz8, iz9, iz10, iz15, iz20, iz25, iz30, iz40, iz49, iz99, iz100, iz300, iz343, iz500, iz999, iz1000, iz1200, iz_add, iz_sub, iz_mul, iz_neg, it_le_t, it_le_f, it_lt_t, it_lt_f, it_eq_t, it_eq_f, bz0, bz1, ifg_T, or_true, true_or, if_true, if_false, Option.bind_some, Option.map_some, mt1, g_mpart_t]
      refine (mo_lay h1 hp hq hL).bind (fun r2 ⟨e1, e2, e3⟩ => ?_)
      have h2 := Core_scr h1 e1
      rw [mo_sum h2.mn e3]
      have hsm : 0 ≤ smS (dR n u v) (GP n (Zl (sm x.1 W S p) (sm x.1 W S q) n r u v) (dR n u v)) (n * n) ∧ smS (dR n u v) (GP n (Zl (sm x.1 W S p) (sm x.1 W S q) n r u v) (dR n u v)) (n * n) ≤ 25000000 := by
        have hb := smS_bd (d := dR n u v) (f := GP n (Zl (sm x.1 W S p) (sm x.1 W S q) n r u v) (dR n u v)) (N := n * n) (B := 1000000) (by omega) (fun c hc hd => by have := (mo_gapOf h2.mn e3 hc hd).2; omega)
        have hnn : ∀ N, N ≤ n * n → 0 ≤ smS (dR n u v) (GP n (Zl (sm x.1 W S p) (sm x.1 W S q) n r u v) (dR n u v)) N := by
          intro N
          induction N with
          | zero => intro _; simp [smS]
          | succ N ih =>
            intro hN
            have := ih (by omega)
            simp only [smS]
            split
            · rename_i hd
              have := (mo_gapOf h2.mn e3 (show N < n * n by omega) hd).2.1
              omega
            · omega
        have := hnn (n * n) (Nat.le_refl _)
        omega
      simp (disch := omega) only [iz0, iz1, iz2, iz3, iz4, iz5, iz7, iz8, iz9, iz10, iz15, iz20, iz25, iz30, iz40, iz49, iz99, iz100, iz300, iz343, iz500, iz999, iz1000, iz1200, iz_add, iz_sub, iz_mul, iz_neg, it_le_t, it_le_f, it_lt_t, it_lt_f, it_eq_t, it_eq_f, bz0, bz1, ifg_T, or_true, true_or, if_true, if_false, Option.bind_some, Option.map_some, e3.e45, lowM, ok_some]
      exact ⟨e1, by rw [prt_E hD b4 b3.sum]⟩
    · simp (disch := omega) only [iz0, iz1, iz2, iz3, iz4, iz5, iz7, iz8, iz9, iz10, iz15, iz20, iz25, iz30, iz40, iz49, iz99, iz100, iz300, iz343, iz500, iz999, iz1000, iz1200, iz_add, iz_sub, iz_mul, iz_neg, it_le_t, it_le_f, it_lt_t, it_lt_f, it_eq_t, it_eq_f, bz0, bz1, ifg_T, or_true, true_or, if_true, if_false, Option.bind_some, Option.map_some, g_part_t, gf, ok_some]
      refine ⟨fr.rf _ _, ?_⟩
      unfold f224 f224_22
      rw [ifg_pos O_101]
      simp (disch := omega) only [iz0, iz1, iz2, iz3, iz4, iz5, iz7, iz8, iz9, iz10, iz15, iz20, iz25, iz30, iz40, iz49, iz99, iz100, iz300, iz343, iz500, iz999, iz1000, iz1200, iz_add, iz_sub, iz_mul, iz_neg, it_le_t, it_le_f, it_lt_t, it_lt_f, it_eq_t, it_eq_f, bz0, bz1, ifg_T, or_true, true_or, if_true, if_false, Option.bind_some, Option.map_some, mf, ok_some, and_true]
      exact fr.rf _ _
  · simp (disch := omega) only [iz0, iz1, iz2, iz3, iz4, iz5, iz7, iz8, iz9, iz10, iz15, iz20, iz25, iz30, iz40, iz49, iz99, iz100, iz300, iz343, iz500, iz999, iz1000, iz1200, iz_add, iz_sub, iz_mul, iz_neg, it_le_t, it_le_f, it_lt_t, it_lt_f, it_eq_t, it_eq_f, bz0, bz1, ifg_T, or_true, true_or, if_true, if_false, Option.bind_some, Option.map_some, g_part_f, ok_some]
    refine ⟨fr.rf _ _, ?_⟩
    unfold f224 f224_22
    rw [ifg_pos O_101]
    by_cases g : 0 ≤ a ∧ a < pl ∧ 0 ≤ c ∧ c < pl ∧ a ≠ c ∧ 0 ≤ t ∧ t ≤ 3 ∧ -1 ≤ u ∧ u ≤ 1 ∧ -1 ≤ v ∧ v ≤ 1
    · simp (disch := omega) only [iz0, iz1, iz2, iz3, iz4, iz5, iz7, iz8, iz9, iz10, iz15, iz20, iz25, iz30, iz40, iz49, iz99, iz100, iz300, iz343, iz500, iz999, iz1000, iz1200, iz_add, iz_sub, iz_mul, iz_neg, it_le_t, it_le_f, it_lt_t, it_lt_f, it_eq_t, it_eq_f, bz0, bz1, ifg_T, or_true, true_or, if_true, if_false, Option.bind_some, Option.map_some, mt, g_mpart_f, ok_some, and_true]
      exact fr.rf _ _
    · simp (disch := omega) only [iz0, iz1, iz2, iz3, iz4, iz5, iz7, iz8, iz9, iz10, iz15, iz20, iz25, iz30, iz40, iz49, iz99, iz100, iz300, iz343, iz500, iz999, iz1000, iz1200, iz_add, iz_sub, iz_mul, iz_neg, it_le_t, it_le_f, it_lt_t, it_lt_f, it_eq_t, it_eq_f, bz0, bz1, ifg_T, or_true, true_or, if_true, if_false, Option.bind_some, Option.map_some, mf, ok_some, and_true]
      exact fr.rf _ _
end RD
