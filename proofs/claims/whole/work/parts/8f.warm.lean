/-! warm, rest, seed, stand: both sides -/
def FA (id k : Nat) : Bool := FRc id k || id == 33 || id == 34 || id == 35 || id == 36 || id == 114 || id == 115 || id == 116 || id == 117
/-- what a call leaves that changes the bench -/
def ChP (s s' : xS) (b n pl : Nat) (red slip : Int) (rc : Nat) (Rs : Nat → Rn) : Prop := fr Fz s s' ∨ (fr FA s s' ∧ chg s' ∧ ∃ x' W' S' st', Core s' b n pl red slip x' W' S' st' rc Rs)
theorem FRc_A (id k : Nat) (h : FRc id k = true) : FA id k = true := by unfold FA; rw [h]; rfl
theorem FH_A (id k : Nat) (h : FH id k = true) : FA id k = true := FRc_A id k (FH_c id k h)
theorem RdP.ch {s s' : xS} {b n pl : Nat} {red slip : Int} {W S : Nat → Int} {rc : Nat} {Rs : Nat → Rn} (h : RdP s s' b n pl red slip W S rc Rs) : ChP s s' b n pl red slip rc Rs := by
  rcases h with h | ⟨h1, h2, x', st', h3⟩
  · exact Or.inl h
  · exact Or.inr ⟨h1.mono FRc_A, h2, x', W, S, st', h3⟩
section WB
variable {s : xS} {n b : Nat} {W : Nat → Int}
theorem mo_w5 {N : Nat} (hn : Mn s N (iz n) n) {x y : Nat} (hb : b + n * n ≤ 100) (h : isW s 114 W) {hh : Int} (m0 : 0 ≤ hh) (m20 : hh ≤ 20) (hx : x < n) (hy : y < n) {m : Int} (em : m.tdiv 2 = hh) (mb : 0 ≤ m ∧ m ≤ 20) : ok (f237_109 101 (iz m) (iz y) (iz ((b + (n * y + x) : Nat) : Int)) s) (fun r => fr (fun id k => id == 114 && Nat.ble (k + 1) 100) s r.1 ∧ isW r.1 114 (wm5 n W (b + (n * y + x)) y hh) ∧ r.2 = iz 1) := by
  have n3 := hn.2.2.2.2.1
  have n5 := hn.2.2.2.2.2
  unfold f237_109 f237_134 wm5
  by_cases q : n - 1 ≤ y
  · simp (disch := omega) only [hn.zn, iz0, iz1, iz2, iz3, iz4, iz5, iz7, iz8, iz9, iz10, iz15, iz20, iz25, iz30, iz40, iz49, iz99, iz100, iz300, iz343, iz500, iz999, iz1000, iz1200, iz_add, iz_sub, iz_mul, iz_neg, it_le_t, it_le_f, it_lt_t, it_lt_f, it_eq_t, it_eq_f, bz0, bz1, ifg_T, or_true, true_or, if_true, if_false, Option.bind_some, Option.map_some, if_pos q, ok_some]
    exact ⟨fr.rf _ _, h, trivial⟩
  · have hu := up_ok hx q hy
    have e : iz (((b + (n * y + x) : Nat) : Int) + n) = iz ((b + (n * y + x) + n : Nat) : Int) := by congr 1
    simp (disch := omega) only [hn.zn, iz0, iz1, iz2, iz3, iz4, iz5, iz7, iz8, iz9, iz10, iz15, iz20, iz25, iz30, iz40, iz49, iz99, iz100, iz300, iz343, iz500, iz999, iz1000, iz1200, iz_add, iz_sub, iz_mul, iz_neg, it_le_t, it_le_f, it_lt_t, it_lt_f, it_eq_t, it_eq_f, bz0, bz1, ifg_T, or_true, true_or, if_true, if_false, Option.bind_some, Option.map_some, if_neg q, iz_div, em, e]
    refine (mo_warm1 h (show b + (n * y + x) + n < 100 by omega) m0 m20).bind (fun r ⟨a1, a2⟩ => ?_)
    rw [ok_some]
    exact ⟨a1, a2, rfl⟩
theorem mo_w4 {N : Nat} (hn : Mn s N (iz n) n) {x y : Nat} (hb : b + n * n ≤ 100) (h : isW s 114 W) {hh : Int} (m0 : 0 ≤ hh) (m20 : hh ≤ 20) (hx : x < n) (hy : y < n) (hxy : n * y + x < n * n) {m : Int} (em : m.tdiv 2 = hh) (mb : 0 ≤ m ∧ m ≤ 20) : ok (f237_90 101 (iz m) (iz y) (iz ((b + (n * y + x) : Nat) : Int)) s) (fun r => fr (fun id k => id == 114 && Nat.ble (k + 1) 100) s r.1 ∧ isW r.1 114 (wm4 n W (b + (n * y + x)) y hh) ∧ r.2 = iz 1) := by
  have n3 := hn.2.2.2.2.1
  have n5 := hn.2.2.2.2.2
  unfold f237_90 wm4
  by_cases q : y ≤ 0
  · simp (disch := omega) only [iz0, iz1, iz2, iz3, iz4, iz5, iz7, iz8, iz9, iz10, iz15, iz20, iz25, iz30, iz40, iz49, iz99, iz100, iz300, iz343, iz500, iz999, iz1000, iz1200, iz_add, iz_sub, iz_mul, iz_neg, it_le_t, it_le_f, it_lt_t, it_lt_f, it_eq_t, it_eq_f, bz0, bz1, ifg_T, or_true, true_or, if_true, if_false, Option.bind_some, Option.map_some, if_pos q]
    exact mo_w5 hn hb h m0 m20 hx hy em mb
  · have hd := dn_ok (n := n) (x := x) q
    have e : iz (((b + (n * y + x) : Nat) : Int) - n) = iz ((b + (n * y + x) - n : Nat) : Int) := by congr 1; omega
    simp (disch := omega) only [hn.zn, iz0, iz1, iz2, iz3, iz4, iz5, iz7, iz8, iz9, iz10, iz15, iz20, iz25, iz30, iz40, iz49, iz99, iz100, iz300, iz343, iz500, iz999, iz1000, iz1200, iz_add, iz_sub, iz_mul, iz_neg, it_le_t, it_le_f, it_lt_t, it_lt_f, it_eq_t, it_eq_f, bz0, bz1, ifg_T, or_true, true_or, if_true, if_false, Option.bind_some, Option.map_some, if_neg q, iz_div, em, e]
    refine (mo_warm1 h (show b + (n * y + x) - n < 100 by omega) m0 m20).bind (fun r ⟨a1, a2⟩ => ?_)
    exact (mo_w5 (hn.fr a1 rfl (fun _ => rfl)) hb a2 m0 m20 hx hy em mb).mono (fun r' ⟨c1, c2⟩ => ⟨a1.tr c1, c2⟩)
theorem mo_w3 {N : Nat} (hn : Mn s N (iz n) n) {x y : Nat} (hb : b + n * n ≤ 100) (h : isW s 114 W) {hh : Int} (m0 : 0 ≤ hh) (m20 : hh ≤ 20) (hx : x < n) (hy : y < n) (hxy : n * y + x < n * n) {m : Int} (em : m.tdiv 2 = hh) (mb : 0 ≤ m ∧ m ≤ 20) : ok (f237_68 101 (iz m) (iz x) (iz y) (iz ((b + (n * y + x) : Nat) : Int)) s) (fun r => fr (fun id k => id == 114 && Nat.ble (k + 1) 100) s r.1 ∧ isW r.1 114 (wm3 n W (b + (n * y + x)) x y hh) ∧ r.2 = iz 1) := by
  have n3 := hn.2.2.2.2.1
  have n5 := hn.2.2.2.2.2
  unfold f237_68 wm3
  by_cases q : n - 1 ≤ x
  · simp (disch := omega) only [hn.zn, iz0, iz1, iz2, iz3, iz4, iz5, iz7, iz8, iz9, iz10, iz15, iz20, iz25, iz30, iz40, iz49, iz99, iz100, iz300, iz343, iz500, iz999, iz1000, iz1200, iz_add, iz_sub, iz_mul, iz_neg, it_le_t, it_le_f, it_lt_t, it_lt_f, it_eq_t, it_eq_f, bz0, bz1, ifg_T, or_true, true_or, if_true, if_false, Option.bind_some, Option.map_some, if_pos q]
    exact mo_w4 hn hb h m0 m20 hx hy hxy em mb
  · have hr : n * y + x + 1 < n * n := by
      have := Nat.mul_le_mul_left n (show y + 1 ≤ n by omega)
      rw [Nat.mul_add, Nat.mul_one] at this
      omega
    have e : iz (((b + (n * y + x) : Nat) : Int) + 1) = iz ((b + (n * y + x) + 1 : Nat) : Int) := by congr 1
    simp (disch := omega) only [hn.zn, iz0, iz1, iz2, iz3, iz4, iz5, iz7, iz8, iz9, iz10, iz15, iz20, iz25, iz30, iz40, iz49, iz99, iz100, iz300, iz343, iz500, iz999, iz1000, iz1200, iz_add, iz_sub, iz_mul, iz_neg, it_le_t, it_le_f, it_lt_t, it_lt_f, it_eq_t, it_eq_f, bz0, bz1, ifg_T, or_true, true_or, if_true, if_false, Option.bind_some, Option.map_some, if_neg q, iz_div, em, e]
    refine (mo_warm1 h (show b + (n * y + x) + 1 < 100 by omega) m0 m20).bind (fun r ⟨a1, a2⟩ => ?_)
    exact (mo_w4 (hn.fr a1 rfl (fun _ => rfl)) hb a2 m0 m20 hx hy hxy em mb).mono (fun r' ⟨c1, c2⟩ => ⟨a1.tr c1, c2⟩)
end WB
section WC
variable {s : xS} {b n pl : Nat} {red slip : Int} {x : sS} {W S : Nat → Int} {st : Int32} {rc : Nat} {Rs : Nat → Rn}
/-- other warmths at the class -/
theorem KC_w {s' : xS} {W' : Nat → Int} (h : KC s n pl red slip x W S st rc Rs) (hrc : rc ≤ 10) (hf : fr (F1 35) s s') (hw : isW s' 35 W') : KC s' n pl red slip x W' S st rc Rs := by
  obtain ⟨c1, c2, c3, c4, c5, c6, c7, c8, c9⟩ := h
  exact ⟨by rw [hf.i _ _ rfl]; exact c1, by rw [hf.i _ _ rfl]; exact c2, by rw [hf.i _ _ rfl]; exact c3, by rw [hf.i _ _ rfl]; exact c4, fun k hk => ⟨by rw [hf.i _ _ rfl]; exact (c5 k hk).1, hw.1 k hk, by rw [hf.i _ _ rfl]; exact (c5 k hk).2.2⟩, ⟨fun k hk => by rw [hf.i _ _ rfl]; exact c6.1 k hk, by rw [hf.i _ _ rfl]; exact c6.2.1, by rw [hf.i _ _ rfl]; exact c6.2.2⟩, by rw [hf.i _ _ rfl]; exact c7, by rw [hf.i _ _ rfl]; exact c8, fun r hr => (c9 r hr).fr hf (fun k => by unfold F1; rw [beq_eq_false_iff_ne]; omega)⟩
def F100 (id k : Nat) : Bool := id == 114 && Nat.ble (k + 1) 100
theorem F100_f (c : Nat) : F100 114 (100 + c) = false := by
  unfold F100
  rw [ble_f (by omega)]
  rfl
theorem KM_w {s' : xS} {W' : Nat → Int} (h : KM s b n pl red slip x W S st rc Rs) (hf : fr F100 s s') (hw : isW s' 114 W') : KM s' b n pl red slip x W' S st rc Rs := by
  obtain ⟨c1, c2, c3, c4, c5, c6, c7, c8, c9, c10, c11⟩ := h
  refine ⟨c1.fr hf rfl (fun _ => rfl), by rw [hf.i _ _ rfl]; exact c2, by rw [hf.i _ _ rfl]; exact c3, by rw [hf.i _ _ rfl]; exact c4, ⟨fun k hk => ⟨by rw [hf.i _ _ rfl]; exact (c5.1 k hk).1, hw.1 k hk⟩, ?_⟩, ⟨fun k hk => by rw [hf.i _ _ rfl]; exact c6.1 k hk, by rw [hf.i _ _ rfl]; exact c6.2.1, by rw [hf.i _ _ rfl]; exact c6.2.2⟩, by rw [hf.i _ _ rfl]; exact c7, by rw [hf.i _ _ rfl]; exact c8, fun r hr => (c9 r hr).fr hf rfl rfl rfl rfl rfl rfl rfl, fun c hc => by rw [hf.i _ _ (F100_f c)]; exact c10 c hc, by rw [hf.i _ _ rfl]; exact c11⟩
  have e3 : s'.1 115 = s.1 115 := hf.ci 115 (fun _ => rfl)
  have e4 : s'.1 116 = s.1 116 := hf.ci 116 (fun _ => rfl)
  have e5 : s'.1 117 = s.1 117 := hf.ci 117 (fun _ => rfl)
  unfold MF
  rw [e3, e4, e5]
  exact c5.2
theorem KM_35 {s' : xS} (h : KM s b n pl red slip x W S st rc Rs) (hf : fr (F1 35) s s') (hrc : rc ≤ 10) : KM s' b n pl red slip x W S st rc Rs := by
  refine h.fr hf ⟨rfl, rfl, rfl, rfl, rfl⟩ (fun _ => rfl) (fun _ => rfl) (fun _ => rfl) (fun _ => rfl) (fun _ _ => rfl) (fun _ => rfl) (fun _ => rfl) (fun _ => rfl) (fun _ => rfl) (fun id k h1 h2 _ => ?_) hrc
  unfold F1
  rw [beq_eq_false_iff_ne]
  omega
theorem KC_114 {s' : xS} (h : KC s n pl red slip x W S st rc Rs) (hf : fr F100 s s') (hrc : rc ≤ 10) : KC s' n pl red slip x W S st rc Rs := by
  refine h.fr hf (fun _ => rfl) (fun _ => rfl) (fun _ => rfl) (fun _ => rfl) (fun _ => rfl) rfl (fun id k h1 h2 => ?_) hrc
  unfold F100
  rw [show (id == 114) = false by rw [beq_eq_false_iff_ne]; omega]
  rfl
theorem F35_A (id k : Nat) (h : F1 35 id k = true) : FA id k = true := by
  unfold F1 at h
  rw [beq_iff_eq] at h
  subst h
  unfold FA
  simp only [Bool.or_true, Bool.true_or, beq_self_eq_true]
theorem F100_A (id k : Nat) (h : F100 id k = true) : FA id k = true := by
  unfold F100 at h
  rw [Bool.and_eq_true, beq_iff_eq] at h
  obtain ⟨rfl, -⟩ := h
  unfold FA
  simp only [Bool.or_true, Bool.true_or, beq_self_eq_true]
theorem Core.iw (h : Core s b n pl red slip x W S st rc Rs) : isW s 35 W ∧ isW s 114 W := by
  have hb : ∀ k, k < 100 → 0 ≤ W k ∧ W k ≤ 99 := fun k hk => ⟨(h.bd k hk).2.2.1, (h.bd k hk).2.2.2.1⟩
  exact ⟨⟨fun k hk => (h.1.2.2.2.2.1 k hk).2.1, hb⟩, ⟨fun k hk => (h.2.1.2.2.2.2.1.1 k hk).2, hb⟩⟩
theorem KV_w {W' : Nat → Int} (h : KV n pl red slip x W S rc Rs) (hw : ∀ k, k < 100 → 0 ≤ W' k ∧ W' k ≤ 99) : KV n pl red slip x W' S rc Rs := by
  obtain ⟨a1, a2, a3, a4, a5, a6, a7, a8, a9, a10, a11⟩ := h
  exact ⟨a1, a2, a3, a4, a5, a6, a7, a8, fun k hk => ⟨(hw k hk).1, (hw k hk).2, (a9 k hk).2.2⟩, a10, a11⟩
theorem c_warm (h : Core s b n pl red slip x W S st rc Rs) {p c m : Int} (p0 : -2147483648 ≤ p) (p1 : p ≤ 2147483647) (c0 : -2147483648 ≤ c) (c1 : c ≤ 2147483647) (m0 : -2147483648 ≤ m) (m1 : m ≤ 2147483647) : ok (f139 0 (iz p) (iz c) (iz m) s) (fun r1 => ok (f237 101 (iz p) (iz c) (iz m) r1.1) (fun r2 => r2.2 = r1.2 ∧ ChP s r2.1 b n pl red slip rc Rs)) := by
  have hpl := h.p4
  have sq := h.cn.sq
  have hrc := h.rc10
  have n3 := h.2.2.1
  have n5 := h.2.2.2.1
  have gt := @g_cell_t s pl h.1.1 hpl n h.cn
  have gf := @g_cell_f s pl h.1.1 hpl n h.cn
  have mt := @g_mcell_t s b n pl h.mn h.2.1.2.1 hpl
  have mf := @g_mcell_f s b n pl h.mn h.2.1.2.1 hpl
  unfold f139 f139_23
  rw [ifg_pos O_0]
  by_cases g : 0 ≤ p ∧ p < pl ∧ 0 ≤ c ∧ c < (n * n : Nat)
  · by_cases gm : 1 ≤ m ∧ m ≤ 20
    · simp (disch := omega) only [R_0_1, R_0_5, iz0, iz1, iz2, iz3, iz4, iz5, iz7, iz8, iz9, iz10, iz15, iz20, iz25, iz30, iz40, iz49, iz99, iz100, iz300, iz343, iz500, iz999, iz1000, iz1200, iz_add, iz_sub, iz_mul, iz_neg, it_le_t, it_le_f, it_lt_t, it_lt_f, it_eq_t, it_eq_f, bz0, bz1, ifg_T, or_true, true_or, if_true, if_false, Option.bind_some, Option.map_some, gt]
      obtain ⟨p', rfl⟩ : ∃ p' : Nat, p = p' := ⟨p.toNat, by omega⟩
      obtain ⟨c', rfl⟩ : ∃ c' : Nat, c = c' := ⟨c.toNat, by omega⟩
      obtain ⟨hx, hy, hcc⟩ := cell_pos (n := n) (c := c') (by omega) rfl rfl
      generalize c' % n = xx at hx hcc
      generalize c' / n = yy at hy hcc
      subst hcc
      refine (cl_changed s).bind (fun q0 ⟨a1, a2⟩ => ?_)
      have hC := KC_H h.1 a1 hrc
      have hM := KM_H h.2.1 a1 hrc
      have iw := Core.iw (s := q0.1) ⟨hC, hM, h.2.2⟩
      rw [hC.2.1]
      refine (cl_w2 n3 n5 (show p' < 4 by omega) iw.1 hx hy (by omega) gm).bind (fun q1 ⟨b1, b2⟩ => ?_)
      rw [ok_some]
      have hM1 := KM_35 hM b1 hrc
      have iw1 : isW q1.1 114 W := ⟨fun k hk => by rw [b1.i _ _ rfl]; exact iw.2.1 k hk, iw.2.2⟩
      have mt1 := @g_mcell_t q1.1 b n pl hM1.1 hM1.2.1 hpl
      have hm2 : 0 ≤ m.tdiv 2 ∧ m.tdiv 2 ≤ 20 := by rw [Int.tdiv_eq_ediv_of_nonneg (by omega)]; omega
      have ex : (n * yy + xx) % n = xx := by rw [Nat.mul_add_mod]; exact Nat.mod_eq_of_lt hx
      have ey : (n * yy + xx) / n = yy := by rw [Nat.mul_add_div (by omega), Nat.div_eq_of_lt hx, Nat.add_zero]
      have e1 : iz (25 * (p' : Int) + ((n * yy + xx : Nat) : Int)) = iz ((25 * p' + (n * yy + xx) : Nat) : Int) := by congr 1
      have key : ok (f237 101 (iz p') (iz (n * yy + xx : Nat)) (iz m) q1.1) (fun r2 => fr F100 q1.1 r2.1 ∧ isW r2.1 114 (wm2 n W (25 * p' + (n * yy + xx)) xx yy m (m.tdiv 2)) ∧ r2.2 = iz 1) := by
        unfold f237 wm2
        rw [ifg_pos O_101]
        simp (disch := omega) only [iz0, iz1, iz2, iz3, iz4, iz5, iz7, iz8, iz9, iz10, iz15, iz20, iz25, iz30, iz40, iz49, iz99, iz100, iz300, iz343, iz500, iz999, iz1000, iz1200, iz_add, iz_sub, iz_mul, iz_neg, it_le_t, it_le_f, it_lt_t, it_lt_f, it_eq_t, it_eq_f, bz0, bz1, ifg_T, or_true, true_or, if_true, if_false, Option.bind_some, Option.map_some, mt1, g_in_t, hM1.1.zn, nz', iz_remN, iz_divN, ex, ey, e1]
        refine (mo_warm1 iw1 (show 25 * p' + (n * yy + xx) < 100 by omega) (show 0 ≤ m by omega) gm.2).bind (fun r ⟨d1, d2⟩ => ?_)
        have hn1 : Mn r.1 b (iz n) n := hM1.1.fr d1 rfl (fun _ => rfl)
        by_cases q : xx ≤ 0
        · simp (disch := omega) only [iz0, iz1, iz2, iz3, iz4, iz5, iz7, iz8, iz9, iz10, iz15, iz20, iz25, iz30, iz40, iz49, iz99, iz100, iz300, iz343, iz500, iz999, iz1000, iz1200, iz_add, iz_sub, iz_mul, iz_neg, it_le_t, it_le_f, it_lt_t, it_lt_f, it_eq_t, it_eq_f, bz0, bz1, ifg_T, or_true, true_or, if_true, if_false, Option.bind_some, Option.map_some, if_pos q]
          exact (mo_w3 hn1 (show 25 * p' + n * n ≤ 100 by omega) d2 hm2.1 hm2.2 hx hy (by omega) rfl ⟨by omega, gm.2⟩).mono (fun r' ⟨c1, c2⟩ => ⟨d1.tr c1, c2⟩)
        · have e : iz (((25 * p' + (n * yy + xx) : Nat) : Int) - 1) = iz ((25 * p' + (n * yy + xx) - 1 : Nat) : Int) := by congr 1; omega
          simp (disch := omega) only [iz0, iz1, iz2, iz3, iz4, iz5, iz7, iz8, iz9, iz10, iz15, iz20, iz25, iz30, iz40, iz49, iz99, iz100, iz300, iz343, iz500, iz999, iz1000, iz1200, iz_add, iz_sub, iz_mul, iz_neg, it_le_t, it_le_f, it_lt_t, it_lt_f, it_eq_t, it_eq_f, bz0, bz1, ifg_T, or_true, true_or, if_true, if_false, Option.bind_some, Option.map_some, if_neg q, iz_div, e]
          refine (mo_warm1 d2 (show 25 * p' + (n * yy + xx) - 1 < 100 by omega) hm2.1 hm2.2).bind (fun r' ⟨d3, d4⟩ => ?_)
          have hn2 : Mn r'.1 b (iz n) n := hn1.fr d3 rfl (fun _ => rfl)
          exact (mo_w3 hn2 (show 25 * p' + n * n ≤ 100 by omega) d4 hm2.1 hm2.2 hx hy (by omega) rfl ⟨by omega, gm.2⟩).mono (fun r'' ⟨c1, c2⟩ => ⟨(d1.tr d3).tr c1, c2⟩)
      refine key.mono (fun r2 ⟨k1, k2, k3⟩ => ⟨k3, Or.inr ⟨((a1.mono FH_A).tr (b1.mono F35_A)).tr (k1.mono F100_A), (a2.fr b1 rfl rfl rfl rfl).fr k1 rfl rfl rfl rfl, x, _, S, st, KC_114 (KC_w hC hrc b1 b2) k1 hrc, KM_w hM1 k1 k2, KV_w h.2.2 k2.2⟩⟩)
    · have fin : ok (f237 101 (iz p) (iz c) (iz m) s) (fun r2 => r2.2 = iz 0 ∧ ChP s r2.1 b n pl red slip rc Rs) := by
        unfold f237 f237_19
        rw [ifg_pos O_101]
        simp (disch := omega) only [iz0, iz1, iz2, iz3, iz4, iz5, iz7, iz8, iz9, iz10, iz15, iz20, iz25, iz30, iz40, iz49, iz99, iz100, iz300, iz343, iz500, iz999, iz1000, iz1200, iz_add, iz_sub, iz_mul, iz_neg, it_le_t, it_le_f, it_lt_t, it_lt_f, it_eq_t, it_eq_f, bz0, bz1, ifg_T, or_true, true_or, if_true, if_false, Option.bind_some, Option.map_some, mt, g_in_f, ok_some, true_and]
        exact Or.inl (fr.rf _ _)
      by_cases g1 : 1 ≤ m
      · simp (disch := omega) only [R_0_1, iz0, iz1, iz2, iz3, iz4, iz5, iz7, iz8, iz9, iz10, iz15, iz20, iz25, iz30, iz40, iz49, iz99, iz100, iz300, iz343, iz500, iz999, iz1000, iz1200, iz_add, iz_sub, iz_mul, iz_neg, it_le_t, it_le_f, it_lt_t, it_lt_f, it_eq_t, it_eq_f, bz0, bz1, ifg_T, or_true, true_or, if_true, if_false, Option.bind_some, Option.map_some, gt, ok_some]
        exact fin
      · simp (disch := omega) only [R_0_1, iz0, iz1, iz2, iz3, iz4, iz5, iz7, iz8, iz9, iz10, iz15, iz20, iz25, iz30, iz40, iz49, iz99, iz100, iz300, iz343, iz500, iz999, iz1000, iz1200, iz_add, iz_sub, iz_mul, iz_neg, it_le_t, it_le_f, it_lt_t, it_lt_f, it_eq_t, it_eq_f, bz0, bz1, ifg_T, or_true, true_or, if_true, if_false, Option.bind_some, Option.map_some, gt, ok_some]
        exact fin
  · simp (disch := omega) only [R_0_1, iz0, iz1, iz2, iz3, iz4, iz5, iz7, iz8, iz9, iz10, iz15, iz20, iz25, iz30, iz40, iz49, iz99, iz100, iz300, iz343, iz500, iz999, iz1000, iz1200, iz_add, iz_sub, iz_mul, iz_neg, it_le_t, it_le_f, it_lt_t, it_lt_f, it_eq_t, it_eq_f, bz0, bz1, ifg_T, or_true, true_or, if_true, if_false, Option.bind_some, Option.map_some, gf, ok_some]
    unfold f237 f237_19
    rw [ifg_pos O_101]
    simp (disch := omega) only [iz0, iz1, iz2, iz3, iz4, iz5, iz7, iz8, iz9, iz10, iz15, iz20, iz25, iz30, iz40, iz49, iz99, iz100, iz300, iz343, iz500, iz999, iz1000, iz1200, iz_add, iz_sub, iz_mul, iz_neg, it_le_t, it_le_f, it_lt_t, it_lt_f, it_eq_t, it_eq_f, bz0, bz1, ifg_T, or_true, true_or, if_true, if_false, Option.bind_some, Option.map_some, mf, ok_some, true_and]
    exact Or.inl (fr.rf _ _)
end WC
