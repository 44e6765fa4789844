/-! stand -/
def stS (n : Nat) (S : Nat → Int) (p a b c : Nat) (so : Int) : Nat → Int := fun k => if 25 * p ≤ k ∧ k < 25 * p + n * n then sagv n a b c so (k - 25 * p) else S k
def FFt (id _k : Nat) : Bool := id == 115 || id == 116 || id == 117
section SD
variable {s : xS} {b n pl : Nat} {red slip : Int} {x : sS} {W S : Nat → Int} {st : Int32} {rc : Nat} {Rs : Nat → Rn}
theorem cl_sqw (hn : Cn s n) {c f : Nat} (hc : c < n * n) (hf : f < n * n) : f69 3 (iz c) (iz f) s = some (s, iz (sqw n c f)) := by
  have sq := hn.sq
  have n3 := hn.2.1
  have n5 := hn.2.2
  unfold f69
  rw [ifg_pos O_3, hn.1]
  simp (disch := omega) only [nz, iz_mx, iz_my, iz_sub, iz_mul, iz_add]
  rfl
theorem KC_s {s' : xS} {S' : Nat → Int} (h : KC s n pl red slip x W S st rc Rs) (hrc : rc ≤ 10) (hf : fr (F1 36) s s') (hw : ∀ k, k < 100 → s'.1 36 k = iz (S' k)) : KC s' n pl red slip x W S' st rc Rs := by
  obtain ⟨c1, c2, c3, c4, c5, c6, c7, c8, c9⟩ := h
  exact ⟨by rw [hf.i _ _ rfl]; exact c1, by rw [hf.i _ _ rfl]; exact c2, by rw [hf.i _ _ rfl]; exact c3, by rw [hf.i _ _ rfl]; exact c4, fun k hk => ⟨by rw [hf.i _ _ rfl]; exact (c5 k hk).1, by rw [hf.i _ _ rfl]; exact (c5 k hk).2.1, hw k hk⟩, ⟨fun k hk => by rw [hf.i _ _ rfl]; exact c6.1 k hk, by rw [hf.i _ _ rfl]; exact c6.2.1, by rw [hf.i _ _ rfl]; exact c6.2.2⟩, by rw [hf.i _ _ rfl]; exact c7, by rw [hf.i _ _ rfl]; exact c8, fun r hr => (c9 r hr).fr hf (fun k => by unfold F1; rw [beq_eq_false_iff_ne]; omega)⟩
theorem KM_36 {s' : xS} (h : KM s b n pl red slip x W S st rc Rs) (hf : fr (F1 36) s s') (hrc : rc ≤ 10) : KM s' b n pl red slip x W S st rc Rs := by
  refine h.fr hf ⟨rfl, rfl, rfl, rfl, rfl⟩ (fun _ => rfl) (fun _ => rfl) (fun _ => rfl) (fun _ => rfl) (fun _ _ => rfl) (fun _ => rfl) (fun _ => rfl) (fun _ => rfl) (fun _ => rfl) (fun id k h1 h2 _ => ?_) hrc
  unfold F1
  rw [beq_eq_false_iff_ne]
  omega
theorem FFt_R (id k : Nat) (h : id ≤ 114) : FFt id k = false := by
  unfold FFt
  rw [show (id == 115) = false by rw [beq_eq_false_iff_ne]; omega, show (id == 116) = false by rw [beq_eq_false_iff_ne]; omega, show (id == 117) = false by rw [beq_eq_false_iff_ne]; omega]
  rfl
theorem cl_stand (hn : Cn s n) {p a e c : Nat} (hp : p < 4) (ha : a < n * n) (he : e < n * n) (hc : c < n * n) {so : Int} (s0 : 0 ≤ so) (s9 : so ≤ 9) (hS : ∀ k, k < 100 → s.1 36 k = iz (S k)) : ok (whl (fun q : (Int32 × xS) => f153_77 0 (iz p) (iz a) (iz e) (iz c) (iz so) q.1 q.2) (iz 0, s)) (fun r => fr (F1 36) s r.1 ∧ (∀ k, k < 100 → r.1.1 36 k = iz (stS n S p a e c so k)) ∧ r.2 = iz 1) := by
  have sq := hn.sq
  have n3 := hn.2.1
  have n5 := hn.2.2
  refine forz (fun j w => fr (F1 36) s w ∧ ∀ k, k < 100 → w.1 36 k = if 25 * p ≤ k ∧ k < 25 * p + j then iz (sagv n a e c so (k - 25 * p)) else iz (S k)) 0 (n * n) (by omega) (by omega) ⟨fr.rf _ _, fun k hk => by rw [if_neg (by omega)]; exact hS k hk⟩ (fun j w _ hj ⟨h1, h2⟩ => ?_) (fun w ⟨h1, h2⟩ => ?_)
  · have hnw : Cn w n := hn.fr h1 rfl
    have w1 := sqw_bd n3 n5 hj ha
    have w2 := sqw_bd n3 n5 hj he
    have w3 := sqw_bd n3 n5 hj hc
    have hnear : (if iz (sqw n j c) < (if iz (sqw n j e) < iz (sqw n j a) then iz (sqw n j e) else iz (sqw n j a)) then iz (sqw n j c) else (if iz (sqw n j e) < iz (sqw n j a) then iz (sqw n j e) else iz (sqw n j a))) = iz (near n a e c j) := by
      unfold near
      by_cases q1 : sqw n j e < sqw n j a
      · rw [it_lt_t q1 (by omega) (by omega), Int.min_eq_right (show sqw n j e ≤ sqw n j a by omega)]
        by_cases q2 : sqw n j c < sqw n j e
        · rw [it_lt_t q2 (by omega) (by omega), Int.min_eq_right (by omega)]
        · rw [it_lt_f (by omega) (by omega) (by omega), Int.min_eq_left (by omega)]
      · rw [it_lt_f (show sqw n j a ≤ sqw n j e by omega) (by omega) (by omega), Int.min_eq_left (show sqw n j a ≤ sqw n j e by omega)]
        by_cases q2 : sqw n j c < sqw n j a
        · rw [it_lt_t q2 (by omega) (by omega), Int.min_eq_right (by omega)]
        · rw [it_lt_f (by omega) (by omega) (by omega), Int.min_eq_left (by omega)]
    obtain ⟨v1, v2⟩ := near_bd n3 n5 ha he hc hj
    have v3 := mbd (B := 9) (C := 32) (x := so) (y := near n a e c j) (by omega) s9 (by omega) v2
    have e1 : iz ((p : Int) * 25 + j) = iz ((25 * p + j : Nat) : Int) := by congr 1; omega
    unfold f153_77
    simp only [R_0_1, R_0_5, R_33_2, Option.bind_some, hnw.cells, cl_sqw hnw hj ha, cl_sqw hnw hj he, cl_sqw hnw hj hc, hnear]
    rw [it_le_f (by omega) (by omega) (by omega), iz25, iz_mul, iz_add, e1, iz4, iz_mul, iz_div (by omega) (by omega) (by omega) (by omega)]
    simp (disch := omega) only [W_36, iz_in, iz_n, nat_toNat, if_true, Option.bind_some, iz1, iz_add, ok_some, ok_map, lp_l, lp_r, lpA_l, lpA_r, true_and]
    refine ⟨h1.ui rfl, fun k hk => ?_⟩
    by_cases q : k = 25 * p + j
    · subst q
      have q3 : 25 * p ≤ 25 * p + j ∧ 25 * p + j < 25 * p + (j + 1) := by omega
      rw [up_eq, if_pos q3, Nat.add_sub_cancel_left]
      rfl
    · rw [up_ix _ _ q, h2 k hk]
      by_cases q2 : 25 * p ≤ k ∧ k < 25 * p + j
      · rw [if_pos q2, if_pos (by omega)]
      · rw [if_neg q2, if_neg (by omega)]
  · have hnw : Cn w n := hn.fr h1 rfl
    unfold f153_77
    simp (disch := omega) only [R_0_1, hnw.cells, iz0, iz1, iz2, iz3, iz4, iz5, iz7, iz8, iz9, iz10, iz15, iz20, iz25, iz30, iz40, iz49, iz99, iz100, iz300, iz343, iz500, iz999, iz1000, iz1200, iz_add, iz_sub, iz_mul, iz_neg, it_le_t, it_le_f, it_lt_t, it_lt_f, it_eq_t, it_eq_f, bz0, bz1, ifg_T, or_true, true_or, if_true, if_false, Option.bind_some, Option.map_some, ok_some, ok_map, lp_l, lp_r, lpA_l, lpA_r, true_and]
    refine ⟨h1, fun k hk => ?_, trivial⟩
    rw [h2 k hk]
    unfold stS
    split <;> rfl
theorem c_stand (h : Core s b n pl red slip x W S st rc Rs) {p a e c so : Int} (p0 : -2147483648 ≤ p) (p1 : p ≤ 2147483647) (a0 : -2147483648 ≤ a) (a1 : a ≤ 2147483647) (e0 : -2147483648 ≤ e) (e1 : e ≤ 2147483647) (c0 : -2147483648 ≤ c) (c1 : c ≤ 2147483647) (s0 : -2147483648 ≤ so) (s1 : so ≤ 2147483647) : ok (f153 0 (iz p) (iz a) (iz e) (iz c) (iz so) s) (fun r1 => ok (f204 101 (iz p) (iz a) (iz e) (iz c) (iz so) r1.1) (fun r2 => r2.2 = r1.2 ∧ ChP s r2.1 b n pl red slip rc Rs)) := by
  have hpl := h.p4
  have sq := h.cn.sq
  have hrc := h.rc10
  have n3 := h.2.2.1
  have n5 := h.2.2.2.1
  have gt := @g_cell_t s pl h.1.1 hpl n h.cn
  have gf := @g_cell_f s pl h.1.1 hpl n h.cn
  have mt := @g_mcell_t s b n pl h.mn h.2.1.2.1 hpl
  have mf := @g_mcell_f s b n pl h.mn h.2.1.2.1 hpl
  have bad : (¬ ((0 ≤ p ∧ p < pl ∧ 0 ≤ a ∧ a < (n * n : Nat)) ∧ (0 ≤ p ∧ p < pl ∧ 0 ≤ e ∧ e < (n * n : Nat)) ∧ (0 ≤ p ∧ p < pl ∧ 0 ≤ c ∧ c < (n * n : Nat)) ∧ a ≠ e ∧ e ≠ c ∧ a ≠ c ∧ 0 ≤ so ∧ so ≤ 9)) → f153 0 (iz p) (iz a) (iz e) (iz c) (iz so) s = some (s, iz 0) ∧ f204 101 (iz p) (iz a) (iz e) (iz c) (iz so) s = some (s, iz 0) := by
    intro hb
    have nz1 : ¬ iz 1 = (0 : Int32) := by decide
    constructor
    · unfold f153 f153_37 f153_68
      rw [ifg_pos O_0, R_0_1]
      simp only [Option.bind_some]
      by_cases k1 : 0 ≤ p ∧ p < pl ∧ 0 ≤ a ∧ a < (n * n : Nat)
      case neg => rw [gf p0 p1 a0 a1 k1, Option.bind_some]; exact if_pos rfl
      rw [gt p0 p1 a0 a1 k1]
      simp only [Option.bind_some]
      rw [if_neg nz1]
      by_cases k2 : 0 ≤ p ∧ p < pl ∧ 0 ≤ e ∧ e < (n * n : Nat)
      case neg => rw [gf p0 p1 e0 e1 k2, Option.bind_some]; exact if_pos rfl
      rw [gt p0 p1 e0 e1 k2]
      simp only [Option.bind_some]
      rw [if_neg nz1]
      by_cases k3 : 0 ≤ p ∧ p < pl ∧ 0 ≤ c ∧ c < (n * n : Nat)
      case neg => rw [gf p0 p1 c0 c1 k3, Option.bind_some]; exact if_pos rfl
      rw [gt p0 p1 c0 c1 k3]
      simp only [Option.bind_some]
      rw [if_neg nz1]
      by_cases k4 : a ≠ e
      case neg => rw [it_eq_t (by omega)]; rfl
      rw [it_eq_f k4 (by omega) (by omega) (by omega) (by omega)]
      by_cases k5 : e ≠ c
      case neg => rw [it_eq_t (by omega)]; rfl
      rw [it_eq_f k5 (by omega) (by omega) (by omega) (by omega)]
      by_cases k6 : a ≠ c
      case neg => rw [it_eq_t (by omega)]; rfl
      rw [it_eq_f k6 (by omega) (by omega) (by omega) (by omega)]
      by_cases k7 : 0 ≤ so
      case neg => rw [iz0, it_lt_t (by omega) (by omega) (by omega)]
      rw [iz0, it_lt_f (by omega) (by omega) (by omega), iz9, it_le_f (by omega) (by omega) (by omega)]
    · unfold f204 f204_56
      rw [ifg_pos O_101]
      by_cases k1 : 0 ≤ p ∧ p < pl ∧ 0 ≤ a ∧ a < (n * n : Nat)
      case neg => rw [mf p0 p1 a0 a1 k1, Option.bind_some]; exact if_pos rfl
      rw [mt p0 p1 a0 a1 k1]
      simp only [Option.bind_some]
      rw [if_neg nz1]
      by_cases k2 : 0 ≤ p ∧ p < pl ∧ 0 ≤ e ∧ e < (n * n : Nat)
      case neg => rw [mf p0 p1 e0 e1 k2, Option.bind_some]; exact if_pos rfl
      rw [mt p0 p1 e0 e1 k2]
      simp only [Option.bind_some]
      rw [if_neg nz1]
      by_cases k3 : 0 ≤ p ∧ p < pl ∧ 0 ≤ c ∧ c < (n * n : Nat)
      case neg => rw [mf p0 p1 c0 c1 k3, Option.bind_some]; exact if_pos rfl
      rw [mt p0 p1 c0 c1 k3]
      simp only [Option.bind_some]
      rw [if_neg nz1]
      by_cases k4 : a ≠ e
      case neg => rw [it_eq_t (by omega)]; rfl
      rw [it_eq_f k4 (by omega) (by omega) (by omega) (by omega)]
      by_cases k5 : e ≠ c
      case neg => rw [it_eq_t (by omega)]; rfl
      rw [it_eq_f k5 (by omega) (by omega) (by omega) (by omega)]
      by_cases k6 : a ≠ c
      case neg => rw [it_eq_t (by omega)]; rfl
      rw [it_eq_f k6 (by omega) (by omega) (by omega) (by omega)]
      rw [iz0, iz9, g_in_f s0 s1 (by omega) (by omega) (by omega) (by omega) (by omega), Option.bind_some, it_eq_t rfl]
  by_cases g : (0 ≤ p ∧ p < pl ∧ 0 ≤ a ∧ a < (n * n : Nat)) ∧ (0 ≤ p ∧ p < pl ∧ 0 ≤ e ∧ e < (n * n : Nat)) ∧ (0 ≤ p ∧ p < pl ∧ 0 ≤ c ∧ c < (n * n : Nat)) ∧ a ≠ e ∧ e ≠ c ∧ a ≠ c ∧ 0 ≤ so ∧ so ≤ 9
  · obtain ⟨g1, g2, g3, g4, g5, g6, g7, g8⟩ := g
    clear bad
    unfold f153
    rw [ifg_pos O_0]
    simp (disch := omega) only [R_0_1, iz0, iz1, iz2, iz3, iz4, iz5, iz7, iz8, iz9, iz10, iz15, iz20, iz25, iz30, iz40, iz49, iz99, iz100, iz300, iz343, iz500, iz999, iz1000, iz1200, iz_add, iz_sub, iz_mul, iz_neg, it_le_t, it_le_f, it_lt_t, it_lt_f, it_eq_t, it_eq_f, bz0, bz1, ifg_T, or_true, true_or, if_true, if_false, Option.bind_some, Option.map_some, gt]
    obtain ⟨p', rfl⟩ : ∃ p' : Nat, p = p' := ⟨p.toNat, by omega⟩
    obtain ⟨a', rfl⟩ : ∃ a' : Nat, a = a' := ⟨a.toNat, by omega⟩
    obtain ⟨e', rfl⟩ : ∃ e' : Nat, e = e' := ⟨e.toNat, by omega⟩
    obtain ⟨c', rfl⟩ : ∃ c' : Nat, c = c' := ⟨c.toNat, by omega⟩
    refine (cl_changed s).bind (fun q0 ⟨a1, a2⟩ => ?_)
    have hC := KC_H h.1 a1 hrc
    have hM := KM_H h.2.1 a1 hrc
    have hS : ∀ k, k < 100 → q0.1.1 36 k = iz (S k) := fun k hk => (hC.2.2.2.2.1 k hk).2.2
    refine (cl_stand ⟨hC.2.1, n3, n5⟩ (show p' < 4 by omega) (show a' < n * n by omega) (show e' < n * n by omega) (show c' < n * n by omega) g7 g8 hS).mono (fun q1 ⟨b1, b2, b3⟩ => ?_)
    have hM1 := KM_36 hM b1 hrc
    have mt1 := @g_mcell_t q1.1 b n pl hM1.1 hM1.2.1 hpl
    have x1 : (3 * (p' : Int)).toNat = 3 * p' := by omega
    have x2 : (3 * (p' : Int) + 1).toNat = 3 * p' + 1 := by omega
    have x3 : (3 * (p' : Int) + 2).toNat = 3 * p' + 2 := by omega
    unfold f204
    rw [ifg_pos O_101]
    simp (disch := omega) only [iz0, iz1, iz2, iz3, iz4, iz5, iz7, iz8, iz9, iz10, iz15, iz20, iz25, iz30, iz40, iz49, iz99, iz100, iz300, iz343, iz500, iz999, iz1000, iz1200, iz_add, iz_sub, iz_mul, iz_neg, it_le_t, it_le_f, it_lt_t, it_lt_f, it_eq_t, it_eq_f, bz0, bz1, ifg_T, or_true, true_or, if_true, if_false, Option.bind_some, Option.map_some, iz_in, iz_n, nat_toNat, mt1, g_in_t, R_101_22, R_101_23, R_101_24, W_115, W_116, W_117, nb1, x1, x2, x3, ok_some]
    have f1 : fr FFt q1.1 (xm_up (xm_up (xm_up (xm_up (xm_up q1.1.1 117 p' (iz 1)) 115 (3 * p') (iz a')) 115 (3 * p' + 1) (iz e')) 115 (3 * p' + 2) (iz c')) 116 p' (iz so), q1.1.2) := (((((fr.rf _ _).ui rfl).ui rfl).ui rfl).ui rfl).ui rfl
    refine ⟨b3.symm, Or.inr ⟨((a1.mono FH_A).tr (b1.mono (fun id k hk => ?_))).tr (f1.mono (fun id k hk => ?_)), (a2.fr b1 rfl rfl rfl rfl).fr f1 rfl rfl rfl rfl, x, W, stS n S p' a' e' c' so, st, ?_, ?_, ?_⟩⟩
    · unfold F1 at hk
      rw [beq_iff_eq] at hk
      subst hk
      unfold FA
      simp only [Bool.or_true, Bool.true_or, beq_self_eq_true]
    · unfold FFt at hk
      simp only [Bool.or_eq_true, beq_iff_eq] at hk
      unfold FA
      rcases hk with (rfl | rfl) | rfl <;> simp only [Bool.or_true, Bool.true_or, beq_self_eq_true]
    · exact (KC_s hC hrc b1 b2).fr f1 (fun _ => rfl) (fun _ => rfl) (fun _ => rfl) (fun _ => rfl) (fun _ => rfl) rfl (fun id k h1 h2 => FFt_R id k (by omega)) hrc
    · obtain ⟨d1, d2, d3, d4, d5, d6, d7, d8, d9, d10, d11⟩ := hM1
      refine ⟨d1.fr f1 rfl (fun _ => rfl), by rw [f1.i _ _ rfl]; exact d2, by rw [f1.i _ _ rfl]; exact d3, by rw [f1.i _ _ rfl]; exact d4, ⟨fun k hk => by rw [f1.i _ _ rfl, f1.i _ _ rfl]; exact d5.1 k hk, ?_⟩, ⟨fun k hk => by rw [f1.i _ _ rfl]; exact d6.1 k hk, by rw [f1.i _ _ rfl]; exact d6.2.1, by rw [f1.i _ _ rfl]; exact d6.2.2⟩, by rw [f1.i _ _ rfl]; exact d7, by rw [f1.i _ _ rfl]; exact d8, fun r hr => (d9 r hr).fr f1 rfl rfl rfl rfl rfl rfl rfl, fun c hc => by rw [f1.i _ _ rfl]; exact d10 c hc, by simp (disch := omega) only [up_id, up_ix]; exact d11⟩
      intro q hq
      dsimp only
      by_cases qp : q = p'
      · subst qp
        right
        refine ⟨by simp (disch := omega) only [up_id, up_eq]; rfl, a', e', c', so, by simp (disch := omega) only [up_id, up_ix, up_eq], by simp (disch := omega) only [up_id, up_ix, up_eq], by simp (disch := omega) only [up_id, up_eq], by simp (disch := omega) only [up_eq], by omega, by omega, by omega, g7, g8, fun k hk => ?_⟩
        unfold stS
        rw [if_pos (by omega), Nat.add_sub_cancel_left]
      · have hold := d5.2 q hq
        have hs : ∀ k, k < n * n → stS n S p' a' e' c' so (25 * q + k) = S (25 * q + k) := fun k hk => by
          unfold stS
          rw [if_neg (by omega)]
        simp (disch := omega) only [up_id, up_ix]
        rcases hold with ⟨k1, k2⟩ | ⟨k1, fa, fb, fc, fs, k2, k3, k4, k5, k6, k7, k8, k9, k10, k11⟩
        · exact Or.inl ⟨k1, fun k hk => by rw [hs k hk]; exact k2 k hk⟩
        · exact Or.inr ⟨k1, fa, fb, fc, fs, k2, k3, k4, k5, k6, k7, k8, k9, k10, fun k hk => by rw [hs k hk]; exact k11 k hk⟩
    · obtain ⟨a1, a2, a3, a4, a5, a6, a7, a8, a9, a10, a11⟩ := h.2.2
      refine ⟨a1, a2, a3, a4, a5, a6, a7, a8, fun k hk => ⟨(a9 k hk).1, (a9 k hk).2.1, ?_⟩, a10, a11⟩
      unfold stS
      split
      · exact sagv_bd n3 n5 (by omega) (by omega) (by omega) (by omega) g7 g8
      · exact (a9 k hk).2.2
  · obtain ⟨b1, b2⟩ := bad g
    exact ok.eq b1 (ok.eq b2 ⟨rfl, Or.inl (fr.rf _ _)⟩)
end SD
